/-! ===== methods, 1: X9_tryAddSheet X10_addSheet L_addSheet X9_isOccupied X9_countEmpty X10_coveredShare X10_foldCount X10_neighbour X2_contains X9_isOccupiedBeside X2_withNeighbours X2_cellsConnectedTo X2_countByFilling X10_groups ===== -/
def f_X9_tryAddSheet (p0a : Nat) (x1a : Int32) (x2a : Int32) (x3a : Int32) (x4a : Int32) (x5a : Int32) (M : Mem) : Option (Int32 × Mem) := (f_X10_isCode x1a M).bind fun r1 => if r1 = 0 then (some ((-2), M)) else ((f_X10_isCode x2a M).bind fun r3 => if r3 = 0 then (some ((-2), M)) else ((f_X10_isCode x3a M).bind fun r5 => if r5 = 0 then (some ((-2), M)) else ((f_X10_isCode x4a M).bind fun r7 => if r7 = 0 then (some ((-2), M)) else ((f_X10_isKind x5a M).bind fun r9 => if r9 = 0 then (some ((-2), M)) else ((gI M 9 p0a 2).bind fun x11 => if x11 < 9 then ((gI M 9 p0a 2).bind fun x13 => (gP M 9 p0a 0).bind fun p14 => (aP M 120 p14 x13).bind fun p15 => (rc M 7 p15).bind fun _ => (f_X7_begin p15 x1a x2a x3a x4a x5a M).bind fun r16 => (gI r16.2 9 p0a 2).bind fun x18 => (sI r16.2 9 p0a 2 .int (x18 + 1)).bind fun M19 => some (x13, M19)) else (some ((-3), M)))))))
set_option maxRecDepth 20000 in
theorem ev_X9_tryAddSheet {G : Nat × (Nat → Int32) × Value} {p0a : Nat} {x1a : Int32} {x2a : Int32} {x3a : Int32} {x4a : Int32} {x5a : Int32} {M : Mem} {r : Int32 × Mem} (h : f_X9_tryAddSheet p0a x1a x2a x3a x4a x5a M = some r) : Ev (roG G) false YX9_tryAddSheet 1 0 [.ref p0a, .int x1a, .int x2a, .int x3a, .int x4a, .int x5a] M (fun a b => a = wI r.1 ∧ b = r.2) := by
  refine ev_of cyX9_tryAddSheet.2.2.2.2 (Nat.le_of_ble_eq_true rfl) ?_
  show Fr _ _ _ _ _ _ 0 [(0, .ref p0a), (1, .int x1a), (2, .int x2a), (3, .int x3a), (4, .int x4a), (5, .int x5a)] [] M _
  unfold f_X9_tryAddSheet at h
  refine fr_iload_n 1 dX9_tryAddSheet_0 rfl ?_
  obtain ⟨r1, er1, h⟩ := ob h
  try dsimp only at h
  refine fr_callSN (g1 := false) (k2 := 0) "MapHall" (ev_X10_isCode er1) rfl cyX10_isCode (show _ ∈ roM from List.mem_of_getElem? (i := 5) rfl) w_312 (by rfl) (by omega) (by omega) (by rfl) (Nat.le_of_ble_eq_true rfl) dX9_tryAddSheet_1 (Or.inl rfl) (fun v M9 q _ => ?_) (fun E M9 q _ => (Sum.inr_ne_inl q.1).elim)
  obtain rfl : v = some (.int r1) := Sum.inl.inj q.1
  obtain rfl := q.2.symm
  refine fr_st (S' := [.int r1]) rfl ?_
  refine fr_if_eq 37 dX9_tryAddSheet_4 (by decide) (fun c2 => ?_) (fun c2 => ?_)
  · rw [if_pos c2] at h
    refine fr_bipush (v := (-2)) dX9_tryAddSheet_37 (by decide) ?_
    obtain rfl := Option.some.inj h
    exact fr_iret rfl dX9_tryAddSheet_39 ⟨rfl, rfl⟩
  · rw [if_neg c2] at h
    refine fr_iload_n 2 dX9_tryAddSheet_7 rfl ?_
    obtain ⟨r3, er3, h⟩ := ob h
    try dsimp only at h
    refine fr_callSN (g1 := false) (k2 := 0) "MapHall" (ev_X10_isCode er3) rfl cyX10_isCode (show _ ∈ roM from List.mem_of_getElem? (i := 5) rfl) w_312 (by rfl) (by omega) (by omega) (by rfl) (Nat.le_of_ble_eq_true rfl) dX9_tryAddSheet_8 (Or.inl rfl) (fun v M9 q _ => ?_) (fun E M9 q _ => (Sum.inr_ne_inl q.1).elim)
    obtain rfl : v = some (.int r3) := Sum.inl.inj q.1
    obtain rfl := q.2.symm
    refine fr_st (S' := [.int r3]) rfl ?_
    refine fr_if_eq 37 dX9_tryAddSheet_11 (by decide) (fun c4 => ?_) (fun c4 => ?_)
    · rw [if_pos c4] at h
      refine fr_bipush (v := (-2)) dX9_tryAddSheet_37 (by decide) ?_
      obtain rfl := Option.some.inj h
      exact fr_iret rfl dX9_tryAddSheet_39 ⟨rfl, rfl⟩
    · rw [if_neg c4] at h
      refine fr_iload_n 3 dX9_tryAddSheet_14 rfl ?_
      obtain ⟨r5, er5, h⟩ := ob h
      try dsimp only at h
      refine fr_callSN (g1 := false) (k2 := 0) "MapHall" (ev_X10_isCode er5) rfl cyX10_isCode (show _ ∈ roM from List.mem_of_getElem? (i := 5) rfl) w_312 (by rfl) (by omega) (by omega) (by rfl) (Nat.le_of_ble_eq_true rfl) dX9_tryAddSheet_15 (Or.inl rfl) (fun v M9 q _ => ?_) (fun E M9 q _ => (Sum.inr_ne_inl q.1).elim)
      obtain rfl : v = some (.int r5) := Sum.inl.inj q.1
      obtain rfl := q.2.symm
      refine fr_st (S' := [.int r5]) rfl ?_
      refine fr_if_eq 37 dX9_tryAddSheet_18 (by decide) (fun c6 => ?_) (fun c6 => ?_)
      · rw [if_pos c6] at h
        refine fr_bipush (v := (-2)) dX9_tryAddSheet_37 (by decide) ?_
        obtain rfl := Option.some.inj h
        exact fr_iret rfl dX9_tryAddSheet_39 ⟨rfl, rfl⟩
      · rw [if_neg c6] at h
        refine fr_iload 4 dX9_tryAddSheet_21 rfl ?_
        obtain ⟨r7, er7, h⟩ := ob h
        try dsimp only at h
        refine fr_callSN (g1 := false) (k2 := 0) "MapHall" (ev_X10_isCode er7) rfl cyX10_isCode (show _ ∈ roM from List.mem_of_getElem? (i := 5) rfl) w_312 (by rfl) (by omega) (by omega) (by rfl) (Nat.le_of_ble_eq_true rfl) dX9_tryAddSheet_23 (Or.inl rfl) (fun v M9 q _ => ?_) (fun E M9 q _ => (Sum.inr_ne_inl q.1).elim)
        obtain rfl : v = some (.int r7) := Sum.inl.inj q.1
        obtain rfl := q.2.symm
        refine fr_st (S' := [.int r7]) rfl ?_
        refine fr_if_eq 37 dX9_tryAddSheet_26 (by decide) (fun c8 => ?_) (fun c8 => ?_)
        · rw [if_pos c8] at h
          refine fr_bipush (v := (-2)) dX9_tryAddSheet_37 (by decide) ?_
          obtain rfl := Option.some.inj h
          exact fr_iret rfl dX9_tryAddSheet_39 ⟨rfl, rfl⟩
        · rw [if_neg c8] at h
          refine fr_iload 5 dX9_tryAddSheet_29 rfl ?_
          obtain ⟨r9, er9, h⟩ := ob h
          try dsimp only at h
          refine fr_callSN (g1 := false) (k2 := 0) "MapHall" (ev_X10_isKind er9) rfl cyX10_isKind (show _ ∈ roM from List.mem_of_getElem? (i := 6) rfl) w_315 (by rfl) (by omega) (by omega) (by rfl) (Nat.le_of_ble_eq_true rfl) dX9_tryAddSheet_31 (Or.inl rfl) (fun v M9 q _ => ?_) (fun E M9 q _ => (Sum.inr_ne_inl q.1).elim)
          obtain rfl : v = some (.int r9) := Sum.inl.inj q.1
          obtain rfl := q.2.symm
          refine fr_st (S' := [.int r9]) rfl ?_
          refine fr_if_ne 40 dX9_tryAddSheet_34 (by decide) (fun c10 => ?_) (fun c10 => ?_)
          · rw [if_neg c10] at h
            refine fr_aload_n 0 dX9_tryAddSheet_40 rfl ?_
            obtain ⟨x11, ex11, h⟩ := ob h
            try dsimp only at h
            refine fr_gI cb9 2 (by decide) rfl w_126 dX9_tryAddSheet_41 ex11 ?_
            refine fr_bipush (v := 9) dX9_tryAddSheet_44 (by decide) ?_
            refine fr_icmp_lt 52 dX9_tryAddSheet_46 (by decide) (fun c12 => ?_) (fun c12 => ?_)
            · rw [if_pos c12] at h
              refine fr_aload_n 0 dX9_tryAddSheet_52 rfl ?_
              obtain ⟨x13, ex13, h⟩ := ob h
              try dsimp only at h
              refine fr_gI cb9 2 (by decide) rfl w_126 dX9_tryAddSheet_53 ex13 ?_
              refine fr_istore (L' := [(0, .ref p0a), (1, .int x1a), (2, .int x2a), (3, .int x3a), (4, .int x4a), (5, .int x5a), (6, .int x13)]) dX9_tryAddSheet_56 (by decide) rfl ?_
              refine fr_aload_n 0 dX9_tryAddSheet_58 rfl ?_
              obtain ⟨p14, ep14, h⟩ := ob h
              try dsimp only at h
              refine fr_gP cb9 0 (by decide) rfl w_121 dX9_tryAddSheet_59 ep14 ?_
              refine fr_iload 6 dX9_tryAddSheet_62 rfl ?_
              obtain ⟨p15, ep15, h⟩ := ob h
              try dsimp only at h
              refine fr_aP (t := 120) (by decide) ep15 dX9_tryAddSheet_64 ?_
              refine fr_iload_n 1 dX9_tryAddSheet_65 rfl ?_
              refine fr_iload_n 2 dX9_tryAddSheet_66 rfl ?_
              refine fr_iload_n 3 dX9_tryAddSheet_67 rfl ?_
              refine fr_iload 4 dX9_tryAddSheet_68 rfl ?_
              refine fr_iload 5 dX9_tryAddSheet_70 rfl ?_
              obtain ⟨u17, eu17, h⟩ := ob h
              try dsimp only at h
              obtain ⟨r16, er16, h⟩ := ob h
              try dsimp only at h
              refine fr_callV (g1 := false) (k2 := 0) (ev_X7_begin er16) rfl cyX7_begin w_317 w_318 w_319 (rc_ok eu17 rfl (by decide)) (by rfl) (by omega) (by omega) (by rfl) (Nat.le_of_ble_eq_true rfl) dX9_tryAddSheet_72 (Or.inl rfl) (fun v M9 q _ => ?_) (fun E M9 q _ => (Sum.inr_ne_inl q.1).elim)
              obtain rfl : v = none := Sum.inl.inj q.1
              obtain rfl := q.2.symm
              refine fr_st (S' := []) rfl ?_
              refine fr_aload_n 0 dX9_tryAddSheet_75 rfl ?_
              refine fr_dup dX9_tryAddSheet_76 rfl ?_
              obtain ⟨x18, ex18, h⟩ := ob h
              try dsimp only at h
              refine fr_gI cb9 2 (by decide) rfl w_126 dX9_tryAddSheet_77 ex18 ?_
              refine fr_iconst (v := 1) dX9_tryAddSheet_80 (by decide) ?_
              refine fr_iadd dX9_tryAddSheet_81 ?_
              obtain ⟨M19, eM19, h⟩ := ob h
              try dsimp only at h
              refine fr_sI cb9 2 (by decide) rfl rfl w_126 dX9_tryAddSheet_82 eM19 ?_
              refine fr_iload 6 dX9_tryAddSheet_85 rfl ?_
              obtain rfl := Option.some.inj h
              exact fr_iret rfl dX9_tryAddSheet_87 ⟨rfl, rfl⟩
            · rw [if_neg c12] at h
              refine fr_bipush (v := (-3)) dX9_tryAddSheet_49 (by decide) ?_
              obtain rfl := Option.some.inj h
              exact fr_iret rfl dX9_tryAddSheet_51 ⟨rfl, rfl⟩
          · rw [if_pos c10] at h
            refine fr_bipush (v := (-2)) dX9_tryAddSheet_37 (by decide) ?_
            obtain rfl := Option.some.inj h
            exact fr_iret rfl dX9_tryAddSheet_39 ⟨rfl, rfl⟩
def f_X10_addSheet (p0a : Nat) (x1a : Int32) (x2a : Int32) (x3a : Int32) (x4a : Int32) (x5a : Int32) (M : Mem) : Option ((Int32 ⊕ String) × Mem) := (gP M 10 p0a 3).bind fun p1 => (gP M 10 p0a 0).bind fun p2 => (rc M 4 p1).bind fun _ => (f_X3_prepare p1 p2 M).bind fun r3 => (gP r3.2 10 p0a 0).bind fun p5 => (rc r3.2 9 p5).bind fun _ => (f_X9_tryAddSheet p5 x1a x2a x3a x4a x5a r3.2).bind fun r6 => (rc r6.2 10 p0a).bind fun _ => (f_X10_recorded p0a r6.1 r6.2).bind fun r8 => (match r8 with | (.inl r8v, r8M) => (some ((.inl r8v), r8M)) | (.inr r8E, r8M) => (some ((.inr r8E), r8M)))
set_option maxRecDepth 20000 in
theorem ev_X10_addSheet {G : Nat × (Nat → Int32) × Value} {p0a : Nat} {x1a : Int32} {x2a : Int32} {x3a : Int32} {x4a : Int32} {x5a : Int32} {M : Mem} {r : (Int32 ⊕ String) × Mem} (h : f_X10_addSheet p0a x1a x2a x3a x4a x5a M = some r) : Ev (roG G) false YX10_addSheet 9 1 [.ref p0a, .int x1a, .int x2a, .int x3a, .int x4a, .int x5a] M (fun a b => a = (wE wI) r.1 ∧ b = r.2) := by
  refine ev_of cyX10_addSheet.2.2.2.2 (Nat.le_of_ble_eq_true rfl) ?_
  show Fr _ _ _ _ _ _ 0 [(0, .ref p0a), (1, .int x1a), (2, .int x2a), (3, .int x3a), (4, .int x4a), (5, .int x5a)] [] M _
  unfold f_X10_addSheet at h
  refine fr_aload_n 0 dX10_addSheet_0 rfl ?_
  obtain ⟨p1, ep1, h⟩ := ob h
  try dsimp only at h
  refine fr_gP cb10 3 (by decide) rfl w_230 dX10_addSheet_1 ep1 ?_
  refine fr_aload_n 0 dX10_addSheet_4 rfl ?_
  obtain ⟨p2, ep2, h⟩ := ob h
  try dsimp only at h
  refine fr_gP cb10 0 (by decide) rfl w_227 dX10_addSheet_5 ep2 ?_
  obtain ⟨u4, eu4, h⟩ := ob h
  try dsimp only at h
  obtain ⟨r3, er3, h⟩ := ob h
  try dsimp only at h
  refine fr_callV (g1 := false) (k2 := 1) (ev_X3_prepare er3) rfl cyX3_prepare w_302 w_303 w_304 (rc_ok eu4 rfl (by decide)) (by rfl) (by omega) (by omega) (by rfl) (Nat.le_of_ble_eq_true rfl) dX10_addSheet_8 (Or.inl rfl) (fun v M9 q _ => ?_) (fun E M9 q _ => (Sum.inr_ne_inl q.1).elim)
  obtain rfl : v = none := Sum.inl.inj q.1
  obtain rfl := q.2.symm
  refine fr_st (S' := []) rfl ?_
  refine fr_aload_n 0 dX10_addSheet_11 rfl ?_
  refine fr_aload_n 0 dX10_addSheet_12 rfl ?_
  obtain ⟨p5, ep5, h⟩ := ob h
  try dsimp only at h
  refine fr_gP cb10 0 (by decide) rfl w_227 dX10_addSheet_13 ep5 ?_
  refine fr_iload_n 1 dX10_addSheet_16 rfl ?_
  refine fr_iload_n 2 dX10_addSheet_17 rfl ?_
  refine fr_iload_n 3 dX10_addSheet_18 rfl ?_
  refine fr_iload 4 dX10_addSheet_19 rfl ?_
  refine fr_iload 5 dX10_addSheet_21 rfl ?_
  obtain ⟨u7, eu7, h⟩ := ob h
  try dsimp only at h
  obtain ⟨r6, er6, h⟩ := ob h
  try dsimp only at h
  refine fr_callV (g1 := false) (k2 := 1) (ev_X9_tryAddSheet er6) rfl cyX9_tryAddSheet w_307 w_308 w_309 (rc_ok eu7 rfl (by decide)) (by rfl) (by omega) (by omega) (by rfl) (Nat.le_of_ble_eq_true rfl) dX10_addSheet_23 (Or.inl rfl) (fun v M9 q _ => ?_) (fun E M9 q _ => (Sum.inr_ne_inl q.1).elim)
  obtain rfl : v = some (.int r6.1) := Sum.inl.inj q.1
  obtain rfl := q.2.symm
  refine fr_st (S' := [.int r6.1, .ref p0a]) rfl ?_
  obtain ⟨u9, eu9, h⟩ := ob h
  try dsimp only at h
  obtain ⟨r8, er8, h⟩ := ob h
  try dsimp only at h
  obtain ⟨r8v | r8E, r8M⟩ := r8
  · try dsimp only at h
    refine fr_callV (g1 := false) (k2 := 0) (ev_X10_recorded er8) rfl cyX10_recorded w_321 w_323 w_0 (rc_ok eu9 rfl (by decide)) (by rfl) (by omega) (by omega) (by rfl) (Nat.le_of_ble_eq_true rfl) dX10_addSheet_26 (Or.inl rfl) (fun v M9 q _ => ?_) (fun E M9 q _ => (Sum.inr_ne_inl q.1).elim)
    obtain rfl : v = some (.int r8v) := Sum.inl.inj q.1
    obtain rfl := q.2.symm
    refine fr_st (S' := [.int r8v]) rfl ?_
    obtain rfl := Option.some.inj h
    exact fr_iret rfl dX10_addSheet_29 ⟨rfl, rfl⟩
  · try dsimp only at h
    refine fr_callV (g1 := false) (k2 := 0) (ev_X10_recorded er8) rfl cyX10_recorded w_321 w_323 w_0 (rc_ok eu9 rfl (by decide)) (by rfl) (by omega) (by omega) (by rfl) (Nat.le_of_ble_eq_true rfl) dX10_addSheet_26 (Or.inl rfl) (fun v M9 q _ => (Sum.inl_ne_inr q.1).elim) (fun E M9 q _ => ?_)
    obtain rfl : r8E = E := (Sum.inr.inj q.1).symm
    obtain rfl := q.2.symm
    obtain rfl := Option.some.inj h
    exact fx_no rfl ⟨rfl, rfl⟩
def f_L_addSheet (p0a : Nat) (x1a : Int32) (x2a : Int32) (x3a : Int32) (x4a : Int32) (x5a : Int32) (M : Mem) : Option (Int32 × Mem) := (rc M 10 p0a).bind fun _ => (f_X10_addSheet p0a x1a x2a x3a x4a x5a M).bind fun r1 => (match r1 with | (.inl r1v, r1M) => (some (r1v, r1M)) | (.inr r1E, r1M) => (if r1E = "java/lang/IllegalArgumentException" then (some ((-1001), r1M)) else (if r1E = "java/lang/IllegalStateException" then (some ((-1002), r1M)) else none)))
set_option maxRecDepth 20000 in
theorem ev_L_addSheet {G : Nat × (Nat → Int32) × Value} {p0a : Nat} {x1a : Int32} {x2a : Int32} {x3a : Int32} {x4a : Int32} {x5a : Int32} {M : Mem} {r : Int32 × Mem} (h : f_L_addSheet p0a x1a x2a x3a x4a x5a M = some r) : Ev (roG G) false YL_addSheet 10 1 [.ref p0a, .int x1a, .int x2a, .int x3a, .int x4a, .int x5a] M (fun a b => a = wI r.1 ∧ b = r.2) := by
  refine ev_of cyL_addSheet.2.2.2.2 (Nat.le_of_ble_eq_true rfl) ?_
  show Fr _ _ _ _ _ _ 0 [(0, .ref p0a), (1, .int x1a), (2, .int x2a), (3, .int x3a), (4, .int x4a), (5, .int x5a)] [] M _
  unfold f_L_addSheet at h
  refine fr_aload_n 0 dL_addSheet_0 rfl ?_
  refine fr_iload_n 1 dL_addSheet_1 rfl ?_
  refine fr_iload_n 2 dL_addSheet_2 rfl ?_
  refine fr_iload_n 3 dL_addSheet_3 rfl ?_
  refine fr_iload 4 dL_addSheet_4 rfl ?_
  refine fr_iload 5 dL_addSheet_6 rfl ?_
  obtain ⟨u2, eu2, h⟩ := ob h
  try dsimp only at h
  obtain ⟨r1, er1, h⟩ := ob h
  try dsimp only at h
  obtain ⟨r1v | r1E, r1M⟩ := r1
  · try dsimp only at h
    refine fr_callV (g1 := false) (k2 := 0) (ev_X10_addSheet er1) rfl cyX10_addSheet w_298 w_299 w_300 (rc_ok eu2 rfl (by decide)) (by rfl) (by omega) (by omega) (by rfl) (Nat.le_of_ble_eq_true rfl) dL_addSheet_8 (Or.inl rfl) (fun v M9 q _ => ?_) (fun E M9 q _ => (Sum.inr_ne_inl q.1).elim)
    obtain rfl : v = some (.int r1v) := Sum.inl.inj q.1
    obtain rfl := q.2.symm
    refine fr_st (S' := [.int r1v]) rfl ?_
    obtain rfl := Option.some.inj h
    exact fr_iret rfl dL_addSheet_11 ⟨rfl, rfl⟩
  · try dsimp only at h
    refine fr_callV (g1 := false) (k2 := 0) (ev_X10_addSheet er1) rfl cyX10_addSheet w_298 w_299 w_300 (rc_ok eu2 rfl (by decide)) (by rfl) (by omega) (by omega) (by rfl) (Nat.le_of_ble_eq_true rfl) dL_addSheet_8 (Or.inl rfl) (fun v M9 q _ => (Sum.inl_ne_inr q.1).elim) (fun E M9 q _ => ?_)
    obtain rfl : r1E = E := (Sum.inr.inj q.1).symm
    obtain rfl := q.2.symm
    by_cases e3_0 : r1E = "java/lang/IllegalArgumentException"
    · rw [if_pos e3_0] at h
      subst e3_0
      refine fx_catch (E := "java/lang/IllegalArgumentException") (name := "java/lang/IllegalArgumentException") (L' := [(0, .ref p0a), (1, .int x1a), (2, .int x2a), (3, .int x3a), (4, .int x4a), (5, .int x5a)]) [] { startPc := 0, endPc := 11, handlerPc := 12, catchType := 13 } [{ startPc := 0, endPc := 11, handlerPc := 18, catchType := 15 }] rfl ?_ (by decide) (by decide) w_296 (show _ ∈ roC from List.mem_of_getElem? (i := 1) rfl) 6 2 (by decide) (Or.inr ⟨rfl, dL_addSheet_12⟩) rfl ?_
      · intro z hz; cases hz
      refine fr_sipush (v := (-1001)) dL_addSheet_14 (by decide) ?_
      obtain rfl := Option.some.inj h
      exact fr_iret rfl dL_addSheet_17 ⟨rfl, rfl⟩
    rw [if_neg e3_0] at h
    by_cases e3_1 : r1E = "java/lang/IllegalStateException"
    · rw [if_pos e3_1] at h
      subst e3_1
      refine fx_catch (E := "java/lang/IllegalStateException") (name := "java/lang/IllegalStateException") (L' := [(0, .ref p0a), (1, .int x1a), (2, .int x2a), (3, .int x3a), (4, .int x4a), (5, .int x5a)]) [{ startPc := 0, endPc := 11, handlerPc := 12, catchType := 13 }] { startPc := 0, endPc := 11, handlerPc := 18, catchType := 15 } [] rfl ?_ (by decide) (by decide) w_297 (show _ ∈ roC from List.mem_of_getElem? (i := 2) rfl) 6 2 (by decide) (Or.inr ⟨rfl, dL_addSheet_18⟩) rfl ?_
      · intro z hz
        simp only [List.mem_cons, List.not_mem_nil, or_false] at hz
        subst hz
        exact Or.inr ⟨by decide, "java/lang/IllegalArgumentException", w_296, show _ ∈ roN from List.mem_of_getElem? (i := 8) rfl⟩
      refine fr_sipush (v := (-1002)) dL_addSheet_20 (by decide) ?_
      obtain rfl := Option.some.inj h
      exact fr_iret rfl dL_addSheet_23 ⟨rfl, rfl⟩
    rw [if_neg e3_1] at h
    cases h
def f_X9_isOccupied (p0a : Nat) (x1a : Int32) (M : Mem) : Option (Int32) := (gP M 9 p0a 1).bind fun p1 => (aI M 100 p1 x1a).bind fun x2 => if x2 = (-1) then (some 0) else (some 1)
set_option maxRecDepth 20000 in
theorem ev_X9_isOccupied {G : Nat × (Nat → Int32) × Value} {p0a : Nat} {x1a : Int32} {M : Mem} {r : Int32} (h : f_X9_isOccupied p0a x1a M = some r) : Ev (roG G) false YX9_isOccupied 0 0 [.ref p0a, .int x1a] M (fun a b => a = wI r ∧ b = M) := by
  refine ev_of cyX9_isOccupied.2.2.2.2 (Nat.le_of_ble_eq_true rfl) ?_
  show Fr _ _ _ _ _ _ 0 [(0, .ref p0a), (1, .int x1a)] [] M _
  unfold f_X9_isOccupied at h
  refine fr_aload_n 0 dX9_isOccupied_0 rfl ?_
  obtain ⟨p1, ep1, h⟩ := ob h
  try dsimp only at h
  refine fr_gP cb9 1 (by decide) rfl w_123 dX9_isOccupied_1 ep1 ?_
  refine fr_iload_n 1 dX9_isOccupied_4 rfl ?_
  obtain ⟨x2, ex2, h⟩ := ob h
  try dsimp only at h
  refine fr_aI0 ex2 dX9_isOccupied_5 ?_
  refine fr_iconst (v := (-1)) dX9_isOccupied_6 (by decide) ?_
  refine fr_icmp_eq 14 dX9_isOccupied_7 (by decide) (fun c3 => ?_) (fun c3 => ?_)
  · rw [if_pos c3] at h
    refine fr_iconst (v := 0) dX9_isOccupied_14 (by decide) ?_
    obtain rfl := Option.some.inj h
    exact fr_zret (ty := .boolean) rfl rfl dX9_isOccupied_15 ⟨rfl, rfl⟩
  · rw [if_neg c3] at h
    refine fr_iconst (v := 1) dX9_isOccupied_10 (by decide) ?_
    refine fr_goto 15 dX9_isOccupied_11 (by decide) ?_
    obtain rfl := Option.some.inj h
    exact fr_zret (ty := .boolean) rfl rfl dX9_isOccupied_15 ⟨rfl, rfl⟩
def lp_X9_countEmpty_4 (p_0 : Nat) (M_ : Mem) : Nat → Int32 → Int32 → Option ((Int32 × Int32) ⊕ (Int32))
  | 0, _, _ => none
  | n + 1, x_1, x_2 => if 9 ≤ x_2 then (some (.inl (x_1, x_2))) else ((rc M_ 9 p_0).bind fun _ => (f_X9_isOccupied p_0 x_2 M_).bind fun r2 => if r2 = 0 then (lp_X9_countEmpty_4 p_0 M_ n (x_1 + 1) (x_2 + 1)) else (lp_X9_countEmpty_4 p_0 M_ n x_1 (x_2 + 1)))
def f_X9_countEmpty (p0a : Nat) (M : Mem) : Option (Int32) := ((lp_X9_countEmpty_4 p0a M 100 0 0).bind fun q5 => match q5 with | .inl (q5_1, q5_2) => (some q5_1) | .inr q5_r => some q5_r)
set_option maxRecDepth 20000 in
theorem lp_X9_countEmpty_4_ok {G : Nat × (Nat → Int32) × Value} {P : Res → Mem → Prop} {n0 d ke : Nat} {p_0 : Nat} {M_ : Mem} (hd : 1 ≤ d) : ∀ (n : Nat) (x_1 : Int32) (x_2 : Int32) (res : (Int32 × Int32) ⊕ (Int32)), lp_X9_countEmpty_4 p_0 M_ n x_1 x_2 = some res → (∀ (y_1 : Int32) (y_2 : Int32), res = .inl (y_1, y_2) → Fr (roG G) false n0 YX9_countEmpty d ke 27 [(0, .ref p_0), (1, .int y_1), (2, .int y_2)] [] M_ P) → (∀ r : Int32, res = .inr r → P (wI r) M_) → Fr (roG G) false n0 YX9_countEmpty d ke 4 [(0, .ref p_0), (1, .int x_1), (2, .int x_2)] [] M_ P := by
  intro n
  induction n with
  | zero => intro x_1 x_2 res h; unfold lp_X9_countEmpty_4 at h; cases h
  | succ n ih =>
    intro x_1 x_2 res h he hr
    unfold lp_X9_countEmpty_4 at h
    refine fr_iload_n 2 dX9_countEmpty_4 rfl ?_
    refine fr_bipush (v := 9) dX9_countEmpty_5 (by decide) ?_
    refine fr_icmp_ge 27 dX9_countEmpty_7 (by decide) (fun c1 => ?_) (fun c1 => ?_)
    · rw [if_pos c1] at h
      obtain rfl := Option.some.inj h
      exact he _ _ rfl
    · rw [if_neg c1] at h
      refine fr_aload_n 0 dX9_countEmpty_10 rfl ?_
      refine fr_iload_n 2 dX9_countEmpty_11 rfl ?_
      obtain ⟨u3, eu3, h⟩ := ob h
      try dsimp only at h
      obtain ⟨r2, er2, h⟩ := ob h
      try dsimp only at h
      refine fr_callV (g1 := false) (k2 := ke) (ev_X9_isOccupied er2) rfl cyX9_isOccupied w_579 w_580 w_581 (rc_ok eu3 rfl (by decide)) (by rfl) (by omega) (by omega) (by rfl) (Nat.le_of_ble_eq_true rfl) dX9_countEmpty_12 (Or.inl rfl) (fun v M9 q _ => ?_) (fun E M9 q _ => (Sum.inr_ne_inl q.1).elim)
      obtain rfl : v = some (.int r2) := Sum.inl.inj q.1
      obtain rfl := q.2.symm
      refine fr_st (S' := [.int r2]) rfl ?_
      refine fr_if_ne 21 dX9_countEmpty_15 (by decide) (fun c4 => ?_) (fun c4 => ?_)
      · rw [if_neg c4] at h
        refine fr_iinc (v := (x_2 + 1)) (L' := [(0, .ref p_0), (1, .int x_1), (2, .int (x_2 + 1))]) 2 dX9_countEmpty_21 rfl rfl (by decide) rfl ?_
        refine fr_goto 4 dX9_countEmpty_24 (by decide) ?_
        exact ih _ _ _ h he hr
      · rw [if_pos c4] at h
        refine fr_iinc (v := (x_1 + 1)) (L' := [(0, .ref p_0), (1, .int (x_1 + 1)), (2, .int x_2)]) 1 dX9_countEmpty_18 rfl rfl (by decide) rfl ?_
        refine fr_iinc (v := (x_2 + 1)) (L' := [(0, .ref p_0), (1, .int (x_1 + 1)), (2, .int (x_2 + 1))]) 2 dX9_countEmpty_21 rfl rfl (by decide) rfl ?_
        refine fr_goto 4 dX9_countEmpty_24 (by decide) ?_
        exact ih _ _ _ h he hr
set_option maxRecDepth 20000 in
theorem ev_X9_countEmpty {G : Nat × (Nat → Int32) × Value} {p0a : Nat} {M : Mem} {r : Int32} (h : f_X9_countEmpty p0a M = some r) : Ev (roG G) false YX9_countEmpty 1 0 [.ref p0a] M (fun a b => a = wI r ∧ b = M) := by
  refine ev_of cyX9_countEmpty.2.2.2.2 (Nat.le_of_ble_eq_true rfl) ?_
  show Fr _ _ _ _ _ _ 0 [(0, .ref p0a)] [] M _
  unfold f_X9_countEmpty at h
  refine fr_iconst (v := 0) dX9_countEmpty_0 (by decide) ?_
  refine fr_istore_n (L' := [(0, .ref p0a), (1, .int 0)]) dX9_countEmpty_1 (by decide) rfl ?_
  refine fr_iconst (v := 0) dX9_countEmpty_2 (by decide) ?_
  refine fr_istore_n (L' := [(0, .ref p0a), (1, .int 0), (2, .int 0)]) dX9_countEmpty_3 (by decide) rfl ?_
  obtain ⟨q5, eq5, h⟩ := ob h
  try dsimp only at h
  refine lp_X9_countEmpty_4_ok (by omega) 100 _ _ q5 eq5 (fun q5_1 q5_2 e9 => ?_) (fun q5_r e9 => ?_)
  · subst e9
    try dsimp only at h
    refine fr_iload_n 1 dX9_countEmpty_27 rfl ?_
    obtain rfl := Option.some.inj h
    exact fr_iret rfl dX9_countEmpty_28 ⟨rfl, rfl⟩
  · subst e9
    try dsimp only at h
    obtain rfl := Option.some.inj h
    exact ⟨rfl, rfl⟩
def f_X10_coveredShare (p0a : Nat) (M : Mem) : Option (UInt32) := (gP M 10 p0a 0).bind fun p1 => (rc M 9 p1).bind fun _ => (f_X9_countEmpty p1 M).bind fun r2 => (fdv (FP.i2f (9 - r2)) 1091567616).bind fun f4 => some f4
set_option maxRecDepth 20000 in
theorem ev_X10_coveredShare {G : Nat × (Nat → Int32) × Value} {p0a : Nat} {M : Mem} {r : UInt32} (h : f_X10_coveredShare p0a M = some r) : Ev (roG G) false YX10_coveredShare 2 0 [.ref p0a] M (fun a b => a = wF r ∧ b = M) := by
  refine ev_of cyX10_coveredShare.2.2.2.2 (Nat.le_of_ble_eq_true rfl) ?_
  show Fr _ _ _ _ _ _ 0 [(0, .ref p0a)] [] M _
  unfold f_X10_coveredShare at h
  refine fr_bipush (v := 9) dX10_coveredShare_0 (by decide) ?_
  refine fr_aload_n 0 dX10_coveredShare_2 rfl ?_
  obtain ⟨p1, ep1, h⟩ := ob h
  try dsimp only at h
  refine fr_gP cb10 0 (by decide) rfl w_227 dX10_coveredShare_3 ep1 ?_
  obtain ⟨u3, eu3, h⟩ := ob h
  try dsimp only at h
  obtain ⟨r2, er2, h⟩ := ob h
  try dsimp only at h
  refine fr_callV (g1 := false) (k2 := 0) (ev_X9_countEmpty er2) rfl cyX9_countEmpty w_927 w_928 w_929 (rc_ok eu3 rfl (by decide)) (by rfl) (by omega) (by omega) (by rfl) (Nat.le_of_ble_eq_true rfl) dX10_coveredShare_6 (Or.inl rfl) (fun v M9 q _ => ?_) (fun E M9 q _ => (Sum.inr_ne_inl q.1).elim)
  obtain rfl : v = some (.int r2) := Sum.inl.inj q.1
  obtain rfl := q.2.symm
  refine fr_st (S' := [.int r2, .int 9]) rfl ?_
  refine fr_isub dX10_coveredShare_9 ?_
  refine fr_i2f dX10_coveredShare_10 ?_
  refine fr_ldcwf (v := 1091567616) w_931 dX10_coveredShare_11 ?_
  obtain ⟨f4, ef4, h⟩ := ob h
  try dsimp only at h
  refine fr_fdiv1 ef4 dX10_coveredShare_14 ?_
  obtain rfl := Option.some.inj h
  exact fr_fret rfl dX10_coveredShare_15 ⟨rfl, rfl⟩
def f_X10_foldCount (p0a : Nat) (M : Mem) : Option (Int32) := (gP M 10 p0a 0).bind fun p1 => (gI M 9 p1 5).bind fun x2 => some x2
set_option maxRecDepth 20000 in
theorem ev_X10_foldCount {G : Nat × (Nat → Int32) × Value} {p0a : Nat} {M : Mem} {r : Int32} (h : f_X10_foldCount p0a M = some r) : Ev (roG G) false YX10_foldCount 0 0 [.ref p0a] M (fun a b => a = wI r ∧ b = M) := by
  refine ev_of cyX10_foldCount.2.2.2.2 (Nat.le_of_ble_eq_true rfl) ?_
  show Fr _ _ _ _ _ _ 0 [(0, .ref p0a)] [] M _
  unfold f_X10_foldCount at h
  refine fr_aload_n 0 dX10_foldCount_0 rfl ?_
  obtain ⟨p1, ep1, h⟩ := ob h
  try dsimp only at h
  refine fr_gP cb10 0 (by decide) rfl w_227 dX10_foldCount_1 ep1 ?_
  obtain ⟨x2, ex2, h⟩ := ob h
  try dsimp only at h
  refine fr_gI cb9 5 (by decide) rfl w_133 dX10_foldCount_4 ex2 ?_
  obtain rfl := Option.some.inj h
  exact fr_iret rfl dX10_foldCount_7 ⟨rfl, rfl⟩
def f_X10_neighbour (x0a : Int32) (x1a : Int32) (M : Mem) : Option (Int32) := (if x1a = 0 then (if x0a < 3 then (some (-1)) else (some (x0a - 3))) else (if x1a = 1 then (if 2 ≤ (x0a - x0a / 3 * 3) then (some (-1)) else (some (x0a + 1))) else (if x1a = 2 then (if 6 ≤ x0a then (some (-1)) else (some (x0a + 3))) else (if (x0a - x0a / 3 * 3) ≤ 0 then (some (-1)) else (some (x0a - 1))))))
set_option maxRecDepth 20000 in
theorem ev_X10_neighbour {G : Nat × (Nat → Int32) × Value} {x0a : Int32} {x1a : Int32} {M : Mem} {r : Int32} (h : f_X10_neighbour x0a x1a M = some r) : Ev (roG G) false YX10_neighbour 0 0 [.int x0a, .int x1a] M (fun a b => a = wI r ∧ b = M) := by
  refine ev_of cyX10_neighbour.2.2.2.2 (Nat.le_of_ble_eq_true rfl) ?_
  show Fr _ _ _ _ _ _ 0 [(0, .int x0a), (1, .int x1a)] [] M _
  unfold f_X10_neighbour at h
  refine fr_iload_n 0 dX10_neighbour_0 rfl ?_
  refine fr_iconst (v := 3) dX10_neighbour_1 (by decide) ?_
  refine fr_irem dX10_neighbour_2 (by decide) ?_
  refine fr_istore_n (L' := [(0, .int x0a), (1, .int x1a), (2, .int (x0a - x0a / 3 * 3))]) dX10_neighbour_3 (by decide) rfl ?_
  refine fr_iload_n 1 dX10_neighbour_4 rfl ?_
  by_cases c3_0 : x1a = 0
  · rw [if_pos c3_0] at h
    refine fr_swIn (off := 27) 32 dX10_neighbour_5 (by rw [c3_0]; decide) (by rw [c3_0]; decide) (by rw [c3_0]; rfl) (by decide) ?_
    refine fr_iload_n 0 dX10_neighbour_32 rfl ?_
    refine fr_iconst (v := 3) dX10_neighbour_33 (by decide) ?_
    refine fr_icmp_lt 43 dX10_neighbour_34 (by decide) (fun c4 => ?_) (fun c4 => ?_)
    · rw [if_pos c4] at h
      refine fr_iconst (v := (-1)) dX10_neighbour_43 (by decide) ?_
      obtain rfl := Option.some.inj h
      exact fr_iret rfl dX10_neighbour_44 ⟨rfl, rfl⟩
    · rw [if_neg c4] at h
      refine fr_iload_n 0 dX10_neighbour_37 rfl ?_
      refine fr_iconst (v := 3) dX10_neighbour_38 (by decide) ?_
      refine fr_isub dX10_neighbour_39 ?_
      refine fr_goto 44 dX10_neighbour_40 (by decide) ?_
      obtain rfl := Option.some.inj h
      exact fr_iret rfl dX10_neighbour_44 ⟨rfl, rfl⟩
  rw [if_neg c3_0] at h
  by_cases c3_1 : x1a = 1
  · rw [if_pos c3_1] at h
    refine fr_swIn (off := 40) 45 dX10_neighbour_5 (by rw [c3_1]; decide) (by rw [c3_1]; decide) (by rw [c3_1]; rfl) (by decide) ?_
    refine fr_iload_n 2 dX10_neighbour_45 rfl ?_
    refine fr_iconst (v := 2) dX10_neighbour_46 (by decide) ?_
    refine fr_icmp_ge 56 dX10_neighbour_47 (by decide) (fun c5 => ?_) (fun c5 => ?_)
    · rw [if_pos c5] at h
      refine fr_iconst (v := (-1)) dX10_neighbour_56 (by decide) ?_
      obtain rfl := Option.some.inj h
      exact fr_iret rfl dX10_neighbour_57 ⟨rfl, rfl⟩
    · rw [if_neg c5] at h
      refine fr_iload_n 0 dX10_neighbour_50 rfl ?_
      refine fr_iconst (v := 1) dX10_neighbour_51 (by decide) ?_
      refine fr_iadd dX10_neighbour_52 ?_
      refine fr_goto 57 dX10_neighbour_53 (by decide) ?_
      obtain rfl := Option.some.inj h
      exact fr_iret rfl dX10_neighbour_57 ⟨rfl, rfl⟩
  rw [if_neg c3_1] at h
  by_cases c3_2 : x1a = 2
  · rw [if_pos c3_2] at h
    refine fr_swIn (off := 53) 58 dX10_neighbour_5 (by rw [c3_2]; decide) (by rw [c3_2]; decide) (by rw [c3_2]; rfl) (by decide) ?_
    refine fr_iload_n 0 dX10_neighbour_58 rfl ?_
    refine fr_bipush (v := 6) dX10_neighbour_59 (by decide) ?_
    refine fr_icmp_ge 70 dX10_neighbour_61 (by decide) (fun c6 => ?_) (fun c6 => ?_)
    · rw [if_pos c6] at h
      refine fr_iconst (v := (-1)) dX10_neighbour_70 (by decide) ?_
      obtain rfl := Option.some.inj h
      exact fr_iret rfl dX10_neighbour_71 ⟨rfl, rfl⟩
    · rw [if_neg c6] at h
      refine fr_iload_n 0 dX10_neighbour_64 rfl ?_
      refine fr_iconst (v := 3) dX10_neighbour_65 (by decide) ?_
      refine fr_iadd dX10_neighbour_66 ?_
      refine fr_goto 71 dX10_neighbour_67 (by decide) ?_
      obtain rfl := Option.some.inj h
      exact fr_iret rfl dX10_neighbour_71 ⟨rfl, rfl⟩
  rw [if_neg c3_2] at h
  refine fr_swOut 72 dX10_neighbour_5 (sw_out (l := [0, 1, 2]) (by decide) (by simp only [List.mem_cons, List.not_mem_nil, or_false, not_or]; exact ⟨c3_0, c3_1, c3_2⟩)) (by decide) ?_
  refine fr_iload_n 2 dX10_neighbour_72 rfl ?_
  refine fr_if_le 82 dX10_neighbour_73 (by decide) (fun c2 => ?_) (fun c2 => ?_)
  · rw [if_pos c2] at h
    refine fr_iconst (v := (-1)) dX10_neighbour_82 (by decide) ?_
    obtain rfl := Option.some.inj h
    exact fr_iret rfl dX10_neighbour_83 ⟨rfl, rfl⟩
  · rw [if_neg c2] at h
    refine fr_iload_n 0 dX10_neighbour_76 rfl ?_
    refine fr_iconst (v := 1) dX10_neighbour_77 (by decide) ?_
    refine fr_isub dX10_neighbour_78 ?_
    refine fr_goto 83 dX10_neighbour_79 (by decide) ?_
    obtain rfl := Option.some.inj h
    exact fr_iret rfl dX10_neighbour_83 ⟨rfl, rfl⟩
def f_X2_contains (x0a : Int32) (x1a : Int32) (M : Mem) : Option (Int32) := if ((x0a >>> (x1a &&& 31)) &&& 1) = 1 then (some 1) else (some 0)
set_option maxRecDepth 20000 in
theorem ev_X2_contains {G : Nat × (Nat → Int32) × Value} {x0a : Int32} {x1a : Int32} {M : Mem} {r : Int32} (h : f_X2_contains x0a x1a M = some r) : Ev (roG G) false YX2_contains 0 0 [.int x0a, .int x1a] M (fun a b => a = wI r ∧ b = M) := by
  refine ev_of cyX2_contains.2.2.2.2 (Nat.le_of_ble_eq_true rfl) ?_
  show Fr _ _ _ _ _ _ 0 [(0, .int x0a), (1, .int x1a)] [] M _
  unfold f_X2_contains at h
  refine fr_iload_n 0 dX2_contains_0 rfl ?_
  refine fr_iload_n 1 dX2_contains_1 rfl ?_
  refine fr_ishr dX2_contains_2 ?_
  refine fr_iconst (v := 1) dX2_contains_3 (by decide) ?_
  refine fr_iand dX2_contains_4 ?_
  refine fr_iconst (v := 1) dX2_contains_5 (by decide) ?_
  refine fr_icmp_ne 13 dX2_contains_6 (by decide) (fun c1 => ?_) (fun c1 => ?_)
  · rw [if_neg c1] at h
    refine fr_iconst (v := 0) dX2_contains_13 (by decide) ?_
    obtain rfl := Option.some.inj h
    exact fr_zret (ty := .boolean) rfl rfl dX2_contains_14 ⟨rfl, rfl⟩
  · rw [if_pos c1] at h
    refine fr_iconst (v := 1) dX2_contains_9 (by decide) ?_
    refine fr_goto 14 dX2_contains_10 (by decide) ?_
    obtain rfl := Option.some.inj h
    exact fr_zret (ty := .boolean) rfl rfl dX2_contains_14 ⟨rfl, rfl⟩
def f_X9_isOccupiedBeside (p0a : Nat) (x1a : Int32) (x2a : Int32) (M : Mem) : Option (Int32) := (f_X10_neighbour x1a x2a M).bind fun r1 => if r1 = (-1) then (some 0) else ((rc M 9 p0a).bind fun _ => (f_X9_isOccupied p0a r1 M).bind fun r3 => if r3 = 0 then (some 0) else (some 1))
set_option maxRecDepth 20000 in
theorem ev_X9_isOccupiedBeside {G : Nat × (Nat → Int32) × Value} {p0a : Nat} {x1a : Int32} {x2a : Int32} {M : Mem} {r : Int32} (h : f_X9_isOccupiedBeside p0a x1a x2a M = some r) : Ev (roG G) false YX9_isOccupiedBeside 1 0 [.ref p0a, .int x1a, .int x2a] M (fun a b => a = wI r ∧ b = M) := by
  refine ev_of cyX9_isOccupiedBeside.2.2.2.2 (Nat.le_of_ble_eq_true rfl) ?_
  show Fr _ _ _ _ _ _ 0 [(0, .ref p0a), (1, .int x1a), (2, .int x2a)] [] M _
  unfold f_X9_isOccupiedBeside at h
  refine fr_iload_n 1 dX9_isOccupiedBeside_0 rfl ?_
  refine fr_iload_n 2 dX9_isOccupiedBeside_1 rfl ?_
  obtain ⟨r1, er1, h⟩ := ob h
  try dsimp only at h
  refine fr_callSN (g1 := false) (k2 := 0) "MapHall" (ev_X10_neighbour er1) rfl cyX10_neighbour (show _ ∈ roM from List.mem_of_getElem? (i := 10) rfl) w_592 (by rfl) (by omega) (by omega) (by rfl) (Nat.le_of_ble_eq_true rfl) dX9_isOccupiedBeside_2 (Or.inl rfl) (fun v M9 q _ => ?_) (fun E M9 q _ => (Sum.inr_ne_inl q.1).elim)
  obtain rfl : v = some (.int r1) := Sum.inl.inj q.1
  obtain rfl := q.2.symm
  refine fr_st (S' := [.int r1]) rfl ?_
  refine fr_istore_n (L' := [(0, .ref p0a), (1, .int x1a), (2, .int x2a), (3, .int r1)]) dX9_isOccupiedBeside_5 (by decide) rfl ?_
  refine fr_iload_n 3 dX9_isOccupiedBeside_6 rfl ?_
  refine fr_iconst (v := (-1)) dX9_isOccupiedBeside_7 (by decide) ?_
  refine fr_icmp_eq 23 dX9_isOccupiedBeside_8 (by decide) (fun c2 => ?_) (fun c2 => ?_)
  · rw [if_pos c2] at h
    refine fr_iconst (v := 0) dX9_isOccupiedBeside_23 (by decide) ?_
    obtain rfl := Option.some.inj h
    exact fr_zret (ty := .boolean) rfl rfl dX9_isOccupiedBeside_24 ⟨rfl, rfl⟩
  · rw [if_neg c2] at h
    refine fr_aload_n 0 dX9_isOccupiedBeside_11 rfl ?_
    refine fr_iload_n 3 dX9_isOccupiedBeside_12 rfl ?_
    obtain ⟨u4, eu4, h⟩ := ob h
    try dsimp only at h
    obtain ⟨r3, er3, h⟩ := ob h
    try dsimp only at h
    refine fr_callV (g1 := false) (k2 := 0) (ev_X9_isOccupied er3) rfl cyX9_isOccupied w_579 w_580 w_581 (rc_ok eu4 rfl (by decide)) (by rfl) (by omega) (by omega) (by rfl) (Nat.le_of_ble_eq_true rfl) dX9_isOccupiedBeside_13 (Or.inl rfl) (fun v M9 q _ => ?_) (fun E M9 q _ => (Sum.inr_ne_inl q.1).elim)
    obtain rfl : v = some (.int r3) := Sum.inl.inj q.1
    obtain rfl := q.2.symm
    refine fr_st (S' := [.int r3]) rfl ?_
    refine fr_if_eq 23 dX9_isOccupiedBeside_16 (by decide) (fun c5 => ?_) (fun c5 => ?_)
    · rw [if_pos c5] at h
      refine fr_iconst (v := 0) dX9_isOccupiedBeside_23 (by decide) ?_
      obtain rfl := Option.some.inj h
      exact fr_zret (ty := .boolean) rfl rfl dX9_isOccupiedBeside_24 ⟨rfl, rfl⟩
    · rw [if_neg c5] at h
      refine fr_iconst (v := 1) dX9_isOccupiedBeside_19 (by decide) ?_
      refine fr_goto 24 dX9_isOccupiedBeside_20 (by decide) ?_
      obtain rfl := Option.some.inj h
      exact fr_zret (ty := .boolean) rfl rfl dX9_isOccupiedBeside_24 ⟨rfl, rfl⟩
def lp_X2_withNeighbours_13 (p_0 : Nat) (x_1 : Int32) (x_3 : Int32) (M_ : Mem) : Nat → Int32 → Int32 → Option ((Int32 × Int32) ⊕ (Int32))
  | 0, _, _ => none
  | n + 1, x_2, x_4 => if 4 ≤ x_4 then (some (.inl (x_2, x_4))) else ((f_X2_contains x_1 x_3 M_).bind fun r3 => if r3 = 0 then (lp_X2_withNeighbours_13 p_0 x_1 x_3 M_ n x_2 (x_4 + 1)) else ((rc M_ 9 p_0).bind fun _ => (f_X9_isOccupiedBeside p_0 x_3 x_4 M_).bind fun r5 => if r5 = 0 then (lp_X2_withNeighbours_13 p_0 x_1 x_3 M_ n x_2 (x_4 + 1)) else ((f_X10_neighbour x_3 x_4 M_).bind fun r8 => lp_X2_withNeighbours_13 p_0 x_1 x_3 M_ n (x_2 ||| (1 <<< (r8 &&& 31))) (x_4 + 1))))
def lp_X2_withNeighbours_4 (p_0 : Nat) (x_1 : Int32) (M_ : Mem) : Nat → Int32 → Int32 → Option ((Int32 × Int32) ⊕ (Int32))
  | 0, _, _ => none
  | n + 1, x_2, x_3 => if 9 ≤ x_3 then (some (.inl (x_2, x_3))) else ((lp_X2_withNeighbours_13 p_0 x_1 x_3 M_ 100 x_2 0).bind fun q9 => match q9 with | .inl (q9_2, q9_4) => (lp_X2_withNeighbours_4 p_0 x_1 M_ n q9_2 (x_3 + 1)) | .inr q9_r => some (.inr q9_r))
def f_X2_withNeighbours (p0a : Nat) (x1a : Int32) (M : Mem) : Option (Int32) := ((lp_X2_withNeighbours_4 p0a x1a M 100 x1a 0).bind fun q10 => match q10 with | .inl (q10_2, q10_3) => (some q10_2) | .inr q10_r => some q10_r)
set_option maxRecDepth 20000 in
theorem lp_X2_withNeighbours_13_ok {G : Nat × (Nat → Int32) × Value} {P : Res → Mem → Prop} {n0 d ke : Nat} {p_0 : Nat} {x_1 : Int32} {x_3 : Int32} {M_ : Mem} (hd : 2 ≤ d) : ∀ (n : Nat) (x_2 : Int32) (x_4 : Int32) (res : (Int32 × Int32) ⊕ (Int32)), lp_X2_withNeighbours_13 p_0 x_1 x_3 M_ n x_2 x_4 = some res → (∀ (y_2 : Int32) (y_4 : Int32), res = .inl (y_2, y_4) → Fr (roG G) false n0 YX2_withNeighbours d ke 54 [(0, .ref p_0), (1, .int x_1), (2, .int y_2), (3, .int x_3), (4, .int y_4)] [] M_ P) → (∀ r : Int32, res = .inr r → P (wI r) M_) → Fr (roG G) false n0 YX2_withNeighbours d ke 13 [(0, .ref p_0), (1, .int x_1), (2, .int x_2), (3, .int x_3), (4, .int x_4)] [] M_ P := by
  intro n
  induction n with
  | zero => intro x_2 x_4 res h; unfold lp_X2_withNeighbours_13 at h; cases h
  | succ n ih =>
    intro x_2 x_4 res h he hr
    unfold lp_X2_withNeighbours_13 at h
    refine fr_iload 4 dX2_withNeighbours_13 rfl ?_
    refine fr_iconst (v := 4) dX2_withNeighbours_15 (by decide) ?_
    refine fr_icmp_ge 54 dX2_withNeighbours_16 (by decide) (fun c2 => ?_) (fun c2 => ?_)
    · rw [if_pos c2] at h
      obtain rfl := Option.some.inj h
      exact he _ _ rfl
    · rw [if_neg c2] at h
      refine fr_iload_n 1 dX2_withNeighbours_19 rfl ?_
      refine fr_iload_n 3 dX2_withNeighbours_20 rfl ?_
      obtain ⟨r3, er3, h⟩ := ob h
      try dsimp only at h
      refine fr_callS (g1 := false) (k2 := ke) (ev_X2_contains er3) rfl cyX2_contains w_977 w_978 (by rfl) (by omega) (by omega) (by rfl) (Nat.le_of_ble_eq_true rfl) dX2_withNeighbours_21 (Or.inl rfl) (fun v M9 q _ => ?_) (fun E M9 q _ => (Sum.inr_ne_inl q.1).elim)
      obtain rfl : v = some (.int r3) := Sum.inl.inj q.1
      obtain rfl := q.2.symm
      refine fr_st (S' := [.int r3]) rfl ?_
      refine fr_if_eq 48 dX2_withNeighbours_24 (by decide) (fun c4 => ?_) (fun c4 => ?_)
      · rw [if_pos c4] at h
        refine fr_iinc (v := (x_4 + 1)) (L' := [(0, .ref p_0), (1, .int x_1), (2, .int x_2), (3, .int x_3), (4, .int (x_4 + 1))]) 4 dX2_withNeighbours_48 rfl rfl (by decide) rfl ?_
        refine fr_goto 13 dX2_withNeighbours_51 (by decide) ?_
        exact ih _ _ _ h he hr
      · rw [if_neg c4] at h
        refine fr_aload_n 0 dX2_withNeighbours_27 rfl ?_
        refine fr_iload_n 3 dX2_withNeighbours_28 rfl ?_
        refine fr_iload 4 dX2_withNeighbours_29 rfl ?_
        obtain ⟨u6, eu6, h⟩ := ob h
        try dsimp only at h
        obtain ⟨r5, er5, h⟩ := ob h
        try dsimp only at h
        refine fr_callV (g1 := false) (k2 := ke) (ev_X9_isOccupiedBeside er5) rfl cyX9_isOccupiedBeside w_986 w_588 w_589 (rc_ok eu6 rfl (by decide)) (by rfl) (by omega) (by omega) (by rfl) (Nat.le_of_ble_eq_true rfl) dX2_withNeighbours_31 (Or.inl rfl) (fun v M9 q _ => ?_) (fun E M9 q _ => (Sum.inr_ne_inl q.1).elim)
        obtain rfl : v = some (.int r5) := Sum.inl.inj q.1
        obtain rfl := q.2.symm
        refine fr_st (S' := [.int r5]) rfl ?_
        refine fr_if_eq 48 dX2_withNeighbours_34 (by decide) (fun c7 => ?_) (fun c7 => ?_)
        · rw [if_pos c7] at h
          refine fr_iinc (v := (x_4 + 1)) (L' := [(0, .ref p_0), (1, .int x_1), (2, .int x_2), (3, .int x_3), (4, .int (x_4 + 1))]) 4 dX2_withNeighbours_48 rfl rfl (by decide) rfl ?_
          refine fr_goto 13 dX2_withNeighbours_51 (by decide) ?_
          exact ih _ _ _ h he hr
        · rw [if_neg c7] at h
          refine fr_iload_n 2 dX2_withNeighbours_37 rfl ?_
          refine fr_iconst (v := 1) dX2_withNeighbours_38 (by decide) ?_
          refine fr_iload_n 3 dX2_withNeighbours_39 rfl ?_
          refine fr_iload 4 dX2_withNeighbours_40 rfl ?_
          obtain ⟨r8, er8, h⟩ := ob h
          try dsimp only at h
          refine fr_callSN (g1 := false) (k2 := ke) "MapHall" (ev_X10_neighbour er8) rfl cyX10_neighbour (show _ ∈ roM from List.mem_of_getElem? (i := 14) rfl) w_592 (by rfl) (by omega) (by omega) (by rfl) (Nat.le_of_ble_eq_true rfl) dX2_withNeighbours_42 (Or.inl rfl) (fun v M9 q _ => ?_) (fun E M9 q _ => (Sum.inr_ne_inl q.1).elim)
          obtain rfl : v = some (.int r8) := Sum.inl.inj q.1
          obtain rfl := q.2.symm
          refine fr_st (S' := [.int r8, .int 1, .int x_2]) rfl ?_
          refine fr_ishl dX2_withNeighbours_45 ?_
          refine fr_ior dX2_withNeighbours_46 ?_
          refine fr_istore_n (L' := [(0, .ref p_0), (1, .int x_1), (2, .int (x_2 ||| (1 <<< (r8 &&& 31)))), (3, .int x_3), (4, .int x_4)]) dX2_withNeighbours_47 (by decide) rfl ?_
          refine fr_iinc (v := (x_4 + 1)) (L' := [(0, .ref p_0), (1, .int x_1), (2, .int (x_2 ||| (1 <<< (r8 &&& 31)))), (3, .int x_3), (4, .int (x_4 + 1))]) 4 dX2_withNeighbours_48 rfl rfl (by decide) rfl ?_
          refine fr_goto 13 dX2_withNeighbours_51 (by decide) ?_
          exact ih _ _ _ h he hr
set_option maxRecDepth 20000 in
theorem lp_X2_withNeighbours_4_ok {G : Nat × (Nat → Int32) × Value} {P : Res → Mem → Prop} {n0 d ke : Nat} {p_0 : Nat} {x_1 : Int32} {M_ : Mem} (hd : 2 ≤ d) : ∀ (n : Nat) (x_2 : Int32) (x_3 : Int32) (res : (Int32 × Int32) ⊕ (Int32)), lp_X2_withNeighbours_4 p_0 x_1 M_ n x_2 x_3 = some res → (∀ (y_2 : Int32) (y_3 : Int32), res = .inl (y_2, y_3) → Fr (roG G) false n0 YX2_withNeighbours d ke 60 [(0, .ref p_0), (1, .int x_1), (2, .int y_2), (3, .int y_3)] [] M_ P) → (∀ r : Int32, res = .inr r → P (wI r) M_) → Fr (roG G) false n0 YX2_withNeighbours d ke 4 [(0, .ref p_0), (1, .int x_1), (2, .int x_2), (3, .int x_3)] [] M_ P := by
  intro n
  induction n with
  | zero => intro x_2 x_3 res h; unfold lp_X2_withNeighbours_4 at h; cases h
  | succ n ih =>
    intro x_2 x_3 res h he hr
    unfold lp_X2_withNeighbours_4 at h
    refine fr_iload_n 3 dX2_withNeighbours_4 rfl ?_
    refine fr_bipush (v := 9) dX2_withNeighbours_5 (by decide) ?_
    refine fr_icmp_ge 60 dX2_withNeighbours_7 (by decide) (fun c1 => ?_) (fun c1 => ?_)
    · rw [if_pos c1] at h
      obtain rfl := Option.some.inj h
      exact he _ _ rfl
    · rw [if_neg c1] at h
      refine fr_iconst (v := 0) dX2_withNeighbours_10 (by decide) ?_
      refine fr_istore (L' := [(0, .ref p_0), (1, .int x_1), (2, .int x_2), (3, .int x_3), (4, .int 0)]) dX2_withNeighbours_11 (by decide) rfl ?_
      obtain ⟨q9, eq9, h⟩ := ob h
      try dsimp only at h
      refine lp_X2_withNeighbours_13_ok (by omega) 100 _ _ q9 eq9 (fun q9_2 q9_4 e9 => ?_) (fun q9_r e9 => ?_)
      · subst e9
        try dsimp only at h
        refine fr_iinc (v := (x_3 + 1)) (L' := [(0, .ref p_0), (1, .int x_1), (2, .int q9_2), (3, .int (x_3 + 1)), (4, .int q9_4)]) 3 dX2_withNeighbours_54 rfl rfl (by decide) rfl ?_
        refine fr_goto 4 dX2_withNeighbours_57 (by decide) ?_
        refine fr_loc [0, 1, 2, 3] (L' := [(0, .ref p_0), (1, .int x_1), (2, .int q9_2), (3, .int (x_3 + 1))]) rfl ?_
        exact ih _ _ _ h he hr
      · subst e9
        try dsimp only at h
        obtain rfl := Option.some.inj h
        exact hr _ rfl
set_option maxRecDepth 20000 in
theorem ev_X2_withNeighbours {G : Nat × (Nat → Int32) × Value} {p0a : Nat} {x1a : Int32} {M : Mem} {r : Int32} (h : f_X2_withNeighbours p0a x1a M = some r) : Ev (roG G) false YX2_withNeighbours 2 0 [.ref p0a, .int x1a] M (fun a b => a = wI r ∧ b = M) := by
  refine ev_of cyX2_withNeighbours.2.2.2.2 (Nat.le_of_ble_eq_true rfl) ?_
  show Fr _ _ _ _ _ _ 0 [(0, .ref p0a), (1, .int x1a)] [] M _
  unfold f_X2_withNeighbours at h
  refine fr_iload_n 1 dX2_withNeighbours_0 rfl ?_
  refine fr_istore_n (L' := [(0, .ref p0a), (1, .int x1a), (2, .int x1a)]) dX2_withNeighbours_1 (by decide) rfl ?_
  refine fr_iconst (v := 0) dX2_withNeighbours_2 (by decide) ?_
  refine fr_istore_n (L' := [(0, .ref p0a), (1, .int x1a), (2, .int x1a), (3, .int 0)]) dX2_withNeighbours_3 (by decide) rfl ?_
  obtain ⟨q10, eq10, h⟩ := ob h
  try dsimp only at h
  refine lp_X2_withNeighbours_4_ok (by omega) 100 _ _ q10 eq10 (fun q10_2 q10_3 e9 => ?_) (fun q10_r e9 => ?_)
  · subst e9
    try dsimp only at h
    refine fr_iload_n 2 dX2_withNeighbours_60 rfl ?_
    obtain rfl := Option.some.inj h
    exact fr_iret rfl dX2_withNeighbours_61 ⟨rfl, rfl⟩
  · subst e9
    try dsimp only at h
    obtain rfl := Option.some.inj h
    exact ⟨rfl, rfl⟩
def lp_X2_cellsConnectedTo_6 (p_0 : Nat) (x_1 : Int32) (M_ : Mem) : Nat → Int32 → Int32 → Option ((Int32 × Int32) ⊕ (Int32))
  | 0, _, _ => none
  | n + 1, x_2, x_3 => if 9 ≤ x_3 then (some (.inl (x_2, x_3))) else ((f_X2_withNeighbours p_0 x_2 M_).bind fun r2 => lp_X2_cellsConnectedTo_6 p_0 x_1 M_ n r2 (x_3 + 1))
def f_X2_cellsConnectedTo (p0a : Nat) (x1a : Int32) (M : Mem) : Option (Int32) := ((lp_X2_cellsConnectedTo_6 p0a x1a M 100 (1 <<< (x1a &&& 31)) 1).bind fun q3 => match q3 with | .inl (q3_2, q3_3) => (some q3_2) | .inr q3_r => some q3_r)
set_option maxRecDepth 20000 in
theorem lp_X2_cellsConnectedTo_6_ok {G : Nat × (Nat → Int32) × Value} {P : Res → Mem → Prop} {n0 d ke : Nat} {p_0 : Nat} {x_1 : Int32} {M_ : Mem} (hd : 3 ≤ d) : ∀ (n : Nat) (x_2 : Int32) (x_3 : Int32) (res : (Int32 × Int32) ⊕ (Int32)), lp_X2_cellsConnectedTo_6 p_0 x_1 M_ n x_2 x_3 = some res → (∀ (y_2 : Int32) (y_3 : Int32), res = .inl (y_2, y_3) → Fr (roG G) false n0 YX2_cellsConnectedTo d ke 24 [(0, .ref p_0), (1, .int x_1), (2, .int y_2), (3, .int y_3)] [] M_ P) → (∀ r : Int32, res = .inr r → P (wI r) M_) → Fr (roG G) false n0 YX2_cellsConnectedTo d ke 6 [(0, .ref p_0), (1, .int x_1), (2, .int x_2), (3, .int x_3)] [] M_ P := by
  intro n
  induction n with
  | zero => intro x_2 x_3 res h; unfold lp_X2_cellsConnectedTo_6 at h; cases h
  | succ n ih =>
    intro x_2 x_3 res h he hr
    unfold lp_X2_cellsConnectedTo_6 at h
    refine fr_iload_n 3 dX2_cellsConnectedTo_6 rfl ?_
    refine fr_bipush (v := 9) dX2_cellsConnectedTo_7 (by decide) ?_
    refine fr_icmp_ge 24 dX2_cellsConnectedTo_9 (by decide) (fun c1 => ?_) (fun c1 => ?_)
    · rw [if_pos c1] at h
      obtain rfl := Option.some.inj h
      exact he _ _ rfl
    · rw [if_neg c1] at h
      refine fr_aload_n 0 dX2_cellsConnectedTo_12 rfl ?_
      refine fr_iload_n 2 dX2_cellsConnectedTo_13 rfl ?_
      obtain ⟨r2, er2, h⟩ := ob h
      try dsimp only at h
      refine fr_callS (g1 := false) (k2 := ke) (ev_X2_withNeighbours er2) rfl cyX2_withNeighbours w_983 w_984 (by rfl) (by omega) (by omega) (by rfl) (Nat.le_of_ble_eq_true rfl) dX2_cellsConnectedTo_14 (Or.inl rfl) (fun v M9 q _ => ?_) (fun E M9 q _ => (Sum.inr_ne_inl q.1).elim)
      obtain rfl : v = some (.int r2) := Sum.inl.inj q.1
      obtain rfl := q.2.symm
      refine fr_st (S' := [.int r2]) rfl ?_
      refine fr_istore_n (L' := [(0, .ref p_0), (1, .int x_1), (2, .int r2), (3, .int x_3)]) dX2_cellsConnectedTo_17 (by decide) rfl ?_
      refine fr_iinc (v := (x_3 + 1)) (L' := [(0, .ref p_0), (1, .int x_1), (2, .int r2), (3, .int (x_3 + 1))]) 3 dX2_cellsConnectedTo_18 rfl rfl (by decide) rfl ?_
      refine fr_goto 6 dX2_cellsConnectedTo_21 (by decide) ?_
      exact ih _ _ _ h he hr
set_option maxRecDepth 20000 in
theorem ev_X2_cellsConnectedTo {G : Nat × (Nat → Int32) × Value} {p0a : Nat} {x1a : Int32} {M : Mem} {r : Int32} (h : f_X2_cellsConnectedTo p0a x1a M = some r) : Ev (roG G) false YX2_cellsConnectedTo 3 0 [.ref p0a, .int x1a] M (fun a b => a = wI r ∧ b = M) := by
  refine ev_of cyX2_cellsConnectedTo.2.2.2.2 (Nat.le_of_ble_eq_true rfl) ?_
  show Fr _ _ _ _ _ _ 0 [(0, .ref p0a), (1, .int x1a)] [] M _
  unfold f_X2_cellsConnectedTo at h
  refine fr_iconst (v := 1) dX2_cellsConnectedTo_0 (by decide) ?_
  refine fr_iload_n 1 dX2_cellsConnectedTo_1 rfl ?_
  refine fr_ishl dX2_cellsConnectedTo_2 ?_
  refine fr_istore_n (L' := [(0, .ref p0a), (1, .int x1a), (2, .int (1 <<< (x1a &&& 31)))]) dX2_cellsConnectedTo_3 (by decide) rfl ?_
  refine fr_iconst (v := 1) dX2_cellsConnectedTo_4 (by decide) ?_
  refine fr_istore_n (L' := [(0, .ref p0a), (1, .int x1a), (2, .int (1 <<< (x1a &&& 31))), (3, .int 1)]) dX2_cellsConnectedTo_5 (by decide) rfl ?_
  obtain ⟨q3, eq3, h⟩ := ob h
  try dsimp only at h
  refine lp_X2_cellsConnectedTo_6_ok (by omega) 100 _ _ q3 eq3 (fun q3_2 q3_3 e9 => ?_) (fun q3_r e9 => ?_)
  · subst e9
    try dsimp only at h
    refine fr_iload_n 2 dX2_cellsConnectedTo_24 rfl ?_
    obtain rfl := Option.some.inj h
    exact fr_iret rfl dX2_cellsConnectedTo_25 ⟨rfl, rfl⟩
  · subst e9
    try dsimp only at h
    obtain rfl := Option.some.inj h
    exact ⟨rfl, rfl⟩
def lp_X2_countByFilling_6 (p_0 : Nat) (M_ : Mem) : Nat → Int32 → Int32 → Int32 → Option ((Int32 × Int32 × Int32) ⊕ (Int32))
  | 0, _, _, _ => none
  | n + 1, x_1, x_2, x_3 => if 9 ≤ x_3 then (some (.inl (x_1, x_2, x_3))) else ((rc M_ 9 p_0).bind fun _ => (f_X9_isOccupied p_0 x_3 M_).bind fun r2 => if r2 = 0 then (lp_X2_countByFilling_6 p_0 M_ n x_1 x_2 (x_3 + 1)) else ((f_X2_contains x_1 x_3 M_).bind fun r5 => if r5 = 0 then ((f_X2_cellsConnectedTo p_0 x_3 M_).bind fun r7 => lp_X2_countByFilling_6 p_0 M_ n (x_1 ||| r7) (x_2 + 1) (x_3 + 1)) else (lp_X2_countByFilling_6 p_0 M_ n x_1 x_2 (x_3 + 1))))
def f_X2_countByFilling (p0a : Nat) (M : Mem) : Option (Int32) := ((lp_X2_countByFilling_6 p0a M 100 0 0 0).bind fun q8 => match q8 with | .inl (q8_1, q8_2, q8_3) => (some q8_2) | .inr q8_r => some q8_r)
set_option maxRecDepth 20000 in
theorem lp_X2_countByFilling_6_ok {G : Nat × (Nat → Int32) × Value} {P : Res → Mem → Prop} {n0 d ke : Nat} {p_0 : Nat} {M_ : Mem} (hd : 4 ≤ d) : ∀ (n : Nat) (x_1 : Int32) (x_2 : Int32) (x_3 : Int32) (res : (Int32 × Int32 × Int32) ⊕ (Int32)), lp_X2_countByFilling_6 p_0 M_ n x_1 x_2 x_3 = some res → (∀ (y_1 : Int32) (y_2 : Int32) (y_3 : Int32), res = .inl (y_1, y_2, y_3) → Fr (roG G) false n0 YX2_countByFilling d ke 45 [(0, .ref p_0), (1, .int y_1), (2, .int y_2), (3, .int y_3)] [] M_ P) → (∀ r : Int32, res = .inr r → P (wI r) M_) → Fr (roG G) false n0 YX2_countByFilling d ke 6 [(0, .ref p_0), (1, .int x_1), (2, .int x_2), (3, .int x_3)] [] M_ P := by
  intro n
  induction n with
  | zero => intro x_1 x_2 x_3 res h; unfold lp_X2_countByFilling_6 at h; cases h
  | succ n ih =>
    intro x_1 x_2 x_3 res h he hr
    unfold lp_X2_countByFilling_6 at h
    refine fr_iload_n 3 dX2_countByFilling_6 rfl ?_
    refine fr_bipush (v := 9) dX2_countByFilling_7 (by decide) ?_
    refine fr_icmp_ge 45 dX2_countByFilling_9 (by decide) (fun c1 => ?_) (fun c1 => ?_)
    · rw [if_pos c1] at h
      obtain rfl := Option.some.inj h
      exact he _ _ _ rfl
    · rw [if_neg c1] at h
      refine fr_aload_n 0 dX2_countByFilling_12 rfl ?_
      refine fr_iload_n 3 dX2_countByFilling_13 rfl ?_
      obtain ⟨u3, eu3, h⟩ := ob h
      try dsimp only at h
      obtain ⟨r2, er2, h⟩ := ob h
      try dsimp only at h
      refine fr_callV (g1 := false) (k2 := ke) (ev_X9_isOccupied er2) rfl cyX9_isOccupied w_976 w_580 w_581 (rc_ok eu3 rfl (by decide)) (by rfl) (by omega) (by omega) (by rfl) (Nat.le_of_ble_eq_true rfl) dX2_countByFilling_14 (Or.inl rfl) (fun v M9 q _ => ?_) (fun E M9 q _ => (Sum.inr_ne_inl q.1).elim)
      obtain rfl : v = some (.int r2) := Sum.inl.inj q.1
      obtain rfl := q.2.symm
      refine fr_st (S' := [.int r2]) rfl ?_
      refine fr_if_eq 39 dX2_countByFilling_17 (by decide) (fun c4 => ?_) (fun c4 => ?_)
      · rw [if_pos c4] at h
        refine fr_iinc (v := (x_3 + 1)) (L' := [(0, .ref p_0), (1, .int x_1), (2, .int x_2), (3, .int (x_3 + 1))]) 3 dX2_countByFilling_39 rfl rfl (by decide) rfl ?_
        refine fr_goto 6 dX2_countByFilling_42 (by decide) ?_
        exact ih _ _ _ _ h he hr
      · rw [if_neg c4] at h
        refine fr_iload_n 1 dX2_countByFilling_20 rfl ?_
        refine fr_iload_n 3 dX2_countByFilling_21 rfl ?_
        obtain ⟨r5, er5, h⟩ := ob h
        try dsimp only at h
        refine fr_callS (g1 := false) (k2 := ke) (ev_X2_contains er5) rfl cyX2_contains w_977 w_978 (by rfl) (by omega) (by omega) (by rfl) (Nat.le_of_ble_eq_true rfl) dX2_countByFilling_22 (Or.inl rfl) (fun v M9 q _ => ?_) (fun E M9 q _ => (Sum.inr_ne_inl q.1).elim)
        obtain rfl : v = some (.int r5) := Sum.inl.inj q.1
        obtain rfl := q.2.symm
        refine fr_st (S' := [.int r5]) rfl ?_
        refine fr_if_ne 39 dX2_countByFilling_25 (by decide) (fun c6 => ?_) (fun c6 => ?_)
        · rw [if_neg c6] at h
          refine fr_iinc (v := (x_3 + 1)) (L' := [(0, .ref p_0), (1, .int x_1), (2, .int x_2), (3, .int (x_3 + 1))]) 3 dX2_countByFilling_39 rfl rfl (by decide) rfl ?_
          refine fr_goto 6 dX2_countByFilling_42 (by decide) ?_
          exact ih _ _ _ _ h he hr
        · rw [if_pos c6] at h
          refine fr_iload_n 1 dX2_countByFilling_28 rfl ?_
          refine fr_aload_n 0 dX2_countByFilling_29 rfl ?_
          refine fr_iload_n 3 dX2_countByFilling_30 rfl ?_
          obtain ⟨r7, er7, h⟩ := ob h
          try dsimp only at h
          refine fr_callS (g1 := false) (k2 := ke) (ev_X2_cellsConnectedTo er7) rfl cyX2_cellsConnectedTo w_980 w_981 (by rfl) (by omega) (by omega) (by rfl) (Nat.le_of_ble_eq_true rfl) dX2_countByFilling_31 (Or.inl rfl) (fun v M9 q _ => ?_) (fun E M9 q _ => (Sum.inr_ne_inl q.1).elim)
          obtain rfl : v = some (.int r7) := Sum.inl.inj q.1
          obtain rfl := q.2.symm
          refine fr_st (S' := [.int r7, .int x_1]) rfl ?_
          refine fr_ior dX2_countByFilling_34 ?_
          refine fr_istore_n (L' := [(0, .ref p_0), (1, .int (x_1 ||| r7)), (2, .int x_2), (3, .int x_3)]) dX2_countByFilling_35 (by decide) rfl ?_
          refine fr_iinc (v := (x_2 + 1)) (L' := [(0, .ref p_0), (1, .int (x_1 ||| r7)), (2, .int (x_2 + 1)), (3, .int x_3)]) 2 dX2_countByFilling_36 rfl rfl (by decide) rfl ?_
          refine fr_iinc (v := (x_3 + 1)) (L' := [(0, .ref p_0), (1, .int (x_1 ||| r7)), (2, .int (x_2 + 1)), (3, .int (x_3 + 1))]) 3 dX2_countByFilling_39 rfl rfl (by decide) rfl ?_
          refine fr_goto 6 dX2_countByFilling_42 (by decide) ?_
          exact ih _ _ _ _ h he hr
set_option maxRecDepth 20000 in
theorem ev_X2_countByFilling {G : Nat × (Nat → Int32) × Value} {p0a : Nat} {M : Mem} {r : Int32} (h : f_X2_countByFilling p0a M = some r) : Ev (roG G) false YX2_countByFilling 4 0 [.ref p0a] M (fun a b => a = wI r ∧ b = M) := by
  refine ev_of cyX2_countByFilling.2.2.2.2 (Nat.le_of_ble_eq_true rfl) ?_
  show Fr _ _ _ _ _ _ 0 [(0, .ref p0a)] [] M _
  unfold f_X2_countByFilling at h
  refine fr_iconst (v := 0) dX2_countByFilling_0 (by decide) ?_
  refine fr_istore_n (L' := [(0, .ref p0a), (1, .int 0)]) dX2_countByFilling_1 (by decide) rfl ?_
  refine fr_iconst (v := 0) dX2_countByFilling_2 (by decide) ?_
  refine fr_istore_n (L' := [(0, .ref p0a), (1, .int 0), (2, .int 0)]) dX2_countByFilling_3 (by decide) rfl ?_
  refine fr_iconst (v := 0) dX2_countByFilling_4 (by decide) ?_
  refine fr_istore_n (L' := [(0, .ref p0a), (1, .int 0), (2, .int 0), (3, .int 0)]) dX2_countByFilling_5 (by decide) rfl ?_
  obtain ⟨q8, eq8, h⟩ := ob h
  try dsimp only at h
  refine lp_X2_countByFilling_6_ok (by omega) 100 _ _ _ q8 eq8 (fun q8_1 q8_2 q8_3 e9 => ?_) (fun q8_r e9 => ?_)
  · subst e9
    try dsimp only at h
    refine fr_iload_n 2 dX2_countByFilling_45 rfl ?_
    obtain rfl := Option.some.inj h
    exact fr_iret rfl dX2_countByFilling_46 ⟨rfl, rfl⟩
  · subst e9
    try dsimp only at h
    obtain rfl := Option.some.inj h
    exact ⟨rfl, rfl⟩
def f_X10_groups (p0a : Nat) (M : Mem) : Option (Int32) := (gP M 10 p0a 0).bind fun p1 => (f_X2_countByFilling p1 M).bind fun r2 => some r2
set_option maxRecDepth 20000 in
theorem ev_X10_groups {G : Nat × (Nat → Int32) × Value} {p0a : Nat} {M : Mem} {r : Int32} (h : f_X10_groups p0a M = some r) : Ev (roG G) false YX10_groups 5 0 [.ref p0a] M (fun a b => a = wI r ∧ b = M) := by
  refine ev_of cyX10_groups.2.2.2.2 (Nat.le_of_ble_eq_true rfl) ?_
  show Fr _ _ _ _ _ _ 0 [(0, .ref p0a)] [] M _
  unfold f_X10_groups at h
  refine fr_aload_n 0 dX10_groups_0 rfl ?_
  obtain ⟨p1, ep1, h⟩ := ob h
  try dsimp only at h
  refine fr_gP cb10 0 (by decide) rfl w_227 dX10_groups_1 ep1 ?_
  obtain ⟨r2, er2, h⟩ := ob h
  try dsimp only at h
  refine fr_callS (g1 := false) (k2 := 0) (ev_X2_countByFilling er2) rfl cyX2_countByFilling w_973 w_974 (by rfl) (by omega) (by omega) (by rfl) (Nat.le_of_ble_eq_true rfl) dX10_groups_4 (Or.inl rfl) (fun v M9 q _ => ?_) (fun E M9 q _ => (Sum.inr_ne_inl q.1).elim)
  obtain rfl : v = some (.int r2) := Sum.inl.inj q.1
  obtain rfl := q.2.symm
  refine fr_st (S' := [.int r2]) rfl ?_
  obtain rfl := Option.some.inj h
  exact fr_iret rfl dX10_groups_7 ⟨rfl, rfl⟩
