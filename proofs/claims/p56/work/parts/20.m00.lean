/-! ===== methods, 0: X10_throwRefusal J9_min_7cf53 X3_keepPrepared X10_recorded X7_copyFrom X9_copyFrom X3_prepare X10_isCrease X9_hasSheet X9_tryAddCrease X10_addCrease L_addCrease X9_tryAddPaste X10_addPaste L_addPaste X10_isCode X10_isKind X7_begin ===== -/
def f_X10_throwRefusal (x0a : Int32) (M : Mem) : Option ((Unit ⊕ String)) := (if x0a = (-4) then (some (.inr "java/lang/UnsupportedOperationException")) else (if x0a = (-3) then (some (.inr "java/lang/IllegalStateException")) else (if x0a = (-2) then (some (.inr "java/lang/IllegalArgumentException")) else (if x0a = (-1) then (some (.inr "java/lang/IndexOutOfBoundsException")) else (some (.inr "java/util/NoSuchElementException"))))))
set_option maxRecDepth 20000 in
theorem ev_X10_throwRefusal {G : Nat × (Nat → Int32) × Value} {x0a : Int32} {M : Mem} {r : (Unit ⊕ String)} (h : f_X10_throwRefusal x0a M = some r) : Ev (roG G) false YX10_throwRefusal 7 1 [.int x0a] M (fun a b => a = (wE wU) r ∧ b = M) := by
  refine ev_of cyX10_throwRefusal.2.2.2.2 (Nat.le_of_ble_eq_true rfl) ?_
  show Fr _ _ _ _ _ _ 0 [(0, .int x0a)] [] M _
  unfold f_X10_throwRefusal at h
  refine fr_iload_n 0 dX10_throwRefusal_0 rfl ?_
  by_cases c1_0 : x0a = (-4)
  · rw [if_pos c1_0] at h
    refine fr_swIn (off := 64) 65 dX10_throwRefusal_1 (by rw [c1_0]; decide) (by rw [c1_0]; decide) (by rw [c1_0]; rfl) (by decide) ?_
    obtain rfl := Option.some.inj h
    exact fr_throwW (names := ["java/lang/RuntimeException", "java/lang/Exception"]) rfl thX10_309 w_432 w_29 (sa := ROB + 23) (show _ ∈ roS from List.mem_of_getElem? (i := 3) rfl) dX10_throwRefusal_65 dX10_throwRefusal_68 dX10_throwRefusal_69 dX10_throwRefusal_72 dX10_throwRefusal_75 (by omega) (by omega) (Nat.le_of_ble_eq_true rfl) ⟨rfl, rfl⟩
  rw [if_neg c1_0] at h
  by_cases c1_1 : x0a = (-3)
  · rw [if_pos c1_1] at h
    refine fr_swIn (off := 53) 54 dX10_throwRefusal_1 (by rw [c1_1]; decide) (by rw [c1_1]; decide) (by rw [c1_1]; rfl) (by decide) ?_
    obtain rfl := Option.some.inj h
    exact fr_throwW (names := ["java/lang/RuntimeException", "java/lang/Exception"]) rfl thX10_195 w_416 w_25 (sa := ROB + 22) (show _ ∈ roS from List.mem_of_getElem? (i := 2) rfl) dX10_throwRefusal_54 dX10_throwRefusal_57 dX10_throwRefusal_58 dX10_throwRefusal_61 dX10_throwRefusal_64 (by omega) (by omega) (Nat.le_of_ble_eq_true rfl) ⟨rfl, rfl⟩
  rw [if_neg c1_1] at h
  by_cases c1_2 : x0a = (-2)
  · rw [if_pos c1_2] at h
    refine fr_swIn (off := 42) 43 dX10_throwRefusal_1 (by rw [c1_2]; decide) (by rw [c1_2]; decide) (by rw [c1_2]; rfl) (by decide) ?_
    obtain rfl := Option.some.inj h
    exact fr_throwW (names := ["java/lang/RuntimeException", "java/lang/Exception"]) rfl thX10_187 w_400 w_28 (sa := ROB + 21) (show _ ∈ roS from List.mem_of_getElem? (i := 1) rfl) dX10_throwRefusal_43 dX10_throwRefusal_46 dX10_throwRefusal_47 dX10_throwRefusal_50 dX10_throwRefusal_53 (by omega) (by omega) (Nat.le_of_ble_eq_true rfl) ⟨rfl, rfl⟩
  rw [if_neg c1_2] at h
  by_cases c1_3 : x0a = (-1)
  · rw [if_pos c1_3] at h
    refine fr_swIn (off := 31) 32 dX10_throwRefusal_1 (by rw [c1_3]; decide) (by rw [c1_3]; decide) (by rw [c1_3]; rfl) (by decide) ?_
    obtain rfl := Option.some.inj h
    exact fr_throwW (names := ["java/lang/RuntimeException", "java/lang/Exception"]) rfl thX10_135 w_328 w_27 (sa := ROB + 20) (show _ ∈ roS from List.mem_of_getElem? (i := 0) rfl) dX10_throwRefusal_32 dX10_throwRefusal_35 dX10_throwRefusal_36 dX10_throwRefusal_39 dX10_throwRefusal_42 (by omega) (by omega) (Nat.le_of_ble_eq_true rfl) ⟨rfl, rfl⟩
  rw [if_neg c1_3] at h
  refine fr_swOut 76 dX10_throwRefusal_1 (sw_out (l := [(-4), (-3), (-2), (-1)]) (by decide) (by simp only [List.mem_cons, List.not_mem_nil, or_false, not_or]; exact ⟨c1_0, c1_1, c1_2, c1_3⟩)) (by decide) ?_
  obtain rfl := Option.some.inj h
  exact fr_throwWX rfl thX10_149 w_448 w_30 (sa := ROB + 24) (show _ ∈ roS from List.mem_of_getElem? (i := 4) rfl) dX10_throwRefusal_76 dX10_throwRefusal_79 dX10_throwRefusal_80 dX10_throwRefusal_83 dX10_throwRefusal_86 (by omega) (by omega) (Nat.le_of_ble_eq_true rfl) ⟨rfl, rfl⟩
def f_J9_min_7cf53 (x0a : Int32) (x1a : Int32) (M : Mem) : Option (Int32) := if x1a < x0a then (some x1a) else (some x0a)
set_option maxRecDepth 20000 in
theorem ev_J9_min_7cf53 {G : Nat × (Nat → Int32) × Value} {x0a : Int32} {x1a : Int32} {M : Mem} {r : Int32} (h : f_J9_min_7cf53 x0a x1a M = some r) : Ev (roG G) false YJ9_min_7cf53 0 0 [.int x0a, .int x1a] M (fun a b => a = wI r ∧ b = M) := by
  refine ev_of cyJ9_min_7cf53.2.2.2.2 (Nat.le_of_ble_eq_true rfl) ?_
  show Fr _ _ _ _ _ _ 0 [(0, .int x0a), (1, .int x1a)] [] M _
  unfold f_J9_min_7cf53 at h
  refine fr_iload_n 0 dJ9_min_7cf53_0 rfl ?_
  refine fr_iload_n 1 dJ9_min_7cf53_1 rfl ?_
  refine fr_icmp_gt 9 dJ9_min_7cf53_2 (by decide) (fun c1 => ?_) (fun c1 => ?_)
  · rw [if_pos c1] at h
    refine fr_iload_n 1 dJ9_min_7cf53_9 rfl ?_
    obtain rfl := Option.some.inj h
    exact fr_iret rfl dJ9_min_7cf53_10 ⟨rfl, rfl⟩
  · rw [if_neg c1] at h
    refine fr_iload_n 0 dJ9_min_7cf53_5 rfl ?_
    refine fr_goto 10 dJ9_min_7cf53_6 (by decide) ?_
    obtain rfl := Option.some.inj h
    exact fr_iret rfl dJ9_min_7cf53_10 ⟨rfl, rfl⟩
def f_X3_keepPrepared (p0a : Nat) (M : Mem) : Option (Unit × Mem) := (gI M 4 p0a 1).bind fun x1 => (sI M 4 p0a 1 .int ((x1 + 1) - (x1 + 1) / 9 * 9)).bind fun M3 => (gI M3 4 p0a 2).bind fun x4 => (f_J9_min_7cf53 8 (x4 + 1) M3).bind fun r5 => (sI M3 4 p0a 2 .int r5).bind fun M6 => some ((), M6)
set_option maxRecDepth 20000 in
theorem ev_X3_keepPrepared {G : Nat × (Nat → Int32) × Value} {p0a : Nat} {M : Mem} {r : Unit × Mem} (h : f_X3_keepPrepared p0a M = some r) : Ev (roG G) false YX3_keepPrepared 1 0 [.ref p0a] M (fun a b => a = wU r.1 ∧ b = r.2) := by
  refine ev_of cyX3_keepPrepared.2.2.2.2 (Nat.le_of_ble_eq_true rfl) ?_
  show Fr _ _ _ _ _ _ 0 [(0, .ref p0a)] [] M _
  unfold f_X3_keepPrepared at h
  refine fr_aload_n 0 dX3_keepPrepared_0 rfl ?_
  refine fr_aload_n 0 dX3_keepPrepared_1 rfl ?_
  obtain ⟨x1, ex1, h⟩ := ob h
  try dsimp only at h
  refine fr_gI cb4 1 (by decide) rfl w_157 dX3_keepPrepared_2 ex1 ?_
  refine fr_iconst (v := 1) dX3_keepPrepared_5 (by decide) ?_
  refine fr_iadd dX3_keepPrepared_6 ?_
  refine fr_bipush (v := 9) dX3_keepPrepared_7 (by decide) ?_
  refine fr_irem dX3_keepPrepared_9 (by decide) ?_
  obtain ⟨M3, eM3, h⟩ := ob h
  try dsimp only at h
  refine fr_sI cb4 1 (by decide) rfl rfl w_157 dX3_keepPrepared_10 eM3 ?_
  refine fr_aload_n 0 dX3_keepPrepared_13 rfl ?_
  refine fr_bipush (v := 8) dX3_keepPrepared_14 (by decide) ?_
  refine fr_aload_n 0 dX3_keepPrepared_16 rfl ?_
  obtain ⟨x4, ex4, h⟩ := ob h
  try dsimp only at h
  refine fr_gI cb4 2 (by decide) rfl w_158 dX3_keepPrepared_17 ex4 ?_
  refine fr_iconst (v := 1) dX3_keepPrepared_20 (by decide) ?_
  refine fr_iadd dX3_keepPrepared_21 ?_
  obtain ⟨r5, er5, h⟩ := ob h
  try dsimp only at h
  refine fr_callS (g1 := false) (k2 := 0) (ev_J9_min_7cf53 er5) rfl cyJ9_min_7cf53 w_468 w_469 (by rfl) (by omega) (by omega) (by rfl) (Nat.le_of_ble_eq_true rfl) dX3_keepPrepared_22 (Or.inl rfl) (fun v M9 q _ => ?_) (fun E M9 q _ => (Sum.inr_ne_inl q.1).elim)
  obtain rfl : v = some (.int r5) := Sum.inl.inj q.1
  obtain rfl := q.2.symm
  refine fr_st (S' := [.int r5, .ref p0a]) rfl ?_
  obtain ⟨M6, eM6, h⟩ := ob h
  try dsimp only at h
  refine fr_sI cb4 2 (by decide) rfl rfl w_158 dX3_keepPrepared_25 eM6 ?_
  obtain rfl := Option.some.inj h
  exact fr_vret rfl dX3_keepPrepared_28 ⟨rfl, rfl⟩
def f_X10_recorded (p0a : Nat) (x1a : Int32) (M : Mem) : Option ((Int32 ⊕ String) × Mem) := if 0 ≤ x1a then ((gP M 10 p0a 3).bind fun p2 => (rc M 4 p2).bind fun _ => (f_X3_keepPrepared p2 M).bind fun r3 => some ((.inl x1a), r3.2)) else ((f_X10_throwRefusal x1a M).bind fun r5 => (match r5 with | .inl r5v => ((gP M 10 p0a 3).bind fun p6 => (rc M 4 p6).bind fun _ => (f_X3_keepPrepared p6 M).bind fun r7 => some ((.inl x1a), r7.2)) | .inr r5E => (some ((.inr r5E), M))))
set_option maxRecDepth 20000 in
theorem ev_X10_recorded {G : Nat × (Nat → Int32) × Value} {p0a : Nat} {x1a : Int32} {M : Mem} {r : (Int32 ⊕ String) × Mem} (h : f_X10_recorded p0a x1a M = some r) : Ev (roG G) false YX10_recorded 8 1 [.ref p0a, .int x1a] M (fun a b => a = (wE wI) r.1 ∧ b = r.2) := by
  refine ev_of cyX10_recorded.2.2.2.2 (Nat.le_of_ble_eq_true rfl) ?_
  show Fr _ _ _ _ _ _ 0 [(0, .ref p0a), (1, .int x1a)] [] M _
  unfold f_X10_recorded at h
  refine fr_iload_n 1 dX10_recorded_0 rfl ?_
  refine fr_if_ge 8 dX10_recorded_1 (by decide) (fun c1 => ?_) (fun c1 => ?_)
  · rw [if_pos c1] at h
    refine fr_aload_n 0 dX10_recorded_8 rfl ?_
    obtain ⟨p2, ep2, h⟩ := ob h
    try dsimp only at h
    refine fr_gP cb10 3 (by decide) rfl w_230 dX10_recorded_9 ep2 ?_
    obtain ⟨u4, eu4, h⟩ := ob h
    try dsimp only at h
    obtain ⟨r3, er3, h⟩ := ob h
    try dsimp only at h
    refine fr_callV (g1 := false) (k2 := 1) (ev_X3_keepPrepared er3) rfl cyX3_keepPrepared w_464 w_465 w_466 (rc_ok eu4 rfl (by decide)) (by rfl) (by omega) (by omega) (by rfl) (Nat.le_of_ble_eq_true rfl) dX10_recorded_12 (Or.inl rfl) (fun v M9 q _ => ?_) (fun E M9 q _ => (Sum.inr_ne_inl q.1).elim)
    obtain rfl : v = none := Sum.inl.inj q.1
    obtain rfl := q.2.symm
    refine fr_st (S' := []) rfl ?_
    refine fr_iload_n 1 dX10_recorded_15 rfl ?_
    obtain rfl := Option.some.inj h
    exact fr_iret rfl dX10_recorded_16 ⟨rfl, rfl⟩
  · rw [if_neg c1] at h
    refine fr_iload_n 1 dX10_recorded_4 rfl ?_
    obtain ⟨r5, er5, h⟩ := ob h
    try dsimp only at h
    rcases r5 with r5v | r5E
    · try dsimp only at h
      refine fr_callS (g1 := false) (k2 := 0) (ev_X10_throwRefusal er5) rfl cyX10_throwRefusal w_325 w_326 (by rfl) (by omega) (by omega) (by rfl) (Nat.le_of_ble_eq_true rfl) dX10_recorded_5 (Or.inl rfl) (fun v M9 q _ => ?_) (fun E M9 q _ => (Sum.inr_ne_inl q.1).elim)
      obtain rfl : v = none := Sum.inl.inj q.1
      obtain rfl := q.2.symm
      refine fr_st (S' := []) rfl ?_
      refine fr_aload_n 0 dX10_recorded_8 rfl ?_
      obtain ⟨p6, ep6, h⟩ := ob h
      try dsimp only at h
      refine fr_gP cb10 3 (by decide) rfl w_230 dX10_recorded_9 ep6 ?_
      obtain ⟨u8, eu8, h⟩ := ob h
      try dsimp only at h
      obtain ⟨r7, er7, h⟩ := ob h
      try dsimp only at h
      refine fr_callV (g1 := false) (k2 := 0) (ev_X3_keepPrepared er7) rfl cyX3_keepPrepared w_464 w_465 w_466 (rc_ok eu8 rfl (by decide)) (by rfl) (by omega) (by omega) (by rfl) (Nat.le_of_ble_eq_true rfl) dX10_recorded_12 (Or.inl rfl) (fun v M9 q _ => ?_) (fun E M9 q _ => (Sum.inr_ne_inl q.1).elim)
      obtain rfl : v = none := Sum.inl.inj q.1
      obtain rfl := q.2.symm
      refine fr_st (S' := []) rfl ?_
      refine fr_iload_n 1 dX10_recorded_15 rfl ?_
      obtain rfl := Option.some.inj h
      exact fr_iret rfl dX10_recorded_16 ⟨rfl, rfl⟩
    · try dsimp only at h
      refine fr_callS (g1 := false) (k2 := 0) (ev_X10_throwRefusal er5) rfl cyX10_throwRefusal w_325 w_326 (by rfl) (by omega) (by omega) (by rfl) (Nat.le_of_ble_eq_true rfl) dX10_recorded_5 (Or.inl rfl) (fun v M9 q _ => (Sum.inl_ne_inr q.1).elim) (fun E M9 q _ => ?_)
      obtain rfl : r5E = E := (Sum.inr.inj q.1).symm
      obtain rfl := q.2.symm
      obtain rfl := Option.some.inj h
      exact fx_no rfl ⟨rfl, rfl⟩
def f_X7_copyFrom (p0a : Nat) (p1a : Nat) (M : Mem) : Option (Unit × Mem) := (gP M 7 p1a 0).bind fun p1 => (gP M 7 p0a 0).bind fun p2 => (cpy M 100 p1 p2 .int 0 0 4).bind fun M3 => (gP M3 7 p1a 1).bind fun p4 => (gP M3 7 p0a 1).bind fun p5 => (cpy M3 101 p4 p5 .char 0 0 6).bind fun M6 => (gI M6 7 p1a 2).bind fun x7 => (sI M6 7 p0a 2 .char x7).bind fun M8 => (gI M8 7 p1a 3).bind fun x9 => (sI M8 7 p0a 3 .int x9).bind fun M10 => (gI M10 7 p1a 4).bind fun x11 => (sI M10 7 p0a 4 .int x11).bind fun M12 => (gI M12 7 p1a 5).bind fun x13 => (sI M12 7 p0a 5 .boolean x13).bind fun M14 => (gI M14 7 p1a 6).bind fun x15 => (sI M14 7 p0a 6 .int x15).bind fun M16 => (gI M16 7 p1a 7).bind fun x17 => (sI M16 7 p0a 7 .int x17).bind fun M18 => some ((), M18)
set_option maxRecDepth 20000 in
theorem ev_X7_copyFrom {G : Nat × (Nat → Int32) × Value} {p0a : Nat} {p1a : Nat} {M : Mem} {r : Unit × Mem} (h : f_X7_copyFrom p0a p1a M = some r) : Ev (roG G) false YX7_copyFrom 1 0 [.ref p0a, .ref p1a] M (fun a b => a = wU r.1 ∧ b = r.2) := by
  refine ev_of cyX7_copyFrom.2.2.2.2 (Nat.le_of_ble_eq_true rfl) ?_
  show Fr _ _ _ _ _ _ 0 [(0, .ref p0a), (1, .ref p1a)] [] M _
  unfold f_X7_copyFrom at h
  refine fr_aload_n 1 dX7_copyFrom_0 rfl ?_
  obtain ⟨p1, ep1, h⟩ := ob h
  try dsimp only at h
  refine fr_gP cb7 0 (by decide) rfl w_71 dX7_copyFrom_1 ep1 ?_
  refine fr_iconst (v := 0) dX7_copyFrom_4 (by decide) ?_
  refine fr_aload_n 0 dX7_copyFrom_5 rfl ?_
  obtain ⟨p2, ep2, h⟩ := ob h
  try dsimp only at h
  refine fr_gP cb7 0 (by decide) rfl w_71 dX7_copyFrom_6 ep2 ?_
  refine fr_iconst (v := 0) dX7_copyFrom_9 (by decide) ?_
  refine fr_iconst (v := 4) dX7_copyFrom_10 (by decide) ?_
  obtain ⟨M3, eM3, h⟩ := ob h
  try dsimp only at h
  refine fr_cpy 0 (t := 100) rfl (by decide) (by decide) rfl w_286 w_288 w_287 w_26 (by omega) (Nat.le_of_ble_eq_true rfl) dX7_copyFrom_11 eM3 ?_
  refine fr_aload_n 1 dX7_copyFrom_14 rfl ?_
  obtain ⟨p4, ep4, h⟩ := ob h
  try dsimp only at h
  refine fr_gP cb7 1 (by decide) rfl w_72 dX7_copyFrom_15 ep4 ?_
  refine fr_iconst (v := 0) dX7_copyFrom_18 (by decide) ?_
  refine fr_aload_n 0 dX7_copyFrom_19 rfl ?_
  obtain ⟨p5, ep5, h⟩ := ob h
  try dsimp only at h
  refine fr_gP cb7 1 (by decide) rfl w_72 dX7_copyFrom_20 ep5 ?_
  refine fr_iconst (v := 0) dX7_copyFrom_23 (by decide) ?_
  refine fr_bipush (v := 6) dX7_copyFrom_24 (by decide) ?_
  obtain ⟨M6, eM6, h⟩ := ob h
  try dsimp only at h
  refine fr_cpy 1 (t := 101) rfl (by decide) (by decide) rfl w_286 w_288 w_287 w_26 (by omega) (Nat.le_of_ble_eq_true rfl) dX7_copyFrom_26 eM6 ?_
  refine fr_aload_n 0 dX7_copyFrom_29 rfl ?_
  refine fr_aload_n 1 dX7_copyFrom_30 rfl ?_
  obtain ⟨x7, ex7, h⟩ := ob h
  try dsimp only at h
  refine fr_gI cb7 2 (by decide) rfl w_77 dX7_copyFrom_31 ex7 ?_
  obtain ⟨M8, eM8, h⟩ := ob h
  try dsimp only at h
  refine fr_sI cb7 2 (by decide) rfl rfl w_77 dX7_copyFrom_34 eM8 ?_
  refine fr_aload_n 0 dX7_copyFrom_37 rfl ?_
  refine fr_aload_n 1 dX7_copyFrom_38 rfl ?_
  obtain ⟨x9, ex9, h⟩ := ob h
  try dsimp only at h
  refine fr_gI cb7 3 (by decide) rfl w_84 dX7_copyFrom_39 ex9 ?_
  obtain ⟨M10, eM10, h⟩ := ob h
  try dsimp only at h
  refine fr_sI cb7 3 (by decide) rfl rfl w_84 dX7_copyFrom_42 eM10 ?_
  refine fr_aload_n 0 dX7_copyFrom_45 rfl ?_
  refine fr_aload_n 1 dX7_copyFrom_46 rfl ?_
  obtain ⟨x11, ex11, h⟩ := ob h
  try dsimp only at h
  refine fr_gI cb7 4 (by decide) rfl w_87 dX7_copyFrom_47 ex11 ?_
  obtain ⟨M12, eM12, h⟩ := ob h
  try dsimp only at h
  refine fr_sI cb7 4 (by decide) rfl rfl w_87 dX7_copyFrom_50 eM12 ?_
  refine fr_aload_n 0 dX7_copyFrom_53 rfl ?_
  refine fr_aload_n 1 dX7_copyFrom_54 rfl ?_
  obtain ⟨x13, ex13, h⟩ := ob h
  try dsimp only at h
  refine fr_gI cb7 5 (by decide) rfl w_91 dX7_copyFrom_55 ex13 ?_
  obtain ⟨M14, eM14, h⟩ := ob h
  try dsimp only at h
  refine fr_sI cb7 5 (by decide) rfl rfl w_91 dX7_copyFrom_58 eM14 ?_
  refine fr_aload_n 0 dX7_copyFrom_61 rfl ?_
  refine fr_aload_n 1 dX7_copyFrom_62 rfl ?_
  obtain ⟨x15, ex15, h⟩ := ob h
  try dsimp only at h
  refine fr_gI cb7 6 (by decide) rfl w_95 dX7_copyFrom_63 ex15 ?_
  obtain ⟨M16, eM16, h⟩ := ob h
  try dsimp only at h
  refine fr_sI cb7 6 (by decide) rfl rfl w_95 dX7_copyFrom_66 eM16 ?_
  refine fr_aload_n 0 dX7_copyFrom_69 rfl ?_
  refine fr_aload_n 1 dX7_copyFrom_70 rfl ?_
  obtain ⟨x17, ex17, h⟩ := ob h
  try dsimp only at h
  refine fr_gI cb7 7 (by decide) rfl w_99 dX7_copyFrom_71 ex17 ?_
  obtain ⟨M18, eM18, h⟩ := ob h
  try dsimp only at h
  refine fr_sI cb7 7 (by decide) rfl rfl w_99 dX7_copyFrom_74 eM18 ?_
  obtain rfl := Option.some.inj h
  exact fr_vret rfl dX7_copyFrom_77 ⟨rfl, rfl⟩
def lp_X9_copyFrom_2 (p_0 : Nat) (p_1 : Nat) : Nat → Int32 → Mem → Option ((Int32 × Mem) ⊕ (Unit × Mem))
  | 0, _, _ => none
  | n + 1, x_2, M_ => if 9 ≤ x_2 then (some (.inl (x_2, M_))) else ((gP M_ 9 p_0 0).bind fun p2 => (aP M_ 120 p2 x_2).bind fun p3 => (gP M_ 9 p_1 0).bind fun p4 => (aP M_ 120 p4 x_2).bind fun p5 => (rc M_ 7 p3).bind fun _ => (f_X7_copyFrom p3 p5 M_).bind fun r6 => lp_X9_copyFrom_2 p_0 p_1 n (x_2 + 1) r6.2)
def f_X9_copyFrom (p0a : Nat) (p1a : Nat) (M : Mem) : Option (Unit × Mem) := ((lp_X9_copyFrom_2 p0a p1a 100 0 M).bind fun q8 => match q8 with | .inl (q8_2, q8_M) => ((gP q8_M 9 p1a 1).bind fun p9 => (gP q8_M 9 p0a 1).bind fun p10 => (cpy q8_M 100 p9 p10 .int 0 0 9).bind fun M11 => (gI M11 9 p1a 2).bind fun x12 => (sI M11 9 p0a 2 .int x12).bind fun M13 => (gI M13 9 p1a 3).bind fun x14 => (sI M13 9 p0a 3 .int x14).bind fun M15 => (gI M15 9 p1a 4).bind fun x16 => (sI M15 9 p0a 4 .int x16).bind fun M17 => (gI M17 9 p1a 5).bind fun x18 => (sI M17 9 p0a 5 .int x18).bind fun M19 => some ((), M19)) | .inr q8_r => some q8_r)
set_option maxRecDepth 20000 in
theorem lp_X9_copyFrom_2_ok {G : Nat × (Nat → Int32) × Value} {P : Res → Mem → Prop} {n0 d ke : Nat} {p_0 : Nat} {p_1 : Nat} (hd : 2 ≤ d) : ∀ (n : Nat) (x_2 : Int32) (M_ : Mem) (res : (Int32 × Mem) ⊕ (Unit × Mem)), lp_X9_copyFrom_2 p_0 p_1 n x_2 M_ = some res → (∀ (y_2 : Int32) (M9 : Mem), res = .inl (y_2, M9) → Fr (roG G) false n0 YX9_copyFrom d ke 29 [(0, .ref p_0), (1, .ref p_1), (2, .int y_2)] [] M9 P) → (∀ r : Unit × Mem, res = .inr r → P (wU r.1) r.2) → Fr (roG G) false n0 YX9_copyFrom d ke 2 [(0, .ref p_0), (1, .ref p_1), (2, .int x_2)] [] M_ P := by
  intro n
  induction n with
  | zero => intro x_2 M_ res h; unfold lp_X9_copyFrom_2 at h; cases h
  | succ n ih =>
    intro x_2 M_ res h he hr
    unfold lp_X9_copyFrom_2 at h
    refine fr_iload_n 2 dX9_copyFrom_2 rfl ?_
    refine fr_bipush (v := 9) dX9_copyFrom_3 (by decide) ?_
    refine fr_icmp_ge 29 dX9_copyFrom_5 (by decide) (fun c1 => ?_) (fun c1 => ?_)
    · rw [if_pos c1] at h
      obtain rfl := Option.some.inj h
      exact he _ _ rfl
    · rw [if_neg c1] at h
      refine fr_aload_n 0 dX9_copyFrom_8 rfl ?_
      obtain ⟨p2, ep2, h⟩ := ob h
      try dsimp only at h
      refine fr_gP cb9 0 (by decide) rfl w_121 dX9_copyFrom_9 ep2 ?_
      refine fr_iload_n 2 dX9_copyFrom_12 rfl ?_
      obtain ⟨p3, ep3, h⟩ := ob h
      try dsimp only at h
      refine fr_aP (t := 120) (by decide) ep3 dX9_copyFrom_13 ?_
      refine fr_aload_n 1 dX9_copyFrom_14 rfl ?_
      obtain ⟨p4, ep4, h⟩ := ob h
      try dsimp only at h
      refine fr_gP cb9 0 (by decide) rfl w_121 dX9_copyFrom_15 ep4 ?_
      refine fr_iload_n 2 dX9_copyFrom_18 rfl ?_
      obtain ⟨p5, ep5, h⟩ := ob h
      try dsimp only at h
      refine fr_aP (t := 120) (by decide) ep5 dX9_copyFrom_19 ?_
      obtain ⟨u7, eu7, h⟩ := ob h
      try dsimp only at h
      obtain ⟨r6, er6, h⟩ := ob h
      try dsimp only at h
      refine fr_callV (g1 := false) (k2 := ke) (ev_X7_copyFrom er6) rfl cyX7_copyFrom w_282 w_283 w_284 (rc_ok eu7 rfl (by decide)) (by rfl) (by omega) (by omega) (by rfl) (Nat.le_of_ble_eq_true rfl) dX9_copyFrom_20 (Or.inl rfl) (fun v M9 q _ => ?_) (fun E M9 q _ => (Sum.inr_ne_inl q.1).elim)
      obtain rfl : v = none := Sum.inl.inj q.1
      obtain rfl := q.2.symm
      refine fr_st (S' := []) rfl ?_
      refine fr_iinc (v := (x_2 + 1)) (L' := [(0, .ref p_0), (1, .ref p_1), (2, .int (x_2 + 1))]) 2 dX9_copyFrom_23 rfl rfl (by decide) rfl ?_
      refine fr_goto 2 dX9_copyFrom_26 (by decide) ?_
      exact ih _ _ _ h he hr
set_option maxRecDepth 20000 in
theorem ev_X9_copyFrom {G : Nat × (Nat → Int32) × Value} {p0a : Nat} {p1a : Nat} {M : Mem} {r : Unit × Mem} (h : f_X9_copyFrom p0a p1a M = some r) : Ev (roG G) false YX9_copyFrom 2 0 [.ref p0a, .ref p1a] M (fun a b => a = wU r.1 ∧ b = r.2) := by
  refine ev_of cyX9_copyFrom.2.2.2.2 (Nat.le_of_ble_eq_true rfl) ?_
  show Fr _ _ _ _ _ _ 0 [(0, .ref p0a), (1, .ref p1a)] [] M _
  unfold f_X9_copyFrom at h
  refine fr_iconst (v := 0) dX9_copyFrom_0 (by decide) ?_
  refine fr_istore_n (L' := [(0, .ref p0a), (1, .ref p1a), (2, .int 0)]) dX9_copyFrom_1 (by decide) rfl ?_
  obtain ⟨q8, eq8, h⟩ := ob h
  try dsimp only at h
  refine lp_X9_copyFrom_2_ok (by omega) 100 _ _ q8 eq8 (fun q8_2 q8_M e9 => ?_) (fun q8_r e9 => ?_)
  · subst e9
    try dsimp only at h
    refine fr_aload_n 1 dX9_copyFrom_29 rfl ?_
    obtain ⟨p9, ep9, h⟩ := ob h
    try dsimp only at h
    refine fr_gP cb9 1 (by decide) rfl w_123 dX9_copyFrom_30 ep9 ?_
    refine fr_iconst (v := 0) dX9_copyFrom_33 (by decide) ?_
    refine fr_aload_n 0 dX9_copyFrom_34 rfl ?_
    obtain ⟨p10, ep10, h⟩ := ob h
    try dsimp only at h
    refine fr_gP cb9 1 (by decide) rfl w_123 dX9_copyFrom_35 ep10 ?_
    refine fr_iconst (v := 0) dX9_copyFrom_38 (by decide) ?_
    refine fr_bipush (v := 9) dX9_copyFrom_39 (by decide) ?_
    obtain ⟨M11, eM11, h⟩ := ob h
    try dsimp only at h
    refine fr_cpy 0 (t := 100) rfl (by decide) (by decide) rfl w_289 w_288 w_287 w_26 (by omega) (Nat.le_of_ble_eq_true rfl) dX9_copyFrom_41 eM11 ?_
    refine fr_aload_n 0 dX9_copyFrom_44 rfl ?_
    refine fr_aload_n 1 dX9_copyFrom_45 rfl ?_
    obtain ⟨x12, ex12, h⟩ := ob h
    try dsimp only at h
    refine fr_gI cb9 2 (by decide) rfl w_126 dX9_copyFrom_46 ex12 ?_
    obtain ⟨M13, eM13, h⟩ := ob h
    try dsimp only at h
    refine fr_sI cb9 2 (by decide) rfl rfl w_126 dX9_copyFrom_49 eM13 ?_
    refine fr_aload_n 0 dX9_copyFrom_52 rfl ?_
    refine fr_aload_n 1 dX9_copyFrom_53 rfl ?_
    obtain ⟨x14, ex14, h⟩ := ob h
    try dsimp only at h
    refine fr_gI cb9 3 (by decide) rfl w_128 dX9_copyFrom_54 ex14 ?_
    obtain ⟨M15, eM15, h⟩ := ob h
    try dsimp only at h
    refine fr_sI cb9 3 (by decide) rfl rfl w_128 dX9_copyFrom_57 eM15 ?_
    refine fr_aload_n 0 dX9_copyFrom_60 rfl ?_
    refine fr_aload_n 1 dX9_copyFrom_61 rfl ?_
    obtain ⟨x16, ex16, h⟩ := ob h
    try dsimp only at h
    refine fr_gI cb9 4 (by decide) rfl w_130 dX9_copyFrom_62 ex16 ?_
    obtain ⟨M17, eM17, h⟩ := ob h
    try dsimp only at h
    refine fr_sI cb9 4 (by decide) rfl rfl w_130 dX9_copyFrom_65 eM17 ?_
    refine fr_aload_n 0 dX9_copyFrom_68 rfl ?_
    refine fr_aload_n 1 dX9_copyFrom_69 rfl ?_
    obtain ⟨x18, ex18, h⟩ := ob h
    try dsimp only at h
    refine fr_gI cb9 5 (by decide) rfl w_132 dX9_copyFrom_70 ex18 ?_
    obtain ⟨M19, eM19, h⟩ := ob h
    try dsimp only at h
    refine fr_sI cb9 5 (by decide) rfl rfl w_132 dX9_copyFrom_73 eM19 ?_
    obtain rfl := Option.some.inj h
    exact fr_vret rfl dX9_copyFrom_76 ⟨rfl, rfl⟩
  · subst e9
    try dsimp only at h
    obtain rfl := Option.some.inj h
    exact ⟨rfl, rfl⟩
def f_X3_prepare (p0a : Nat) (p1a : Nat) (M : Mem) : Option (Unit × Mem) := (gP M 4 p0a 0).bind fun p1 => (gI M 4 p0a 1).bind fun x2 => (aP M 121 p1 x2).bind fun p3 => (rc M 9 p3).bind fun _ => (f_X9_copyFrom p3 p1a M).bind fun r4 => some ((), r4.2)
set_option maxRecDepth 20000 in
theorem ev_X3_prepare {G : Nat × (Nat → Int32) × Value} {p0a : Nat} {p1a : Nat} {M : Mem} {r : Unit × Mem} (h : f_X3_prepare p0a p1a M = some r) : Ev (roG G) false YX3_prepare 3 0 [.ref p0a, .ref p1a] M (fun a b => a = wU r.1 ∧ b = r.2) := by
  refine ev_of cyX3_prepare.2.2.2.2 (Nat.le_of_ble_eq_true rfl) ?_
  show Fr _ _ _ _ _ _ 0 [(0, .ref p0a), (1, .ref p1a)] [] M _
  unfold f_X3_prepare at h
  refine fr_aload_n 0 dX3_prepare_0 rfl ?_
  obtain ⟨p1, ep1, h⟩ := ob h
  try dsimp only at h
  refine fr_gP cb4 0 (by decide) rfl w_156 dX3_prepare_1 ep1 ?_
  refine fr_aload_n 0 dX3_prepare_4 rfl ?_
  obtain ⟨x2, ex2, h⟩ := ob h
  try dsimp only at h
  refine fr_gI cb4 1 (by decide) rfl w_157 dX3_prepare_5 ex2 ?_
  obtain ⟨p3, ep3, h⟩ := ob h
  try dsimp only at h
  refine fr_aP (t := 121) (by decide) ep3 dX3_prepare_8 ?_
  refine fr_aload_n 1 dX3_prepare_9 rfl ?_
  obtain ⟨u5, eu5, h⟩ := ob h
  try dsimp only at h
  obtain ⟨r4, er4, h⟩ := ob h
  try dsimp only at h
  refine fr_callV (g1 := false) (k2 := 0) (ev_X9_copyFrom er4) rfl cyX9_copyFrom w_306 w_279 w_280 (rc_ok eu5 rfl (by decide)) (by rfl) (by omega) (by omega) (by rfl) (Nat.le_of_ble_eq_true rfl) dX3_prepare_10 (Or.inl rfl) (fun v M9 q _ => ?_) (fun E M9 q _ => (Sum.inr_ne_inl q.1).elim)
  obtain rfl : v = none := Sum.inl.inj q.1
  obtain rfl := q.2.symm
  refine fr_st (S' := []) rfl ?_
  obtain rfl := Option.some.inj h
  exact fr_vret rfl dX3_prepare_13 ⟨rfl, rfl⟩
def f_X10_isCrease (x0a : Int32) (M : Mem) : Option (Int32) := if x0a = 118 then (some 1) else (if x0a = 109 then (some 1) else (some 0))
set_option maxRecDepth 20000 in
theorem ev_X10_isCrease {G : Nat × (Nat → Int32) × Value} {x0a : Int32} {M : Mem} {r : Int32} (h : f_X10_isCrease x0a M = some r) : Ev (roG G) false YX10_isCrease 0 0 [.int x0a] M (fun a b => a = wI r ∧ b = M) := by
  refine ev_of cyX10_isCrease.2.2.2.2 (Nat.le_of_ble_eq_true rfl) ?_
  show Fr _ _ _ _ _ _ 0 [(0, .int x0a)] [] M _
  unfold f_X10_isCrease at h
  refine fr_iload_n 0 dX10_isCrease_0 rfl ?_
  refine fr_bipush (v := 118) dX10_isCrease_1 (by decide) ?_
  refine fr_icmp_eq 12 dX10_isCrease_3 (by decide) (fun c1 => ?_) (fun c1 => ?_)
  · rw [if_pos c1] at h
    refine fr_iconst (v := 1) dX10_isCrease_12 (by decide) ?_
    refine fr_goto 17 dX10_isCrease_13 (by decide) ?_
    obtain rfl := Option.some.inj h
    exact fr_zret (ty := .boolean) rfl rfl dX10_isCrease_17 ⟨rfl, rfl⟩
  · rw [if_neg c1] at h
    refine fr_iload_n 0 dX10_isCrease_6 rfl ?_
    refine fr_bipush (v := 109) dX10_isCrease_7 (by decide) ?_
    refine fr_icmp_ne 16 dX10_isCrease_9 (by decide) (fun c2 => ?_) (fun c2 => ?_)
    · rw [if_neg c2] at h
      refine fr_iconst (v := 0) dX10_isCrease_16 (by decide) ?_
      obtain rfl := Option.some.inj h
      exact fr_zret (ty := .boolean) rfl rfl dX10_isCrease_17 ⟨rfl, rfl⟩
    · rw [if_pos c2] at h
      refine fr_iconst (v := 1) dX10_isCrease_12 (by decide) ?_
      refine fr_goto 17 dX10_isCrease_13 (by decide) ?_
      obtain rfl := Option.some.inj h
      exact fr_zret (ty := .boolean) rfl rfl dX10_isCrease_17 ⟨rfl, rfl⟩
def f_X9_hasSheet (p0a : Nat) (x1a : Int32) (M : Mem) : Option (Int32) := if x1a < 0 then (some 0) else ((gI M 9 p0a 2).bind fun x2 => if x2 ≤ x1a then (some 0) else (some 1))
set_option maxRecDepth 20000 in
theorem ev_X9_hasSheet {G : Nat × (Nat → Int32) × Value} {p0a : Nat} {x1a : Int32} {M : Mem} {r : Int32} (h : f_X9_hasSheet p0a x1a M = some r) : Ev (roG G) false YX9_hasSheet 0 0 [.ref p0a, .int x1a] M (fun a b => a = wI r ∧ b = M) := by
  refine ev_of cyX9_hasSheet.2.2.2.2 (Nat.le_of_ble_eq_true rfl) ?_
  show Fr _ _ _ _ _ _ 0 [(0, .ref p0a), (1, .int x1a)] [] M _
  unfold f_X9_hasSheet at h
  refine fr_iload_n 1 dX9_hasSheet_0 rfl ?_
  refine fr_if_lt 16 dX9_hasSheet_1 (by decide) (fun c1 => ?_) (fun c1 => ?_)
  · rw [if_pos c1] at h
    refine fr_iconst (v := 0) dX9_hasSheet_16 (by decide) ?_
    obtain rfl := Option.some.inj h
    exact fr_zret (ty := .boolean) rfl rfl dX9_hasSheet_17 ⟨rfl, rfl⟩
  · rw [if_neg c1] at h
    refine fr_iload_n 1 dX9_hasSheet_4 rfl ?_
    refine fr_aload_n 0 dX9_hasSheet_5 rfl ?_
    obtain ⟨x2, ex2, h⟩ := ob h
    try dsimp only at h
    refine fr_gI cb9 2 (by decide) rfl w_126 dX9_hasSheet_6 ex2 ?_
    refine fr_icmp_ge 16 dX9_hasSheet_9 (by decide) (fun c3 => ?_) (fun c3 => ?_)
    · rw [if_pos c3] at h
      refine fr_iconst (v := 0) dX9_hasSheet_16 (by decide) ?_
      obtain rfl := Option.some.inj h
      exact fr_zret (ty := .boolean) rfl rfl dX9_hasSheet_17 ⟨rfl, rfl⟩
    · rw [if_neg c3] at h
      refine fr_iconst (v := 1) dX9_hasSheet_12 (by decide) ?_
      refine fr_goto 17 dX9_hasSheet_13 (by decide) ?_
      obtain rfl := Option.some.inj h
      exact fr_zret (ty := .boolean) rfl rfl dX9_hasSheet_17 ⟨rfl, rfl⟩
def f_X9_tryAddCrease (p0a : Nat) (x1a : Int32) (x2a : Int32) (M : Mem) : Option (Int32 × Mem) := (rc M 9 p0a).bind fun _ => (f_X9_hasSheet p0a x1a M).bind fun r1 => if r1 = 0 then (some ((-1), M)) else ((f_X10_isCrease x2a M).bind fun r4 => if r4 = 0 then (some ((-2), M)) else ((gP M 9 p0a 0).bind fun p6 => (aP M 120 p6 x1a).bind fun p7 => (gI M 7 p7 3).bind fun x8 => if 6 ≤ x8 then (some ((-3), M)) else ((gI M 7 p7 5).bind fun x10 => if x10 = 0 then ((gP M 7 p7 1).bind fun p12 => (gI M 7 p7 3).bind fun x13 => (asC M p12 x13 x2a).bind fun M14 => (gI M14 7 p7 3).bind fun x15 => (sI M14 7 p7 3 .int (x15 + 1)).bind fun M16 => (gI M16 7 p7 3).bind fun x17 => some (x17, M16)) else (some ((-3), M)))))
set_option maxRecDepth 20000 in
theorem ev_X9_tryAddCrease {G : Nat × (Nat → Int32) × Value} {p0a : Nat} {x1a : Int32} {x2a : Int32} {M : Mem} {r : Int32 × Mem} (h : f_X9_tryAddCrease p0a x1a x2a M = some r) : Ev (roG G) false YX9_tryAddCrease 1 0 [.ref p0a, .int x1a, .int x2a] M (fun a b => a = wI r.1 ∧ b = r.2) := by
  refine ev_of cyX9_tryAddCrease.2.2.2.2 (Nat.le_of_ble_eq_true rfl) ?_
  show Fr _ _ _ _ _ _ 0 [(0, .ref p0a), (1, .int x1a), (2, .int x2a)] [] M _
  unfold f_X9_tryAddCrease at h
  refine fr_aload_n 0 dX9_tryAddCrease_0 rfl ?_
  refine fr_iload_n 1 dX9_tryAddCrease_1 rfl ?_
  obtain ⟨u2, eu2, h⟩ := ob h
  try dsimp only at h
  obtain ⟨r1, er1, h⟩ := ob h
  try dsimp only at h
  refine fr_callV (g1 := false) (k2 := 0) (ev_X9_hasSheet er1) rfl cyX9_hasSheet w_503 w_504 w_505 (rc_ok eu2 rfl (by decide)) (by rfl) (by omega) (by omega) (by rfl) (Nat.le_of_ble_eq_true rfl) dX9_tryAddCrease_2 (Or.inl rfl) (fun v M9 q _ => ?_) (fun E M9 q _ => (Sum.inr_ne_inl q.1).elim)
  obtain rfl : v = some (.int r1) := Sum.inl.inj q.1
  obtain rfl := q.2.symm
  refine fr_st (S' := [.int r1]) rfl ?_
  refine fr_if_ne 10 dX9_tryAddCrease_5 (by decide) (fun c3 => ?_) (fun c3 => ?_)
  · rw [if_neg c3] at h
    refine fr_iload_n 2 dX9_tryAddCrease_10 rfl ?_
    obtain ⟨r4, er4, h⟩ := ob h
    try dsimp only at h
    refine fr_callSN (g1 := false) (k2 := 0) "MapHall" (ev_X10_isCrease er4) rfl cyX10_isCrease (show _ ∈ roM from List.mem_of_getElem? (i := 7) rfl) w_508 (by rfl) (by omega) (by omega) (by rfl) (Nat.le_of_ble_eq_true rfl) dX9_tryAddCrease_11 (Or.inl rfl) (fun v M9 q _ => ?_) (fun E M9 q _ => (Sum.inr_ne_inl q.1).elim)
    obtain rfl : v = some (.int r4) := Sum.inl.inj q.1
    obtain rfl := q.2.symm
    refine fr_st (S' := [.int r4]) rfl ?_
    refine fr_if_ne 20 dX9_tryAddCrease_14 (by decide) (fun c5 => ?_) (fun c5 => ?_)
    · rw [if_neg c5] at h
      refine fr_aload_n 0 dX9_tryAddCrease_20 rfl ?_
      obtain ⟨p6, ep6, h⟩ := ob h
      try dsimp only at h
      refine fr_gP cb9 0 (by decide) rfl w_121 dX9_tryAddCrease_21 ep6 ?_
      refine fr_iload_n 1 dX9_tryAddCrease_24 rfl ?_
      obtain ⟨p7, ep7, h⟩ := ob h
      try dsimp only at h
      refine fr_aP (t := 120) (by decide) ep7 dX9_tryAddCrease_25 ?_
      refine fr_astore_n (L' := [(0, .ref p0a), (1, .int x1a), (2, .int x2a), (3, .ref p7)]) dX9_tryAddCrease_26 (by decide) rfl ?_
      refine fr_aload_n 3 dX9_tryAddCrease_27 rfl ?_
      obtain ⟨x8, ex8, h⟩ := ob h
      try dsimp only at h
      refine fr_gI cb7 3 (by decide) rfl w_85 dX9_tryAddCrease_28 ex8 ?_
      refine fr_bipush (v := 6) dX9_tryAddCrease_31 (by decide) ?_
      refine fr_icmp_ge 43 dX9_tryAddCrease_33 (by decide) (fun c9 => ?_) (fun c9 => ?_)
      · rw [if_pos c9] at h
        refine fr_bipush (v := (-3)) dX9_tryAddCrease_43 (by decide) ?_
        obtain rfl := Option.some.inj h
        exact fr_iret rfl dX9_tryAddCrease_45 ⟨rfl, rfl⟩
      · rw [if_neg c9] at h
        refine fr_aload_n 3 dX9_tryAddCrease_36 rfl ?_
        obtain ⟨x10, ex10, h⟩ := ob h
        try dsimp only at h
        refine fr_gI cb7 5 (by decide) rfl w_93 dX9_tryAddCrease_37 ex10 ?_
        refine fr_if_eq 46 dX9_tryAddCrease_40 (by decide) (fun c11 => ?_) (fun c11 => ?_)
        · rw [if_pos c11] at h
          refine fr_aload_n 3 dX9_tryAddCrease_46 rfl ?_
          obtain ⟨p12, ep12, h⟩ := ob h
          try dsimp only at h
          refine fr_gP cb7 1 (by decide) rfl w_74 dX9_tryAddCrease_47 ep12 ?_
          refine fr_aload_n 3 dX9_tryAddCrease_50 rfl ?_
          obtain ⟨x13, ex13, h⟩ := ob h
          try dsimp only at h
          refine fr_gI cb7 3 (by decide) rfl w_85 dX9_tryAddCrease_51 ex13 ?_
          refine fr_iload_n 2 dX9_tryAddCrease_54 rfl ?_
          obtain ⟨M14, eM14, h⟩ := ob h
          try dsimp only at h
          refine fr_asC eM14 dX9_tryAddCrease_55 ?_
          refine fr_aload_n 3 dX9_tryAddCrease_56 rfl ?_
          refine fr_dup dX9_tryAddCrease_57 rfl ?_
          obtain ⟨x15, ex15, h⟩ := ob h
          try dsimp only at h
          refine fr_gI cb7 3 (by decide) rfl w_85 dX9_tryAddCrease_58 ex15 ?_
          refine fr_iconst (v := 1) dX9_tryAddCrease_61 (by decide) ?_
          refine fr_iadd dX9_tryAddCrease_62 ?_
          obtain ⟨M16, eM16, h⟩ := ob h
          try dsimp only at h
          refine fr_sI cb7 3 (by decide) rfl rfl w_85 dX9_tryAddCrease_63 eM16 ?_
          refine fr_aload_n 3 dX9_tryAddCrease_66 rfl ?_
          obtain ⟨x17, ex17, h⟩ := ob h
          try dsimp only at h
          refine fr_gI cb7 3 (by decide) rfl w_85 dX9_tryAddCrease_67 ex17 ?_
          obtain rfl := Option.some.inj h
          exact fr_iret rfl dX9_tryAddCrease_70 ⟨rfl, rfl⟩
        · rw [if_neg c11] at h
          refine fr_bipush (v := (-3)) dX9_tryAddCrease_43 (by decide) ?_
          obtain rfl := Option.some.inj h
          exact fr_iret rfl dX9_tryAddCrease_45 ⟨rfl, rfl⟩
    · rw [if_pos c5] at h
      refine fr_bipush (v := (-2)) dX9_tryAddCrease_17 (by decide) ?_
      obtain rfl := Option.some.inj h
      exact fr_iret rfl dX9_tryAddCrease_19 ⟨rfl, rfl⟩
  · rw [if_pos c3] at h
    refine fr_iconst (v := (-1)) dX9_tryAddCrease_8 (by decide) ?_
    obtain rfl := Option.some.inj h
    exact fr_iret rfl dX9_tryAddCrease_9 ⟨rfl, rfl⟩
def f_X10_addCrease (p0a : Nat) (x1a : Int32) (x2a : Int32) (M : Mem) : Option ((Int32 ⊕ String) × Mem) := (gP M 10 p0a 3).bind fun p1 => (gP M 10 p0a 0).bind fun p2 => (rc M 4 p1).bind fun _ => (f_X3_prepare p1 p2 M).bind fun r3 => (gP r3.2 10 p0a 0).bind fun p5 => (rc r3.2 9 p5).bind fun _ => (f_X9_tryAddCrease p5 x1a x2a r3.2).bind fun r6 => (rc r6.2 10 p0a).bind fun _ => (f_X10_recorded p0a r6.1 r6.2).bind fun r8 => (match r8 with | (.inl r8v, r8M) => (some ((.inl r8v), r8M)) | (.inr r8E, r8M) => (some ((.inr r8E), r8M)))
set_option maxRecDepth 20000 in
theorem ev_X10_addCrease {G : Nat × (Nat → Int32) × Value} {p0a : Nat} {x1a : Int32} {x2a : Int32} {M : Mem} {r : (Int32 ⊕ String) × Mem} (h : f_X10_addCrease p0a x1a x2a M = some r) : Ev (roG G) false YX10_addCrease 9 1 [.ref p0a, .int x1a, .int x2a] M (fun a b => a = (wE wI) r.1 ∧ b = r.2) := by
  refine ev_of cyX10_addCrease.2.2.2.2 (Nat.le_of_ble_eq_true rfl) ?_
  show Fr _ _ _ _ _ _ 0 [(0, .ref p0a), (1, .int x1a), (2, .int x2a)] [] M _
  unfold f_X10_addCrease at h
  refine fr_aload_n 0 dX10_addCrease_0 rfl ?_
  obtain ⟨p1, ep1, h⟩ := ob h
  try dsimp only at h
  refine fr_gP cb10 3 (by decide) rfl w_230 dX10_addCrease_1 ep1 ?_
  refine fr_aload_n 0 dX10_addCrease_4 rfl ?_
  obtain ⟨p2, ep2, h⟩ := ob h
  try dsimp only at h
  refine fr_gP cb10 0 (by decide) rfl w_227 dX10_addCrease_5 ep2 ?_
  obtain ⟨u4, eu4, h⟩ := ob h
  try dsimp only at h
  obtain ⟨r3, er3, h⟩ := ob h
  try dsimp only at h
  refine fr_callV (g1 := false) (k2 := 1) (ev_X3_prepare er3) rfl cyX3_prepare w_302 w_303 w_304 (rc_ok eu4 rfl (by decide)) (by rfl) (by omega) (by omega) (by rfl) (Nat.le_of_ble_eq_true rfl) dX10_addCrease_8 (Or.inl rfl) (fun v M9 q _ => ?_) (fun E M9 q _ => (Sum.inr_ne_inl q.1).elim)
  obtain rfl : v = none := Sum.inl.inj q.1
  obtain rfl := q.2.symm
  refine fr_st (S' := []) rfl ?_
  refine fr_aload_n 0 dX10_addCrease_11 rfl ?_
  refine fr_aload_n 0 dX10_addCrease_12 rfl ?_
  obtain ⟨p5, ep5, h⟩ := ob h
  try dsimp only at h
  refine fr_gP cb10 0 (by decide) rfl w_227 dX10_addCrease_13 ep5 ?_
  refine fr_iload_n 1 dX10_addCrease_16 rfl ?_
  refine fr_iload_n 2 dX10_addCrease_17 rfl ?_
  obtain ⟨u7, eu7, h⟩ := ob h
  try dsimp only at h
  obtain ⟨r6, er6, h⟩ := ob h
  try dsimp only at h
  refine fr_callV (g1 := false) (k2 := 1) (ev_X9_tryAddCrease er6) rfl cyX9_tryAddCrease w_499 w_500 w_501 (rc_ok eu7 rfl (by decide)) (by rfl) (by omega) (by omega) (by rfl) (Nat.le_of_ble_eq_true rfl) dX10_addCrease_18 (Or.inl rfl) (fun v M9 q _ => ?_) (fun E M9 q _ => (Sum.inr_ne_inl q.1).elim)
  obtain rfl : v = some (.int r6.1) := Sum.inl.inj q.1
  obtain rfl := q.2.symm
  refine fr_st (S' := [.int r6.1, .ref p0a]) rfl ?_
  obtain ⟨u9, eu9, h⟩ := ob h
  try dsimp only at h
  obtain ⟨r8, er8, h⟩ := ob h
  try dsimp only at h
  obtain ⟨r8v | r8E, r8M⟩ := r8
  · try dsimp only at h
    refine fr_callV (g1 := false) (k2 := 0) (ev_X10_recorded er8) rfl cyX10_recorded w_321 w_323 w_0 (rc_ok eu9 rfl (by decide)) (by rfl) (by omega) (by omega) (by rfl) (Nat.le_of_ble_eq_true rfl) dX10_addCrease_21 (Or.inl rfl) (fun v M9 q _ => ?_) (fun E M9 q _ => (Sum.inr_ne_inl q.1).elim)
    obtain rfl : v = some (.int r8v) := Sum.inl.inj q.1
    obtain rfl := q.2.symm
    refine fr_st (S' := [.int r8v]) rfl ?_
    obtain rfl := Option.some.inj h
    exact fr_iret rfl dX10_addCrease_24 ⟨rfl, rfl⟩
  · try dsimp only at h
    refine fr_callV (g1 := false) (k2 := 0) (ev_X10_recorded er8) rfl cyX10_recorded w_321 w_323 w_0 (rc_ok eu9 rfl (by decide)) (by rfl) (by omega) (by omega) (by rfl) (Nat.le_of_ble_eq_true rfl) dX10_addCrease_21 (Or.inl rfl) (fun v M9 q _ => (Sum.inl_ne_inr q.1).elim) (fun E M9 q _ => ?_)
    obtain rfl : r8E = E := (Sum.inr.inj q.1).symm
    obtain rfl := q.2.symm
    obtain rfl := Option.some.inj h
    exact fx_no rfl ⟨rfl, rfl⟩
def f_L_addCrease (p0a : Nat) (x1a : Int32) (x2a : Int32) (M : Mem) : Option (Int32 × Mem) := (rc M 10 p0a).bind fun _ => (f_X10_addCrease p0a x1a x2a M).bind fun r1 => (match r1 with | (.inl r1v, r1M) => (some (r1v, r1M)) | (.inr r1E, r1M) => (if r1E = "java/lang/IndexOutOfBoundsException" then (some ((-1001), r1M)) else (if r1E = "java/lang/IllegalArgumentException" then (some ((-1002), r1M)) else (if r1E = "java/lang/IllegalStateException" then (some ((-1003), r1M)) else none))))
set_option maxRecDepth 20000 in
theorem ev_L_addCrease {G : Nat × (Nat → Int32) × Value} {p0a : Nat} {x1a : Int32} {x2a : Int32} {M : Mem} {r : Int32 × Mem} (h : f_L_addCrease p0a x1a x2a M = some r) : Ev (roG G) false YL_addCrease 10 1 [.ref p0a, .int x1a, .int x2a] M (fun a b => a = wI r.1 ∧ b = r.2) := by
  refine ev_of cyL_addCrease.2.2.2.2 (Nat.le_of_ble_eq_true rfl) ?_
  show Fr _ _ _ _ _ _ 0 [(0, .ref p0a), (1, .int x1a), (2, .int x2a)] [] M _
  unfold f_L_addCrease at h
  refine fr_aload_n 0 dL_addCrease_0 rfl ?_
  refine fr_iload_n 1 dL_addCrease_1 rfl ?_
  refine fr_iload_n 2 dL_addCrease_2 rfl ?_
  obtain ⟨u2, eu2, h⟩ := ob h
  try dsimp only at h
  obtain ⟨r1, er1, h⟩ := ob h
  try dsimp only at h
  obtain ⟨r1v | r1E, r1M⟩ := r1
  · try dsimp only at h
    refine fr_callV (g1 := false) (k2 := 0) (ev_X10_addCrease er1) rfl cyX10_addCrease w_495 w_496 w_497 (rc_ok eu2 rfl (by decide)) (by rfl) (by omega) (by omega) (by rfl) (Nat.le_of_ble_eq_true rfl) dL_addCrease_3 (Or.inl rfl) (fun v M9 q _ => ?_) (fun E M9 q _ => (Sum.inr_ne_inl q.1).elim)
    obtain rfl : v = some (.int r1v) := Sum.inl.inj q.1
    obtain rfl := q.2.symm
    refine fr_st (S' := [.int r1v]) rfl ?_
    obtain rfl := Option.some.inj h
    exact fr_iret rfl dL_addCrease_6 ⟨rfl, rfl⟩
  · try dsimp only at h
    refine fr_callV (g1 := false) (k2 := 0) (ev_X10_addCrease er1) rfl cyX10_addCrease w_495 w_496 w_497 (rc_ok eu2 rfl (by decide)) (by rfl) (by omega) (by omega) (by rfl) (Nat.le_of_ble_eq_true rfl) dL_addCrease_3 (Or.inl rfl) (fun v M9 q _ => (Sum.inl_ne_inr q.1).elim) (fun E M9 q _ => ?_)
    obtain rfl : r1E = E := (Sum.inr.inj q.1).symm
    obtain rfl := q.2.symm
    by_cases e3_0 : r1E = "java/lang/IndexOutOfBoundsException"
    · rw [if_pos e3_0] at h
      subst e3_0
      refine fx_catch (E := "java/lang/IndexOutOfBoundsException") (name := "java/lang/IndexOutOfBoundsException") (L' := [(0, .ref p0a), (1, .int x1a), (2, .int x2a)]) [] { startPc := 0, endPc := 6, handlerPc := 7, catchType := 21 } [{ startPc := 0, endPc := 6, handlerPc := 12, catchType := 13 }, { startPc := 0, endPc := 6, handlerPc := 17, catchType := 15 }] rfl ?_ (by decide) (by decide) w_474 (show _ ∈ roC from List.mem_of_getElem? (i := 0) rfl) 3 1 (by decide) (Or.inl ⟨3, rfl, rfl, dL_addCrease_7⟩) rfl ?_
      · intro z hz; cases hz
      refine fr_sipush (v := (-1001)) dL_addCrease_8 (by decide) ?_
      obtain rfl := Option.some.inj h
      exact fr_iret rfl dL_addCrease_11 ⟨rfl, rfl⟩
    rw [if_neg e3_0] at h
    by_cases e3_1 : r1E = "java/lang/IllegalArgumentException"
    · rw [if_pos e3_1] at h
      subst e3_1
      refine fx_catch (E := "java/lang/IllegalArgumentException") (name := "java/lang/IllegalArgumentException") (L' := [(0, .ref p0a), (1, .int x1a), (2, .int x2a)]) [{ startPc := 0, endPc := 6, handlerPc := 7, catchType := 21 }] { startPc := 0, endPc := 6, handlerPc := 12, catchType := 13 } [{ startPc := 0, endPc := 6, handlerPc := 17, catchType := 15 }] rfl ?_ (by decide) (by decide) w_296 (show _ ∈ roC from List.mem_of_getElem? (i := 1) rfl) 3 1 (by decide) (Or.inl ⟨3, rfl, rfl, dL_addCrease_12⟩) rfl ?_
      · intro z hz
        simp only [List.mem_cons, List.not_mem_nil, or_false] at hz
        subst hz
        exact Or.inr ⟨by decide, "java/lang/IndexOutOfBoundsException", w_474, show _ ∈ roN from List.mem_of_getElem? (i := 43) rfl⟩
      refine fr_sipush (v := (-1002)) dL_addCrease_13 (by decide) ?_
      obtain rfl := Option.some.inj h
      exact fr_iret rfl dL_addCrease_16 ⟨rfl, rfl⟩
    rw [if_neg e3_1] at h
    by_cases e3_2 : r1E = "java/lang/IllegalStateException"
    · rw [if_pos e3_2] at h
      subst e3_2
      refine fx_catch (E := "java/lang/IllegalStateException") (name := "java/lang/IllegalStateException") (L' := [(0, .ref p0a), (1, .int x1a), (2, .int x2a)]) [{ startPc := 0, endPc := 6, handlerPc := 7, catchType := 21 }, { startPc := 0, endPc := 6, handlerPc := 12, catchType := 13 }] { startPc := 0, endPc := 6, handlerPc := 17, catchType := 15 } [] rfl ?_ (by decide) (by decide) w_297 (show _ ∈ roC from List.mem_of_getElem? (i := 2) rfl) 3 1 (by decide) (Or.inl ⟨3, rfl, rfl, dL_addCrease_17⟩) rfl ?_
      · intro z hz
        simp only [List.mem_cons, List.not_mem_nil, or_false] at hz
        rcases hz with rfl | rfl
        · exact Or.inr ⟨by decide, "java/lang/IndexOutOfBoundsException", w_474, show _ ∈ roN from List.mem_of_getElem? (i := 42) rfl⟩
        · exact Or.inr ⟨by decide, "java/lang/IllegalArgumentException", w_296, show _ ∈ roN from List.mem_of_getElem? (i := 8) rfl⟩
      refine fr_sipush (v := (-1003)) dL_addCrease_18 (by decide) ?_
      obtain rfl := Option.some.inj h
      exact fr_iret rfl dL_addCrease_21 ⟨rfl, rfl⟩
    rw [if_neg e3_2] at h
    cases h
def f_X9_tryAddPaste (p0a : Nat) (x1a : Int32) (M : Mem) : Option (Int32 × Mem) := if x1a < 1 then (some ((-2), M)) else (if x1a ≤ 20 then ((gI M 9 p0a 3).bind fun x3 => if (x3 + x1a) ≤ 50 then ((gI M 9 p0a 3).bind fun x5 => (sI M 9 p0a 3 .int (x5 + x1a)).bind fun M6 => (gI M6 9 p0a 3).bind fun x7 => some (x7, M6)) else (some ((-3), M))) else (some ((-2), M)))
set_option maxRecDepth 20000 in
theorem ev_X9_tryAddPaste {G : Nat × (Nat → Int32) × Value} {p0a : Nat} {x1a : Int32} {M : Mem} {r : Int32 × Mem} (h : f_X9_tryAddPaste p0a x1a M = some r) : Ev (roG G) false YX9_tryAddPaste 0 0 [.ref p0a, .int x1a] M (fun a b => a = wI r.1 ∧ b = r.2) := by
  refine ev_of cyX9_tryAddPaste.2.2.2.2 (Nat.le_of_ble_eq_true rfl) ?_
  show Fr _ _ _ _ _ _ 0 [(0, .ref p0a), (1, .int x1a)] [] M _
  unfold f_X9_tryAddPaste at h
  refine fr_iload_n 1 dX9_tryAddPaste_0 rfl ?_
  refine fr_iconst (v := 1) dX9_tryAddPaste_1 (by decide) ?_
  refine fr_icmp_lt 11 dX9_tryAddPaste_2 (by decide) (fun c1 => ?_) (fun c1 => ?_)
  · rw [if_pos c1] at h
    refine fr_bipush (v := (-2)) dX9_tryAddPaste_11 (by decide) ?_
    obtain rfl := Option.some.inj h
    exact fr_iret rfl dX9_tryAddPaste_13 ⟨rfl, rfl⟩
  · rw [if_neg c1] at h
    refine fr_iload_n 1 dX9_tryAddPaste_5 rfl ?_
    refine fr_bipush (v := 20) dX9_tryAddPaste_6 (by decide) ?_
    refine fr_icmp_le 14 dX9_tryAddPaste_8 (by decide) (fun c2 => ?_) (fun c2 => ?_)
    · rw [if_pos c2] at h
      refine fr_aload_n 0 dX9_tryAddPaste_14 rfl ?_
      obtain ⟨x3, ex3, h⟩ := ob h
      try dsimp only at h
      refine fr_gI cb9 3 (by decide) rfl w_128 dX9_tryAddPaste_15 ex3 ?_
      refine fr_iload_n 1 dX9_tryAddPaste_18 rfl ?_
      refine fr_iadd dX9_tryAddPaste_19 ?_
      refine fr_bipush (v := 50) dX9_tryAddPaste_20 (by decide) ?_
      refine fr_icmp_le 28 dX9_tryAddPaste_22 (by decide) (fun c4 => ?_) (fun c4 => ?_)
      · rw [if_pos c4] at h
        refine fr_aload_n 0 dX9_tryAddPaste_28 rfl ?_
        refine fr_dup dX9_tryAddPaste_29 rfl ?_
        obtain ⟨x5, ex5, h⟩ := ob h
        try dsimp only at h
        refine fr_gI cb9 3 (by decide) rfl w_128 dX9_tryAddPaste_30 ex5 ?_
        refine fr_iload_n 1 dX9_tryAddPaste_33 rfl ?_
        refine fr_iadd dX9_tryAddPaste_34 ?_
        obtain ⟨M6, eM6, h⟩ := ob h
        try dsimp only at h
        refine fr_sI cb9 3 (by decide) rfl rfl w_128 dX9_tryAddPaste_35 eM6 ?_
        refine fr_aload_n 0 dX9_tryAddPaste_38 rfl ?_
        obtain ⟨x7, ex7, h⟩ := ob h
        try dsimp only at h
        refine fr_gI cb9 3 (by decide) rfl w_128 dX9_tryAddPaste_39 ex7 ?_
        obtain rfl := Option.some.inj h
        exact fr_iret rfl dX9_tryAddPaste_42 ⟨rfl, rfl⟩
      · rw [if_neg c4] at h
        refine fr_bipush (v := (-3)) dX9_tryAddPaste_25 (by decide) ?_
        obtain rfl := Option.some.inj h
        exact fr_iret rfl dX9_tryAddPaste_27 ⟨rfl, rfl⟩
    · rw [if_neg c2] at h
      refine fr_bipush (v := (-2)) dX9_tryAddPaste_11 (by decide) ?_
      obtain rfl := Option.some.inj h
      exact fr_iret rfl dX9_tryAddPaste_13 ⟨rfl, rfl⟩
def f_X10_addPaste (p0a : Nat) (x1a : Int32) (M : Mem) : Option ((Int32 ⊕ String) × Mem) := (gP M 10 p0a 3).bind fun p1 => (gP M 10 p0a 0).bind fun p2 => (rc M 4 p1).bind fun _ => (f_X3_prepare p1 p2 M).bind fun r3 => (gP r3.2 10 p0a 0).bind fun p5 => (rc r3.2 9 p5).bind fun _ => (f_X9_tryAddPaste p5 x1a r3.2).bind fun r6 => (rc r6.2 10 p0a).bind fun _ => (f_X10_recorded p0a r6.1 r6.2).bind fun r8 => (match r8 with | (.inl r8v, r8M) => (some ((.inl r8v), r8M)) | (.inr r8E, r8M) => (some ((.inr r8E), r8M)))
set_option maxRecDepth 20000 in
theorem ev_X10_addPaste {G : Nat × (Nat → Int32) × Value} {p0a : Nat} {x1a : Int32} {M : Mem} {r : (Int32 ⊕ String) × Mem} (h : f_X10_addPaste p0a x1a M = some r) : Ev (roG G) false YX10_addPaste 9 1 [.ref p0a, .int x1a] M (fun a b => a = (wE wI) r.1 ∧ b = r.2) := by
  refine ev_of cyX10_addPaste.2.2.2.2 (Nat.le_of_ble_eq_true rfl) ?_
  show Fr _ _ _ _ _ _ 0 [(0, .ref p0a), (1, .int x1a)] [] M _
  unfold f_X10_addPaste at h
  refine fr_aload_n 0 dX10_addPaste_0 rfl ?_
  obtain ⟨p1, ep1, h⟩ := ob h
  try dsimp only at h
  refine fr_gP cb10 3 (by decide) rfl w_230 dX10_addPaste_1 ep1 ?_
  refine fr_aload_n 0 dX10_addPaste_4 rfl ?_
  obtain ⟨p2, ep2, h⟩ := ob h
  try dsimp only at h
  refine fr_gP cb10 0 (by decide) rfl w_227 dX10_addPaste_5 ep2 ?_
  obtain ⟨u4, eu4, h⟩ := ob h
  try dsimp only at h
  obtain ⟨r3, er3, h⟩ := ob h
  try dsimp only at h
  refine fr_callV (g1 := false) (k2 := 1) (ev_X3_prepare er3) rfl cyX3_prepare w_302 w_303 w_304 (rc_ok eu4 rfl (by decide)) (by rfl) (by omega) (by omega) (by rfl) (Nat.le_of_ble_eq_true rfl) dX10_addPaste_8 (Or.inl rfl) (fun v M9 q _ => ?_) (fun E M9 q _ => (Sum.inr_ne_inl q.1).elim)
  obtain rfl : v = none := Sum.inl.inj q.1
  obtain rfl := q.2.symm
  refine fr_st (S' := []) rfl ?_
  refine fr_aload_n 0 dX10_addPaste_11 rfl ?_
  refine fr_aload_n 0 dX10_addPaste_12 rfl ?_
  obtain ⟨p5, ep5, h⟩ := ob h
  try dsimp only at h
  refine fr_gP cb10 0 (by decide) rfl w_227 dX10_addPaste_13 ep5 ?_
  refine fr_iload_n 1 dX10_addPaste_16 rfl ?_
  obtain ⟨u7, eu7, h⟩ := ob h
  try dsimp only at h
  obtain ⟨r6, er6, h⟩ := ob h
  try dsimp only at h
  refine fr_callV (g1 := false) (k2 := 1) (ev_X9_tryAddPaste er6) rfl cyX9_tryAddPaste w_644 w_645 w_646 (rc_ok eu7 rfl (by decide)) (by rfl) (by omega) (by omega) (by rfl) (Nat.le_of_ble_eq_true rfl) dX10_addPaste_17 (Or.inl rfl) (fun v M9 q _ => ?_) (fun E M9 q _ => (Sum.inr_ne_inl q.1).elim)
  obtain rfl : v = some (.int r6.1) := Sum.inl.inj q.1
  obtain rfl := q.2.symm
  refine fr_st (S' := [.int r6.1, .ref p0a]) rfl ?_
  obtain ⟨u9, eu9, h⟩ := ob h
  try dsimp only at h
  obtain ⟨r8, er8, h⟩ := ob h
  try dsimp only at h
  obtain ⟨r8v | r8E, r8M⟩ := r8
  · try dsimp only at h
    refine fr_callV (g1 := false) (k2 := 0) (ev_X10_recorded er8) rfl cyX10_recorded w_321 w_323 w_0 (rc_ok eu9 rfl (by decide)) (by rfl) (by omega) (by omega) (by rfl) (Nat.le_of_ble_eq_true rfl) dX10_addPaste_20 (Or.inl rfl) (fun v M9 q _ => ?_) (fun E M9 q _ => (Sum.inr_ne_inl q.1).elim)
    obtain rfl : v = some (.int r8v) := Sum.inl.inj q.1
    obtain rfl := q.2.symm
    refine fr_st (S' := [.int r8v]) rfl ?_
    obtain rfl := Option.some.inj h
    exact fr_iret rfl dX10_addPaste_23 ⟨rfl, rfl⟩
  · try dsimp only at h
    refine fr_callV (g1 := false) (k2 := 0) (ev_X10_recorded er8) rfl cyX10_recorded w_321 w_323 w_0 (rc_ok eu9 rfl (by decide)) (by rfl) (by omega) (by omega) (by rfl) (Nat.le_of_ble_eq_true rfl) dX10_addPaste_20 (Or.inl rfl) (fun v M9 q _ => (Sum.inl_ne_inr q.1).elim) (fun E M9 q _ => ?_)
    obtain rfl : r8E = E := (Sum.inr.inj q.1).symm
    obtain rfl := q.2.symm
    obtain rfl := Option.some.inj h
    exact fx_no rfl ⟨rfl, rfl⟩
def f_L_addPaste (p0a : Nat) (x1a : Int32) (M : Mem) : Option (Int32 × Mem) := (rc M 10 p0a).bind fun _ => (f_X10_addPaste p0a x1a M).bind fun r1 => (match r1 with | (.inl r1v, r1M) => (some (r1v, r1M)) | (.inr r1E, r1M) => (if r1E = "java/lang/IllegalArgumentException" then (some ((-1001), r1M)) else (if r1E = "java/lang/IllegalStateException" then (some ((-1002), r1M)) else none)))
set_option maxRecDepth 20000 in
theorem ev_L_addPaste {G : Nat × (Nat → Int32) × Value} {p0a : Nat} {x1a : Int32} {M : Mem} {r : Int32 × Mem} (h : f_L_addPaste p0a x1a M = some r) : Ev (roG G) false YL_addPaste 10 1 [.ref p0a, .int x1a] M (fun a b => a = wI r.1 ∧ b = r.2) := by
  refine ev_of cyL_addPaste.2.2.2.2 (Nat.le_of_ble_eq_true rfl) ?_
  show Fr _ _ _ _ _ _ 0 [(0, .ref p0a), (1, .int x1a)] [] M _
  unfold f_L_addPaste at h
  refine fr_aload_n 0 dL_addPaste_0 rfl ?_
  refine fr_iload_n 1 dL_addPaste_1 rfl ?_
  obtain ⟨u2, eu2, h⟩ := ob h
  try dsimp only at h
  obtain ⟨r1, er1, h⟩ := ob h
  try dsimp only at h
  obtain ⟨r1v | r1E, r1M⟩ := r1
  · try dsimp only at h
    refine fr_callV (g1 := false) (k2 := 0) (ev_X10_addPaste er1) rfl cyX10_addPaste w_640 w_641 w_642 (rc_ok eu2 rfl (by decide)) (by rfl) (by omega) (by omega) (by rfl) (Nat.le_of_ble_eq_true rfl) dL_addPaste_2 (Or.inl rfl) (fun v M9 q _ => ?_) (fun E M9 q _ => (Sum.inr_ne_inl q.1).elim)
    obtain rfl : v = some (.int r1v) := Sum.inl.inj q.1
    obtain rfl := q.2.symm
    refine fr_st (S' := [.int r1v]) rfl ?_
    obtain rfl := Option.some.inj h
    exact fr_iret rfl dL_addPaste_5 ⟨rfl, rfl⟩
  · try dsimp only at h
    refine fr_callV (g1 := false) (k2 := 0) (ev_X10_addPaste er1) rfl cyX10_addPaste w_640 w_641 w_642 (rc_ok eu2 rfl (by decide)) (by rfl) (by omega) (by omega) (by rfl) (Nat.le_of_ble_eq_true rfl) dL_addPaste_2 (Or.inl rfl) (fun v M9 q _ => (Sum.inl_ne_inr q.1).elim) (fun E M9 q _ => ?_)
    obtain rfl : r1E = E := (Sum.inr.inj q.1).symm
    obtain rfl := q.2.symm
    by_cases e3_0 : r1E = "java/lang/IllegalArgumentException"
    · rw [if_pos e3_0] at h
      subst e3_0
      refine fx_catch (E := "java/lang/IllegalArgumentException") (name := "java/lang/IllegalArgumentException") (L' := [(0, .ref p0a), (1, .int x1a)]) [] { startPc := 0, endPc := 5, handlerPc := 6, catchType := 13 } [{ startPc := 0, endPc := 5, handlerPc := 11, catchType := 15 }] rfl ?_ (by decide) (by decide) w_296 (show _ ∈ roC from List.mem_of_getElem? (i := 1) rfl) 2 1 (by decide) (Or.inl ⟨2, rfl, rfl, dL_addPaste_6⟩) rfl ?_
      · intro z hz; cases hz
      refine fr_sipush (v := (-1001)) dL_addPaste_7 (by decide) ?_
      obtain rfl := Option.some.inj h
      exact fr_iret rfl dL_addPaste_10 ⟨rfl, rfl⟩
    rw [if_neg e3_0] at h
    by_cases e3_1 : r1E = "java/lang/IllegalStateException"
    · rw [if_pos e3_1] at h
      subst e3_1
      refine fx_catch (E := "java/lang/IllegalStateException") (name := "java/lang/IllegalStateException") (L' := [(0, .ref p0a), (1, .int x1a)]) [{ startPc := 0, endPc := 5, handlerPc := 6, catchType := 13 }] { startPc := 0, endPc := 5, handlerPc := 11, catchType := 15 } [] rfl ?_ (by decide) (by decide) w_297 (show _ ∈ roC from List.mem_of_getElem? (i := 2) rfl) 2 1 (by decide) (Or.inl ⟨2, rfl, rfl, dL_addPaste_11⟩) rfl ?_
      · intro z hz
        simp only [List.mem_cons, List.not_mem_nil, or_false] at hz
        subst hz
        exact Or.inr ⟨by decide, "java/lang/IllegalArgumentException", w_296, show _ ∈ roN from List.mem_of_getElem? (i := 8) rfl⟩
      refine fr_sipush (v := (-1002)) dL_addPaste_12 (by decide) ?_
      obtain rfl := Option.some.inj h
      exact fr_iret rfl dL_addPaste_15 ⟨rfl, rfl⟩
    rw [if_neg e3_1] at h
    cases h
def f_X10_isCode (x0a : Int32) (M : Mem) : Option (Int32) := if x0a < 0 then (some 0) else (if 9 < x0a then (some 0) else (some 1))
set_option maxRecDepth 20000 in
theorem ev_X10_isCode {G : Nat × (Nat → Int32) × Value} {x0a : Int32} {M : Mem} {r : Int32} (h : f_X10_isCode x0a M = some r) : Ev (roG G) false YX10_isCode 0 0 [.int x0a] M (fun a b => a = wI r ∧ b = M) := by
  refine ev_of cyX10_isCode.2.2.2.2 (Nat.le_of_ble_eq_true rfl) ?_
  show Fr _ _ _ _ _ _ 0 [(0, .int x0a)] [] M _
  unfold f_X10_isCode at h
  refine fr_iload_n 0 dX10_isCode_0 rfl ?_
  refine fr_if_lt 14 dX10_isCode_1 (by decide) (fun c1 => ?_) (fun c1 => ?_)
  · rw [if_pos c1] at h
    refine fr_iconst (v := 0) dX10_isCode_14 (by decide) ?_
    obtain rfl := Option.some.inj h
    exact fr_zret (ty := .boolean) rfl rfl dX10_isCode_15 ⟨rfl, rfl⟩
  · rw [if_neg c1] at h
    refine fr_iload_n 0 dX10_isCode_4 rfl ?_
    refine fr_bipush (v := 9) dX10_isCode_5 (by decide) ?_
    refine fr_icmp_gt 14 dX10_isCode_7 (by decide) (fun c2 => ?_) (fun c2 => ?_)
    · rw [if_pos c2] at h
      refine fr_iconst (v := 0) dX10_isCode_14 (by decide) ?_
      obtain rfl := Option.some.inj h
      exact fr_zret (ty := .boolean) rfl rfl dX10_isCode_15 ⟨rfl, rfl⟩
    · rw [if_neg c2] at h
      refine fr_iconst (v := 1) dX10_isCode_10 (by decide) ?_
      refine fr_goto 15 dX10_isCode_11 (by decide) ?_
      obtain rfl := Option.some.inj h
      exact fr_zret (ty := .boolean) rfl rfl dX10_isCode_15 ⟨rfl, rfl⟩
def f_X10_isKind (x0a : Int32) (M : Mem) : Option (Int32) := if x0a = 115 then (some 1) else (if x0a = 108 then (some 1) else (if x0a = 99 then (some 1) else (some 0)))
set_option maxRecDepth 20000 in
theorem ev_X10_isKind {G : Nat × (Nat → Int32) × Value} {x0a : Int32} {M : Mem} {r : Int32} (h : f_X10_isKind x0a M = some r) : Ev (roG G) false YX10_isKind 0 0 [.int x0a] M (fun a b => a = wI r ∧ b = M) := by
  refine ev_of cyX10_isKind.2.2.2.2 (Nat.le_of_ble_eq_true rfl) ?_
  show Fr _ _ _ _ _ _ 0 [(0, .int x0a)] [] M _
  unfold f_X10_isKind at h
  refine fr_iload_n 0 dX10_isKind_0 rfl ?_
  refine fr_bipush (v := 115) dX10_isKind_1 (by decide) ?_
  refine fr_icmp_eq 18 dX10_isKind_3 (by decide) (fun c1 => ?_) (fun c1 => ?_)
  · rw [if_pos c1] at h
    refine fr_iconst (v := 1) dX10_isKind_18 (by decide) ?_
    refine fr_goto 23 dX10_isKind_19 (by decide) ?_
    obtain rfl := Option.some.inj h
    exact fr_zret (ty := .boolean) rfl rfl dX10_isKind_23 ⟨rfl, rfl⟩
  · rw [if_neg c1] at h
    refine fr_iload_n 0 dX10_isKind_6 rfl ?_
    refine fr_bipush (v := 108) dX10_isKind_7 (by decide) ?_
    refine fr_icmp_eq 18 dX10_isKind_9 (by decide) (fun c2 => ?_) (fun c2 => ?_)
    · rw [if_pos c2] at h
      refine fr_iconst (v := 1) dX10_isKind_18 (by decide) ?_
      refine fr_goto 23 dX10_isKind_19 (by decide) ?_
      obtain rfl := Option.some.inj h
      exact fr_zret (ty := .boolean) rfl rfl dX10_isKind_23 ⟨rfl, rfl⟩
    · rw [if_neg c2] at h
      refine fr_iload_n 0 dX10_isKind_12 rfl ?_
      refine fr_bipush (v := 99) dX10_isKind_13 (by decide) ?_
      refine fr_icmp_ne 22 dX10_isKind_15 (by decide) (fun c3 => ?_) (fun c3 => ?_)
      · rw [if_neg c3] at h
        refine fr_iconst (v := 0) dX10_isKind_22 (by decide) ?_
        obtain rfl := Option.some.inj h
        exact fr_zret (ty := .boolean) rfl rfl dX10_isKind_23 ⟨rfl, rfl⟩
      · rw [if_pos c3] at h
        refine fr_iconst (v := 1) dX10_isKind_18 (by decide) ?_
        refine fr_goto 23 dX10_isKind_19 (by decide) ?_
        obtain rfl := Option.some.inj h
        exact fr_zret (ty := .boolean) rfl rfl dX10_isKind_23 ⟨rfl, rfl⟩
def f_X7_begin (p0a : Nat) (x1a : Int32) (x2a : Int32) (x3a : Int32) (x4a : Int32) (x5a : Int32) (M : Mem) : Option (Unit × Mem) := (gP M 7 p0a 0).bind fun p1 => (asI M 100 p1 0 x1a).bind fun M2 => (gP M2 7 p0a 0).bind fun p3 => (asI M2 100 p3 1 x2a).bind fun M4 => (gP M4 7 p0a 0).bind fun p5 => (asI M4 100 p5 2 x3a).bind fun M6 => (gP M6 7 p0a 0).bind fun p7 => (asI M6 100 p7 3 x4a).bind fun M8 => (sI M8 7 p0a 2 .char x5a).bind fun M9 => some ((), M9)
set_option maxRecDepth 20000 in
theorem ev_X7_begin {G : Nat × (Nat → Int32) × Value} {p0a : Nat} {x1a : Int32} {x2a : Int32} {x3a : Int32} {x4a : Int32} {x5a : Int32} {M : Mem} {r : Unit × Mem} (h : f_X7_begin p0a x1a x2a x3a x4a x5a M = some r) : Ev (roG G) false YX7_begin 0 0 [.ref p0a, .int x1a, .int x2a, .int x3a, .int x4a, .int x5a] M (fun a b => a = wU r.1 ∧ b = r.2) := by
  refine ev_of cyX7_begin.2.2.2.2 (Nat.le_of_ble_eq_true rfl) ?_
  show Fr _ _ _ _ _ _ 0 [(0, .ref p0a), (1, .int x1a), (2, .int x2a), (3, .int x3a), (4, .int x4a), (5, .int x5a)] [] M _
  unfold f_X7_begin at h
  refine fr_aload_n 0 dX7_begin_0 rfl ?_
  obtain ⟨p1, ep1, h⟩ := ob h
  try dsimp only at h
  refine fr_gP cb7 0 (by decide) rfl w_71 dX7_begin_1 ep1 ?_
  refine fr_iconst (v := 0) dX7_begin_4 (by decide) ?_
  refine fr_iload_n 1 dX7_begin_5 rfl ?_
  obtain ⟨M2, eM2, h⟩ := ob h
  try dsimp only at h
  refine fr_asI eM2 dX7_begin_6 ?_
  refine fr_aload_n 0 dX7_begin_7 rfl ?_
  obtain ⟨p3, ep3, h⟩ := ob h
  try dsimp only at h
  refine fr_gP cb7 0 (by decide) rfl w_71 dX7_begin_8 ep3 ?_
  refine fr_iconst (v := 1) dX7_begin_11 (by decide) ?_
  refine fr_iload_n 2 dX7_begin_12 rfl ?_
  obtain ⟨M4, eM4, h⟩ := ob h
  try dsimp only at h
  refine fr_asI eM4 dX7_begin_13 ?_
  refine fr_aload_n 0 dX7_begin_14 rfl ?_
  obtain ⟨p5, ep5, h⟩ := ob h
  try dsimp only at h
  refine fr_gP cb7 0 (by decide) rfl w_71 dX7_begin_15 ep5 ?_
  refine fr_iconst (v := 2) dX7_begin_18 (by decide) ?_
  refine fr_iload_n 3 dX7_begin_19 rfl ?_
  obtain ⟨M6, eM6, h⟩ := ob h
  try dsimp only at h
  refine fr_asI eM6 dX7_begin_20 ?_
  refine fr_aload_n 0 dX7_begin_21 rfl ?_
  obtain ⟨p7, ep7, h⟩ := ob h
  try dsimp only at h
  refine fr_gP cb7 0 (by decide) rfl w_71 dX7_begin_22 ep7 ?_
  refine fr_iconst (v := 3) dX7_begin_25 (by decide) ?_
  refine fr_iload 4 dX7_begin_26 rfl ?_
  obtain ⟨M8, eM8, h⟩ := ob h
  try dsimp only at h
  refine fr_asI eM8 dX7_begin_28 ?_
  refine fr_aload_n 0 dX7_begin_29 rfl ?_
  refine fr_iload 5 dX7_begin_30 rfl ?_
  obtain ⟨M9, eM9, h⟩ := ob h
  try dsimp only at h
  refine fr_sI cb7 2 (by decide) rfl rfl w_77 dX7_begin_32 eM9 ?_
  obtain rfl := Option.some.inj h
  exact fr_vret rfl dX7_begin_35 ⟨rfl, rfl⟩
