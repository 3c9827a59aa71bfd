/-! ===== methods, 17: X10_canBeOnTop L_onTop X10_pointsOf L_pointsOf X10_turnsIn L_turnsIn X10_wear L_wear ===== -/
def f_X10_canBeOnTop (p0a : Nat) (x1a : Int32) (x2a : Int32) (M : Mem) : Option ((Int32 ⊕ String) × Mem) := (rc M 10 p0a).bind fun _ => (f_X10_demandedSheet p0a x1a M).bind fun r1 => (match r1 with | .inl r1v => (if x2a < 0 then (some ((.inr "java/lang/IndexOutOfBoundsException"), M)) else ((gI M 7 r1v 3).bind fun x4 => if x2a ≤ x4 then ((gP M 10 p0a 5).bind fun p6 => (rc M 8 p6).bind fun _ => (f_X8_countByAdding p6 r1v x2a M).bind fun r7 => if r7.1 ≤ 0 then (some ((.inl 0), r7.2)) else (some ((.inl 1), r7.2))) else (some ((.inr "java/lang/IndexOutOfBoundsException"), M)))) | .inr r1E => (some ((.inr r1E), M)))
set_option maxRecDepth 20000 in
theorem ev_X10_canBeOnTop {G : Nat × (Nat → Int32) × Value} {p0a : Nat} {x1a : Int32} {x2a : Int32} {M : Mem} {r : (Int32 ⊕ String) × Mem} (h : f_X10_canBeOnTop p0a x1a x2a M = some r) : Ev (roG G) false YX10_canBeOnTop 17 2 [.ref p0a, .int x1a, .int x2a] M (fun a b => a = (wE wI) r.1 ∧ b = r.2) := by
  refine ev_of cyX10_canBeOnTop.2.2.2.2 (Nat.le_of_ble_eq_true rfl) ?_
  show Fr _ _ _ _ _ _ 0 [(0, .ref p0a), (1, .int x1a), (2, .int x2a)] [] M _
  unfold f_X10_canBeOnTop at h
  refine fr_aload_n 0 dX10_canBeOnTop_0 rfl ?_
  refine fr_iload_n 1 dX10_canBeOnTop_1 rfl ?_
  obtain ⟨u2, eu2, h⟩ := ob h
  try dsimp only at h
  obtain ⟨r1, er1, h⟩ := ob h
  try dsimp only at h
  rcases r1 with r1v | r1E
  · try dsimp only at h
    refine fr_callV (g1 := false) (k2 := 1) (ev_X10_demandedSheet er1) rfl cyX10_demandedSheet w_655 w_657 w_2 (rc_ok eu2 rfl (by decide)) (by rfl) (by omega) (by omega) (by rfl) (Nat.le_of_ble_eq_true rfl) dX10_canBeOnTop_2 (Or.inl rfl) (fun v M9 q _ => ?_) (fun E M9 q _ => (Sum.inr_ne_inl q.1).elim)
    obtain rfl : v = some (.ref r1v) := Sum.inl.inj q.1
    obtain rfl := q.2.symm
    refine fr_st (S' := [.ref r1v]) rfl ?_
    refine fr_astore_n (L' := [(0, .ref p0a), (1, .int x1a), (2, .int x2a), (3, .ref r1v)]) dX10_canBeOnTop_5 (by decide) rfl ?_
    refine fr_iload_n 2 dX10_canBeOnTop_6 rfl ?_
    refine fr_if_lt 18 dX10_canBeOnTop_7 (by decide) (fun c3 => ?_) (fun c3 => ?_)
    · rw [if_pos c3] at h
      obtain rfl := Option.some.inj h
      exact fr_throwS (names := ["java/lang/RuntimeException", "java/lang/Exception"]) rfl thX10_135 w_328 w_27 (sa := ROB + 48) (show _ ∈ roS from List.mem_of_getElem? (i := 28) rfl) dX10_canBeOnTop_18 dX10_canBeOnTop_21 dX10_canBeOnTop_22 dX10_canBeOnTop_24 dX10_canBeOnTop_27 (by omega) (by omega) (Nat.le_of_ble_eq_true rfl) ⟨rfl, rfl⟩
    · rw [if_neg c3] at h
      refine fr_iload_n 2 dX10_canBeOnTop_10 rfl ?_
      refine fr_aload_n 3 dX10_canBeOnTop_11 rfl ?_
      obtain ⟨x4, ex4, h⟩ := ob h
      try dsimp only at h
      refine fr_gI cb7 3 (by decide) rfl w_86 dX10_canBeOnTop_12 ex4 ?_
      refine fr_icmp_le 28 dX10_canBeOnTop_15 (by decide) (fun c5 => ?_) (fun c5 => ?_)
      · rw [if_pos c5] at h
        refine fr_aload_n 0 dX10_canBeOnTop_28 rfl ?_
        obtain ⟨p6, ep6, h⟩ := ob h
        try dsimp only at h
        refine fr_gP cb10 5 (by decide) rfl w_232 dX10_canBeOnTop_29 ep6 ?_
        refine fr_aload_n 3 dX10_canBeOnTop_32 rfl ?_
        refine fr_iload_n 2 dX10_canBeOnTop_33 rfl ?_
        obtain ⟨u8, eu8, h⟩ := ob h
        try dsimp only at h
        obtain ⟨r7, er7, h⟩ := ob h
        try dsimp only at h
        refine fr_callV (g1 := false) (k2 := 1) (ev_X8_countByAdding er7) rfl cyX8_countByAdding w_1083 w_1084 w_1085 (rc_ok eu8 rfl (by decide)) (by rfl) (by omega) (by omega) (by rfl) (Nat.le_of_ble_eq_true rfl) dX10_canBeOnTop_34 (Or.inl rfl) (fun v M9 q _ => ?_) (fun E M9 q _ => (Sum.inr_ne_inl q.1).elim)
        obtain rfl : v = some (.int r7.1) := Sum.inl.inj q.1
        obtain rfl := q.2.symm
        refine fr_st (S' := [.int r7.1]) rfl ?_
        refine fr_if_le 44 dX10_canBeOnTop_37 (by decide) (fun c9 => ?_) (fun c9 => ?_)
        · rw [if_pos c9] at h
          refine fr_iconst (v := 0) dX10_canBeOnTop_44 (by decide) ?_
          obtain rfl := Option.some.inj h
          exact fr_zret (ty := .boolean) rfl rfl dX10_canBeOnTop_45 ⟨rfl, rfl⟩
        · rw [if_neg c9] at h
          refine fr_iconst (v := 1) dX10_canBeOnTop_40 (by decide) ?_
          refine fr_goto 45 dX10_canBeOnTop_41 (by decide) ?_
          obtain rfl := Option.some.inj h
          exact fr_zret (ty := .boolean) rfl rfl dX10_canBeOnTop_45 ⟨rfl, rfl⟩
      · rw [if_neg c5] at h
        obtain rfl := Option.some.inj h
        exact fr_throwS (names := ["java/lang/RuntimeException", "java/lang/Exception"]) rfl thX10_135 w_328 w_27 (sa := ROB + 48) (show _ ∈ roS from List.mem_of_getElem? (i := 28) rfl) dX10_canBeOnTop_18 dX10_canBeOnTop_21 dX10_canBeOnTop_22 dX10_canBeOnTop_24 dX10_canBeOnTop_27 (by omega) (by omega) (Nat.le_of_ble_eq_true rfl) ⟨rfl, rfl⟩
  · try dsimp only at h
    refine fr_callV (g1 := false) (k2 := 1) (ev_X10_demandedSheet er1) rfl cyX10_demandedSheet w_655 w_657 w_2 (rc_ok eu2 rfl (by decide)) (by rfl) (by omega) (by omega) (by rfl) (Nat.le_of_ble_eq_true rfl) dX10_canBeOnTop_2 (Or.inl rfl) (fun v M9 q _ => (Sum.inl_ne_inr q.1).elim) (fun E M9 q _ => ?_)
    obtain rfl : r1E = E := (Sum.inr.inj q.1).symm
    obtain rfl := q.2.symm
    obtain rfl := Option.some.inj h
    exact fx_no rfl ⟨rfl, rfl⟩
def f_L_onTop (p0a : Nat) (x1a : Int32) (x2a : Int32) (M : Mem) : Option (Int32 × Mem) := (rc M 10 p0a).bind fun _ => (f_X10_canBeOnTop p0a x1a x2a M).bind fun r1 => (match r1 with | (.inl r1v, r1M) => (if r1v = 0 then (some (0, r1M)) else (some (1, r1M))) | (.inr r1E, r1M) => (if r1E = "java/lang/IndexOutOfBoundsException" then (some ((-1001), r1M)) else none))
set_option maxRecDepth 20000 in
theorem ev_L_onTop {G : Nat × (Nat → Int32) × Value} {p0a : Nat} {x1a : Int32} {x2a : Int32} {M : Mem} {r : Int32 × Mem} (h : f_L_onTop p0a x1a x2a M = some r) : Ev (roG G) false YL_onTop 18 2 [.ref p0a, .int x1a, .int x2a] M (fun a b => a = wI r.1 ∧ b = r.2) := by
  refine ev_of cyL_onTop.2.2.2.2 (Nat.le_of_ble_eq_true rfl) ?_
  show Fr _ _ _ _ _ _ 0 [(0, .ref p0a), (1, .int x1a), (2, .int x2a)] [] M _
  unfold f_L_onTop at h
  refine fr_aload_n 0 dL_onTop_0 rfl ?_
  refine fr_iload_n 1 dL_onTop_1 rfl ?_
  refine fr_iload_n 2 dL_onTop_2 rfl ?_
  obtain ⟨u2, eu2, h⟩ := ob h
  try dsimp only at h
  obtain ⟨r1, er1, h⟩ := ob h
  try dsimp only at h
  obtain ⟨r1v | r1E, r1M⟩ := r1
  · try dsimp only at h
    refine fr_callV (g1 := false) (k2 := 0) (ev_X10_canBeOnTop er1) rfl cyX10_canBeOnTop w_1374 w_1375 w_1376 (rc_ok eu2 rfl (by decide)) (by rfl) (by omega) (by omega) (by rfl) (Nat.le_of_ble_eq_true rfl) dL_onTop_3 (Or.inl rfl) (fun v M9 q _ => ?_) (fun E M9 q _ => (Sum.inr_ne_inl q.1).elim)
    obtain rfl : v = some (.int r1v) := Sum.inl.inj q.1
    obtain rfl := q.2.symm
    refine fr_st (S' := [.int r1v]) rfl ?_
    refine fr_if_eq 13 dL_onTop_6 (by decide) (fun c3 => ?_) (fun c3 => ?_)
    · rw [if_pos c3] at h
      refine fr_iconst (v := 0) dL_onTop_13 (by decide) ?_
      obtain rfl := Option.some.inj h
      exact fr_iret rfl dL_onTop_14 ⟨rfl, rfl⟩
    · rw [if_neg c3] at h
      refine fr_iconst (v := 1) dL_onTop_9 (by decide) ?_
      refine fr_goto 14 dL_onTop_10 (by decide) ?_
      obtain rfl := Option.some.inj h
      exact fr_iret rfl dL_onTop_14 ⟨rfl, rfl⟩
  · try dsimp only at h
    refine fr_callV (g1 := false) (k2 := 0) (ev_X10_canBeOnTop er1) rfl cyX10_canBeOnTop w_1374 w_1375 w_1376 (rc_ok eu2 rfl (by decide)) (by rfl) (by omega) (by omega) (by rfl) (Nat.le_of_ble_eq_true rfl) dL_onTop_3 (Or.inl rfl) (fun v M9 q _ => (Sum.inl_ne_inr q.1).elim) (fun E M9 q _ => ?_)
    obtain rfl : r1E = E := (Sum.inr.inj q.1).symm
    obtain rfl := q.2.symm
    by_cases e4_0 : r1E = "java/lang/IndexOutOfBoundsException"
    · rw [if_pos e4_0] at h
      subst e4_0
      refine fx_catch (E := "java/lang/IndexOutOfBoundsException") (name := "java/lang/IndexOutOfBoundsException") (L' := [(0, .ref p0a), (1, .int x1a), (2, .int x2a)]) [] { startPc := 0, endPc := 14, handlerPc := 15, catchType := 21 } [] rfl ?_ (by decide) (by decide) w_474 (show _ ∈ roC from List.mem_of_getElem? (i := 0) rfl) 3 1 (by decide) (Or.inl ⟨3, rfl, rfl, dL_onTop_15⟩) rfl ?_
      · intro z hz; cases hz
      refine fr_sipush (v := (-1001)) dL_onTop_16 (by decide) ?_
      obtain rfl := Option.some.inj h
      exact fr_iret rfl dL_onTop_19 ⟨rfl, rfl⟩
    rw [if_neg e4_0] at h
    cases h
def f_X10_pointsOf (p0a : Nat) (x1a : Int32) (M : Mem) : Option ((Int32 ⊕ String)) := (f_X10_demandCell x1a M).bind fun r1 => (match r1 with | .inl r1v => ((rc M 10 p0a).bind fun _ => (f_X10_demandOccupied p0a x1a M).bind fun r2 => (match r2 with | .inl r2v => ((gP M 10 p0a 0).bind fun p4 => (f_X5_inCell p4 x1a M).bind fun r5 => some (.inl r5)) | .inr r2E => (some (.inr r2E)))) | .inr r1E => (some (.inr r1E)))
set_option maxRecDepth 20000 in
theorem ev_X10_pointsOf {G : Nat × (Nat → Int32) × Value} {p0a : Nat} {x1a : Int32} {M : Mem} {r : (Int32 ⊕ String)} (h : f_X10_pointsOf p0a x1a M = some r) : Ev (roG G) false YX10_pointsOf 8 2 [.ref p0a, .int x1a] M (fun a b => a = (wE wI) r ∧ b = M) := by
  refine ev_of cyX10_pointsOf.2.2.2.2 (Nat.le_of_ble_eq_true rfl) ?_
  show Fr _ _ _ _ _ _ 0 [(0, .ref p0a), (1, .int x1a)] [] M _
  unfold f_X10_pointsOf at h
  refine fr_iload_n 1 dX10_pointsOf_0 rfl ?_
  obtain ⟨r1, er1, h⟩ := ob h
  try dsimp only at h
  rcases r1 with r1v | r1E
  · try dsimp only at h
    refine fr_callS (g1 := false) (k2 := 1) (ev_X10_demandCell er1) rfl cyX10_demandCell w_682 w_683 (by rfl) (by omega) (by omega) (by rfl) (Nat.le_of_ble_eq_true rfl) dX10_pointsOf_1 (Or.inl rfl) (fun v M9 q _ => ?_) (fun E M9 q _ => (Sum.inr_ne_inl q.1).elim)
    obtain rfl : v = none := Sum.inl.inj q.1
    obtain rfl := q.2.symm
    refine fr_st (S' := []) rfl ?_
    refine fr_aload_n 0 dX10_pointsOf_4 rfl ?_
    refine fr_iload_n 1 dX10_pointsOf_5 rfl ?_
    obtain ⟨u3, eu3, h⟩ := ob h
    try dsimp only at h
    obtain ⟨r2, er2, h⟩ := ob h
    try dsimp only at h
    rcases r2 with r2v | r2E
    · try dsimp only at h
      refine fr_callV (g1 := false) (k2 := 0) (ev_X10_demandOccupied er2) rfl cyX10_demandOccupied w_687 w_689 w_3 (rc_ok eu3 rfl (by decide)) (by rfl) (by omega) (by omega) (by rfl) (Nat.le_of_ble_eq_true rfl) dX10_pointsOf_6 (Or.inl rfl) (fun v M9 q _ => ?_) (fun E M9 q _ => (Sum.inr_ne_inl q.1).elim)
      obtain rfl : v = none := Sum.inl.inj q.1
      obtain rfl := q.2.symm
      refine fr_st (S' := []) rfl ?_
      refine fr_aload_n 0 dX10_pointsOf_9 rfl ?_
      obtain ⟨p4, ep4, h⟩ := ob h
      try dsimp only at h
      refine fr_gP cb10 0 (by decide) rfl w_227 dX10_pointsOf_10 ep4 ?_
      refine fr_iload_n 1 dX10_pointsOf_13 rfl ?_
      obtain ⟨r5, er5, h⟩ := ob h
      try dsimp only at h
      refine fr_callS (g1 := false) (k2 := 0) (ev_X5_inCell er5) rfl cyX5_inCell w_1406 w_955 (by rfl) (by omega) (by omega) (by rfl) (Nat.le_of_ble_eq_true rfl) dX10_pointsOf_14 (Or.inl rfl) (fun v M9 q _ => ?_) (fun E M9 q _ => (Sum.inr_ne_inl q.1).elim)
      obtain rfl : v = some (.int r5) := Sum.inl.inj q.1
      obtain rfl := q.2.symm
      refine fr_st (S' := [.int r5]) rfl ?_
      obtain rfl := Option.some.inj h
      exact fr_iret rfl dX10_pointsOf_17 ⟨rfl, rfl⟩
    · try dsimp only at h
      refine fr_callV (g1 := false) (k2 := 0) (ev_X10_demandOccupied er2) rfl cyX10_demandOccupied w_687 w_689 w_3 (rc_ok eu3 rfl (by decide)) (by rfl) (by omega) (by omega) (by rfl) (Nat.le_of_ble_eq_true rfl) dX10_pointsOf_6 (Or.inl rfl) (fun v M9 q _ => (Sum.inl_ne_inr q.1).elim) (fun E M9 q _ => ?_)
      obtain rfl : r2E = E := (Sum.inr.inj q.1).symm
      obtain rfl := q.2.symm
      obtain rfl := Option.some.inj h
      exact fx_no rfl ⟨rfl, rfl⟩
  · try dsimp only at h
    refine fr_callS (g1 := false) (k2 := 1) (ev_X10_demandCell er1) rfl cyX10_demandCell w_682 w_683 (by rfl) (by omega) (by omega) (by rfl) (Nat.le_of_ble_eq_true rfl) dX10_pointsOf_1 (Or.inl rfl) (fun v M9 q _ => (Sum.inl_ne_inr q.1).elim) (fun E M9 q _ => ?_)
    obtain rfl : r1E = E := (Sum.inr.inj q.1).symm
    obtain rfl := q.2.symm
    obtain rfl := Option.some.inj h
    exact fx_no rfl ⟨rfl, rfl⟩
def f_L_pointsOf (p0a : Nat) (x1a : Int32) (M : Mem) : Option (Int32) := (rc M 10 p0a).bind fun _ => (f_X10_pointsOf p0a x1a M).bind fun r1 => (match r1 with | .inl r1v => (some r1v) | .inr r1E => (if r1E = "java/lang/IndexOutOfBoundsException" then (some (-1001)) else (if r1E = "java/util/NoSuchElementException" then (some (-1002)) else none)))
set_option maxRecDepth 20000 in
theorem ev_L_pointsOf {G : Nat × (Nat → Int32) × Value} {p0a : Nat} {x1a : Int32} {M : Mem} {r : Int32} (h : f_L_pointsOf p0a x1a M = some r) : Ev (roG G) false YL_pointsOf 9 2 [.ref p0a, .int x1a] M (fun a b => a = wI r ∧ b = M) := by
  refine ev_of cyL_pointsOf.2.2.2.2 (Nat.le_of_ble_eq_true rfl) ?_
  show Fr _ _ _ _ _ _ 0 [(0, .ref p0a), (1, .int x1a)] [] M _
  unfold f_L_pointsOf at h
  refine fr_aload_n 0 dL_pointsOf_0 rfl ?_
  refine fr_iload_n 1 dL_pointsOf_1 rfl ?_
  obtain ⟨u2, eu2, h⟩ := ob h
  try dsimp only at h
  obtain ⟨r1, er1, h⟩ := ob h
  try dsimp only at h
  rcases r1 with r1v | r1E
  · try dsimp only at h
    refine fr_callV (g1 := false) (k2 := 0) (ev_X10_pointsOf er1) rfl cyX10_pointsOf w_1402 w_1403 w_1404 (rc_ok eu2 rfl (by decide)) (by rfl) (by omega) (by omega) (by rfl) (Nat.le_of_ble_eq_true rfl) dL_pointsOf_2 (Or.inl rfl) (fun v M9 q _ => ?_) (fun E M9 q _ => (Sum.inr_ne_inl q.1).elim)
    obtain rfl : v = some (.int r1v) := Sum.inl.inj q.1
    obtain rfl := q.2.symm
    refine fr_st (S' := [.int r1v]) rfl ?_
    obtain rfl := Option.some.inj h
    exact fr_iret rfl dL_pointsOf_5 ⟨rfl, rfl⟩
  · try dsimp only at h
    refine fr_callV (g1 := false) (k2 := 0) (ev_X10_pointsOf er1) rfl cyX10_pointsOf w_1402 w_1403 w_1404 (rc_ok eu2 rfl (by decide)) (by rfl) (by omega) (by omega) (by rfl) (Nat.le_of_ble_eq_true rfl) dL_pointsOf_2 (Or.inl rfl) (fun v M9 q _ => (Sum.inl_ne_inr q.1).elim) (fun E M9 q _ => ?_)
    obtain rfl : r1E = E := (Sum.inr.inj q.1).symm
    obtain rfl := q.2.symm
    by_cases e3_0 : r1E = "java/lang/IndexOutOfBoundsException"
    · rw [if_pos e3_0] at h
      subst e3_0
      refine fx_catch (E := "java/lang/IndexOutOfBoundsException") (name := "java/lang/IndexOutOfBoundsException") (L' := [(0, .ref p0a), (1, .int x1a)]) [] { startPc := 0, endPc := 5, handlerPc := 6, catchType := 21 } [{ startPc := 0, endPc := 5, handlerPc := 11, catchType := 42 }] rfl ?_ (by decide) (by decide) w_474 (show _ ∈ roC from List.mem_of_getElem? (i := 0) rfl) 2 1 (by decide) (Or.inl ⟨2, rfl, rfl, dL_pointsOf_6⟩) rfl ?_
      · intro z hz; cases hz
      refine fr_sipush (v := (-1001)) dL_pointsOf_7 (by decide) ?_
      obtain rfl := Option.some.inj h
      exact fr_iret rfl dL_pointsOf_10 ⟨rfl, rfl⟩
    rw [if_neg e3_0] at h
    by_cases e3_1 : r1E = "java/util/NoSuchElementException"
    · rw [if_pos e3_1] at h
      subst e3_1
      refine fx_catch (E := "java/util/NoSuchElementException") (name := "java/util/NoSuchElementException") (L' := [(0, .ref p0a), (1, .int x1a)]) [{ startPc := 0, endPc := 5, handlerPc := 6, catchType := 21 }] { startPc := 0, endPc := 5, handlerPc := 11, catchType := 42 } [] rfl ?_ (by decide) (by decide) w_624 (show _ ∈ roC from List.mem_of_getElem? (i := 4) rfl) 2 1 (by decide) (Or.inl ⟨2, rfl, rfl, dL_pointsOf_11⟩) rfl ?_
      · intro z hz
        simp only [List.mem_cons, List.not_mem_nil, or_false] at hz
        subst hz
        exact Or.inr ⟨by decide, "java/lang/IndexOutOfBoundsException", w_474, show _ ∈ roN from List.mem_of_getElem? (i := 45) rfl⟩
      refine fr_sipush (v := (-1002)) dL_pointsOf_12 (by decide) ?_
      obtain rfl := Option.some.inj h
      exact fr_iret rfl dL_pointsOf_15 ⟨rfl, rfl⟩
    rw [if_neg e3_1] at h
    cases h
def f_X10_turnsIn (p0a : Nat) (x1a : Int32) (M : Mem) : Option ((Int32 ⊕ String)) := (f_X10_demandCell x1a M).bind fun r1 => (match r1 with | .inl r1v => ((rc M 10 p0a).bind fun _ => (f_X10_demandOccupied p0a x1a M).bind fun r2 => (match r2 with | .inl r2v => ((gP M 10 p0a 0).bind fun p4 => (rc M 9 p4).bind fun _ => (f_X9_sheetLaidIn p4 x1a M).bind fun r5 => (gI M 7 r5 7).bind fun x7 => some (.inl x7)) | .inr r2E => (some (.inr r2E)))) | .inr r1E => (some (.inr r1E)))
set_option maxRecDepth 20000 in
theorem ev_X10_turnsIn {G : Nat × (Nat → Int32) × Value} {p0a : Nat} {x1a : Int32} {M : Mem} {r : (Int32 ⊕ String)} (h : f_X10_turnsIn p0a x1a M = some r) : Ev (roG G) false YX10_turnsIn 8 2 [.ref p0a, .int x1a] M (fun a b => a = (wE wI) r ∧ b = M) := by
  refine ev_of cyX10_turnsIn.2.2.2.2 (Nat.le_of_ble_eq_true rfl) ?_
  show Fr _ _ _ _ _ _ 0 [(0, .ref p0a), (1, .int x1a)] [] M _
  unfold f_X10_turnsIn at h
  refine fr_iload_n 1 dX10_turnsIn_0 rfl ?_
  obtain ⟨r1, er1, h⟩ := ob h
  try dsimp only at h
  rcases r1 with r1v | r1E
  · try dsimp only at h
    refine fr_callS (g1 := false) (k2 := 1) (ev_X10_demandCell er1) rfl cyX10_demandCell w_682 w_683 (by rfl) (by omega) (by omega) (by rfl) (Nat.le_of_ble_eq_true rfl) dX10_turnsIn_1 (Or.inl rfl) (fun v M9 q _ => ?_) (fun E M9 q _ => (Sum.inr_ne_inl q.1).elim)
    obtain rfl : v = none := Sum.inl.inj q.1
    obtain rfl := q.2.symm
    refine fr_st (S' := []) rfl ?_
    refine fr_aload_n 0 dX10_turnsIn_4 rfl ?_
    refine fr_iload_n 1 dX10_turnsIn_5 rfl ?_
    obtain ⟨u3, eu3, h⟩ := ob h
    try dsimp only at h
    obtain ⟨r2, er2, h⟩ := ob h
    try dsimp only at h
    rcases r2 with r2v | r2E
    · try dsimp only at h
      refine fr_callV (g1 := false) (k2 := 0) (ev_X10_demandOccupied er2) rfl cyX10_demandOccupied w_687 w_689 w_3 (rc_ok eu3 rfl (by decide)) (by rfl) (by omega) (by omega) (by rfl) (Nat.le_of_ble_eq_true rfl) dX10_turnsIn_6 (Or.inl rfl) (fun v M9 q _ => ?_) (fun E M9 q _ => (Sum.inr_ne_inl q.1).elim)
      obtain rfl : v = none := Sum.inl.inj q.1
      obtain rfl := q.2.symm
      refine fr_st (S' := []) rfl ?_
      refine fr_aload_n 0 dX10_turnsIn_9 rfl ?_
      obtain ⟨p4, ep4, h⟩ := ob h
      try dsimp only at h
      refine fr_gP cb10 0 (by decide) rfl w_227 dX10_turnsIn_10 ep4 ?_
      refine fr_iload_n 1 dX10_turnsIn_13 rfl ?_
      obtain ⟨u6, eu6, h⟩ := ob h
      try dsimp only at h
      obtain ⟨r5, er5, h⟩ := ob h
      try dsimp only at h
      refine fr_callV (g1 := false) (k2 := 0) (ev_X9_sheetLaidIn er5) rfl cyX9_sheetLaidIn w_699 w_595 w_596 (rc_ok eu6 rfl (by decide)) (by rfl) (by omega) (by omega) (by rfl) (Nat.le_of_ble_eq_true rfl) dX10_turnsIn_14 (Or.inl rfl) (fun v M9 q _ => ?_) (fun E M9 q _ => (Sum.inr_ne_inl q.1).elim)
      obtain rfl : v = some (.ref r5) := Sum.inl.inj q.1
      obtain rfl := q.2.symm
      refine fr_st (S' := [.ref r5]) rfl ?_
      obtain ⟨x7, ex7, h⟩ := ob h
      try dsimp only at h
      refine fr_gI cb7 7 (by decide) rfl w_101 dX10_turnsIn_17 ex7 ?_
      obtain rfl := Option.some.inj h
      exact fr_iret rfl dX10_turnsIn_20 ⟨rfl, rfl⟩
    · try dsimp only at h
      refine fr_callV (g1 := false) (k2 := 0) (ev_X10_demandOccupied er2) rfl cyX10_demandOccupied w_687 w_689 w_3 (rc_ok eu3 rfl (by decide)) (by rfl) (by omega) (by omega) (by rfl) (Nat.le_of_ble_eq_true rfl) dX10_turnsIn_6 (Or.inl rfl) (fun v M9 q _ => (Sum.inl_ne_inr q.1).elim) (fun E M9 q _ => ?_)
      obtain rfl : r2E = E := (Sum.inr.inj q.1).symm
      obtain rfl := q.2.symm
      obtain rfl := Option.some.inj h
      exact fx_no rfl ⟨rfl, rfl⟩
  · try dsimp only at h
    refine fr_callS (g1 := false) (k2 := 1) (ev_X10_demandCell er1) rfl cyX10_demandCell w_682 w_683 (by rfl) (by omega) (by omega) (by rfl) (Nat.le_of_ble_eq_true rfl) dX10_turnsIn_1 (Or.inl rfl) (fun v M9 q _ => (Sum.inl_ne_inr q.1).elim) (fun E M9 q _ => ?_)
    obtain rfl : r1E = E := (Sum.inr.inj q.1).symm
    obtain rfl := q.2.symm
    obtain rfl := Option.some.inj h
    exact fx_no rfl ⟨rfl, rfl⟩
def f_L_turnsIn (p0a : Nat) (x1a : Int32) (M : Mem) : Option (Int32) := (rc M 10 p0a).bind fun _ => (f_X10_turnsIn p0a x1a M).bind fun r1 => (match r1 with | .inl r1v => (some r1v) | .inr r1E => (if r1E = "java/lang/IndexOutOfBoundsException" then (some (-1001)) else (if r1E = "java/util/NoSuchElementException" then (some (-1002)) else none)))
set_option maxRecDepth 20000 in
theorem ev_L_turnsIn {G : Nat × (Nat → Int32) × Value} {p0a : Nat} {x1a : Int32} {M : Mem} {r : Int32} (h : f_L_turnsIn p0a x1a M = some r) : Ev (roG G) false YL_turnsIn 9 2 [.ref p0a, .int x1a] M (fun a b => a = wI r ∧ b = M) := by
  refine ev_of cyL_turnsIn.2.2.2.2 (Nat.le_of_ble_eq_true rfl) ?_
  show Fr _ _ _ _ _ _ 0 [(0, .ref p0a), (1, .int x1a)] [] M _
  unfold f_L_turnsIn at h
  refine fr_aload_n 0 dL_turnsIn_0 rfl ?_
  refine fr_iload_n 1 dL_turnsIn_1 rfl ?_
  obtain ⟨u2, eu2, h⟩ := ob h
  try dsimp only at h
  obtain ⟨r1, er1, h⟩ := ob h
  try dsimp only at h
  rcases r1 with r1v | r1E
  · try dsimp only at h
    refine fr_callV (g1 := false) (k2 := 0) (ev_X10_turnsIn er1) rfl cyX10_turnsIn w_695 w_696 w_697 (rc_ok eu2 rfl (by decide)) (by rfl) (by omega) (by omega) (by rfl) (Nat.le_of_ble_eq_true rfl) dL_turnsIn_2 (Or.inl rfl) (fun v M9 q _ => ?_) (fun E M9 q _ => (Sum.inr_ne_inl q.1).elim)
    obtain rfl : v = some (.int r1v) := Sum.inl.inj q.1
    obtain rfl := q.2.symm
    refine fr_st (S' := [.int r1v]) rfl ?_
    obtain rfl := Option.some.inj h
    exact fr_iret rfl dL_turnsIn_5 ⟨rfl, rfl⟩
  · try dsimp only at h
    refine fr_callV (g1 := false) (k2 := 0) (ev_X10_turnsIn er1) rfl cyX10_turnsIn w_695 w_696 w_697 (rc_ok eu2 rfl (by decide)) (by rfl) (by omega) (by omega) (by rfl) (Nat.le_of_ble_eq_true rfl) dL_turnsIn_2 (Or.inl rfl) (fun v M9 q _ => (Sum.inl_ne_inr q.1).elim) (fun E M9 q _ => ?_)
    obtain rfl : r1E = E := (Sum.inr.inj q.1).symm
    obtain rfl := q.2.symm
    by_cases e3_0 : r1E = "java/lang/IndexOutOfBoundsException"
    · rw [if_pos e3_0] at h
      subst e3_0
      refine fx_catch (E := "java/lang/IndexOutOfBoundsException") (name := "java/lang/IndexOutOfBoundsException") (L' := [(0, .ref p0a), (1, .int x1a)]) [] { startPc := 0, endPc := 5, handlerPc := 6, catchType := 21 } [{ startPc := 0, endPc := 5, handlerPc := 11, catchType := 42 }] rfl ?_ (by decide) (by decide) w_474 (show _ ∈ roC from List.mem_of_getElem? (i := 0) rfl) 2 1 (by decide) (Or.inl ⟨2, rfl, rfl, dL_turnsIn_6⟩) rfl ?_
      · intro z hz; cases hz
      refine fr_sipush (v := (-1001)) dL_turnsIn_7 (by decide) ?_
      obtain rfl := Option.some.inj h
      exact fr_iret rfl dL_turnsIn_10 ⟨rfl, rfl⟩
    rw [if_neg e3_0] at h
    by_cases e3_1 : r1E = "java/util/NoSuchElementException"
    · rw [if_pos e3_1] at h
      subst e3_1
      refine fx_catch (E := "java/util/NoSuchElementException") (name := "java/util/NoSuchElementException") (L' := [(0, .ref p0a), (1, .int x1a)]) [{ startPc := 0, endPc := 5, handlerPc := 6, catchType := 21 }] { startPc := 0, endPc := 5, handlerPc := 11, catchType := 42 } [] rfl ?_ (by decide) (by decide) w_624 (show _ ∈ roC from List.mem_of_getElem? (i := 4) rfl) 2 1 (by decide) (Or.inl ⟨2, rfl, rfl, dL_turnsIn_11⟩) rfl ?_
      · intro z hz
        simp only [List.mem_cons, List.not_mem_nil, or_false] at hz
        subst hz
        exact Or.inr ⟨by decide, "java/lang/IndexOutOfBoundsException", w_474, show _ ∈ roN from List.mem_of_getElem? (i := 45) rfl⟩
      refine fr_sipush (v := (-1002)) dL_turnsIn_12 (by decide) ?_
      obtain rfl := Option.some.inj h
      exact fr_iret rfl dL_turnsIn_15 ⟨rfl, rfl⟩
    rw [if_neg e3_1] at h
    cases h
def f_X10_wear (p0a : Nat) (x1a : Int32) (M : Mem) : Option ((Int32 ⊕ String)) := (rc M 10 p0a).bind fun _ => (f_X10_demandedSheet p0a x1a M).bind fun r1 => (match r1 with | .inl r1v => ((gI M 7 r1v 4).bind fun x3 => some (.inl x3)) | .inr r1E => (some (.inr r1E)))
set_option maxRecDepth 20000 in
theorem ev_X10_wear {G : Nat × (Nat → Int32) × Value} {p0a : Nat} {x1a : Int32} {M : Mem} {r : (Int32 ⊕ String)} (h : f_X10_wear p0a x1a M = some r) : Ev (roG G) false YX10_wear 8 1 [.ref p0a, .int x1a] M (fun a b => a = (wE wI) r ∧ b = M) := by
  refine ev_of cyX10_wear.2.2.2.2 (Nat.le_of_ble_eq_true rfl) ?_
  show Fr _ _ _ _ _ _ 0 [(0, .ref p0a), (1, .int x1a)] [] M _
  unfold f_X10_wear at h
  refine fr_aload_n 0 dX10_wear_0 rfl ?_
  refine fr_iload_n 1 dX10_wear_1 rfl ?_
  obtain ⟨u2, eu2, h⟩ := ob h
  try dsimp only at h
  obtain ⟨r1, er1, h⟩ := ob h
  try dsimp only at h
  rcases r1 with r1v | r1E
  · try dsimp only at h
    refine fr_callV (g1 := false) (k2 := 0) (ev_X10_demandedSheet er1) rfl cyX10_demandedSheet w_655 w_657 w_2 (rc_ok eu2 rfl (by decide)) (by rfl) (by omega) (by omega) (by rfl) (Nat.le_of_ble_eq_true rfl) dX10_wear_2 (Or.inl rfl) (fun v M9 q _ => ?_) (fun E M9 q _ => (Sum.inr_ne_inl q.1).elim)
    obtain rfl : v = some (.ref r1v) := Sum.inl.inj q.1
    obtain rfl := q.2.symm
    refine fr_st (S' := [.ref r1v]) rfl ?_
    obtain ⟨x3, ex3, h⟩ := ob h
    try dsimp only at h
    refine fr_gI cb7 4 (by decide) rfl w_90 dX10_wear_5 ex3 ?_
    obtain rfl := Option.some.inj h
    exact fr_iret rfl dX10_wear_8 ⟨rfl, rfl⟩
  · try dsimp only at h
    refine fr_callV (g1 := false) (k2 := 0) (ev_X10_demandedSheet er1) rfl cyX10_demandedSheet w_655 w_657 w_2 (rc_ok eu2 rfl (by decide)) (by rfl) (by omega) (by omega) (by rfl) (Nat.le_of_ble_eq_true rfl) dX10_wear_2 (Or.inl rfl) (fun v M9 q _ => (Sum.inl_ne_inr q.1).elim) (fun E M9 q _ => ?_)
    obtain rfl : r1E = E := (Sum.inr.inj q.1).symm
    obtain rfl := q.2.symm
    obtain rfl := Option.some.inj h
    exact fx_no rfl ⟨rfl, rfl⟩
def f_L_wear (p0a : Nat) (x1a : Int32) (M : Mem) : Option (Int32) := (rc M 10 p0a).bind fun _ => (f_X10_wear p0a x1a M).bind fun r1 => (match r1 with | .inl r1v => (some r1v) | .inr r1E => (if r1E = "java/lang/IndexOutOfBoundsException" then (some (-1001)) else none))
set_option maxRecDepth 20000 in
theorem ev_L_wear {G : Nat × (Nat → Int32) × Value} {p0a : Nat} {x1a : Int32} {M : Mem} {r : Int32} (h : f_L_wear p0a x1a M = some r) : Ev (roG G) false YL_wear 9 1 [.ref p0a, .int x1a] M (fun a b => a = wI r ∧ b = M) := by
  refine ev_of cyL_wear.2.2.2.2 (Nat.le_of_ble_eq_true rfl) ?_
  show Fr _ _ _ _ _ _ 0 [(0, .ref p0a), (1, .int x1a)] [] M _
  unfold f_L_wear at h
  refine fr_aload_n 0 dL_wear_0 rfl ?_
  refine fr_iload_n 1 dL_wear_1 rfl ?_
  obtain ⟨u2, eu2, h⟩ := ob h
  try dsimp only at h
  obtain ⟨r1, er1, h⟩ := ob h
  try dsimp only at h
  rcases r1 with r1v | r1E
  · try dsimp only at h
    refine fr_callV (g1 := false) (k2 := 0) (ev_X10_wear er1) rfl cyX10_wear w_651 w_652 w_653 (rc_ok eu2 rfl (by decide)) (by rfl) (by omega) (by omega) (by rfl) (Nat.le_of_ble_eq_true rfl) dL_wear_2 (Or.inl rfl) (fun v M9 q _ => ?_) (fun E M9 q _ => (Sum.inr_ne_inl q.1).elim)
    obtain rfl : v = some (.int r1v) := Sum.inl.inj q.1
    obtain rfl := q.2.symm
    refine fr_st (S' := [.int r1v]) rfl ?_
    obtain rfl := Option.some.inj h
    exact fr_iret rfl dL_wear_5 ⟨rfl, rfl⟩
  · try dsimp only at h
    refine fr_callV (g1 := false) (k2 := 0) (ev_X10_wear er1) rfl cyX10_wear w_651 w_652 w_653 (rc_ok eu2 rfl (by decide)) (by rfl) (by omega) (by omega) (by rfl) (Nat.le_of_ble_eq_true rfl) dL_wear_2 (Or.inl rfl) (fun v M9 q _ => (Sum.inl_ne_inr q.1).elim) (fun E M9 q _ => ?_)
    obtain rfl : r1E = E := (Sum.inr.inj q.1).symm
    obtain rfl := q.2.symm
    by_cases e3_0 : r1E = "java/lang/IndexOutOfBoundsException"
    · rw [if_pos e3_0] at h
      subst e3_0
      refine fx_catch (E := "java/lang/IndexOutOfBoundsException") (name := "java/lang/IndexOutOfBoundsException") (L' := [(0, .ref p0a), (1, .int x1a)]) [] { startPc := 0, endPc := 5, handlerPc := 6, catchType := 21 } [] rfl ?_ (by decide) (by decide) w_474 (show _ ∈ roC from List.mem_of_getElem? (i := 0) rfl) 2 1 (by decide) (Or.inl ⟨2, rfl, rfl, dL_wear_6⟩) rfl ?_
      · intro z hz; cases hz
      refine fr_sipush (v := (-1001)) dL_wear_7 (by decide) ?_
      obtain rfl := Option.some.inj h
      exact fr_iret rfl dL_wear_10 ⟨rfl, rfl⟩
    rw [if_neg e3_0] at h
    cases h
