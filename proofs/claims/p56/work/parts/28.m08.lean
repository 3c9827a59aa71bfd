/-! ===== methods, 8: L_borderIn X10_foldingsByPermutations L_byPermutations X10_cellOf L_cellOf X9_tryFold X10_fold L_fold X9_tryMend X10_mend L_mend X10_isTurns X9_tryPut ===== -/
def f_L_borderIn (p0a : Nat) (x1a : Int32) (x2a : Int32) (M : Mem) : Option (Int32) := (rc M 10 p0a).bind fun _ => (f_X10_borderIn p0a x1a x2a M).bind fun r1 => (match r1 with | .inl r1v => (some r1v) | .inr r1E => (if r1E = "java/lang/IndexOutOfBoundsException" then (some (-1001)) else (if r1E = "java/lang/IllegalArgumentException" then (some (-1002)) else (if r1E = "java/util/NoSuchElementException" then (some (-1003)) else none))))
set_option maxRecDepth 20000 in
theorem ev_L_borderIn {G : Nat × (Nat → Int32) × Value} {p0a : Nat} {x1a : Int32} {x2a : Int32} {M : Mem} {r : Int32} (h : f_L_borderIn p0a x1a x2a M = some r) : Ev (roG G) false YL_borderIn 9 3 [.ref p0a, .int x1a, .int x2a] M (fun a b => a = wI r ∧ b = M) := by
  refine ev_of cyL_borderIn.2.2.2.2 (Nat.le_of_ble_eq_true rfl) ?_
  show Fr _ _ _ _ _ _ 0 [(0, .ref p0a), (1, .int x1a), (2, .int x2a)] [] M _
  unfold f_L_borderIn at h
  refine fr_aload_n 0 dL_borderIn_0 rfl ?_
  refine fr_iload_n 1 dL_borderIn_1 rfl ?_
  refine fr_iload_n 2 dL_borderIn_2 rfl ?_
  obtain ⟨u2, eu2, h⟩ := ob h
  try dsimp only at h
  obtain ⟨r1, er1, h⟩ := ob h
  try dsimp only at h
  rcases r1 with r1v | r1E
  · try dsimp only at h
    refine fr_callV (g1 := false) (k2 := 0) (ev_X10_borderIn er1) rfl cyX10_borderIn w_1394 w_1395 w_1396 (rc_ok eu2 rfl (by decide)) (by rfl) (by omega) (by omega) (by rfl) (Nat.le_of_ble_eq_true rfl) dL_borderIn_3 (Or.inl rfl) (fun v M9 q _ => ?_) (fun E M9 q _ => (Sum.inr_ne_inl q.1).elim)
    obtain rfl : v = some (.int r1v) := Sum.inl.inj q.1
    obtain rfl := q.2.symm
    refine fr_st (S' := [.int r1v]) rfl ?_
    obtain rfl := Option.some.inj h
    exact fr_iret rfl dL_borderIn_6 ⟨rfl, rfl⟩
  · try dsimp only at h
    refine fr_callV (g1 := false) (k2 := 0) (ev_X10_borderIn er1) rfl cyX10_borderIn w_1394 w_1395 w_1396 (rc_ok eu2 rfl (by decide)) (by rfl) (by omega) (by omega) (by rfl) (Nat.le_of_ble_eq_true rfl) dL_borderIn_3 (Or.inl rfl) (fun v M9 q _ => (Sum.inl_ne_inr q.1).elim) (fun E M9 q _ => ?_)
    obtain rfl : r1E = E := (Sum.inr.inj q.1).symm
    obtain rfl := q.2.symm
    by_cases e3_0 : r1E = "java/lang/IndexOutOfBoundsException"
    · rw [if_pos e3_0] at h
      subst e3_0
      refine fx_catch (E := "java/lang/IndexOutOfBoundsException") (name := "java/lang/IndexOutOfBoundsException") (L' := [(0, .ref p0a), (1, .int x1a), (2, .int x2a)]) [] { startPc := 0, endPc := 6, handlerPc := 7, catchType := 21 } [{ startPc := 0, endPc := 6, handlerPc := 12, catchType := 13 }, { startPc := 0, endPc := 6, handlerPc := 17, catchType := 42 }] rfl ?_ (by decide) (by decide) w_474 (show _ ∈ roC from List.mem_of_getElem? (i := 0) rfl) 3 1 (by decide) (Or.inl ⟨3, rfl, rfl, dL_borderIn_7⟩) rfl ?_
      · intro z hz; cases hz
      refine fr_sipush (v := (-1001)) dL_borderIn_8 (by decide) ?_
      obtain rfl := Option.some.inj h
      exact fr_iret rfl dL_borderIn_11 ⟨rfl, rfl⟩
    rw [if_neg e3_0] at h
    by_cases e3_1 : r1E = "java/lang/IllegalArgumentException"
    · rw [if_pos e3_1] at h
      subst e3_1
      refine fx_catch (E := "java/lang/IllegalArgumentException") (name := "java/lang/IllegalArgumentException") (L' := [(0, .ref p0a), (1, .int x1a), (2, .int x2a)]) [{ startPc := 0, endPc := 6, handlerPc := 7, catchType := 21 }] { startPc := 0, endPc := 6, handlerPc := 12, catchType := 13 } [{ startPc := 0, endPc := 6, handlerPc := 17, catchType := 42 }] rfl ?_ (by decide) (by decide) w_296 (show _ ∈ roC from List.mem_of_getElem? (i := 1) rfl) 3 1 (by decide) (Or.inl ⟨3, rfl, rfl, dL_borderIn_12⟩) rfl ?_
      · intro z hz
        simp only [List.mem_cons, List.not_mem_nil, or_false] at hz
        subst hz
        exact Or.inr ⟨by decide, "java/lang/IndexOutOfBoundsException", w_474, show _ ∈ roN from List.mem_of_getElem? (i := 43) rfl⟩
      refine fr_sipush (v := (-1002)) dL_borderIn_13 (by decide) ?_
      obtain rfl := Option.some.inj h
      exact fr_iret rfl dL_borderIn_16 ⟨rfl, rfl⟩
    rw [if_neg e3_1] at h
    by_cases e3_2 : r1E = "java/util/NoSuchElementException"
    · rw [if_pos e3_2] at h
      subst e3_2
      refine fx_catch (E := "java/util/NoSuchElementException") (name := "java/util/NoSuchElementException") (L' := [(0, .ref p0a), (1, .int x1a), (2, .int x2a)]) [{ startPc := 0, endPc := 6, handlerPc := 7, catchType := 21 }, { startPc := 0, endPc := 6, handlerPc := 12, catchType := 13 }] { startPc := 0, endPc := 6, handlerPc := 17, catchType := 42 } [] rfl ?_ (by decide) (by decide) w_624 (show _ ∈ roC from List.mem_of_getElem? (i := 4) rfl) 3 1 (by decide) (Or.inl ⟨3, rfl, rfl, dL_borderIn_17⟩) rfl ?_
      · intro z hz
        simp only [List.mem_cons, List.not_mem_nil, or_false] at hz
        rcases hz with rfl | rfl
        · exact Or.inr ⟨by decide, "java/lang/IndexOutOfBoundsException", w_474, show _ ∈ roN from List.mem_of_getElem? (i := 45) rfl⟩
        · exact Or.inr ⟨by decide, "java/lang/IllegalArgumentException", w_296, show _ ∈ roN from List.mem_of_getElem? (i := 11) rfl⟩
      refine fr_sipush (v := (-1003)) dL_borderIn_18 (by decide) ?_
      obtain rfl := Option.some.inj h
      exact fr_iret rfl dL_borderIn_21 ⟨rfl, rfl⟩
    rw [if_neg e3_2] at h
    cases h
def f_X10_foldingsByPermutations (p0a : Nat) (x1a : Int32) (M : Mem) : Option ((Int32 ⊕ String)) := (gP M 10 p0a 5).bind fun p1 => (rc M 10 p0a).bind fun _ => (f_X10_demandedSheet p0a x1a M).bind fun r2 => (match r2 with | .inl r2v => none | .inr r2E => (some (.inr r2E)))
set_option maxRecDepth 20000 in
theorem ev_X10_foldingsByPermutations {G : Nat × (Nat → Int32) × Value} {p0a : Nat} {x1a : Int32} {M : Mem} {r : (Int32 ⊕ String)} (h : f_X10_foldingsByPermutations p0a x1a M = some r) : Ev (roG G) false YX10_foldingsByPermutations 8 1 [.ref p0a, .int x1a] M (fun a b => a = (wE wI) r ∧ b = M) := by
  refine ev_of cyX10_foldingsByPermutations.2.2.2.2 (Nat.le_of_ble_eq_true rfl) ?_
  show Fr _ _ _ _ _ _ 0 [(0, .ref p0a), (1, .int x1a)] [] M _
  unfold f_X10_foldingsByPermutations at h
  refine fr_aload_n 0 dX10_foldingsByPermutations_0 rfl ?_
  obtain ⟨p1, ep1, h⟩ := ob h
  try dsimp only at h
  refine fr_gP cb10 5 (by decide) rfl w_232 dX10_foldingsByPermutations_1 ep1 ?_
  refine fr_aload_n 0 dX10_foldingsByPermutations_4 rfl ?_
  refine fr_iload_n 1 dX10_foldingsByPermutations_5 rfl ?_
  obtain ⟨u3, eu3, h⟩ := ob h
  try dsimp only at h
  obtain ⟨r2, er2, h⟩ := ob h
  try dsimp only at h
  rcases r2 with r2v | r2E
  · try dsimp only at h
    refine fr_callV (g1 := false) (k2 := 0) (ev_X10_demandedSheet er2) rfl cyX10_demandedSheet w_655 w_657 w_2 (rc_ok eu3 rfl (by decide)) (by rfl) (by omega) (by omega) (by rfl) (Nat.le_of_ble_eq_true rfl) dX10_foldingsByPermutations_6 (Or.inl rfl) (fun v M9 q _ => ?_) (fun E M9 q _ => (Sum.inr_ne_inl q.1).elim)
    obtain rfl : v = some (.ref r2v) := Sum.inl.inj q.1
    obtain rfl := q.2.symm
    refine fr_st (S' := [.ref r2v, .ref p1]) rfl ?_
    cases h
  · try dsimp only at h
    refine fr_callV (g1 := false) (k2 := 0) (ev_X10_demandedSheet er2) rfl cyX10_demandedSheet w_655 w_657 w_2 (rc_ok eu3 rfl (by decide)) (by rfl) (by omega) (by omega) (by rfl) (Nat.le_of_ble_eq_true rfl) dX10_foldingsByPermutations_6 (Or.inl rfl) (fun v M9 q _ => (Sum.inl_ne_inr q.1).elim) (fun E M9 q _ => ?_)
    obtain rfl : r2E = E := (Sum.inr.inj q.1).symm
    obtain rfl := q.2.symm
    obtain rfl := Option.some.inj h
    exact fx_no rfl ⟨rfl, rfl⟩
def f_L_byPermutations (p0a : Nat) (x1a : Int32) (M : Mem) : Option (Int32) := (rc M 10 p0a).bind fun _ => (f_X10_foldingsByPermutations p0a x1a M).bind fun r1 => (match r1 with | .inl r1v => (some r1v) | .inr r1E => (if r1E = "java/lang/IndexOutOfBoundsException" then (some (-1001)) else none))
set_option maxRecDepth 20000 in
theorem ev_L_byPermutations {G : Nat × (Nat → Int32) × Value} {p0a : Nat} {x1a : Int32} {M : Mem} {r : Int32} (h : f_L_byPermutations p0a x1a M = some r) : Ev (roG G) false YL_byPermutations 9 1 [.ref p0a, .int x1a] M (fun a b => a = wI r ∧ b = M) := by
  refine ev_of cyL_byPermutations.2.2.2.2 (Nat.le_of_ble_eq_true rfl) ?_
  show Fr _ _ _ _ _ _ 0 [(0, .ref p0a), (1, .int x1a)] [] M _
  unfold f_L_byPermutations at h
  refine fr_aload_n 0 dL_byPermutations_0 rfl ?_
  refine fr_iload_n 1 dL_byPermutations_1 rfl ?_
  obtain ⟨u2, eu2, h⟩ := ob h
  try dsimp only at h
  obtain ⟨r1, er1, h⟩ := ob h
  try dsimp only at h
  rcases r1 with r1v | r1E
  · try dsimp only at h
    refine fr_callV (g1 := false) (k2 := 0) (ev_X10_foldingsByPermutations er1) rfl cyX10_foldingsByPermutations w_1439 w_1440 w_1441 (rc_ok eu2 rfl (by decide)) (by rfl) (by omega) (by omega) (by rfl) (Nat.le_of_ble_eq_true rfl) dL_byPermutations_2 (Or.inl rfl) (fun v M9 q _ => ?_) (fun E M9 q _ => (Sum.inr_ne_inl q.1).elim)
    obtain rfl : v = some (.int r1v) := Sum.inl.inj q.1
    obtain rfl := q.2.symm
    refine fr_st (S' := [.int r1v]) rfl ?_
    obtain rfl := Option.some.inj h
    exact fr_iret rfl dL_byPermutations_5 ⟨rfl, rfl⟩
  · try dsimp only at h
    refine fr_callV (g1 := false) (k2 := 0) (ev_X10_foldingsByPermutations er1) rfl cyX10_foldingsByPermutations w_1439 w_1440 w_1441 (rc_ok eu2 rfl (by decide)) (by rfl) (by omega) (by omega) (by rfl) (Nat.le_of_ble_eq_true rfl) dL_byPermutations_2 (Or.inl rfl) (fun v M9 q _ => (Sum.inl_ne_inr q.1).elim) (fun E M9 q _ => ?_)
    obtain rfl : r1E = E := (Sum.inr.inj q.1).symm
    obtain rfl := q.2.symm
    by_cases e3_0 : r1E = "java/lang/IndexOutOfBoundsException"
    · rw [if_pos e3_0] at h
      subst e3_0
      refine fx_catch (E := "java/lang/IndexOutOfBoundsException") (name := "java/lang/IndexOutOfBoundsException") (L' := [(0, .ref p0a), (1, .int x1a)]) [] { startPc := 0, endPc := 5, handlerPc := 6, catchType := 21 } [] rfl ?_ (by decide) (by decide) w_474 (show _ ∈ roC from List.mem_of_getElem? (i := 0) rfl) 2 1 (by decide) (Or.inl ⟨2, rfl, rfl, dL_byPermutations_6⟩) rfl ?_
      · intro z hz; cases hz
      refine fr_sipush (v := (-1001)) dL_byPermutations_7 (by decide) ?_
      obtain rfl := Option.some.inj h
      exact fr_iret rfl dL_byPermutations_10 ⟨rfl, rfl⟩
    rw [if_neg e3_0] at h
    cases h
def f_X10_cellOf (p0a : Nat) (x1a : Int32) (M : Mem) : Option ((Int32 ⊕ String)) := (rc M 10 p0a).bind fun _ => (f_X10_demandedSheet p0a x1a M).bind fun r1 => (match r1 with | .inl r1v => ((rc M 7 r1v).bind fun _ => (f_X7_onTable r1v M).bind fun r3 => if r3 = 0 then (some (.inr "java/util/NoSuchElementException")) else ((gI M 7 r1v 6).bind fun x6 => some (.inl x6))) | .inr r1E => (some (.inr r1E)))
set_option maxRecDepth 20000 in
theorem ev_X10_cellOf {G : Nat × (Nat → Int32) × Value} {p0a : Nat} {x1a : Int32} {M : Mem} {r : (Int32 ⊕ String)} (h : f_X10_cellOf p0a x1a M = some r) : Ev (roG G) false YX10_cellOf 8 2 [.ref p0a, .int x1a] M (fun a b => a = (wE wI) r ∧ b = M) := by
  refine ev_of cyX10_cellOf.2.2.2.2 (Nat.le_of_ble_eq_true rfl) ?_
  show Fr _ _ _ _ _ _ 0 [(0, .ref p0a), (1, .int x1a)] [] M _
  unfold f_X10_cellOf at h
  refine fr_aload_n 0 dX10_cellOf_0 rfl ?_
  refine fr_iload_n 1 dX10_cellOf_1 rfl ?_
  obtain ⟨u2, eu2, h⟩ := ob h
  try dsimp only at h
  obtain ⟨r1, er1, h⟩ := ob h
  try dsimp only at h
  rcases r1 with r1v | r1E
  · try dsimp only at h
    refine fr_callV (g1 := false) (k2 := 1) (ev_X10_demandedSheet er1) rfl cyX10_demandedSheet w_655 w_657 w_2 (rc_ok eu2 rfl (by decide)) (by rfl) (by omega) (by omega) (by rfl) (Nat.le_of_ble_eq_true rfl) dX10_cellOf_2 (Or.inl rfl) (fun v M9 q _ => ?_) (fun E M9 q _ => (Sum.inr_ne_inl q.1).elim)
    obtain rfl : v = some (.ref r1v) := Sum.inl.inj q.1
    obtain rfl := q.2.symm
    refine fr_st (S' := [.ref r1v]) rfl ?_
    refine fr_astore_n (L' := [(0, .ref p0a), (1, .int x1a), (2, .ref r1v)]) dX10_cellOf_5 (by decide) rfl ?_
    refine fr_aload_n 2 dX10_cellOf_6 rfl ?_
    obtain ⟨u4, eu4, h⟩ := ob h
    try dsimp only at h
    obtain ⟨r3, er3, h⟩ := ob h
    try dsimp only at h
    refine fr_callV (g1 := false) (k2 := 1) (ev_X7_onTable er3) rfl cyX7_onTable w_1351 w_522 w_523 (rc_ok eu4 rfl (by decide)) (by rfl) (by omega) (by omega) (by rfl) (Nat.le_of_ble_eq_true rfl) dX10_cellOf_7 (Or.inl rfl) (fun v M9 q _ => ?_) (fun E M9 q _ => (Sum.inr_ne_inl q.1).elim)
    obtain rfl : v = some (.int r3) := Sum.inl.inj q.1
    obtain rfl := q.2.symm
    refine fr_st (S' := [.int r3]) rfl ?_
    refine fr_if_ne 23 dX10_cellOf_10 (by decide) (fun c5 => ?_) (fun c5 => ?_)
    · rw [if_neg c5] at h
      refine fr_aload_n 2 dX10_cellOf_23 rfl ?_
      obtain ⟨x6, ex6, h⟩ := ob h
      try dsimp only at h
      refine fr_gI cb7 6 (by decide) rfl w_97 dX10_cellOf_24 ex6 ?_
      obtain rfl := Option.some.inj h
      exact fr_iret rfl dX10_cellOf_27 ⟨rfl, rfl⟩
    · rw [if_pos c5] at h
      obtain rfl := Option.some.inj h
      exact fr_throwSX rfl thX10_149 w_448 w_30 (sa := ROB + 44) (show _ ∈ roS from List.mem_of_getElem? (i := 24) rfl) dX10_cellOf_13 dX10_cellOf_16 dX10_cellOf_17 dX10_cellOf_19 dX10_cellOf_22 (by omega) (by omega) (Nat.le_of_ble_eq_true rfl) ⟨rfl, rfl⟩
  · try dsimp only at h
    refine fr_callV (g1 := false) (k2 := 1) (ev_X10_demandedSheet er1) rfl cyX10_demandedSheet w_655 w_657 w_2 (rc_ok eu2 rfl (by decide)) (by rfl) (by omega) (by omega) (by rfl) (Nat.le_of_ble_eq_true rfl) dX10_cellOf_2 (Or.inl rfl) (fun v M9 q _ => (Sum.inl_ne_inr q.1).elim) (fun E M9 q _ => ?_)
    obtain rfl : r1E = E := (Sum.inr.inj q.1).symm
    obtain rfl := q.2.symm
    obtain rfl := Option.some.inj h
    exact fx_no rfl ⟨rfl, rfl⟩
def f_L_cellOf (p0a : Nat) (x1a : Int32) (M : Mem) : Option (Int32) := (rc M 10 p0a).bind fun _ => (f_X10_cellOf p0a x1a M).bind fun r1 => (match r1 with | .inl r1v => (some r1v) | .inr r1E => (if r1E = "java/lang/IndexOutOfBoundsException" then (some (-1001)) else (if r1E = "java/util/NoSuchElementException" then (some (-1002)) else none)))
set_option maxRecDepth 20000 in
theorem ev_L_cellOf {G : Nat × (Nat → Int32) × Value} {p0a : Nat} {x1a : Int32} {M : Mem} {r : Int32} (h : f_L_cellOf p0a x1a M = some r) : Ev (roG G) false YL_cellOf 9 2 [.ref p0a, .int x1a] M (fun a b => a = wI r ∧ b = M) := by
  refine ev_of cyL_cellOf.2.2.2.2 (Nat.le_of_ble_eq_true rfl) ?_
  show Fr _ _ _ _ _ _ 0 [(0, .ref p0a), (1, .int x1a)] [] M _
  unfold f_L_cellOf at h
  refine fr_aload_n 0 dL_cellOf_0 rfl ?_
  refine fr_iload_n 1 dL_cellOf_1 rfl ?_
  obtain ⟨u2, eu2, h⟩ := ob h
  try dsimp only at h
  obtain ⟨r1, er1, h⟩ := ob h
  try dsimp only at h
  rcases r1 with r1v | r1E
  · try dsimp only at h
    refine fr_callV (g1 := false) (k2 := 0) (ev_X10_cellOf er1) rfl cyX10_cellOf w_1347 w_1348 w_1349 (rc_ok eu2 rfl (by decide)) (by rfl) (by omega) (by omega) (by rfl) (Nat.le_of_ble_eq_true rfl) dL_cellOf_2 (Or.inl rfl) (fun v M9 q _ => ?_) (fun E M9 q _ => (Sum.inr_ne_inl q.1).elim)
    obtain rfl : v = some (.int r1v) := Sum.inl.inj q.1
    obtain rfl := q.2.symm
    refine fr_st (S' := [.int r1v]) rfl ?_
    obtain rfl := Option.some.inj h
    exact fr_iret rfl dL_cellOf_5 ⟨rfl, rfl⟩
  · try dsimp only at h
    refine fr_callV (g1 := false) (k2 := 0) (ev_X10_cellOf er1) rfl cyX10_cellOf w_1347 w_1348 w_1349 (rc_ok eu2 rfl (by decide)) (by rfl) (by omega) (by omega) (by rfl) (Nat.le_of_ble_eq_true rfl) dL_cellOf_2 (Or.inl rfl) (fun v M9 q _ => (Sum.inl_ne_inr q.1).elim) (fun E M9 q _ => ?_)
    obtain rfl : r1E = E := (Sum.inr.inj q.1).symm
    obtain rfl := q.2.symm
    by_cases e3_0 : r1E = "java/lang/IndexOutOfBoundsException"
    · rw [if_pos e3_0] at h
      subst e3_0
      refine fx_catch (E := "java/lang/IndexOutOfBoundsException") (name := "java/lang/IndexOutOfBoundsException") (L' := [(0, .ref p0a), (1, .int x1a)]) [] { startPc := 0, endPc := 5, handlerPc := 6, catchType := 21 } [{ startPc := 0, endPc := 5, handlerPc := 11, catchType := 42 }] rfl ?_ (by decide) (by decide) w_474 (show _ ∈ roC from List.mem_of_getElem? (i := 0) rfl) 2 1 (by decide) (Or.inl ⟨2, rfl, rfl, dL_cellOf_6⟩) rfl ?_
      · intro z hz; cases hz
      refine fr_sipush (v := (-1001)) dL_cellOf_7 (by decide) ?_
      obtain rfl := Option.some.inj h
      exact fr_iret rfl dL_cellOf_10 ⟨rfl, rfl⟩
    rw [if_neg e3_0] at h
    by_cases e3_1 : r1E = "java/util/NoSuchElementException"
    · rw [if_pos e3_1] at h
      subst e3_1
      refine fx_catch (E := "java/util/NoSuchElementException") (name := "java/util/NoSuchElementException") (L' := [(0, .ref p0a), (1, .int x1a)]) [{ startPc := 0, endPc := 5, handlerPc := 6, catchType := 21 }] { startPc := 0, endPc := 5, handlerPc := 11, catchType := 42 } [] rfl ?_ (by decide) (by decide) w_624 (show _ ∈ roC from List.mem_of_getElem? (i := 4) rfl) 2 1 (by decide) (Or.inl ⟨2, rfl, rfl, dL_cellOf_11⟩) rfl ?_
      · intro z hz
        simp only [List.mem_cons, List.not_mem_nil, or_false] at hz
        subst hz
        exact Or.inr ⟨by decide, "java/lang/IndexOutOfBoundsException", w_474, show _ ∈ roN from List.mem_of_getElem? (i := 45) rfl⟩
      refine fr_sipush (v := (-1002)) dL_cellOf_12 (by decide) ?_
      obtain rfl := Option.some.inj h
      exact fr_iret rfl dL_cellOf_15 ⟨rfl, rfl⟩
    rw [if_neg e3_1] at h
    cases h
def f_X9_tryFold (p0a : Nat) (x1a : Int32) (M : Mem) : Option (Int32 × Mem) := (rc M 9 p0a).bind fun _ => (f_X9_hasSheet p0a x1a M).bind fun r1 => if r1 = 0 then (some ((-1), M)) else ((gP M 9 p0a 0).bind fun p4 => (aP M 120 p4 x1a).bind fun p5 => (gI M 7 p5 5).bind fun x6 => if x6 = 0 then ((gI M 7 p5 3).bind fun x8 => if x8 = 0 then (some ((-3), M)) else ((rc M 7 p5).bind fun _ => (f_X7_onTable p5 M).bind fun r10 => if r10 = 0 then ((sI M 7 p5 5 .boolean 1).bind fun M13 => (gI M13 7 p5 4).bind fun x14 => (gI M13 7 p5 3).bind fun x15 => (f_J9_min_7cf53 9 (x14 + x15) M13).bind fun r16 => (sI M13 7 p5 4 .int r16).bind fun M17 => (gI M17 9 p0a 5).bind fun x18 => (sI M17 9 p0a 5 .int (x18 + 1)).bind fun M19 => (gI M19 7 p5 4).bind fun x20 => some (x20, M19)) else (some ((-3), M)))) else (some ((-3), M)))
set_option maxRecDepth 20000 in
theorem ev_X9_tryFold {G : Nat × (Nat → Int32) × Value} {p0a : Nat} {x1a : Int32} {M : Mem} {r : Int32 × Mem} (h : f_X9_tryFold p0a x1a M = some r) : Ev (roG G) false YX9_tryFold 1 0 [.ref p0a, .int x1a] M (fun a b => a = wI r.1 ∧ b = r.2) := by
  refine ev_of cyX9_tryFold.2.2.2.2 (Nat.le_of_ble_eq_true rfl) ?_
  show Fr _ _ _ _ _ _ 0 [(0, .ref p0a), (1, .int x1a)] [] M _
  unfold f_X9_tryFold at h
  refine fr_aload_n 0 dX9_tryFold_0 rfl ?_
  refine fr_iload_n 1 dX9_tryFold_1 rfl ?_
  obtain ⟨u2, eu2, h⟩ := ob h
  try dsimp only at h
  obtain ⟨r1, er1, h⟩ := ob h
  try dsimp only at h
  refine fr_callV (g1 := false) (k2 := 0) (ev_X9_hasSheet er1) rfl cyX9_hasSheet w_503 w_504 w_505 (rc_ok eu2 rfl (by decide)) (by rfl) (by omega) (by omega) (by rfl) (Nat.le_of_ble_eq_true rfl) dX9_tryFold_2 (Or.inl rfl) (fun v M9 q _ => ?_) (fun E M9 q _ => (Sum.inr_ne_inl q.1).elim)
  obtain rfl : v = some (.int r1) := Sum.inl.inj q.1
  obtain rfl := q.2.symm
  refine fr_st (S' := [.int r1]) rfl ?_
  refine fr_if_ne 10 dX9_tryFold_5 (by decide) (fun c3 => ?_) (fun c3 => ?_)
  · rw [if_neg c3] at h
    refine fr_aload_n 0 dX9_tryFold_10 rfl ?_
    obtain ⟨p4, ep4, h⟩ := ob h
    try dsimp only at h
    refine fr_gP cb9 0 (by decide) rfl w_121 dX9_tryFold_11 ep4 ?_
    refine fr_iload_n 1 dX9_tryFold_14 rfl ?_
    obtain ⟨p5, ep5, h⟩ := ob h
    try dsimp only at h
    refine fr_aP (t := 120) (by decide) ep5 dX9_tryFold_15 ?_
    refine fr_astore_n (L' := [(0, .ref p0a), (1, .int x1a), (2, .ref p5)]) dX9_tryFold_16 (by decide) rfl ?_
    refine fr_aload_n 2 dX9_tryFold_17 rfl ?_
    obtain ⟨x6, ex6, h⟩ := ob h
    try dsimp only at h
    refine fr_gI cb7 5 (by decide) rfl w_93 dX9_tryFold_18 ex6 ?_
    refine fr_if_ne 38 dX9_tryFold_21 (by decide) (fun c7 => ?_) (fun c7 => ?_)
    · rw [if_neg c7] at h
      refine fr_bipush (v := (-3)) dX9_tryFold_38 (by decide) ?_
      obtain rfl := Option.some.inj h
      exact fr_iret rfl dX9_tryFold_40 ⟨rfl, rfl⟩
    · rw [if_pos c7] at h
      refine fr_aload_n 2 dX9_tryFold_24 rfl ?_
      obtain ⟨x8, ex8, h⟩ := ob h
      try dsimp only at h
      refine fr_gI cb7 3 (by decide) rfl w_85 dX9_tryFold_25 ex8 ?_
      refine fr_if_eq 38 dX9_tryFold_28 (by decide) (fun c9 => ?_) (fun c9 => ?_)
      · rw [if_pos c9] at h
        refine fr_bipush (v := (-3)) dX9_tryFold_38 (by decide) ?_
        obtain rfl := Option.some.inj h
        exact fr_iret rfl dX9_tryFold_40 ⟨rfl, rfl⟩
      · rw [if_neg c9] at h
        refine fr_aload_n 2 dX9_tryFold_31 rfl ?_
        obtain ⟨u11, eu11, h⟩ := ob h
        try dsimp only at h
        obtain ⟨r10, er10, h⟩ := ob h
        try dsimp only at h
        refine fr_callV (g1 := false) (k2 := 0) (ev_X7_onTable er10) rfl cyX7_onTable w_521 w_522 w_523 (rc_ok eu11 rfl (by decide)) (by rfl) (by omega) (by omega) (by rfl) (Nat.le_of_ble_eq_true rfl) dX9_tryFold_32 (Or.inl rfl) (fun v M9 q _ => ?_) (fun E M9 q _ => (Sum.inr_ne_inl q.1).elim)
        obtain rfl : v = some (.int r10) := Sum.inl.inj q.1
        obtain rfl := q.2.symm
        refine fr_st (S' := [.int r10]) rfl ?_
        refine fr_if_eq 41 dX9_tryFold_35 (by decide) (fun c12 => ?_) (fun c12 => ?_)
        · rw [if_pos c12] at h
          refine fr_aload_n 2 dX9_tryFold_41 rfl ?_
          refine fr_iconst (v := 1) dX9_tryFold_42 (by decide) ?_
          obtain ⟨M13, eM13, h⟩ := ob h
          try dsimp only at h
          refine fr_sI cb7 5 (by decide) rfl rfl w_93 dX9_tryFold_43 eM13 ?_
          refine fr_aload_n 2 dX9_tryFold_46 rfl ?_
          refine fr_bipush (v := 9) dX9_tryFold_47 (by decide) ?_
          refine fr_aload_n 2 dX9_tryFold_49 rfl ?_
          obtain ⟨x14, ex14, h⟩ := ob h
          try dsimp only at h
          refine fr_gI cb7 4 (by decide) rfl w_89 dX9_tryFold_50 ex14 ?_
          refine fr_aload_n 2 dX9_tryFold_53 rfl ?_
          obtain ⟨x15, ex15, h⟩ := ob h
          try dsimp only at h
          refine fr_gI cb7 3 (by decide) rfl w_85 dX9_tryFold_54 ex15 ?_
          refine fr_iadd dX9_tryFold_57 ?_
          obtain ⟨r16, er16, h⟩ := ob h
          try dsimp only at h
          refine fr_callS (g1 := false) (k2 := 0) (ev_J9_min_7cf53 er16) rfl cyJ9_min_7cf53 w_525 w_469 (by rfl) (by omega) (by omega) (by rfl) (Nat.le_of_ble_eq_true rfl) dX9_tryFold_58 (Or.inl rfl) (fun v M9 q _ => ?_) (fun E M9 q _ => (Sum.inr_ne_inl q.1).elim)
          obtain rfl : v = some (.int r16) := Sum.inl.inj q.1
          obtain rfl := q.2.symm
          refine fr_st (S' := [.int r16, .ref p5]) rfl ?_
          obtain ⟨M17, eM17, h⟩ := ob h
          try dsimp only at h
          refine fr_sI cb7 4 (by decide) rfl rfl w_89 dX9_tryFold_61 eM17 ?_
          refine fr_aload_n 0 dX9_tryFold_64 rfl ?_
          refine fr_dup dX9_tryFold_65 rfl ?_
          obtain ⟨x18, ex18, h⟩ := ob h
          try dsimp only at h
          refine fr_gI cb9 5 (by decide) rfl w_132 dX9_tryFold_66 ex18 ?_
          refine fr_iconst (v := 1) dX9_tryFold_69 (by decide) ?_
          refine fr_iadd dX9_tryFold_70 ?_
          obtain ⟨M19, eM19, h⟩ := ob h
          try dsimp only at h
          refine fr_sI cb9 5 (by decide) rfl rfl w_132 dX9_tryFold_71 eM19 ?_
          refine fr_aload_n 2 dX9_tryFold_74 rfl ?_
          obtain ⟨x20, ex20, h⟩ := ob h
          try dsimp only at h
          refine fr_gI cb7 4 (by decide) rfl w_89 dX9_tryFold_75 ex20 ?_
          obtain rfl := Option.some.inj h
          exact fr_iret rfl dX9_tryFold_78 ⟨rfl, rfl⟩
        · rw [if_neg c12] at h
          refine fr_bipush (v := (-3)) dX9_tryFold_38 (by decide) ?_
          obtain rfl := Option.some.inj h
          exact fr_iret rfl dX9_tryFold_40 ⟨rfl, rfl⟩
  · rw [if_pos c3] at h
    refine fr_iconst (v := (-1)) dX9_tryFold_8 (by decide) ?_
    obtain rfl := Option.some.inj h
    exact fr_iret rfl dX9_tryFold_9 ⟨rfl, rfl⟩
def f_X10_fold (p0a : Nat) (x1a : Int32) (M : Mem) : Option ((Int32 ⊕ String) × Mem) := (gP M 10 p0a 3).bind fun p1 => (gP M 10 p0a 0).bind fun p2 => (rc M 4 p1).bind fun _ => (f_X3_prepare p1 p2 M).bind fun r3 => (gP r3.2 10 p0a 0).bind fun p5 => (rc r3.2 9 p5).bind fun _ => (f_X9_tryFold p5 x1a r3.2).bind fun r6 => (rc r6.2 10 p0a).bind fun _ => (f_X10_recorded p0a r6.1 r6.2).bind fun r8 => (match r8 with | (.inl r8v, r8M) => (some ((.inl r8v), r8M)) | (.inr r8E, r8M) => (some ((.inr r8E), r8M)))
set_option maxRecDepth 20000 in
theorem ev_X10_fold {G : Nat × (Nat → Int32) × Value} {p0a : Nat} {x1a : Int32} {M : Mem} {r : (Int32 ⊕ String) × Mem} (h : f_X10_fold p0a x1a M = some r) : Ev (roG G) false YX10_fold 9 1 [.ref p0a, .int x1a] M (fun a b => a = (wE wI) r.1 ∧ b = r.2) := by
  refine ev_of cyX10_fold.2.2.2.2 (Nat.le_of_ble_eq_true rfl) ?_
  show Fr _ _ _ _ _ _ 0 [(0, .ref p0a), (1, .int x1a)] [] M _
  unfold f_X10_fold at h
  refine fr_aload_n 0 dX10_fold_0 rfl ?_
  obtain ⟨p1, ep1, h⟩ := ob h
  try dsimp only at h
  refine fr_gP cb10 3 (by decide) rfl w_230 dX10_fold_1 ep1 ?_
  refine fr_aload_n 0 dX10_fold_4 rfl ?_
  obtain ⟨p2, ep2, h⟩ := ob h
  try dsimp only at h
  refine fr_gP cb10 0 (by decide) rfl w_227 dX10_fold_5 ep2 ?_
  obtain ⟨u4, eu4, h⟩ := ob h
  try dsimp only at h
  obtain ⟨r3, er3, h⟩ := ob h
  try dsimp only at h
  refine fr_callV (g1 := false) (k2 := 1) (ev_X3_prepare er3) rfl cyX3_prepare w_302 w_303 w_304 (rc_ok eu4 rfl (by decide)) (by rfl) (by omega) (by omega) (by rfl) (Nat.le_of_ble_eq_true rfl) dX10_fold_8 (Or.inl rfl) (fun v M9 q _ => ?_) (fun E M9 q _ => (Sum.inr_ne_inl q.1).elim)
  obtain rfl : v = none := Sum.inl.inj q.1
  obtain rfl := q.2.symm
  refine fr_st (S' := []) rfl ?_
  refine fr_aload_n 0 dX10_fold_11 rfl ?_
  refine fr_aload_n 0 dX10_fold_12 rfl ?_
  obtain ⟨p5, ep5, h⟩ := ob h
  try dsimp only at h
  refine fr_gP cb10 0 (by decide) rfl w_227 dX10_fold_13 ep5 ?_
  refine fr_iload_n 1 dX10_fold_16 rfl ?_
  obtain ⟨u7, eu7, h⟩ := ob h
  try dsimp only at h
  obtain ⟨r6, er6, h⟩ := ob h
  try dsimp only at h
  refine fr_callV (g1 := false) (k2 := 1) (ev_X9_tryFold er6) rfl cyX9_tryFold w_517 w_518 w_519 (rc_ok eu7 rfl (by decide)) (by rfl) (by omega) (by omega) (by rfl) (Nat.le_of_ble_eq_true rfl) dX10_fold_17 (Or.inl rfl) (fun v M9 q _ => ?_) (fun E M9 q _ => (Sum.inr_ne_inl q.1).elim)
  obtain rfl : v = some (.int r6.1) := Sum.inl.inj q.1
  obtain rfl := q.2.symm
  refine fr_st (S' := [.int r6.1, .ref p0a]) rfl ?_
  obtain ⟨u9, eu9, h⟩ := ob h
  try dsimp only at h
  obtain ⟨r8, er8, h⟩ := ob h
  try dsimp only at h
  obtain ⟨r8v | r8E, r8M⟩ := r8
  · try dsimp only at h
    refine fr_callV (g1 := false) (k2 := 0) (ev_X10_recorded er8) rfl cyX10_recorded w_321 w_323 w_0 (rc_ok eu9 rfl (by decide)) (by rfl) (by omega) (by omega) (by rfl) (Nat.le_of_ble_eq_true rfl) dX10_fold_20 (Or.inl rfl) (fun v M9 q _ => ?_) (fun E M9 q _ => (Sum.inr_ne_inl q.1).elim)
    obtain rfl : v = some (.int r8v) := Sum.inl.inj q.1
    obtain rfl := q.2.symm
    refine fr_st (S' := [.int r8v]) rfl ?_
    obtain rfl := Option.some.inj h
    exact fr_iret rfl dX10_fold_23 ⟨rfl, rfl⟩
  · try dsimp only at h
    refine fr_callV (g1 := false) (k2 := 0) (ev_X10_recorded er8) rfl cyX10_recorded w_321 w_323 w_0 (rc_ok eu9 rfl (by decide)) (by rfl) (by omega) (by omega) (by rfl) (Nat.le_of_ble_eq_true rfl) dX10_fold_20 (Or.inl rfl) (fun v M9 q _ => (Sum.inl_ne_inr q.1).elim) (fun E M9 q _ => ?_)
    obtain rfl : r8E = E := (Sum.inr.inj q.1).symm
    obtain rfl := q.2.symm
    obtain rfl := Option.some.inj h
    exact fx_no rfl ⟨rfl, rfl⟩
def f_L_fold (p0a : Nat) (x1a : Int32) (M : Mem) : Option (Int32 × Mem) := (rc M 10 p0a).bind fun _ => (f_X10_fold p0a x1a M).bind fun r1 => (match r1 with | (.inl r1v, r1M) => (some (r1v, r1M)) | (.inr r1E, r1M) => (if r1E = "java/lang/IndexOutOfBoundsException" then (some ((-1001), r1M)) else (if r1E = "java/lang/IllegalStateException" then (some ((-1002), r1M)) else none)))
set_option maxRecDepth 20000 in
theorem ev_L_fold {G : Nat × (Nat → Int32) × Value} {p0a : Nat} {x1a : Int32} {M : Mem} {r : Int32 × Mem} (h : f_L_fold p0a x1a M = some r) : Ev (roG G) false YL_fold 10 1 [.ref p0a, .int x1a] M (fun a b => a = wI r.1 ∧ b = r.2) := by
  refine ev_of cyL_fold.2.2.2.2 (Nat.le_of_ble_eq_true rfl) ?_
  show Fr _ _ _ _ _ _ 0 [(0, .ref p0a), (1, .int x1a)] [] M _
  unfold f_L_fold at h
  refine fr_aload_n 0 dL_fold_0 rfl ?_
  refine fr_iload_n 1 dL_fold_1 rfl ?_
  obtain ⟨u2, eu2, h⟩ := ob h
  try dsimp only at h
  obtain ⟨r1, er1, h⟩ := ob h
  try dsimp only at h
  obtain ⟨r1v | r1E, r1M⟩ := r1
  · try dsimp only at h
    refine fr_callV (g1 := false) (k2 := 0) (ev_X10_fold er1) rfl cyX10_fold w_513 w_514 w_515 (rc_ok eu2 rfl (by decide)) (by rfl) (by omega) (by omega) (by rfl) (Nat.le_of_ble_eq_true rfl) dL_fold_2 (Or.inl rfl) (fun v M9 q _ => ?_) (fun E M9 q _ => (Sum.inr_ne_inl q.1).elim)
    obtain rfl : v = some (.int r1v) := Sum.inl.inj q.1
    obtain rfl := q.2.symm
    refine fr_st (S' := [.int r1v]) rfl ?_
    obtain rfl := Option.some.inj h
    exact fr_iret rfl dL_fold_5 ⟨rfl, rfl⟩
  · try dsimp only at h
    refine fr_callV (g1 := false) (k2 := 0) (ev_X10_fold er1) rfl cyX10_fold w_513 w_514 w_515 (rc_ok eu2 rfl (by decide)) (by rfl) (by omega) (by omega) (by rfl) (Nat.le_of_ble_eq_true rfl) dL_fold_2 (Or.inl rfl) (fun v M9 q _ => (Sum.inl_ne_inr q.1).elim) (fun E M9 q _ => ?_)
    obtain rfl : r1E = E := (Sum.inr.inj q.1).symm
    obtain rfl := q.2.symm
    by_cases e3_0 : r1E = "java/lang/IndexOutOfBoundsException"
    · rw [if_pos e3_0] at h
      subst e3_0
      refine fx_catch (E := "java/lang/IndexOutOfBoundsException") (name := "java/lang/IndexOutOfBoundsException") (L' := [(0, .ref p0a), (1, .int x1a)]) [] { startPc := 0, endPc := 5, handlerPc := 6, catchType := 21 } [{ startPc := 0, endPc := 5, handlerPc := 11, catchType := 15 }] rfl ?_ (by decide) (by decide) w_474 (show _ ∈ roC from List.mem_of_getElem? (i := 0) rfl) 2 1 (by decide) (Or.inl ⟨2, rfl, rfl, dL_fold_6⟩) rfl ?_
      · intro z hz; cases hz
      refine fr_sipush (v := (-1001)) dL_fold_7 (by decide) ?_
      obtain rfl := Option.some.inj h
      exact fr_iret rfl dL_fold_10 ⟨rfl, rfl⟩
    rw [if_neg e3_0] at h
    by_cases e3_1 : r1E = "java/lang/IllegalStateException"
    · rw [if_pos e3_1] at h
      subst e3_1
      refine fx_catch (E := "java/lang/IllegalStateException") (name := "java/lang/IllegalStateException") (L' := [(0, .ref p0a), (1, .int x1a)]) [{ startPc := 0, endPc := 5, handlerPc := 6, catchType := 21 }] { startPc := 0, endPc := 5, handlerPc := 11, catchType := 15 } [] rfl ?_ (by decide) (by decide) w_297 (show _ ∈ roC from List.mem_of_getElem? (i := 2) rfl) 2 1 (by decide) (Or.inl ⟨2, rfl, rfl, dL_fold_11⟩) rfl ?_
      · intro z hz
        simp only [List.mem_cons, List.not_mem_nil, or_false] at hz
        subst hz
        exact Or.inr ⟨by decide, "java/lang/IndexOutOfBoundsException", w_474, show _ ∈ roN from List.mem_of_getElem? (i := 42) rfl⟩
      refine fr_sipush (v := (-1002)) dL_fold_12 (by decide) ?_
      obtain rfl := Option.some.inj h
      exact fr_iret rfl dL_fold_15 ⟨rfl, rfl⟩
    rw [if_neg e3_1] at h
    cases h
def f_X9_tryMend (p0a : Nat) (x1a : Int32) (M : Mem) : Option (Int32 × Mem) := (rc M 9 p0a).bind fun _ => (f_X9_hasSheet p0a x1a M).bind fun r1 => if r1 = 0 then (some ((-1), M)) else ((gP M 9 p0a 0).bind fun p4 => (aP M 120 p4 x1a).bind fun p5 => (gI M 7 p5 4).bind fun x6 => if x6 = 0 then (some ((-3), M)) else ((gI M 7 p5 5).bind fun x8 => if x8 = 0 then ((gI M 9 p0a 3).bind fun x10 => (gI M 7 p5 4).bind fun x11 => if x11 ≤ x10 then ((gI M 9 p0a 3).bind fun x13 => (gI M 7 p5 4).bind fun x14 => (sI M 9 p0a 3 .int (x13 - x14)).bind fun M15 => (gI M15 9 p0a 4).bind fun x16 => (gI M15 7 p5 4).bind fun x17 => (sI M15 9 p0a 4 .int (x16 + x17)).bind fun M18 => (sI M18 7 p5 4 .int 0).bind fun M19 => (gI M19 9 p0a 3).bind fun x20 => some (x20, M19)) else (some ((-4), M))) else (some ((-3), M))))
set_option maxRecDepth 20000 in
theorem ev_X9_tryMend {G : Nat × (Nat → Int32) × Value} {p0a : Nat} {x1a : Int32} {M : Mem} {r : Int32 × Mem} (h : f_X9_tryMend p0a x1a M = some r) : Ev (roG G) false YX9_tryMend 1 0 [.ref p0a, .int x1a] M (fun a b => a = wI r.1 ∧ b = r.2) := by
  refine ev_of cyX9_tryMend.2.2.2.2 (Nat.le_of_ble_eq_true rfl) ?_
  show Fr _ _ _ _ _ _ 0 [(0, .ref p0a), (1, .int x1a)] [] M _
  unfold f_X9_tryMend at h
  refine fr_aload_n 0 dX9_tryMend_0 rfl ?_
  refine fr_iload_n 1 dX9_tryMend_1 rfl ?_
  obtain ⟨u2, eu2, h⟩ := ob h
  try dsimp only at h
  obtain ⟨r1, er1, h⟩ := ob h
  try dsimp only at h
  refine fr_callV (g1 := false) (k2 := 0) (ev_X9_hasSheet er1) rfl cyX9_hasSheet w_503 w_504 w_505 (rc_ok eu2 rfl (by decide)) (by rfl) (by omega) (by omega) (by rfl) (Nat.le_of_ble_eq_true rfl) dX9_tryMend_2 (Or.inl rfl) (fun v M9 q _ => ?_) (fun E M9 q _ => (Sum.inr_ne_inl q.1).elim)
  obtain rfl : v = some (.int r1) := Sum.inl.inj q.1
  obtain rfl := q.2.symm
  refine fr_st (S' := [.int r1]) rfl ?_
  refine fr_if_ne 10 dX9_tryMend_5 (by decide) (fun c3 => ?_) (fun c3 => ?_)
  · rw [if_neg c3] at h
    refine fr_aload_n 0 dX9_tryMend_10 rfl ?_
    obtain ⟨p4, ep4, h⟩ := ob h
    try dsimp only at h
    refine fr_gP cb9 0 (by decide) rfl w_121 dX9_tryMend_11 ep4 ?_
    refine fr_iload_n 1 dX9_tryMend_14 rfl ?_
    obtain ⟨p5, ep5, h⟩ := ob h
    try dsimp only at h
    refine fr_aP (t := 120) (by decide) ep5 dX9_tryMend_15 ?_
    refine fr_astore_n (L' := [(0, .ref p0a), (1, .int x1a), (2, .ref p5)]) dX9_tryMend_16 (by decide) rfl ?_
    refine fr_aload_n 2 dX9_tryMend_17 rfl ?_
    obtain ⟨x6, ex6, h⟩ := ob h
    try dsimp only at h
    refine fr_gI cb7 4 (by decide) rfl w_89 dX9_tryMend_18 ex6 ?_
    refine fr_if_eq 31 dX9_tryMend_21 (by decide) (fun c7 => ?_) (fun c7 => ?_)
    · rw [if_pos c7] at h
      refine fr_bipush (v := (-3)) dX9_tryMend_31 (by decide) ?_
      obtain rfl := Option.some.inj h
      exact fr_iret rfl dX9_tryMend_33 ⟨rfl, rfl⟩
    · rw [if_neg c7] at h
      refine fr_aload_n 2 dX9_tryMend_24 rfl ?_
      obtain ⟨x8, ex8, h⟩ := ob h
      try dsimp only at h
      refine fr_gI cb7 5 (by decide) rfl w_93 dX9_tryMend_25 ex8 ?_
      refine fr_if_eq 34 dX9_tryMend_28 (by decide) (fun c9 => ?_) (fun c9 => ?_)
      · rw [if_pos c9] at h
        refine fr_aload_n 0 dX9_tryMend_34 rfl ?_
        obtain ⟨x10, ex10, h⟩ := ob h
        try dsimp only at h
        refine fr_gI cb9 3 (by decide) rfl w_128 dX9_tryMend_35 ex10 ?_
        refine fr_aload_n 2 dX9_tryMend_38 rfl ?_
        obtain ⟨x11, ex11, h⟩ := ob h
        try dsimp only at h
        refine fr_gI cb7 4 (by decide) rfl w_89 dX9_tryMend_39 ex11 ?_
        refine fr_icmp_ge 48 dX9_tryMend_42 (by decide) (fun c12 => ?_) (fun c12 => ?_)
        · rw [if_pos c12] at h
          refine fr_aload_n 0 dX9_tryMend_48 rfl ?_
          refine fr_dup dX9_tryMend_49 rfl ?_
          obtain ⟨x13, ex13, h⟩ := ob h
          try dsimp only at h
          refine fr_gI cb9 3 (by decide) rfl w_128 dX9_tryMend_50 ex13 ?_
          refine fr_aload_n 2 dX9_tryMend_53 rfl ?_
          obtain ⟨x14, ex14, h⟩ := ob h
          try dsimp only at h
          refine fr_gI cb7 4 (by decide) rfl w_89 dX9_tryMend_54 ex14 ?_
          refine fr_isub dX9_tryMend_57 ?_
          obtain ⟨M15, eM15, h⟩ := ob h
          try dsimp only at h
          refine fr_sI cb9 3 (by decide) rfl rfl w_128 dX9_tryMend_58 eM15 ?_
          refine fr_aload_n 0 dX9_tryMend_61 rfl ?_
          refine fr_dup dX9_tryMend_62 rfl ?_
          obtain ⟨x16, ex16, h⟩ := ob h
          try dsimp only at h
          refine fr_gI cb9 4 (by decide) rfl w_130 dX9_tryMend_63 ex16 ?_
          refine fr_aload_n 2 dX9_tryMend_66 rfl ?_
          obtain ⟨x17, ex17, h⟩ := ob h
          try dsimp only at h
          refine fr_gI cb7 4 (by decide) rfl w_89 dX9_tryMend_67 ex17 ?_
          refine fr_iadd dX9_tryMend_70 ?_
          obtain ⟨M18, eM18, h⟩ := ob h
          try dsimp only at h
          refine fr_sI cb9 4 (by decide) rfl rfl w_130 dX9_tryMend_71 eM18 ?_
          refine fr_aload_n 2 dX9_tryMend_74 rfl ?_
          refine fr_iconst (v := 0) dX9_tryMend_75 (by decide) ?_
          obtain ⟨M19, eM19, h⟩ := ob h
          try dsimp only at h
          refine fr_sI cb7 4 (by decide) rfl rfl w_89 dX9_tryMend_76 eM19 ?_
          refine fr_aload_n 0 dX9_tryMend_79 rfl ?_
          obtain ⟨x20, ex20, h⟩ := ob h
          try dsimp only at h
          refine fr_gI cb9 3 (by decide) rfl w_128 dX9_tryMend_80 ex20 ?_
          obtain rfl := Option.some.inj h
          exact fr_iret rfl dX9_tryMend_83 ⟨rfl, rfl⟩
        · rw [if_neg c12] at h
          refine fr_bipush (v := (-4)) dX9_tryMend_45 (by decide) ?_
          obtain rfl := Option.some.inj h
          exact fr_iret rfl dX9_tryMend_47 ⟨rfl, rfl⟩
      · rw [if_neg c9] at h
        refine fr_bipush (v := (-3)) dX9_tryMend_31 (by decide) ?_
        obtain rfl := Option.some.inj h
        exact fr_iret rfl dX9_tryMend_33 ⟨rfl, rfl⟩
  · rw [if_pos c3] at h
    refine fr_iconst (v := (-1)) dX9_tryMend_8 (by decide) ?_
    obtain rfl := Option.some.inj h
    exact fr_iret rfl dX9_tryMend_9 ⟨rfl, rfl⟩
def f_X10_mend (p0a : Nat) (x1a : Int32) (M : Mem) : Option ((Int32 ⊕ String) × Mem) := (gP M 10 p0a 3).bind fun p1 => (gP M 10 p0a 0).bind fun p2 => (rc M 4 p1).bind fun _ => (f_X3_prepare p1 p2 M).bind fun r3 => (gP r3.2 10 p0a 0).bind fun p5 => (rc r3.2 9 p5).bind fun _ => (f_X9_tryMend p5 x1a r3.2).bind fun r6 => (rc r6.2 10 p0a).bind fun _ => (f_X10_recorded p0a r6.1 r6.2).bind fun r8 => (match r8 with | (.inl r8v, r8M) => (some ((.inl r8v), r8M)) | (.inr r8E, r8M) => (some ((.inr r8E), r8M)))
set_option maxRecDepth 20000 in
theorem ev_X10_mend {G : Nat × (Nat → Int32) × Value} {p0a : Nat} {x1a : Int32} {M : Mem} {r : (Int32 ⊕ String) × Mem} (h : f_X10_mend p0a x1a M = some r) : Ev (roG G) false YX10_mend 9 1 [.ref p0a, .int x1a] M (fun a b => a = (wE wI) r.1 ∧ b = r.2) := by
  refine ev_of cyX10_mend.2.2.2.2 (Nat.le_of_ble_eq_true rfl) ?_
  show Fr _ _ _ _ _ _ 0 [(0, .ref p0a), (1, .int x1a)] [] M _
  unfold f_X10_mend at h
  refine fr_aload_n 0 dX10_mend_0 rfl ?_
  obtain ⟨p1, ep1, h⟩ := ob h
  try dsimp only at h
  refine fr_gP cb10 3 (by decide) rfl w_230 dX10_mend_1 ep1 ?_
  refine fr_aload_n 0 dX10_mend_4 rfl ?_
  obtain ⟨p2, ep2, h⟩ := ob h
  try dsimp only at h
  refine fr_gP cb10 0 (by decide) rfl w_227 dX10_mend_5 ep2 ?_
  obtain ⟨u4, eu4, h⟩ := ob h
  try dsimp only at h
  obtain ⟨r3, er3, h⟩ := ob h
  try dsimp only at h
  refine fr_callV (g1 := false) (k2 := 1) (ev_X3_prepare er3) rfl cyX3_prepare w_302 w_303 w_304 (rc_ok eu4 rfl (by decide)) (by rfl) (by omega) (by omega) (by rfl) (Nat.le_of_ble_eq_true rfl) dX10_mend_8 (Or.inl rfl) (fun v M9 q _ => ?_) (fun E M9 q _ => (Sum.inr_ne_inl q.1).elim)
  obtain rfl : v = none := Sum.inl.inj q.1
  obtain rfl := q.2.symm
  refine fr_st (S' := []) rfl ?_
  refine fr_aload_n 0 dX10_mend_11 rfl ?_
  refine fr_aload_n 0 dX10_mend_12 rfl ?_
  obtain ⟨p5, ep5, h⟩ := ob h
  try dsimp only at h
  refine fr_gP cb10 0 (by decide) rfl w_227 dX10_mend_13 ep5 ?_
  refine fr_iload_n 1 dX10_mend_16 rfl ?_
  obtain ⟨u7, eu7, h⟩ := ob h
  try dsimp only at h
  obtain ⟨r6, er6, h⟩ := ob h
  try dsimp only at h
  refine fr_callV (g1 := false) (k2 := 1) (ev_X9_tryMend er6) rfl cyX9_tryMend w_549 w_550 w_551 (rc_ok eu7 rfl (by decide)) (by rfl) (by omega) (by omega) (by rfl) (Nat.le_of_ble_eq_true rfl) dX10_mend_17 (Or.inl rfl) (fun v M9 q _ => ?_) (fun E M9 q _ => (Sum.inr_ne_inl q.1).elim)
  obtain rfl : v = some (.int r6.1) := Sum.inl.inj q.1
  obtain rfl := q.2.symm
  refine fr_st (S' := [.int r6.1, .ref p0a]) rfl ?_
  obtain ⟨u9, eu9, h⟩ := ob h
  try dsimp only at h
  obtain ⟨r8, er8, h⟩ := ob h
  try dsimp only at h
  obtain ⟨r8v | r8E, r8M⟩ := r8
  · try dsimp only at h
    refine fr_callV (g1 := false) (k2 := 0) (ev_X10_recorded er8) rfl cyX10_recorded w_321 w_323 w_0 (rc_ok eu9 rfl (by decide)) (by rfl) (by omega) (by omega) (by rfl) (Nat.le_of_ble_eq_true rfl) dX10_mend_20 (Or.inl rfl) (fun v M9 q _ => ?_) (fun E M9 q _ => (Sum.inr_ne_inl q.1).elim)
    obtain rfl : v = some (.int r8v) := Sum.inl.inj q.1
    obtain rfl := q.2.symm
    refine fr_st (S' := [.int r8v]) rfl ?_
    obtain rfl := Option.some.inj h
    exact fr_iret rfl dX10_mend_23 ⟨rfl, rfl⟩
  · try dsimp only at h
    refine fr_callV (g1 := false) (k2 := 0) (ev_X10_recorded er8) rfl cyX10_recorded w_321 w_323 w_0 (rc_ok eu9 rfl (by decide)) (by rfl) (by omega) (by omega) (by rfl) (Nat.le_of_ble_eq_true rfl) dX10_mend_20 (Or.inl rfl) (fun v M9 q _ => (Sum.inl_ne_inr q.1).elim) (fun E M9 q _ => ?_)
    obtain rfl : r8E = E := (Sum.inr.inj q.1).symm
    obtain rfl := q.2.symm
    obtain rfl := Option.some.inj h
    exact fx_no rfl ⟨rfl, rfl⟩
def f_L_mend (p0a : Nat) (x1a : Int32) (M : Mem) : Option (Int32 × Mem) := (rc M 10 p0a).bind fun _ => (f_X10_mend p0a x1a M).bind fun r1 => (match r1 with | (.inl r1v, r1M) => (some (r1v, r1M)) | (.inr r1E, r1M) => (if r1E = "java/lang/IndexOutOfBoundsException" then (some ((-1001), r1M)) else (if r1E = "java/lang/IllegalStateException" then (some ((-1002), r1M)) else (if r1E = "java/lang/UnsupportedOperationException" then (some ((-1003), r1M)) else none))))
set_option maxRecDepth 20000 in
theorem ev_L_mend {G : Nat × (Nat → Int32) × Value} {p0a : Nat} {x1a : Int32} {M : Mem} {r : Int32 × Mem} (h : f_L_mend p0a x1a M = some r) : Ev (roG G) false YL_mend 10 1 [.ref p0a, .int x1a] M (fun a b => a = wI r.1 ∧ b = r.2) := by
  refine ev_of cyL_mend.2.2.2.2 (Nat.le_of_ble_eq_true rfl) ?_
  show Fr _ _ _ _ _ _ 0 [(0, .ref p0a), (1, .int x1a)] [] M _
  unfold f_L_mend at h
  refine fr_aload_n 0 dL_mend_0 rfl ?_
  refine fr_iload_n 1 dL_mend_1 rfl ?_
  obtain ⟨u2, eu2, h⟩ := ob h
  try dsimp only at h
  obtain ⟨r1, er1, h⟩ := ob h
  try dsimp only at h
  obtain ⟨r1v | r1E, r1M⟩ := r1
  · try dsimp only at h
    refine fr_callV (g1 := false) (k2 := 0) (ev_X10_mend er1) rfl cyX10_mend w_545 w_546 w_547 (rc_ok eu2 rfl (by decide)) (by rfl) (by omega) (by omega) (by rfl) (Nat.le_of_ble_eq_true rfl) dL_mend_2 (Or.inl rfl) (fun v M9 q _ => ?_) (fun E M9 q _ => (Sum.inr_ne_inl q.1).elim)
    obtain rfl : v = some (.int r1v) := Sum.inl.inj q.1
    obtain rfl := q.2.symm
    refine fr_st (S' := [.int r1v]) rfl ?_
    obtain rfl := Option.some.inj h
    exact fr_iret rfl dL_mend_5 ⟨rfl, rfl⟩
  · try dsimp only at h
    refine fr_callV (g1 := false) (k2 := 0) (ev_X10_mend er1) rfl cyX10_mend w_545 w_546 w_547 (rc_ok eu2 rfl (by decide)) (by rfl) (by omega) (by omega) (by rfl) (Nat.le_of_ble_eq_true rfl) dL_mend_2 (Or.inl rfl) (fun v M9 q _ => (Sum.inl_ne_inr q.1).elim) (fun E M9 q _ => ?_)
    obtain rfl : r1E = E := (Sum.inr.inj q.1).symm
    obtain rfl := q.2.symm
    by_cases e3_0 : r1E = "java/lang/IndexOutOfBoundsException"
    · rw [if_pos e3_0] at h
      subst e3_0
      refine fx_catch (E := "java/lang/IndexOutOfBoundsException") (name := "java/lang/IndexOutOfBoundsException") (L' := [(0, .ref p0a), (1, .int x1a)]) [] { startPc := 0, endPc := 5, handlerPc := 6, catchType := 21 } [{ startPc := 0, endPc := 5, handlerPc := 11, catchType := 15 }, { startPc := 0, endPc := 5, handlerPc := 16, catchType := 33 }] rfl ?_ (by decide) (by decide) w_474 (show _ ∈ roC from List.mem_of_getElem? (i := 0) rfl) 2 1 (by decide) (Or.inl ⟨2, rfl, rfl, dL_mend_6⟩) rfl ?_
      · intro z hz; cases hz
      refine fr_sipush (v := (-1001)) dL_mend_7 (by decide) ?_
      obtain rfl := Option.some.inj h
      exact fr_iret rfl dL_mend_10 ⟨rfl, rfl⟩
    rw [if_neg e3_0] at h
    by_cases e3_1 : r1E = "java/lang/IllegalStateException"
    · rw [if_pos e3_1] at h
      subst e3_1
      refine fx_catch (E := "java/lang/IllegalStateException") (name := "java/lang/IllegalStateException") (L' := [(0, .ref p0a), (1, .int x1a)]) [{ startPc := 0, endPc := 5, handlerPc := 6, catchType := 21 }] { startPc := 0, endPc := 5, handlerPc := 11, catchType := 15 } [{ startPc := 0, endPc := 5, handlerPc := 16, catchType := 33 }] rfl ?_ (by decide) (by decide) w_297 (show _ ∈ roC from List.mem_of_getElem? (i := 2) rfl) 2 1 (by decide) (Or.inl ⟨2, rfl, rfl, dL_mend_11⟩) rfl ?_
      · intro z hz
        simp only [List.mem_cons, List.not_mem_nil, or_false] at hz
        subst hz
        exact Or.inr ⟨by decide, "java/lang/IndexOutOfBoundsException", w_474, show _ ∈ roN from List.mem_of_getElem? (i := 42) rfl⟩
      refine fr_sipush (v := (-1002)) dL_mend_12 (by decide) ?_
      obtain rfl := Option.some.inj h
      exact fr_iret rfl dL_mend_15 ⟨rfl, rfl⟩
    rw [if_neg e3_1] at h
    by_cases e3_2 : r1E = "java/lang/UnsupportedOperationException"
    · rw [if_pos e3_2] at h
      subst e3_2
      refine fx_catch (E := "java/lang/UnsupportedOperationException") (name := "java/lang/UnsupportedOperationException") (L' := [(0, .ref p0a), (1, .int x1a)]) [{ startPc := 0, endPc := 5, handlerPc := 6, catchType := 21 }, { startPc := 0, endPc := 5, handlerPc := 11, catchType := 15 }] { startPc := 0, endPc := 5, handlerPc := 16, catchType := 33 } [] rfl ?_ (by decide) (by decide) w_544 (show _ ∈ roC from List.mem_of_getElem? (i := 3) rfl) 2 1 (by decide) (Or.inl ⟨2, rfl, rfl, dL_mend_16⟩) rfl ?_
      · intro z hz
        simp only [List.mem_cons, List.not_mem_nil, or_false] at hz
        rcases hz with rfl | rfl
        · exact Or.inr ⟨by decide, "java/lang/IndexOutOfBoundsException", w_474, show _ ∈ roN from List.mem_of_getElem? (i := 44) rfl⟩
        · exact Or.inr ⟨by decide, "java/lang/IllegalStateException", w_297, show _ ∈ roN from List.mem_of_getElem? (i := 27) rfl⟩
      refine fr_sipush (v := (-1003)) dL_mend_17 (by decide) ?_
      obtain rfl := Option.some.inj h
      exact fr_iret rfl dL_mend_20 ⟨rfl, rfl⟩
    rw [if_neg e3_2] at h
    cases h
def f_X10_isTurns (x0a : Int32) (M : Mem) : Option (Int32) := if x0a < 0 then (some 0) else (if 4 ≤ x0a then (some 0) else (some 1))
set_option maxRecDepth 20000 in
theorem ev_X10_isTurns {G : Nat × (Nat → Int32) × Value} {x0a : Int32} {M : Mem} {r : Int32} (h : f_X10_isTurns x0a M = some r) : Ev (roG G) false YX10_isTurns 0 0 [.int x0a] M (fun a b => a = wI r ∧ b = M) := by
  refine ev_of cyX10_isTurns.2.2.2.2 (Nat.le_of_ble_eq_true rfl) ?_
  show Fr _ _ _ _ _ _ 0 [(0, .int x0a)] [] M _
  unfold f_X10_isTurns at h
  refine fr_iload_n 0 dX10_isTurns_0 rfl ?_
  refine fr_if_lt 13 dX10_isTurns_1 (by decide) (fun c1 => ?_) (fun c1 => ?_)
  · rw [if_pos c1] at h
    refine fr_iconst (v := 0) dX10_isTurns_13 (by decide) ?_
    obtain rfl := Option.some.inj h
    exact fr_zret (ty := .boolean) rfl rfl dX10_isTurns_14 ⟨rfl, rfl⟩
  · rw [if_neg c1] at h
    refine fr_iload_n 0 dX10_isTurns_4 rfl ?_
    refine fr_iconst (v := 4) dX10_isTurns_5 (by decide) ?_
    refine fr_icmp_ge 13 dX10_isTurns_6 (by decide) (fun c2 => ?_) (fun c2 => ?_)
    · rw [if_pos c2] at h
      refine fr_iconst (v := 0) dX10_isTurns_13 (by decide) ?_
      obtain rfl := Option.some.inj h
      exact fr_zret (ty := .boolean) rfl rfl dX10_isTurns_14 ⟨rfl, rfl⟩
    · rw [if_neg c2] at h
      refine fr_iconst (v := 1) dX10_isTurns_9 (by decide) ?_
      refine fr_goto 14 dX10_isTurns_10 (by decide) ?_
      obtain rfl := Option.some.inj h
      exact fr_zret (ty := .boolean) rfl rfl dX10_isTurns_14 ⟨rfl, rfl⟩
def f_X9_tryPut (p0a : Nat) (x1a : Int32) (x2a : Int32) (x3a : Int32) (M : Mem) : Option (Int32 × Mem) := (rc M 9 p0a).bind fun _ => (f_X9_hasSheet p0a x1a M).bind fun r1 => if r1 = 0 then (some ((-1), M)) else ((f_X10_isCell x2a M).bind fun r4 => if r4 = 0 then (some ((-1), M)) else ((f_X10_isTurns x3a M).bind fun r6 => if r6 = 0 then (some ((-2), M)) else ((gP M 9 p0a 0).bind fun p8 => (aP M 120 p8 x1a).bind fun p9 => (rc M 7 p9).bind fun _ => (f_X7_canBeLaid p9 M).bind fun r10 => if r10 = 0 then (some ((-3), M)) else ((rc M 9 p0a).bind fun _ => (f_X9_isOccupied p0a x2a M).bind fun r13 => if r13 = 0 then ((gP M 9 p0a 0).bind fun p16 => (aP M 120 p16 x1a).bind fun p17 => (rc M 9 p0a).bind fun _ => (f_X9_fits p0a p17 x2a x3a M).bind fun r18 => if r18 = 0 then (some ((-4), M)) else ((rc M 9 p0a).bind fun _ => (f_X9_lay p0a x1a x2a x3a M).bind fun r21 => (rc r21.2 9 p0a).bind fun _ => (f_X9_countBeside p0a x2a r21.2).bind fun r23 => some (r23, r21.2))) else (some ((-3), M))))))
set_option maxRecDepth 20000 in
theorem ev_X9_tryPut {G : Nat × (Nat → Int32) × Value} {p0a : Nat} {x1a : Int32} {x2a : Int32} {x3a : Int32} {M : Mem} {r : Int32 × Mem} (h : f_X9_tryPut p0a x1a x2a x3a M = some r) : Ev (roG G) false YX9_tryPut 4 0 [.ref p0a, .int x1a, .int x2a, .int x3a] M (fun a b => a = wI r.1 ∧ b = r.2) := by
  refine ev_of cyX9_tryPut.2.2.2.2 (Nat.le_of_ble_eq_true rfl) ?_
  show Fr _ _ _ _ _ _ 0 [(0, .ref p0a), (1, .int x1a), (2, .int x2a), (3, .int x3a)] [] M _
  unfold f_X9_tryPut at h
  refine fr_aload_n 0 dX9_tryPut_0 rfl ?_
  refine fr_iload_n 1 dX9_tryPut_1 rfl ?_
  obtain ⟨u2, eu2, h⟩ := ob h
  try dsimp only at h
  obtain ⟨r1, er1, h⟩ := ob h
  try dsimp only at h
  refine fr_callV (g1 := false) (k2 := 0) (ev_X9_hasSheet er1) rfl cyX9_hasSheet w_503 w_504 w_505 (rc_ok eu2 rfl (by decide)) (by rfl) (by omega) (by omega) (by rfl) (Nat.le_of_ble_eq_true rfl) dX9_tryPut_2 (Or.inl rfl) (fun v M9 q _ => ?_) (fun E M9 q _ => (Sum.inr_ne_inl q.1).elim)
  obtain rfl : v = some (.int r1) := Sum.inl.inj q.1
  obtain rfl := q.2.symm
  refine fr_st (S' := [.int r1]) rfl ?_
  refine fr_if_eq 15 dX9_tryPut_5 (by decide) (fun c3 => ?_) (fun c3 => ?_)
  · rw [if_pos c3] at h
    refine fr_iconst (v := (-1)) dX9_tryPut_15 (by decide) ?_
    obtain rfl := Option.some.inj h
    exact fr_iret rfl dX9_tryPut_16 ⟨rfl, rfl⟩
  · rw [if_neg c3] at h
    refine fr_iload_n 2 dX9_tryPut_8 rfl ?_
    obtain ⟨r4, er4, h⟩ := ob h
    try dsimp only at h
    refine fr_callSN (g1 := false) (k2 := 0) "MapHall" (ev_X10_isCell er4) rfl cyX10_isCell (show _ ∈ roM from List.mem_of_getElem? (i := 8) rfl) w_565 (by rfl) (by omega) (by omega) (by rfl) (Nat.le_of_ble_eq_true rfl) dX9_tryPut_9 (Or.inl rfl) (fun v M9 q _ => ?_) (fun E M9 q _ => (Sum.inr_ne_inl q.1).elim)
    obtain rfl : v = some (.int r4) := Sum.inl.inj q.1
    obtain rfl := q.2.symm
    refine fr_st (S' := [.int r4]) rfl ?_
    refine fr_if_ne 17 dX9_tryPut_12 (by decide) (fun c5 => ?_) (fun c5 => ?_)
    · rw [if_neg c5] at h
      refine fr_iload_n 3 dX9_tryPut_17 rfl ?_
      obtain ⟨r6, er6, h⟩ := ob h
      try dsimp only at h
      refine fr_callSN (g1 := false) (k2 := 0) "MapHall" (ev_X10_isTurns er6) rfl cyX10_isTurns (show _ ∈ roM from List.mem_of_getElem? (i := 9) rfl) w_568 (by rfl) (by omega) (by omega) (by rfl) (Nat.le_of_ble_eq_true rfl) dX9_tryPut_18 (Or.inl rfl) (fun v M9 q _ => ?_) (fun E M9 q _ => (Sum.inr_ne_inl q.1).elim)
      obtain rfl : v = some (.int r6) := Sum.inl.inj q.1
      obtain rfl := q.2.symm
      refine fr_st (S' := [.int r6]) rfl ?_
      refine fr_if_ne 27 dX9_tryPut_21 (by decide) (fun c7 => ?_) (fun c7 => ?_)
      · rw [if_neg c7] at h
        refine fr_aload_n 0 dX9_tryPut_27 rfl ?_
        obtain ⟨p8, ep8, h⟩ := ob h
        try dsimp only at h
        refine fr_gP cb9 0 (by decide) rfl w_121 dX9_tryPut_28 ep8 ?_
        refine fr_iload_n 1 dX9_tryPut_31 rfl ?_
        obtain ⟨p9, ep9, h⟩ := ob h
        try dsimp only at h
        refine fr_aP (t := 120) (by decide) ep9 dX9_tryPut_32 ?_
        obtain ⟨u11, eu11, h⟩ := ob h
        try dsimp only at h
        obtain ⟨r10, er10, h⟩ := ob h
        try dsimp only at h
        refine fr_callV (g1 := false) (k2 := 0) (ev_X7_canBeLaid er10) rfl cyX7_canBeLaid w_570 w_571 w_572 (rc_ok eu11 rfl (by decide)) (by rfl) (by omega) (by omega) (by rfl) (Nat.le_of_ble_eq_true rfl) dX9_tryPut_33 (Or.inl rfl) (fun v M9 q _ => ?_) (fun E M9 q _ => (Sum.inr_ne_inl q.1).elim)
        obtain rfl : v = some (.int r10) := Sum.inl.inj q.1
        obtain rfl := q.2.symm
        refine fr_st (S' := [.int r10]) rfl ?_
        refine fr_if_eq 47 dX9_tryPut_36 (by decide) (fun c12 => ?_) (fun c12 => ?_)
        · rw [if_pos c12] at h
          refine fr_bipush (v := (-3)) dX9_tryPut_47 (by decide) ?_
          obtain rfl := Option.some.inj h
          exact fr_iret rfl dX9_tryPut_49 ⟨rfl, rfl⟩
        · rw [if_neg c12] at h
          refine fr_aload_n 0 dX9_tryPut_39 rfl ?_
          refine fr_iload_n 2 dX9_tryPut_40 rfl ?_
          obtain ⟨u14, eu14, h⟩ := ob h
          try dsimp only at h
          obtain ⟨r13, er13, h⟩ := ob h
          try dsimp only at h
          refine fr_callV (g1 := false) (k2 := 0) (ev_X9_isOccupied er13) rfl cyX9_isOccupied w_579 w_580 w_581 (rc_ok eu14 rfl (by decide)) (by rfl) (by omega) (by omega) (by rfl) (Nat.le_of_ble_eq_true rfl) dX9_tryPut_41 (Or.inl rfl) (fun v M9 q _ => ?_) (fun E M9 q _ => (Sum.inr_ne_inl q.1).elim)
          obtain rfl : v = some (.int r13) := Sum.inl.inj q.1
          obtain rfl := q.2.symm
          refine fr_st (S' := [.int r13]) rfl ?_
          refine fr_if_eq 50 dX9_tryPut_44 (by decide) (fun c15 => ?_) (fun c15 => ?_)
          · rw [if_pos c15] at h
            refine fr_aload_n 0 dX9_tryPut_50 rfl ?_
            refine fr_aload_n 0 dX9_tryPut_51 rfl ?_
            obtain ⟨p16, ep16, h⟩ := ob h
            try dsimp only at h
            refine fr_gP cb9 0 (by decide) rfl w_121 dX9_tryPut_52 ep16 ?_
            refine fr_iload_n 1 dX9_tryPut_55 rfl ?_
            obtain ⟨p17, ep17, h⟩ := ob h
            try dsimp only at h
            refine fr_aP (t := 120) (by decide) ep17 dX9_tryPut_56 ?_
            refine fr_iload_n 2 dX9_tryPut_57 rfl ?_
            refine fr_iload_n 3 dX9_tryPut_58 rfl ?_
            obtain ⟨u19, eu19, h⟩ := ob h
            try dsimp only at h
            obtain ⟨r18, er18, h⟩ := ob h
            try dsimp only at h
            refine fr_callV (g1 := false) (k2 := 0) (ev_X9_fits er18) rfl cyX9_fits w_583 w_584 w_585 (rc_ok eu19 rfl (by decide)) (by rfl) (by omega) (by omega) (by rfl) (Nat.le_of_ble_eq_true rfl) dX9_tryPut_59 (Or.inl rfl) (fun v M9 q _ => ?_) (fun E M9 q _ => (Sum.inr_ne_inl q.1).elim)
            obtain rfl : v = some (.int r18) := Sum.inl.inj q.1
            obtain rfl := q.2.symm
            refine fr_st (S' := [.int r18]) rfl ?_
            refine fr_if_ne 68 dX9_tryPut_62 (by decide) (fun c20 => ?_) (fun c20 => ?_)
            · rw [if_neg c20] at h
              refine fr_aload_n 0 dX9_tryPut_68 rfl ?_
              refine fr_iload_n 1 dX9_tryPut_69 rfl ?_
              refine fr_iload_n 2 dX9_tryPut_70 rfl ?_
              refine fr_iload_n 3 dX9_tryPut_71 rfl ?_
              obtain ⟨u22, eu22, h⟩ := ob h
              try dsimp only at h
              obtain ⟨r21, er21, h⟩ := ob h
              try dsimp only at h
              refine fr_callV (g1 := false) (k2 := 0) (ev_X9_lay er21) rfl cyX9_lay w_613 w_614 w_615 (rc_ok eu22 rfl (by decide)) (by rfl) (by omega) (by omega) (by rfl) (Nat.le_of_ble_eq_true rfl) dX9_tryPut_72 (Or.inl rfl) (fun v M9 q _ => ?_) (fun E M9 q _ => (Sum.inr_ne_inl q.1).elim)
              obtain rfl : v = none := Sum.inl.inj q.1
              obtain rfl := q.2.symm
              refine fr_st (S' := []) rfl ?_
              refine fr_aload_n 0 dX9_tryPut_75 rfl ?_
              refine fr_iload_n 2 dX9_tryPut_76 rfl ?_
              obtain ⟨u24, eu24, h⟩ := ob h
              try dsimp only at h
              obtain ⟨r23, er23, h⟩ := ob h
              try dsimp only at h
              refine fr_callV (g1 := false) (k2 := 0) (ev_X9_countBeside er23) rfl cyX9_countBeside w_617 w_618 w_619 (rc_ok eu24 rfl (by decide)) (by rfl) (by omega) (by omega) (by rfl) (Nat.le_of_ble_eq_true rfl) dX9_tryPut_77 (Or.inl rfl) (fun v M9 q _ => ?_) (fun E M9 q _ => (Sum.inr_ne_inl q.1).elim)
              obtain rfl : v = some (.int r23) := Sum.inl.inj q.1
              obtain rfl := q.2.symm
              refine fr_st (S' := [.int r23]) rfl ?_
              obtain rfl := Option.some.inj h
              exact fr_iret rfl dX9_tryPut_80 ⟨rfl, rfl⟩
            · rw [if_pos c20] at h
              refine fr_bipush (v := (-4)) dX9_tryPut_65 (by decide) ?_
              obtain rfl := Option.some.inj h
              exact fr_iret rfl dX9_tryPut_67 ⟨rfl, rfl⟩
          · rw [if_neg c15] at h
            refine fr_bipush (v := (-3)) dX9_tryPut_47 (by decide) ?_
            obtain rfl := Option.some.inj h
            exact fr_iret rfl dX9_tryPut_49 ⟨rfl, rfl⟩
      · rw [if_pos c7] at h
        refine fr_bipush (v := (-2)) dX9_tryPut_24 (by decide) ?_
        obtain rfl := Option.some.inj h
        exact fr_iret rfl dX9_tryPut_26 ⟨rfl, rfl⟩
    · rw [if_pos c5] at h
      refine fr_iconst (v := (-1)) dX9_tryPut_15 (by decide) ?_
      obtain rfl := Option.some.inj h
      exact fr_iret rfl dX9_tryPut_16 ⟨rfl, rfl⟩
