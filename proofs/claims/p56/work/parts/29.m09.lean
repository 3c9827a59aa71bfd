/-! ===== methods, 9: X10_put L_put X6_append X6_isFull X10_feed L_feed X1_isValue J0_isLatin1_aae02 J3_checkIndex_8e157 J0_checkIndex_df160 J1_charAt_3b067 J0_charAt_5068e J0_coder_7d493 J0_length_8abf5 X1_placeOfValue X6_signIn X6_numberIn X9_tryTake X9_countFlat X9_tryUnfold Jx29ce0_ordinal_8abf5 ===== -/
def f_X10_put (p0a : Nat) (x1a : Int32) (x2a : Int32) (x3a : Int32) (M : Mem) : Option ((Int32 ⊕ String) × Mem) := (gP M 10 p0a 3).bind fun p1 => (gP M 10 p0a 0).bind fun p2 => (rc M 4 p1).bind fun _ => (f_X3_prepare p1 p2 M).bind fun r3 => (gP r3.2 10 p0a 0).bind fun p5 => (rc r3.2 9 p5).bind fun _ => (f_X9_tryPut p5 x1a x2a x3a r3.2).bind fun r6 => (rc r6.2 10 p0a).bind fun _ => (f_X10_recorded p0a r6.1 r6.2).bind fun r8 => (match r8 with | (.inl r8v, r8M) => (some ((.inl r8v), r8M)) | (.inr r8E, r8M) => (some ((.inr r8E), r8M)))
set_option maxRecDepth 20000 in
theorem ev_X10_put {G : Nat × (Nat → Int32) × Value} {p0a : Nat} {x1a : Int32} {x2a : Int32} {x3a : Int32} {M : Mem} {r : (Int32 ⊕ String) × Mem} (h : f_X10_put p0a x1a x2a x3a M = some r) : Ev (roG G) false YX10_put 9 1 [.ref p0a, .int x1a, .int x2a, .int x3a] M (fun a b => a = (wE wI) r.1 ∧ b = r.2) := by
  refine ev_of cyX10_put.2.2.2.2 (Nat.le_of_ble_eq_true rfl) ?_
  show Fr _ _ _ _ _ _ 0 [(0, .ref p0a), (1, .int x1a), (2, .int x2a), (3, .int x3a)] [] M _
  unfold f_X10_put at h
  refine fr_aload_n 0 dX10_put_0 rfl ?_
  obtain ⟨p1, ep1, h⟩ := ob h
  try dsimp only at h
  refine fr_gP cb10 3 (by decide) rfl w_230 dX10_put_1 ep1 ?_
  refine fr_aload_n 0 dX10_put_4 rfl ?_
  obtain ⟨p2, ep2, h⟩ := ob h
  try dsimp only at h
  refine fr_gP cb10 0 (by decide) rfl w_227 dX10_put_5 ep2 ?_
  obtain ⟨u4, eu4, h⟩ := ob h
  try dsimp only at h
  obtain ⟨r3, er3, h⟩ := ob h
  try dsimp only at h
  refine fr_callV (g1 := false) (k2 := 1) (ev_X3_prepare er3) rfl cyX3_prepare w_302 w_303 w_304 (rc_ok eu4 rfl (by decide)) (by rfl) (by omega) (by omega) (by rfl) (Nat.le_of_ble_eq_true rfl) dX10_put_8 (Or.inl rfl) (fun v M9 q _ => ?_) (fun E M9 q _ => (Sum.inr_ne_inl q.1).elim)
  obtain rfl : v = none := Sum.inl.inj q.1
  obtain rfl := q.2.symm
  refine fr_st (S' := []) rfl ?_
  refine fr_aload_n 0 dX10_put_11 rfl ?_
  refine fr_aload_n 0 dX10_put_12 rfl ?_
  obtain ⟨p5, ep5, h⟩ := ob h
  try dsimp only at h
  refine fr_gP cb10 0 (by decide) rfl w_227 dX10_put_13 ep5 ?_
  refine fr_iload_n 1 dX10_put_16 rfl ?_
  refine fr_iload_n 2 dX10_put_17 rfl ?_
  refine fr_iload_n 3 dX10_put_18 rfl ?_
  obtain ⟨u7, eu7, h⟩ := ob h
  try dsimp only at h
  obtain ⟨r6, er6, h⟩ := ob h
  try dsimp only at h
  refine fr_callV (g1 := false) (k2 := 1) (ev_X9_tryPut er6) rfl cyX9_tryPut w_560 w_561 w_562 (rc_ok eu7 rfl (by decide)) (by rfl) (by omega) (by omega) (by rfl) (Nat.le_of_ble_eq_true rfl) dX10_put_19 (Or.inl rfl) (fun v M9 q _ => ?_) (fun E M9 q _ => (Sum.inr_ne_inl q.1).elim)
  obtain rfl : v = some (.int r6.1) := Sum.inl.inj q.1
  obtain rfl := q.2.symm
  refine fr_st (S' := [.int r6.1, .ref p0a]) rfl ?_
  obtain ⟨u9, eu9, h⟩ := ob h
  try dsimp only at h
  obtain ⟨r8, er8, h⟩ := ob h
  try dsimp only at h
  obtain ⟨r8v | r8E, r8M⟩ := r8
  · try dsimp only at h
    refine fr_callV (g1 := false) (k2 := 0) (ev_X10_recorded er8) rfl cyX10_recorded w_321 w_323 w_0 (rc_ok eu9 rfl (by decide)) (by rfl) (by omega) (by omega) (by rfl) (Nat.le_of_ble_eq_true rfl) dX10_put_22 (Or.inl rfl) (fun v M9 q _ => ?_) (fun E M9 q _ => (Sum.inr_ne_inl q.1).elim)
    obtain rfl : v = some (.int r8v) := Sum.inl.inj q.1
    obtain rfl := q.2.symm
    refine fr_st (S' := [.int r8v]) rfl ?_
    obtain rfl := Option.some.inj h
    exact fr_iret rfl dX10_put_25 ⟨rfl, rfl⟩
  · try dsimp only at h
    refine fr_callV (g1 := false) (k2 := 0) (ev_X10_recorded er8) rfl cyX10_recorded w_321 w_323 w_0 (rc_ok eu9 rfl (by decide)) (by rfl) (by omega) (by omega) (by rfl) (Nat.le_of_ble_eq_true rfl) dX10_put_22 (Or.inl rfl) (fun v M9 q _ => (Sum.inl_ne_inr q.1).elim) (fun E M9 q _ => ?_)
    obtain rfl : r8E = E := (Sum.inr.inj q.1).symm
    obtain rfl := q.2.symm
    obtain rfl := Option.some.inj h
    exact fx_no rfl ⟨rfl, rfl⟩
def f_L_put (p0a : Nat) (x1a : Int32) (x2a : Int32) (x3a : Int32) (M : Mem) : Option (Int32 × Mem) := (rc M 10 p0a).bind fun _ => (f_X10_put p0a x1a x2a x3a M).bind fun r1 => (match r1 with | (.inl r1v, r1M) => (some (r1v, r1M)) | (.inr r1E, r1M) => (if r1E = "java/lang/IndexOutOfBoundsException" then (some ((-1001), r1M)) else (if r1E = "java/lang/IllegalArgumentException" then (some ((-1002), r1M)) else (if r1E = "java/lang/IllegalStateException" then (some ((-1003), r1M)) else (if r1E = "java/lang/UnsupportedOperationException" then (some ((-1004), r1M)) else none)))))
set_option maxRecDepth 20000 in
theorem ev_L_put {G : Nat × (Nat → Int32) × Value} {p0a : Nat} {x1a : Int32} {x2a : Int32} {x3a : Int32} {M : Mem} {r : Int32 × Mem} (h : f_L_put p0a x1a x2a x3a M = some r) : Ev (roG G) false YL_put 10 1 [.ref p0a, .int x1a, .int x2a, .int x3a] M (fun a b => a = wI r.1 ∧ b = r.2) := by
  refine ev_of cyL_put.2.2.2.2 (Nat.le_of_ble_eq_true rfl) ?_
  show Fr _ _ _ _ _ _ 0 [(0, .ref p0a), (1, .int x1a), (2, .int x2a), (3, .int x3a)] [] M _
  unfold f_L_put at h
  refine fr_aload_n 0 dL_put_0 rfl ?_
  refine fr_iload_n 1 dL_put_1 rfl ?_
  refine fr_iload_n 2 dL_put_2 rfl ?_
  refine fr_iload_n 3 dL_put_3 rfl ?_
  obtain ⟨u2, eu2, h⟩ := ob h
  try dsimp only at h
  obtain ⟨r1, er1, h⟩ := ob h
  try dsimp only at h
  obtain ⟨r1v | r1E, r1M⟩ := r1
  · try dsimp only at h
    refine fr_callV (g1 := false) (k2 := 0) (ev_X10_put er1) rfl cyX10_put w_556 w_557 w_558 (rc_ok eu2 rfl (by decide)) (by rfl) (by omega) (by omega) (by rfl) (Nat.le_of_ble_eq_true rfl) dL_put_4 (Or.inl rfl) (fun v M9 q _ => ?_) (fun E M9 q _ => (Sum.inr_ne_inl q.1).elim)
    obtain rfl : v = some (.int r1v) := Sum.inl.inj q.1
    obtain rfl := q.2.symm
    refine fr_st (S' := [.int r1v]) rfl ?_
    obtain rfl := Option.some.inj h
    exact fr_iret rfl dL_put_7 ⟨rfl, rfl⟩
  · try dsimp only at h
    refine fr_callV (g1 := false) (k2 := 0) (ev_X10_put er1) rfl cyX10_put w_556 w_557 w_558 (rc_ok eu2 rfl (by decide)) (by rfl) (by omega) (by omega) (by rfl) (Nat.le_of_ble_eq_true rfl) dL_put_4 (Or.inl rfl) (fun v M9 q _ => (Sum.inl_ne_inr q.1).elim) (fun E M9 q _ => ?_)
    obtain rfl : r1E = E := (Sum.inr.inj q.1).symm
    obtain rfl := q.2.symm
    by_cases e3_0 : r1E = "java/lang/IndexOutOfBoundsException"
    · rw [if_pos e3_0] at h
      subst e3_0
      refine fx_catch (E := "java/lang/IndexOutOfBoundsException") (name := "java/lang/IndexOutOfBoundsException") (L' := [(0, .ref p0a), (1, .int x1a), (2, .int x2a), (3, .int x3a)]) [] { startPc := 0, endPc := 7, handlerPc := 8, catchType := 21 } [{ startPc := 0, endPc := 7, handlerPc := 14, catchType := 13 }, { startPc := 0, endPc := 7, handlerPc := 20, catchType := 15 }, { startPc := 0, endPc := 7, handlerPc := 26, catchType := 33 }] rfl ?_ (by decide) (by decide) w_474 (show _ ∈ roC from List.mem_of_getElem? (i := 0) rfl) 4 2 (by decide) (Or.inr ⟨rfl, dL_put_8⟩) rfl ?_
      · intro z hz; cases hz
      refine fr_sipush (v := (-1001)) dL_put_10 (by decide) ?_
      obtain rfl := Option.some.inj h
      exact fr_iret rfl dL_put_13 ⟨rfl, rfl⟩
    rw [if_neg e3_0] at h
    by_cases e3_1 : r1E = "java/lang/IllegalArgumentException"
    · rw [if_pos e3_1] at h
      subst e3_1
      refine fx_catch (E := "java/lang/IllegalArgumentException") (name := "java/lang/IllegalArgumentException") (L' := [(0, .ref p0a), (1, .int x1a), (2, .int x2a), (3, .int x3a)]) [{ startPc := 0, endPc := 7, handlerPc := 8, catchType := 21 }] { startPc := 0, endPc := 7, handlerPc := 14, catchType := 13 } [{ startPc := 0, endPc := 7, handlerPc := 20, catchType := 15 }, { startPc := 0, endPc := 7, handlerPc := 26, catchType := 33 }] rfl ?_ (by decide) (by decide) w_296 (show _ ∈ roC from List.mem_of_getElem? (i := 1) rfl) 4 2 (by decide) (Or.inr ⟨rfl, dL_put_14⟩) rfl ?_
      · intro z hz
        simp only [List.mem_cons, List.not_mem_nil, or_false] at hz
        subst hz
        exact Or.inr ⟨by decide, "java/lang/IndexOutOfBoundsException", w_474, show _ ∈ roN from List.mem_of_getElem? (i := 43) rfl⟩
      refine fr_sipush (v := (-1002)) dL_put_16 (by decide) ?_
      obtain rfl := Option.some.inj h
      exact fr_iret rfl dL_put_19 ⟨rfl, rfl⟩
    rw [if_neg e3_1] at h
    by_cases e3_2 : r1E = "java/lang/IllegalStateException"
    · rw [if_pos e3_2] at h
      subst e3_2
      refine fx_catch (E := "java/lang/IllegalStateException") (name := "java/lang/IllegalStateException") (L' := [(0, .ref p0a), (1, .int x1a), (2, .int x2a), (3, .int x3a)]) [{ startPc := 0, endPc := 7, handlerPc := 8, catchType := 21 }, { startPc := 0, endPc := 7, handlerPc := 14, catchType := 13 }] { startPc := 0, endPc := 7, handlerPc := 20, catchType := 15 } [{ startPc := 0, endPc := 7, handlerPc := 26, catchType := 33 }] rfl ?_ (by decide) (by decide) w_297 (show _ ∈ roC from List.mem_of_getElem? (i := 2) rfl) 4 2 (by decide) (Or.inr ⟨rfl, dL_put_20⟩) rfl ?_
      · intro z hz
        simp only [List.mem_cons, List.not_mem_nil, or_false] at hz
        rcases hz with rfl | rfl
        · exact Or.inr ⟨by decide, "java/lang/IndexOutOfBoundsException", w_474, show _ ∈ roN from List.mem_of_getElem? (i := 42) rfl⟩
        · exact Or.inr ⟨by decide, "java/lang/IllegalArgumentException", w_296, show _ ∈ roN from List.mem_of_getElem? (i := 8) rfl⟩
      refine fr_sipush (v := (-1003)) dL_put_22 (by decide) ?_
      obtain rfl := Option.some.inj h
      exact fr_iret rfl dL_put_25 ⟨rfl, rfl⟩
    rw [if_neg e3_2] at h
    by_cases e3_3 : r1E = "java/lang/UnsupportedOperationException"
    · rw [if_pos e3_3] at h
      subst e3_3
      refine fx_catch (E := "java/lang/UnsupportedOperationException") (name := "java/lang/UnsupportedOperationException") (L' := [(0, .ref p0a), (1, .int x1a), (2, .int x2a), (3, .int x3a)]) [{ startPc := 0, endPc := 7, handlerPc := 8, catchType := 21 }, { startPc := 0, endPc := 7, handlerPc := 14, catchType := 13 }, { startPc := 0, endPc := 7, handlerPc := 20, catchType := 15 }] { startPc := 0, endPc := 7, handlerPc := 26, catchType := 33 } [] rfl ?_ (by decide) (by decide) w_544 (show _ ∈ roC from List.mem_of_getElem? (i := 3) rfl) 4 2 (by decide) (Or.inr ⟨rfl, dL_put_26⟩) rfl ?_
      · intro z hz
        simp only [List.mem_cons, List.not_mem_nil, or_false] at hz
        rcases hz with rfl | rfl | rfl
        · exact Or.inr ⟨by decide, "java/lang/IndexOutOfBoundsException", w_474, show _ ∈ roN from List.mem_of_getElem? (i := 44) rfl⟩
        · exact Or.inr ⟨by decide, "java/lang/IllegalArgumentException", w_296, show _ ∈ roN from List.mem_of_getElem? (i := 10) rfl⟩
        · exact Or.inr ⟨by decide, "java/lang/IllegalStateException", w_297, show _ ∈ roN from List.mem_of_getElem? (i := 27) rfl⟩
      refine fr_sipush (v := (-1004)) dL_put_28 (by decide) ?_
      obtain rfl := Option.some.inj h
      exact fr_iret rfl dL_put_31 ⟨rfl, rfl⟩
    rw [if_neg e3_3] at h
    cases h
def f_X6_append (p0a : Nat) (x1a : Int32) (M : Mem) : Option (Unit × Mem) := (gP M 6 p0a 0).bind fun p1 => (gI M 6 p0a 3).bind fun x2 => (asC M p1 x2 x1a).bind fun M3 => (gI M3 6 p0a 3).bind fun x4 => (sI M3 6 p0a 3 .int (x4 + 1)).bind fun M5 => some ((), M5)
set_option maxRecDepth 20000 in
theorem ev_X6_append {G : Nat × (Nat → Int32) × Value} {p0a : Nat} {x1a : Int32} {M : Mem} {r : Unit × Mem} (h : f_X6_append p0a x1a M = some r) : Ev (roG G) false YX6_append 0 0 [.ref p0a, .int x1a] M (fun a b => a = wU r.1 ∧ b = r.2) := by
  refine ev_of cyX6_append.2.2.2.2 (Nat.le_of_ble_eq_true rfl) ?_
  show Fr _ _ _ _ _ _ 0 [(0, .ref p0a), (1, .int x1a)] [] M _
  unfold f_X6_append at h
  refine fr_aload_n 0 dX6_append_0 rfl ?_
  obtain ⟨p1, ep1, h⟩ := ob h
  try dsimp only at h
  refine fr_gP cb6 0 (by decide) rfl w_193 dX6_append_1 ep1 ?_
  refine fr_aload_n 0 dX6_append_4 rfl ?_
  obtain ⟨x2, ex2, h⟩ := ob h
  try dsimp only at h
  refine fr_gI cb6 3 (by decide) rfl w_197 dX6_append_5 ex2 ?_
  refine fr_iload_n 1 dX6_append_8 rfl ?_
  obtain ⟨M3, eM3, h⟩ := ob h
  try dsimp only at h
  refine fr_asC eM3 dX6_append_9 ?_
  refine fr_aload_n 0 dX6_append_10 rfl ?_
  refine fr_dup dX6_append_11 rfl ?_
  obtain ⟨x4, ex4, h⟩ := ob h
  try dsimp only at h
  refine fr_gI cb6 3 (by decide) rfl w_197 dX6_append_12 ex4 ?_
  refine fr_iconst (v := 1) dX6_append_15 (by decide) ?_
  refine fr_iadd dX6_append_16 ?_
  obtain ⟨M5, eM5, h⟩ := ob h
  try dsimp only at h
  refine fr_sI cb6 3 (by decide) rfl rfl w_197 dX6_append_17 eM5 ?_
  obtain rfl := Option.some.inj h
  exact fr_vret rfl dX6_append_20 ⟨rfl, rfl⟩
def f_X6_isFull (p0a : Nat) (M : Mem) : Option (Int32) := (gI M 6 p0a 3).bind fun x1 => if x1 < 60 then (some 0) else (some 1)
set_option maxRecDepth 20000 in
theorem ev_X6_isFull {G : Nat × (Nat → Int32) × Value} {p0a : Nat} {M : Mem} {r : Int32} (h : f_X6_isFull p0a M = some r) : Ev (roG G) false YX6_isFull 0 0 [.ref p0a] M (fun a b => a = wI r ∧ b = M) := by
  refine ev_of cyX6_isFull.2.2.2.2 (Nat.le_of_ble_eq_true rfl) ?_
  show Fr _ _ _ _ _ _ 0 [(0, .ref p0a)] [] M _
  unfold f_X6_isFull at h
  refine fr_aload_n 0 dX6_isFull_0 rfl ?_
  obtain ⟨x1, ex1, h⟩ := ob h
  try dsimp only at h
  refine fr_gI cb6 3 (by decide) rfl w_197 dX6_isFull_1 ex1 ?_
  refine fr_bipush (v := 60) dX6_isFull_4 (by decide) ?_
  refine fr_icmp_lt 13 dX6_isFull_6 (by decide) (fun c2 => ?_) (fun c2 => ?_)
  · rw [if_pos c2] at h
    refine fr_iconst (v := 0) dX6_isFull_13 (by decide) ?_
    obtain rfl := Option.some.inj h
    exact fr_zret (ty := .boolean) rfl rfl dX6_isFull_14 ⟨rfl, rfl⟩
  · rw [if_neg c2] at h
    refine fr_iconst (v := 1) dX6_isFull_9 (by decide) ?_
    refine fr_goto 14 dX6_isFull_10 (by decide) ?_
    obtain rfl := Option.some.inj h
    exact fr_zret (ty := .boolean) rfl rfl dX6_isFull_14 ⟨rfl, rfl⟩
def f_X10_feed (p0a : Nat) (x1a : Int32) (M : Mem) : Option ((Int32 ⊕ String) × Mem) := (gP M 10 p0a 6).bind fun p1 => (rc M 6 p1).bind fun _ => (f_X6_isFull p1 M).bind fun r2 => if r2 = 0 then ((gP M 10 p0a 6).bind fun p5 => (rc M 6 p5).bind fun _ => (f_X6_append p5 x1a M).bind fun r6 => (gP r6.2 10 p0a 6).bind fun p8 => (gI r6.2 6 p8 3).bind fun x9 => some ((.inl x9), r6.2)) else (some ((.inr "java/lang/IllegalStateException"), M))
set_option maxRecDepth 20000 in
theorem ev_X10_feed {G : Nat × (Nat → Int32) × Value} {p0a : Nat} {x1a : Int32} {M : Mem} {r : (Int32 ⊕ String) × Mem} (h : f_X10_feed p0a x1a M = some r) : Ev (roG G) false YX10_feed 7 1 [.ref p0a, .int x1a] M (fun a b => a = (wE wI) r.1 ∧ b = r.2) := by
  refine ev_of cyX10_feed.2.2.2.2 (Nat.le_of_ble_eq_true rfl) ?_
  show Fr _ _ _ _ _ _ 0 [(0, .ref p0a), (1, .int x1a)] [] M _
  unfold f_X10_feed at h
  refine fr_aload_n 0 dX10_feed_0 rfl ?_
  obtain ⟨p1, ep1, h⟩ := ob h
  try dsimp only at h
  refine fr_gP cb10 6 (by decide) rfl w_233 dX10_feed_1 ep1 ?_
  obtain ⟨u3, eu3, h⟩ := ob h
  try dsimp only at h
  obtain ⟨r2, er2, h⟩ := ob h
  try dsimp only at h
  refine fr_callV (g1 := false) (k2 := 1) (ev_X6_isFull er2) rfl cyX6_isFull w_707 w_708 w_709 (rc_ok eu3 rfl (by decide)) (by rfl) (by omega) (by omega) (by rfl) (Nat.le_of_ble_eq_true rfl) dX10_feed_4 (Or.inl rfl) (fun v M9 q _ => ?_) (fun E M9 q _ => (Sum.inr_ne_inl q.1).elim)
  obtain rfl : v = some (.int r2) := Sum.inl.inj q.1
  obtain rfl := q.2.symm
  refine fr_st (S' := [.int r2]) rfl ?_
  refine fr_if_eq 21 dX10_feed_7 (by decide) (fun c4 => ?_) (fun c4 => ?_)
  · rw [if_pos c4] at h
    refine fr_aload_n 0 dX10_feed_21 rfl ?_
    obtain ⟨p5, ep5, h⟩ := ob h
    try dsimp only at h
    refine fr_gP cb10 6 (by decide) rfl w_233 dX10_feed_22 ep5 ?_
    refine fr_iload_n 1 dX10_feed_25 rfl ?_
    obtain ⟨u7, eu7, h⟩ := ob h
    try dsimp only at h
    obtain ⟨r6, er6, h⟩ := ob h
    try dsimp only at h
    refine fr_callV (g1 := false) (k2 := 1) (ev_X6_append er6) rfl cyX6_append w_712 w_713 w_714 (rc_ok eu7 rfl (by decide)) (by rfl) (by omega) (by omega) (by rfl) (Nat.le_of_ble_eq_true rfl) dX10_feed_26 (Or.inl rfl) (fun v M9 q _ => ?_) (fun E M9 q _ => (Sum.inr_ne_inl q.1).elim)
    obtain rfl : v = none := Sum.inl.inj q.1
    obtain rfl := q.2.symm
    refine fr_st (S' := []) rfl ?_
    refine fr_aload_n 0 dX10_feed_29 rfl ?_
    obtain ⟨p8, ep8, h⟩ := ob h
    try dsimp only at h
    refine fr_gP cb10 6 (by decide) rfl w_233 dX10_feed_30 ep8 ?_
    obtain ⟨x9, ex9, h⟩ := ob h
    try dsimp only at h
    refine fr_gI cb6 3 (by decide) rfl w_198 dX10_feed_33 ex9 ?_
    obtain rfl := Option.some.inj h
    exact fr_iret rfl dX10_feed_36 ⟨rfl, rfl⟩
  · rw [if_neg c4] at h
    obtain rfl := Option.some.inj h
    exact fr_throwW (names := ["java/lang/RuntimeException", "java/lang/Exception"]) rfl thX10_195 w_416 w_25 (sa := ROB + 27) (show _ ∈ roS from List.mem_of_getElem? (i := 7) rfl) dX10_feed_10 dX10_feed_13 dX10_feed_14 dX10_feed_17 dX10_feed_20 (by omega) (by omega) (Nat.le_of_ble_eq_true rfl) ⟨rfl, rfl⟩
def f_L_feed (p0a : Nat) (x1a : Int32) (M : Mem) : Option (Int32 × Mem) := (rc M 10 p0a).bind fun _ => (f_X10_feed p0a x1a M).bind fun r1 => (match r1 with | (.inl r1v, r1M) => (some (r1v, r1M)) | (.inr r1E, r1M) => (if r1E = "java/lang/IllegalStateException" then (some ((-1001), r1M)) else none))
set_option maxRecDepth 20000 in
theorem ev_L_feed {G : Nat × (Nat → Int32) × Value} {p0a : Nat} {x1a : Int32} {M : Mem} {r : Int32 × Mem} (h : f_L_feed p0a x1a M = some r) : Ev (roG G) false YL_feed 8 1 [.ref p0a, .int x1a] M (fun a b => a = wI r.1 ∧ b = r.2) := by
  refine ev_of cyL_feed.2.2.2.2 (Nat.le_of_ble_eq_true rfl) ?_
  show Fr _ _ _ _ _ _ 0 [(0, .ref p0a), (1, .int x1a)] [] M _
  unfold f_L_feed at h
  refine fr_aload_n 0 dL_feed_0 rfl ?_
  refine fr_iload_n 1 dL_feed_1 rfl ?_
  obtain ⟨u2, eu2, h⟩ := ob h
  try dsimp only at h
  obtain ⟨r1, er1, h⟩ := ob h
  try dsimp only at h
  obtain ⟨r1v | r1E, r1M⟩ := r1
  · try dsimp only at h
    refine fr_callV (g1 := false) (k2 := 0) (ev_X10_feed er1) rfl cyX10_feed w_703 w_704 w_705 (rc_ok eu2 rfl (by decide)) (by rfl) (by omega) (by omega) (by rfl) (Nat.le_of_ble_eq_true rfl) dL_feed_2 (Or.inl rfl) (fun v M9 q _ => ?_) (fun E M9 q _ => (Sum.inr_ne_inl q.1).elim)
    obtain rfl : v = some (.int r1v) := Sum.inl.inj q.1
    obtain rfl := q.2.symm
    refine fr_st (S' := [.int r1v]) rfl ?_
    obtain rfl := Option.some.inj h
    exact fr_iret rfl dL_feed_5 ⟨rfl, rfl⟩
  · try dsimp only at h
    refine fr_callV (g1 := false) (k2 := 0) (ev_X10_feed er1) rfl cyX10_feed w_703 w_704 w_705 (rc_ok eu2 rfl (by decide)) (by rfl) (by omega) (by omega) (by rfl) (Nat.le_of_ble_eq_true rfl) dL_feed_2 (Or.inl rfl) (fun v M9 q _ => (Sum.inl_ne_inr q.1).elim) (fun E M9 q _ => ?_)
    obtain rfl : r1E = E := (Sum.inr.inj q.1).symm
    obtain rfl := q.2.symm
    by_cases e3_0 : r1E = "java/lang/IllegalStateException"
    · rw [if_pos e3_0] at h
      subst e3_0
      refine fx_catch (E := "java/lang/IllegalStateException") (name := "java/lang/IllegalStateException") (L' := [(0, .ref p0a), (1, .int x1a)]) [] { startPc := 0, endPc := 5, handlerPc := 6, catchType := 15 } [] rfl ?_ (by decide) (by decide) w_297 (show _ ∈ roC from List.mem_of_getElem? (i := 2) rfl) 2 1 (by decide) (Or.inl ⟨2, rfl, rfl, dL_feed_6⟩) rfl ?_
      · intro z hz; cases hz
      refine fr_sipush (v := (-1001)) dL_feed_7 (by decide) ?_
      obtain rfl := Option.some.inj h
      exact fr_iret rfl dL_feed_10 ⟨rfl, rfl⟩
    rw [if_neg e3_0] at h
    cases h
def f_X1_isValue (x0a : Int32) (M : Mem) : Option (Int32) := if x0a = 78 then (some 1) else (if x0a = 75 then (some 1) else (if x0a = 67 then (some 1) else (some 0)))
set_option maxRecDepth 20000 in
theorem ev_X1_isValue {G : Nat × (Nat → Int32) × Value} {x0a : Int32} {M : Mem} {r : Int32} (h : f_X1_isValue x0a M = some r) : Ev (roG G) false YX1_isValue 0 0 [.int x0a] M (fun a b => a = wI r ∧ b = M) := by
  refine ev_of cyX1_isValue.2.2.2.2 (Nat.le_of_ble_eq_true rfl) ?_
  show Fr _ _ _ _ _ _ 0 [(0, .int x0a)] [] M _
  unfold f_X1_isValue at h
  refine fr_iload_n 0 dX1_isValue_0 rfl ?_
  refine fr_bipush (v := 78) dX1_isValue_1 (by decide) ?_
  refine fr_icmp_eq 18 dX1_isValue_3 (by decide) (fun c1 => ?_) (fun c1 => ?_)
  · rw [if_pos c1] at h
    refine fr_iconst (v := 1) dX1_isValue_18 (by decide) ?_
    refine fr_goto 23 dX1_isValue_19 (by decide) ?_
    obtain rfl := Option.some.inj h
    exact fr_zret (ty := .boolean) rfl rfl dX1_isValue_23 ⟨rfl, rfl⟩
  · rw [if_neg c1] at h
    refine fr_iload_n 0 dX1_isValue_6 rfl ?_
    refine fr_bipush (v := 75) dX1_isValue_7 (by decide) ?_
    refine fr_icmp_eq 18 dX1_isValue_9 (by decide) (fun c2 => ?_) (fun c2 => ?_)
    · rw [if_pos c2] at h
      refine fr_iconst (v := 1) dX1_isValue_18 (by decide) ?_
      refine fr_goto 23 dX1_isValue_19 (by decide) ?_
      obtain rfl := Option.some.inj h
      exact fr_zret (ty := .boolean) rfl rfl dX1_isValue_23 ⟨rfl, rfl⟩
    · rw [if_neg c2] at h
      refine fr_iload_n 0 dX1_isValue_12 rfl ?_
      refine fr_bipush (v := 67) dX1_isValue_13 (by decide) ?_
      refine fr_icmp_ne 22 dX1_isValue_15 (by decide) (fun c3 => ?_) (fun c3 => ?_)
      · rw [if_neg c3] at h
        refine fr_iconst (v := 0) dX1_isValue_22 (by decide) ?_
        obtain rfl := Option.some.inj h
        exact fr_zret (ty := .boolean) rfl rfl dX1_isValue_23 ⟨rfl, rfl⟩
      · rw [if_pos c3] at h
        refine fr_iconst (v := 1) dX1_isValue_18 (by decide) ?_
        refine fr_goto 23 dX1_isValue_19 (by decide) ?_
        obtain rfl := Option.some.inj h
        exact fr_zret (ty := .boolean) rfl rfl dX1_isValue_23 ⟨rfl, rfl⟩
def f_J0_isLatin1_aae02 (p0a : Nat) (M : Mem) : Option (Int32) := (sC M p0a).bind fun x2 => if x2 = 0 then (some 1) else (some 0)
set_option maxRecDepth 20000 in
theorem ev_J0_isLatin1_aae02 {G : Nat × (Nat → Int32) × Value} {p0a : Nat} {M : Mem} {r : Int32} (h : f_J0_isLatin1_aae02 p0a M = some r) : Ev (roG G) false YJ0_isLatin1_aae02 0 0 [.ref p0a] M (fun a b => a = wI r ∧ b = M) := by
  refine ev_of cyJ0_isLatin1_aae02.2.2.2.2 (Nat.le_of_ble_eq_true rfl) ?_
  show Fr _ _ _ _ _ _ 0 [(0, .ref p0a)] [] M _
  unfold f_J0_isLatin1_aae02 at h
  refine fr_gets (show _ ∈ roZ _ from List.mem_of_getElem? (i := 2) rfl) w_748 dJ0_isLatin1_aae02_0 ?_
  refine fr_if_eq 17 dJ0_isLatin1_aae02_3 (by decide) (fun c1 => absurd c1 (by decide)) (fun c1 => ?_)
  refine fr_aload_n 0 dJ0_isLatin1_aae02_6 rfl ?_
  obtain ⟨x2, ex2, h⟩ := ob h
  try dsimp only at h
  refine fr_sC w_1329 dJ0_isLatin1_aae02_7 ex2 ?_
  refine fr_if_ne 17 dJ0_isLatin1_aae02_10 (by decide) (fun c3 => ?_) (fun c3 => ?_)
  · rw [if_neg c3] at h
    refine fr_iconst (v := 0) dJ0_isLatin1_aae02_17 (by decide) ?_
    obtain rfl := Option.some.inj h
    exact fr_zret (ty := .boolean) rfl rfl dJ0_isLatin1_aae02_18 ⟨rfl, rfl⟩
  · rw [if_pos c3] at h
    refine fr_iconst (v := 1) dJ0_isLatin1_aae02_13 (by decide) ?_
    refine fr_goto 18 dJ0_isLatin1_aae02_14 (by decide) ?_
    obtain rfl := Option.some.inj h
    exact fr_zret (ty := .boolean) rfl rfl dJ0_isLatin1_aae02_18 ⟨rfl, rfl⟩
def f_J3_checkIndex_8e157 (x0a : Int32) (x1a : Int32) (M : Mem) : Option (Int32) := if x0a < 0 then none else (if x0a < x1a then (some x0a) else none)
set_option maxRecDepth 20000 in
theorem ev_J3_checkIndex_8e157 {G : Nat × (Nat → Int32) × Value} {x0a : Int32} {x1a : Int32} {M : Mem} {r : Int32} (h : f_J3_checkIndex_8e157 x0a x1a M = some r) : Ev (roG G) false YJ3_checkIndex_8e157 0 0 [.int x0a, .int x1a, (nrm G.2.2)] M (fun a b => a = wI r ∧ b = M) := by
  refine ev_of cyJ3_checkIndex_8e157.2.2.2.2 (by rcases G with ⟨g1, g2, v⟩; cases v <;> exact Nat.le_of_ble_eq_true rfl) ?_
  show Fr _ _ _ _ _ _ 0 [(0, .int x0a), (1, .int x1a), (2, (nrm G.2.2))] [] M _
  unfold f_J3_checkIndex_8e157 at h
  refine fr_iload_n 0 dJ3_checkIndex_8e157_0 rfl ?_
  refine fr_if_lt 9 dJ3_checkIndex_8e157_1 (by decide) (fun c1 => by rw [if_pos c1] at h; cases h) (fun c1 => ?_)
  rw [if_neg c1] at h
  refine fr_iload_n 0 dJ3_checkIndex_8e157_4 rfl ?_
  refine fr_iload_n 1 dJ3_checkIndex_8e157_5 rfl ?_
  refine fr_icmp_lt 16 dJ3_checkIndex_8e157_6 (by decide) (fun c2 => ?_) (fun c2 => by rw [if_neg c2] at h; cases h)
  rw [if_pos c2] at h
  refine fr_iload_n 0 dJ3_checkIndex_8e157_16 rfl ?_
  obtain rfl := Option.some.inj h
  exact fr_iret rfl dJ3_checkIndex_8e157_17 ⟨rfl, rfl⟩
def f_J0_checkIndex_df160 (x0a : Int32) (x1a : Int32) (M : Mem) : Option (Unit) := (f_J3_checkIndex_8e157 x0a x1a M).bind fun r1 => some ()
set_option maxRecDepth 20000 in
theorem ev_J0_checkIndex_df160 {G : Nat × (Nat → Int32) × Value} {x0a : Int32} {x1a : Int32} {M : Mem} {r : Unit} (h : f_J0_checkIndex_df160 x0a x1a M = some r) : Ev (roG G) false YJ0_checkIndex_df160 1 0 [.int x0a, .int x1a] M (fun a b => a = wU r ∧ b = M) := by
  refine ev_of cyJ0_checkIndex_df160.2.2.2.2 (Nat.le_of_ble_eq_true rfl) ?_
  show Fr _ _ _ _ _ _ 0 [(0, .int x0a), (1, .int x1a)] [] M _
  unfold f_J0_checkIndex_df160 at h
  refine fr_iload_n 0 dJ0_checkIndex_df160_0 rfl ?_
  refine fr_iload_n 1 dJ0_checkIndex_df160_1 rfl ?_
  refine fr_gets (show _ ∈ roZ _ from List.mem_of_getElem? (i := 3) rfl) w_771 dJ0_checkIndex_df160_2 ?_
  obtain ⟨r1, er1, h⟩ := ob h
  try dsimp only at h
  refine fr_callS (g1 := false) (k2 := 0) (ev_J3_checkIndex_8e157 er1) rfl cyJ3_checkIndex_8e157 w_773 w_774 (by rfl) (by omega) (by omega) (by rfl) (Nat.le_of_ble_eq_true rfl) dJ0_checkIndex_df160_5 (Or.inl rfl) (fun v M9 q _ => ?_) (fun E M9 q _ => (Sum.inr_ne_inl q.1).elim)
  obtain rfl : v = some (.int r1) := Sum.inl.inj q.1
  obtain rfl := q.2.symm
  refine fr_st (S' := [.int r1]) rfl ?_
  refine fr_pop dJ0_checkIndex_df160_8 rfl ?_
  obtain rfl := Option.some.inj h
  exact fr_vret rfl dJ0_checkIndex_df160_9 ⟨rfl, rfl⟩
def f_J1_charAt_3b067 (p0a : Nat) (x1a : Int32) (M : Mem) : Option (Int32) := (bL M p0a).bind fun x1 => (f_J0_checkIndex_df160 x1a x1 M).bind fun r2 => (bG M p0a x1a).bind fun x3 => (nr .char (((x3 &&& 255).toUInt32 % 65536).toInt32)).bind fun _ => some (((x3 &&& 255).toUInt32 % 65536).toInt32)
set_option maxRecDepth 20000 in
theorem ev_J1_charAt_3b067 {G : Nat × (Nat → Int32) × Value} {p0a : Nat} {x1a : Int32} {M : Mem} {r : Int32} (h : f_J1_charAt_3b067 p0a x1a M = some r) : Ev (roG G) false YJ1_charAt_3b067 2 0 [.ref p0a, .int x1a] M (fun a b => a = wI r ∧ b = M) := by
  refine ev_of cyJ1_charAt_3b067.2.2.2.2 (Nat.le_of_ble_eq_true rfl) ?_
  show Fr _ _ _ _ _ _ 0 [(0, .ref p0a), (1, .int x1a)] [] M _
  unfold f_J1_charAt_3b067 at h
  refine fr_iload_n 1 dJ1_charAt_3b067_0 rfl ?_
  refine fr_aload_n 0 dJ1_charAt_3b067_1 rfl ?_
  obtain ⟨x1, ex1, h⟩ := ob h
  try dsimp only at h
  refine fr_bL ex1 dJ1_charAt_3b067_2 ?_
  obtain ⟨r2, er2, h⟩ := ob h
  try dsimp only at h
  refine fr_callS (g1 := false) (k2 := 0) (ev_J0_checkIndex_df160 er2) rfl cyJ0_checkIndex_df160 w_768 w_769 (by rfl) (by omega) (by omega) (by rfl) (Nat.le_of_ble_eq_true rfl) dJ1_charAt_3b067_3 (Or.inl rfl) (fun v M9 q _ => ?_) (fun E M9 q _ => (Sum.inr_ne_inl q.1).elim)
  obtain rfl : v = none := Sum.inl.inj q.1
  obtain rfl := q.2.symm
  refine fr_st (S' := []) rfl ?_
  refine fr_aload_n 0 dJ1_charAt_3b067_6 rfl ?_
  refine fr_iload_n 1 dJ1_charAt_3b067_7 rfl ?_
  obtain ⟨x3, ex3, h⟩ := ob h
  try dsimp only at h
  refine fr_bG ex3 dJ1_charAt_3b067_8 ?_
  refine fr_sipush (v := 255) dJ1_charAt_3b067_9 (by decide) ?_
  refine fr_iand dJ1_charAt_3b067_12 ?_
  refine fr_i2c dJ1_charAt_3b067_13 ?_
  obtain ⟨u4, eu4, h⟩ := ob h
  try dsimp only at h
  obtain rfl := Option.some.inj h
  exact fr_zret1 (ty := .char) rfl dJ1_charAt_3b067_14 eu4 ⟨rfl, rfl⟩
def f_J0_charAt_5068e (p0a : Nat) (x1a : Int32) (M : Mem) : Option (Int32) := (rcS M p0a).bind fun _ => (f_J0_isLatin1_aae02 p0a M).bind fun r1 => if r1 = 0 then none else ((sV M p0a).bind fun p4 => (f_J1_charAt_3b067 p4 x1a M).bind fun r5 => (nr .char r5).bind fun _ => some r5)
set_option maxRecDepth 20000 in
theorem ev_J0_charAt_5068e {G : Nat × (Nat → Int32) × Value} {p0a : Nat} {x1a : Int32} {M : Mem} {r : Int32} (h : f_J0_charAt_5068e p0a x1a M = some r) : Ev (roG G) false YJ0_charAt_5068e 3 0 [.ref p0a, .int x1a] M (fun a b => a = wI r ∧ b = M) := by
  refine ev_of cyJ0_charAt_5068e.2.2.2.2 (Nat.le_of_ble_eq_true rfl) ?_
  show Fr _ _ _ _ _ _ 0 [(0, .ref p0a), (1, .int x1a)] [] M _
  unfold f_J0_charAt_5068e at h
  refine fr_aload_n 0 dJ0_charAt_5068e_0 rfl ?_
  obtain ⟨u2, eu2, h⟩ := ob h
  try dsimp only at h
  obtain ⟨r1, er1, h⟩ := ob h
  try dsimp only at h
  refine fr_callV (g1 := false) (k2 := 0) (ev_J0_isLatin1_aae02 er1) rfl cyJ0_isLatin1_aae02 w_761 w_762 w_763 (rcS_ok eu2) (by rfl) (by omega) (by omega) (by rfl) (Nat.le_of_ble_eq_true rfl) dJ0_charAt_5068e_1 (Or.inl rfl) (fun v M9 q _ => ?_) (fun E M9 q _ => (Sum.inr_ne_inl q.1).elim)
  obtain rfl : v = some (.int r1) := Sum.inl.inj q.1
  obtain rfl := q.2.symm
  refine fr_st (S' := [.int r1]) rfl ?_
  refine fr_if_eq 16 dJ0_charAt_5068e_4 (by decide) (fun c3 => by rw [if_pos c3] at h; cases h) (fun c3 => ?_)
  rw [if_neg c3] at h
  refine fr_aload_n 0 dJ0_charAt_5068e_7 rfl ?_
  obtain ⟨p4, ep4, h⟩ := ob h
  try dsimp only at h
  refine fr_sV w_1328 dJ0_charAt_5068e_8 ep4 ?_
  refine fr_iload_n 1 dJ0_charAt_5068e_11 rfl ?_
  obtain ⟨r5, er5, h⟩ := ob h
  try dsimp only at h
  refine fr_callS (g1 := false) (k2 := 0) (ev_J1_charAt_3b067 er5) rfl cyJ1_charAt_3b067 w_765 w_766 (by rfl) (by omega) (by omega) (by rfl) (Nat.le_of_ble_eq_true rfl) dJ0_charAt_5068e_12 (Or.inl rfl) (fun v M9 q _ => ?_) (fun E M9 q _ => (Sum.inr_ne_inl q.1).elim)
  obtain rfl : v = some (.int r5) := Sum.inl.inj q.1
  obtain rfl := q.2.symm
  refine fr_st (S' := [.int r5]) rfl ?_
  obtain ⟨u6, eu6, h⟩ := ob h
  try dsimp only at h
  obtain rfl := Option.some.inj h
  exact fr_zret1 (ty := .char) rfl dJ0_charAt_5068e_15 eu6 ⟨rfl, rfl⟩
def f_J0_coder_7d493 (p0a : Nat) (M : Mem) : Option (Int32) := (sC M p0a).bind fun x2 => (nr .byte x2).bind fun _ => some x2
set_option maxRecDepth 20000 in
theorem ev_J0_coder_7d493 {G : Nat × (Nat → Int32) × Value} {p0a : Nat} {M : Mem} {r : Int32} (h : f_J0_coder_7d493 p0a M = some r) : Ev (roG G) false YJ0_coder_7d493 0 0 [.ref p0a] M (fun a b => a = wI r ∧ b = M) := by
  refine ev_of cyJ0_coder_7d493.2.2.2.2 (Nat.le_of_ble_eq_true rfl) ?_
  show Fr _ _ _ _ _ _ 0 [(0, .ref p0a)] [] M _
  unfold f_J0_coder_7d493 at h
  refine fr_gets (show _ ∈ roZ _ from List.mem_of_getElem? (i := 2) rfl) w_748 dJ0_coder_7d493_0 ?_
  refine fr_if_eq 13 dJ0_coder_7d493_3 (by decide) (fun c1 => absurd c1 (by decide)) (fun c1 => ?_)
  refine fr_aload_n 0 dJ0_coder_7d493_6 rfl ?_
  obtain ⟨x2, ex2, h⟩ := ob h
  try dsimp only at h
  refine fr_sC w_1329 dJ0_coder_7d493_7 ex2 ?_
  refine fr_goto 14 dJ0_coder_7d493_10 (by decide) ?_
  obtain ⟨u3, eu3, h⟩ := ob h
  try dsimp only at h
  obtain rfl := Option.some.inj h
  exact fr_zret1 (ty := .byte) rfl dJ0_coder_7d493_14 eu3 ⟨rfl, rfl⟩
def f_J0_length_8abf5 (p0a : Nat) (M : Mem) : Option (Int32) := (sV M p0a).bind fun p1 => (bL M p1).bind fun x2 => (rcS M p0a).bind fun _ => (f_J0_coder_7d493 p0a M).bind fun r3 => some (x2 >>> (r3 &&& 31))
set_option maxRecDepth 20000 in
theorem ev_J0_length_8abf5 {G : Nat × (Nat → Int32) × Value} {p0a : Nat} {M : Mem} {r : Int32} (h : f_J0_length_8abf5 p0a M = some r) : Ev (roG G) false YJ0_length_8abf5 1 0 [.ref p0a] M (fun a b => a = wI r ∧ b = M) := by
  refine ev_of cyJ0_length_8abf5.2.2.2.2 (Nat.le_of_ble_eq_true rfl) ?_
  show Fr _ _ _ _ _ _ 0 [(0, .ref p0a)] [] M _
  unfold f_J0_length_8abf5 at h
  refine fr_aload_n 0 dJ0_length_8abf5_0 rfl ?_
  obtain ⟨p1, ep1, h⟩ := ob h
  try dsimp only at h
  refine fr_sV w_1328 dJ0_length_8abf5_1 ep1 ?_
  obtain ⟨x2, ex2, h⟩ := ob h
  try dsimp only at h
  refine fr_bL ex2 dJ0_length_8abf5_4 ?_
  refine fr_aload_n 0 dJ0_length_8abf5_5 rfl ?_
  obtain ⟨u4, eu4, h⟩ := ob h
  try dsimp only at h
  obtain ⟨r3, er3, h⟩ := ob h
  try dsimp only at h
  refine fr_callV (g1 := false) (k2 := 0) (ev_J0_coder_7d493 er3) rfl cyJ0_coder_7d493 w_744 w_745 w_746 (rcS_ok eu4) (by rfl) (by omega) (by omega) (by rfl) (Nat.le_of_ble_eq_true rfl) dJ0_length_8abf5_6 (Or.inl rfl) (fun v M9 q _ => ?_) (fun E M9 q _ => (Sum.inr_ne_inl q.1).elim)
  obtain rfl : v = some (.int r3) := Sum.inl.inj q.1
  obtain rfl := q.2.symm
  refine fr_st (S' := [.int r3, .int x2]) rfl ?_
  refine fr_ishr dJ0_length_8abf5_9 ?_
  obtain rfl := Option.some.inj h
  exact fr_iret rfl dJ0_length_8abf5_10 ⟨rfl, rfl⟩
def lp_X1_placeOfValue_4 (p_0 : Nat) (x_1 : Int32) (M_ : Mem) : Nat → Int32 → Int32 → Option ((Int32 × Int32) ⊕ (Int32))
  | 0, _, _ => none
  | n + 1, x_2, x_3 => (fPat p_0).bind fun p1 => (rcS M_ p1).bind fun _ => (f_J0_length_8abf5 p1 M_).bind fun r2 => if r2 ≤ x_3 then (some (.inl (x_2, x_3))) else ((fPat p_0).bind fun p5 => (rcS M_ p5).bind fun _ => (f_J0_charAt_5068e p5 x_3 M_).bind fun r6 => (f_X1_isValue r6 M_).bind fun r8 => if r8 = 0 then (lp_X1_placeOfValue_4 p_0 x_1 M_ n x_2 (x_3 + 1)) else (if x_2 = x_1 then (some (.inr x_3)) else (lp_X1_placeOfValue_4 p_0 x_1 M_ n (x_2 + 1) (x_3 + 1))))
def f_X1_placeOfValue (p0a : Nat) (x1a : Int32) (M : Mem) : Option (Int32) := ((lp_X1_placeOfValue_4 p0a x1a M 100 0 0).bind fun q11 => match q11 with | .inl (q11_2, q11_3) => (some (-1)) | .inr q11_r => some q11_r)
set_option maxRecDepth 20000 in
theorem lp_X1_placeOfValue_4_ok {G : Nat × (Nat → Int32) × Value} {P : Res → Mem → Prop} {n0 d ke : Nat} {p_0 : Nat} {x_1 : Int32} {M_ : Mem} (hd : 4 ≤ d) : ∀ (n : Nat) (x_2 : Int32) (x_3 : Int32) (res : (Int32 × Int32) ⊕ (Int32)), lp_X1_placeOfValue_4 p_0 x_1 M_ n x_2 x_3 = some res → (∀ (y_2 : Int32) (y_3 : Int32), res = .inl (y_2, y_3) → Fr (roG G) false n0 YX1_placeOfValue d ke 45 [(0, .ref p_0), (1, .int x_1), (2, .int y_2), (3, .int y_3)] [] M_ P) → (∀ r : Int32, res = .inr r → P (wI r) M_) → Fr (roG G) false n0 YX1_placeOfValue d ke 4 [(0, .ref p_0), (1, .int x_1), (2, .int x_2), (3, .int x_3)] [] M_ P := by
  intro n
  induction n with
  | zero => intro x_2 x_3 res h; unfold lp_X1_placeOfValue_4 at h; cases h
  | succ n ih =>
    intro x_2 x_3 res h he hr
    unfold lp_X1_placeOfValue_4 at h
    refine fr_iload_n 3 dX1_placeOfValue_4 rfl ?_
    refine fr_aload_n 0 dX1_placeOfValue_5 rfl ?_
    obtain ⟨p1, ep1, h⟩ := ob h
    try dsimp only at h
    refine fr_fP w_1508 dX1_placeOfValue_6 ep1 ?_
    obtain ⟨u3, eu3, h⟩ := ob h
    try dsimp only at h
    obtain ⟨r2, er2, h⟩ := ob h
    try dsimp only at h
    refine fr_callV (g1 := false) (k2 := ke) (ev_J0_length_8abf5 er2) rfl cyJ0_length_8abf5 w_740 w_741 w_742 (rcS_ok eu3) (by rfl) (by omega) (by omega) (by rfl) (Nat.le_of_ble_eq_true rfl) dX1_placeOfValue_9 (Or.inl rfl) (fun v M9 q _ => ?_) (fun E M9 q _ => (Sum.inr_ne_inl q.1).elim)
    obtain rfl : v = some (.int r2) := Sum.inl.inj q.1
    obtain rfl := q.2.symm
    refine fr_st (S' := [.int r2, .int x_3]) rfl ?_
    refine fr_icmp_ge 45 dX1_placeOfValue_12 (by decide) (fun c4 => ?_) (fun c4 => ?_)
    · rw [if_pos c4] at h
      obtain rfl := Option.some.inj h
      exact he _ _ rfl
    · rw [if_neg c4] at h
      refine fr_aload_n 0 dX1_placeOfValue_15 rfl ?_
      obtain ⟨p5, ep5, h⟩ := ob h
      try dsimp only at h
      refine fr_fP w_1508 dX1_placeOfValue_16 ep5 ?_
      refine fr_iload_n 3 dX1_placeOfValue_19 rfl ?_
      obtain ⟨u7, eu7, h⟩ := ob h
      try dsimp only at h
      obtain ⟨r6, er6, h⟩ := ob h
      try dsimp only at h
      refine fr_callV (g1 := false) (k2 := ke) (ev_J0_charAt_5068e er6) rfl cyJ0_charAt_5068e w_757 w_758 w_759 (rcS_ok eu7) (by rfl) (by omega) (by omega) (by rfl) (Nat.le_of_ble_eq_true rfl) dX1_placeOfValue_20 (Or.inl rfl) (fun v M9 q _ => ?_) (fun E M9 q _ => (Sum.inr_ne_inl q.1).elim)
      obtain rfl : v = some (.int r6) := Sum.inl.inj q.1
      obtain rfl := q.2.symm
      refine fr_st (S' := [.int r6]) rfl ?_
      obtain ⟨r8, er8, h⟩ := ob h
      try dsimp only at h
      refine fr_callS (g1 := false) (k2 := ke) (ev_X1_isValue er8) rfl cyX1_isValue w_822 w_823 (by rfl) (by omega) (by omega) (by rfl) (Nat.le_of_ble_eq_true rfl) dX1_placeOfValue_23 (Or.inl rfl) (fun v M9 q _ => ?_) (fun E M9 q _ => (Sum.inr_ne_inl q.1).elim)
      obtain rfl : v = some (.int r8) := Sum.inl.inj q.1
      obtain rfl := q.2.symm
      refine fr_st (S' := [.int r8]) rfl ?_
      refine fr_if_eq 39 dX1_placeOfValue_26 (by decide) (fun c9 => ?_) (fun c9 => ?_)
      · rw [if_pos c9] at h
        refine fr_iinc (v := (x_3 + 1)) (L' := [(0, .ref p_0), (1, .int x_1), (2, .int x_2), (3, .int (x_3 + 1))]) 3 dX1_placeOfValue_39 rfl rfl (by decide) rfl ?_
        refine fr_goto 4 dX1_placeOfValue_42 (by decide) ?_
        exact ih _ _ _ h he hr
      · rw [if_neg c9] at h
        refine fr_iload_n 2 dX1_placeOfValue_29 rfl ?_
        refine fr_iload_n 1 dX1_placeOfValue_30 rfl ?_
        refine fr_icmp_ne 36 dX1_placeOfValue_31 (by decide) (fun c10 => ?_) (fun c10 => ?_)
        · rw [if_neg c10] at h
          refine fr_iinc (v := (x_2 + 1)) (L' := [(0, .ref p_0), (1, .int x_1), (2, .int (x_2 + 1)), (3, .int x_3)]) 2 dX1_placeOfValue_36 rfl rfl (by decide) rfl ?_
          refine fr_iinc (v := (x_3 + 1)) (L' := [(0, .ref p_0), (1, .int x_1), (2, .int (x_2 + 1)), (3, .int (x_3 + 1))]) 3 dX1_placeOfValue_39 rfl rfl (by decide) rfl ?_
          refine fr_goto 4 dX1_placeOfValue_42 (by decide) ?_
          exact ih _ _ _ h he hr
        · rw [if_pos c10] at h
          refine fr_iload_n 3 dX1_placeOfValue_34 rfl ?_
          obtain rfl := Option.some.inj h
          exact fr_iret rfl dX1_placeOfValue_35 (hr _ rfl)
set_option maxRecDepth 20000 in
theorem ev_X1_placeOfValue {G : Nat × (Nat → Int32) × Value} {p0a : Nat} {x1a : Int32} {M : Mem} {r : Int32} (h : f_X1_placeOfValue p0a x1a M = some r) : Ev (roG G) false YX1_placeOfValue 4 0 [.ref p0a, .int x1a] M (fun a b => a = wI r ∧ b = M) := by
  refine ev_of cyX1_placeOfValue.2.2.2.2 (Nat.le_of_ble_eq_true rfl) ?_
  show Fr _ _ _ _ _ _ 0 [(0, .ref p0a), (1, .int x1a)] [] M _
  unfold f_X1_placeOfValue at h
  refine fr_iconst (v := 0) dX1_placeOfValue_0 (by decide) ?_
  refine fr_istore_n (L' := [(0, .ref p0a), (1, .int x1a), (2, .int 0)]) dX1_placeOfValue_1 (by decide) rfl ?_
  refine fr_iconst (v := 0) dX1_placeOfValue_2 (by decide) ?_
  refine fr_istore_n (L' := [(0, .ref p0a), (1, .int x1a), (2, .int 0), (3, .int 0)]) dX1_placeOfValue_3 (by decide) rfl ?_
  obtain ⟨q11, eq11, h⟩ := ob h
  try dsimp only at h
  refine lp_X1_placeOfValue_4_ok (by omega) 100 _ _ q11 eq11 (fun q11_2 q11_3 e9 => ?_) (fun q11_r e9 => ?_)
  · subst e9
    try dsimp only at h
    refine fr_iconst (v := (-1)) dX1_placeOfValue_45 (by decide) ?_
    obtain rfl := Option.some.inj h
    exact fr_iret rfl dX1_placeOfValue_46 ⟨rfl, rfl⟩
  · subst e9
    try dsimp only at h
    obtain rfl := Option.some.inj h
    exact ⟨rfl, rfl⟩
def f_X6_signIn (p0a : Nat) (x1a : Int32) (x2a : Int32) (M : Mem) : Option (Int32) := (gP M 6 p0a 2).bind fun p1 => (aI M 100 p1 x1a).bind fun x2 => (oG (ROB + 1) x2).bind fun p3 => (rcF p3).bind fun _ => (f_X1_placeOfValue p3 x2a M).bind fun r4 => if r4 = (-1) then ((nr .char 32).bind fun _ => some 32) else ((gP M 6 p0a 0).bind fun p7 => (gP M 6 p0a 1).bind fun p8 => (aI M 100 p8 x1a).bind fun x9 => (aI M 101 p7 (x9 + r4)).bind fun x10 => (nr .char x10).bind fun _ => some x10)
set_option maxRecDepth 20000 in
theorem ev_X6_signIn {G : Nat × (Nat → Int32) × Value} {p0a : Nat} {x1a : Int32} {x2a : Int32} {M : Mem} {r : Int32} (h : f_X6_signIn p0a x1a x2a M = some r) : Ev (roG G) false YX6_signIn 5 0 [.ref p0a, .int x1a, .int x2a] M (fun a b => a = wI r ∧ b = M) := by
  refine ev_of cyX6_signIn.2.2.2.2 (Nat.le_of_ble_eq_true rfl) ?_
  show Fr _ _ _ _ _ _ 0 [(0, .ref p0a), (1, .int x1a), (2, .int x2a)] [] M _
  unfold f_X6_signIn at h
  refine fr_getsN (host := "MapHall") (show _ ∈ roZ _ from List.mem_of_getElem? (i := 0) rfl) (show _ ∈ roL from List.mem_of_getElem? (i := 0) rfl) dX6_signIn_0 ?_
  refine fr_aload_n 0 dX6_signIn_3 rfl ?_
  obtain ⟨p1, ep1, h⟩ := ob h
  try dsimp only at h
  refine fr_gP cb6 2 (by decide) rfl w_195 dX6_signIn_4 ep1 ?_
  refine fr_iload_n 1 dX6_signIn_7 rfl ?_
  obtain ⟨x2, ex2, h⟩ := ob h
  try dsimp only at h
  refine fr_aI0 ex2 dX6_signIn_8 ?_
  obtain ⟨p3, ep3, h⟩ := ob h
  try dsimp only at h
  refine fr_oG ep3 dX6_signIn_9 ?_
  refine fr_iload_n 2 dX6_signIn_10 rfl ?_
  obtain ⟨u5, eu5, h⟩ := ob h
  try dsimp only at h
  obtain ⟨r4, er4, h⟩ := ob h
  try dsimp only at h
  refine fr_callV (g1 := false) (k2 := 0) (ev_X1_placeOfValue er4) rfl cyX1_placeOfValue w_818 w_819 w_820 (rcF_ok eu5) (by rfl) (by omega) (by omega) (by rfl) (Nat.le_of_ble_eq_true rfl) dX6_signIn_11 (Or.inl rfl) (fun v M9 q _ => ?_) (fun E M9 q _ => (Sum.inr_ne_inl q.1).elim)
  obtain rfl : v = some (.int r4) := Sum.inl.inj q.1
  obtain rfl := q.2.symm
  refine fr_st (S' := [.int r4]) rfl ?_
  refine fr_istore_n (L' := [(0, .ref p0a), (1, .int x1a), (2, .int x2a), (3, .int r4)]) dX6_signIn_14 (by decide) rfl ?_
  refine fr_iload_n 3 dX6_signIn_15 rfl ?_
  refine fr_iconst (v := (-1)) dX6_signIn_16 (by decide) ?_
  refine fr_icmp_ne 25 dX6_signIn_17 (by decide) (fun c6 => ?_) (fun c6 => ?_)
  · rw [if_neg c6] at h
    refine fr_aload_n 0 dX6_signIn_25 rfl ?_
    obtain ⟨p7, ep7, h⟩ := ob h
    try dsimp only at h
    refine fr_gP cb6 0 (by decide) rfl w_193 dX6_signIn_26 ep7 ?_
    refine fr_aload_n 0 dX6_signIn_29 rfl ?_
    obtain ⟨p8, ep8, h⟩ := ob h
    try dsimp only at h
    refine fr_gP cb6 1 (by decide) rfl w_194 dX6_signIn_30 ep8 ?_
    refine fr_iload_n 1 dX6_signIn_33 rfl ?_
    obtain ⟨x9, ex9, h⟩ := ob h
    try dsimp only at h
    refine fr_aI0 ex9 dX6_signIn_34 ?_
    refine fr_iload_n 3 dX6_signIn_35 rfl ?_
    refine fr_iadd dX6_signIn_36 ?_
    obtain ⟨x10, ex10, h⟩ := ob h
    try dsimp only at h
    refine fr_aI1 ex10 dX6_signIn_37 ?_
    obtain ⟨u11, eu11, h⟩ := ob h
    try dsimp only at h
    obtain rfl := Option.some.inj h
    exact fr_zret1 (ty := .char) rfl dX6_signIn_38 eu11 ⟨rfl, rfl⟩
  · rw [if_pos c6] at h
    refine fr_bipush (v := 32) dX6_signIn_20 (by decide) ?_
    refine fr_goto 38 dX6_signIn_22 (by decide) ?_
    obtain ⟨u12, eu12, h⟩ := ob h
    try dsimp only at h
    obtain rfl := Option.some.inj h
    exact fr_zret1 (ty := .char) rfl dX6_signIn_38 eu12 ⟨rfl, rfl⟩
def f_X6_numberIn (p0a : Nat) (x1a : Int32) (x2a : Int32) (M : Mem) : Option (Int32) := (rc M 6 p0a).bind fun _ => (f_X6_signIn p0a x1a x2a M).bind fun r1 => some (r1 - 48)
set_option maxRecDepth 20000 in
theorem ev_X6_numberIn {G : Nat × (Nat → Int32) × Value} {p0a : Nat} {x1a : Int32} {x2a : Int32} {M : Mem} {r : Int32} (h : f_X6_numberIn p0a x1a x2a M = some r) : Ev (roG G) false YX6_numberIn 6 0 [.ref p0a, .int x1a, .int x2a] M (fun a b => a = wI r ∧ b = M) := by
  refine ev_of cyX6_numberIn.2.2.2.2 (Nat.le_of_ble_eq_true rfl) ?_
  show Fr _ _ _ _ _ _ 0 [(0, .ref p0a), (1, .int x1a), (2, .int x2a)] [] M _
  unfold f_X6_numberIn at h
  refine fr_aload_n 0 dX6_numberIn_0 rfl ?_
  refine fr_iload_n 1 dX6_numberIn_1 rfl ?_
  refine fr_iload_n 2 dX6_numberIn_2 rfl ?_
  obtain ⟨u2, eu2, h⟩ := ob h
  try dsimp only at h
  obtain ⟨r1, er1, h⟩ := ob h
  try dsimp only at h
  refine fr_callV (g1 := false) (k2 := 0) (ev_X6_signIn er1) rfl cyX6_signIn w_814 w_815 w_816 (rc_ok eu2 rfl (by decide)) (by rfl) (by omega) (by omega) (by rfl) (Nat.le_of_ble_eq_true rfl) dX6_numberIn_3 (Or.inl rfl) (fun v M9 q _ => ?_) (fun E M9 q _ => (Sum.inr_ne_inl q.1).elim)
  obtain rfl : v = some (.int r1) := Sum.inl.inj q.1
  obtain rfl := q.2.symm
  refine fr_st (S' := [.int r1]) rfl ?_
  refine fr_bipush (v := 48) dX6_numberIn_6 (by decide) ?_
  refine fr_isub dX6_numberIn_8 ?_
  obtain rfl := Option.some.inj h
  exact fr_iret rfl dX6_numberIn_9 ⟨rfl, rfl⟩
def f_X9_tryTake (p0a : Nat) (x1a : Int32) (M : Mem) : Option (Int32 × Mem) := (f_X10_isCell x1a M).bind fun r1 => if r1 = 0 then (some ((-1), M)) else ((rc M 9 p0a).bind fun _ => (f_X9_isOccupied p0a x1a M).bind fun r3 => if r3 = 0 then (some ((-5), M)) else ((gP M 9 p0a 1).bind fun p6 => (aI M 100 p6 x1a).bind fun x7 => (rc M 9 p0a).bind fun _ => (f_X9_lift p0a x1a M).bind fun r8 => some (x7, r8.2)))
set_option maxRecDepth 20000 in
theorem ev_X9_tryTake {G : Nat × (Nat → Int32) × Value} {p0a : Nat} {x1a : Int32} {M : Mem} {r : Int32 × Mem} (h : f_X9_tryTake p0a x1a M = some r) : Ev (roG G) false YX9_tryTake 2 0 [.ref p0a, .int x1a] M (fun a b => a = wI r.1 ∧ b = r.2) := by
  refine ev_of cyX9_tryTake.2.2.2.2 (Nat.le_of_ble_eq_true rfl) ?_
  show Fr _ _ _ _ _ _ 0 [(0, .ref p0a), (1, .int x1a)] [] M _
  unfold f_X9_tryTake at h
  refine fr_iload_n 1 dX9_tryTake_0 rfl ?_
  obtain ⟨r1, er1, h⟩ := ob h
  try dsimp only at h
  refine fr_callSN (g1 := false) (k2 := 0) "MapHall" (ev_X10_isCell er1) rfl cyX10_isCell (show _ ∈ roM from List.mem_of_getElem? (i := 8) rfl) w_565 (by rfl) (by omega) (by omega) (by rfl) (Nat.le_of_ble_eq_true rfl) dX9_tryTake_1 (Or.inl rfl) (fun v M9 q _ => ?_) (fun E M9 q _ => (Sum.inr_ne_inl q.1).elim)
  obtain rfl : v = some (.int r1) := Sum.inl.inj q.1
  obtain rfl := q.2.symm
  refine fr_st (S' := [.int r1]) rfl ?_
  refine fr_if_ne 9 dX9_tryTake_4 (by decide) (fun c2 => ?_) (fun c2 => ?_)
  · rw [if_neg c2] at h
    refine fr_aload_n 0 dX9_tryTake_9 rfl ?_
    refine fr_iload_n 1 dX9_tryTake_10 rfl ?_
    obtain ⟨u4, eu4, h⟩ := ob h
    try dsimp only at h
    obtain ⟨r3, er3, h⟩ := ob h
    try dsimp only at h
    refine fr_callV (g1 := false) (k2 := 0) (ev_X9_isOccupied er3) rfl cyX9_isOccupied w_579 w_580 w_581 (rc_ok eu4 rfl (by decide)) (by rfl) (by omega) (by omega) (by rfl) (Nat.le_of_ble_eq_true rfl) dX9_tryTake_11 (Or.inl rfl) (fun v M9 q _ => ?_) (fun E M9 q _ => (Sum.inr_ne_inl q.1).elim)
    obtain rfl : v = some (.int r3) := Sum.inl.inj q.1
    obtain rfl := q.2.symm
    refine fr_st (S' := [.int r3]) rfl ?_
    refine fr_if_ne 20 dX9_tryTake_14 (by decide) (fun c5 => ?_) (fun c5 => ?_)
    · rw [if_neg c5] at h
      refine fr_aload_n 0 dX9_tryTake_20 rfl ?_
      obtain ⟨p6, ep6, h⟩ := ob h
      try dsimp only at h
      refine fr_gP cb9 1 (by decide) rfl w_123 dX9_tryTake_21 ep6 ?_
      refine fr_iload_n 1 dX9_tryTake_24 rfl ?_
      obtain ⟨x7, ex7, h⟩ := ob h
      try dsimp only at h
      refine fr_aI0 ex7 dX9_tryTake_25 ?_
      refine fr_istore_n (L' := [(0, .ref p0a), (1, .int x1a), (2, .int x7)]) dX9_tryTake_26 (by decide) rfl ?_
      refine fr_aload_n 0 dX9_tryTake_27 rfl ?_
      refine fr_iload_n 1 dX9_tryTake_28 rfl ?_
      obtain ⟨u9, eu9, h⟩ := ob h
      try dsimp only at h
      obtain ⟨r8, er8, h⟩ := ob h
      try dsimp only at h
      refine fr_callV (g1 := false) (k2 := 0) (ev_X9_lift er8) rfl cyX9_lift w_633 w_634 w_635 (rc_ok eu9 rfl (by decide)) (by rfl) (by omega) (by omega) (by rfl) (Nat.le_of_ble_eq_true rfl) dX9_tryTake_29 (Or.inl rfl) (fun v M9 q _ => ?_) (fun E M9 q _ => (Sum.inr_ne_inl q.1).elim)
      obtain rfl : v = none := Sum.inl.inj q.1
      obtain rfl := q.2.symm
      refine fr_st (S' := []) rfl ?_
      refine fr_iload_n 2 dX9_tryTake_32 rfl ?_
      obtain rfl := Option.some.inj h
      exact fr_iret rfl dX9_tryTake_33 ⟨rfl, rfl⟩
    · rw [if_pos c5] at h
      refine fr_bipush (v := (-5)) dX9_tryTake_17 (by decide) ?_
      obtain rfl := Option.some.inj h
      exact fr_iret rfl dX9_tryTake_19 ⟨rfl, rfl⟩
  · rw [if_pos c2] at h
    refine fr_iconst (v := (-1)) dX9_tryTake_7 (by decide) ?_
    obtain rfl := Option.some.inj h
    exact fr_iret rfl dX9_tryTake_8 ⟨rfl, rfl⟩
def lp_X9_countFlat_4 (p_0 : Nat) (M_ : Mem) : Nat → Int32 → Int32 → Option ((Int32 × Int32) ⊕ (Int32))
  | 0, _, _ => none
  | n + 1, x_1, x_2 => (gI M_ 9 p_0 2).bind fun x1 => if x1 ≤ x_2 then (some (.inl (x_1, x_2))) else ((gP M_ 9 p_0 0).bind fun p3 => (aP M_ 120 p3 x_2).bind fun p4 => (gI M_ 7 p4 5).bind fun x5 => if x5 = 0 then (lp_X9_countFlat_4 p_0 M_ n (x_1 + 1) (x_2 + 1)) else (lp_X9_countFlat_4 p_0 M_ n x_1 (x_2 + 1)))
def f_X9_countFlat (p0a : Nat) (M : Mem) : Option (Int32) := ((lp_X9_countFlat_4 p0a M 100 0 0).bind fun q7 => match q7 with | .inl (q7_1, q7_2) => (some q7_1) | .inr q7_r => some q7_r)
set_option maxRecDepth 20000 in
theorem lp_X9_countFlat_4_ok {G : Nat × (Nat → Int32) × Value} {P : Res → Mem → Prop} {n0 d ke : Nat} {p_0 : Nat} {M_ : Mem} (hd : 0 ≤ d) : ∀ (n : Nat) (x_1 : Int32) (x_2 : Int32) (res : (Int32 × Int32) ⊕ (Int32)), lp_X9_countFlat_4 p_0 M_ n x_1 x_2 = some res → (∀ (y_1 : Int32) (y_2 : Int32), res = .inl (y_1, y_2) → Fr (roG G) false n0 YX9_countFlat d ke 33 [(0, .ref p_0), (1, .int y_1), (2, .int y_2)] [] M_ P) → (∀ r : Int32, res = .inr r → P (wI r) M_) → Fr (roG G) false n0 YX9_countFlat d ke 4 [(0, .ref p_0), (1, .int x_1), (2, .int x_2)] [] M_ P := by
  intro n
  induction n with
  | zero => intro x_1 x_2 res h; unfold lp_X9_countFlat_4 at h; cases h
  | succ n ih =>
    intro x_1 x_2 res h he hr
    unfold lp_X9_countFlat_4 at h
    refine fr_iload_n 2 dX9_countFlat_4 rfl ?_
    refine fr_aload_n 0 dX9_countFlat_5 rfl ?_
    obtain ⟨x1, ex1, h⟩ := ob h
    try dsimp only at h
    refine fr_gI cb9 2 (by decide) rfl w_126 dX9_countFlat_6 ex1 ?_
    refine fr_icmp_ge 33 dX9_countFlat_9 (by decide) (fun c2 => ?_) (fun c2 => ?_)
    · rw [if_pos c2] at h
      obtain rfl := Option.some.inj h
      exact he _ _ rfl
    · rw [if_neg c2] at h
      refine fr_aload_n 0 dX9_countFlat_12 rfl ?_
      obtain ⟨p3, ep3, h⟩ := ob h
      try dsimp only at h
      refine fr_gP cb9 0 (by decide) rfl w_121 dX9_countFlat_13 ep3 ?_
      refine fr_iload_n 2 dX9_countFlat_16 rfl ?_
      obtain ⟨p4, ep4, h⟩ := ob h
      try dsimp only at h
      refine fr_aP (t := 120) (by decide) ep4 dX9_countFlat_17 ?_
      obtain ⟨x5, ex5, h⟩ := ob h
      try dsimp only at h
      refine fr_gI cb7 5 (by decide) rfl w_93 dX9_countFlat_18 ex5 ?_
      refine fr_if_ne 27 dX9_countFlat_21 (by decide) (fun c6 => ?_) (fun c6 => ?_)
      · rw [if_neg c6] at h
        refine fr_iinc (v := (x_2 + 1)) (L' := [(0, .ref p_0), (1, .int x_1), (2, .int (x_2 + 1))]) 2 dX9_countFlat_27 rfl rfl (by decide) rfl ?_
        refine fr_goto 4 dX9_countFlat_30 (by decide) ?_
        exact ih _ _ _ h he hr
      · rw [if_pos c6] at h
        refine fr_iinc (v := (x_1 + 1)) (L' := [(0, .ref p_0), (1, .int (x_1 + 1)), (2, .int x_2)]) 1 dX9_countFlat_24 rfl rfl (by decide) rfl ?_
        refine fr_iinc (v := (x_2 + 1)) (L' := [(0, .ref p_0), (1, .int (x_1 + 1)), (2, .int (x_2 + 1))]) 2 dX9_countFlat_27 rfl rfl (by decide) rfl ?_
        refine fr_goto 4 dX9_countFlat_30 (by decide) ?_
        exact ih _ _ _ h he hr
set_option maxRecDepth 20000 in
theorem ev_X9_countFlat {G : Nat × (Nat → Int32) × Value} {p0a : Nat} {M : Mem} {r : Int32} (h : f_X9_countFlat p0a M = some r) : Ev (roG G) false YX9_countFlat 0 0 [.ref p0a] M (fun a b => a = wI r ∧ b = M) := by
  refine ev_of cyX9_countFlat.2.2.2.2 (Nat.le_of_ble_eq_true rfl) ?_
  show Fr _ _ _ _ _ _ 0 [(0, .ref p0a)] [] M _
  unfold f_X9_countFlat at h
  refine fr_iconst (v := 0) dX9_countFlat_0 (by decide) ?_
  refine fr_istore_n (L' := [(0, .ref p0a), (1, .int 0)]) dX9_countFlat_1 (by decide) rfl ?_
  refine fr_iconst (v := 0) dX9_countFlat_2 (by decide) ?_
  refine fr_istore_n (L' := [(0, .ref p0a), (1, .int 0), (2, .int 0)]) dX9_countFlat_3 (by decide) rfl ?_
  obtain ⟨q7, eq7, h⟩ := ob h
  try dsimp only at h
  refine lp_X9_countFlat_4_ok (by omega) 100 _ _ q7 eq7 (fun q7_1 q7_2 e9 => ?_) (fun q7_r e9 => ?_)
  · subst e9
    try dsimp only at h
    refine fr_iload_n 1 dX9_countFlat_33 rfl ?_
    obtain rfl := Option.some.inj h
    exact fr_iret rfl dX9_countFlat_34 ⟨rfl, rfl⟩
  · subst e9
    try dsimp only at h
    obtain rfl := Option.some.inj h
    exact ⟨rfl, rfl⟩
def f_X9_tryUnfold (p0a : Nat) (x1a : Int32) (M : Mem) : Option (Int32 × Mem) := (rc M 9 p0a).bind fun _ => (f_X9_hasSheet p0a x1a M).bind fun r1 => if r1 = 0 then (some ((-1), M)) else ((gP M 9 p0a 0).bind fun p4 => (aP M 120 p4 x1a).bind fun p5 => (gI M 7 p5 5).bind fun x6 => if x6 = 0 then (some ((-3), M)) else ((gP M 9 p0a 0).bind fun p8 => (aP M 120 p8 x1a).bind fun p9 => (sI M 7 p9 5 .boolean 0).bind fun M10 => (rc M10 9 p0a).bind fun _ => (f_X9_countFlat p0a M10).bind fun r11 => some (r11, M10)))
set_option maxRecDepth 20000 in
theorem ev_X9_tryUnfold {G : Nat × (Nat → Int32) × Value} {p0a : Nat} {x1a : Int32} {M : Mem} {r : Int32 × Mem} (h : f_X9_tryUnfold p0a x1a M = some r) : Ev (roG G) false YX9_tryUnfold 1 0 [.ref p0a, .int x1a] M (fun a b => a = wI r.1 ∧ b = r.2) := by
  refine ev_of cyX9_tryUnfold.2.2.2.2 (Nat.le_of_ble_eq_true rfl) ?_
  show Fr _ _ _ _ _ _ 0 [(0, .ref p0a), (1, .int x1a)] [] M _
  unfold f_X9_tryUnfold at h
  refine fr_aload_n 0 dX9_tryUnfold_0 rfl ?_
  refine fr_iload_n 1 dX9_tryUnfold_1 rfl ?_
  obtain ⟨u2, eu2, h⟩ := ob h
  try dsimp only at h
  obtain ⟨r1, er1, h⟩ := ob h
  try dsimp only at h
  refine fr_callV (g1 := false) (k2 := 0) (ev_X9_hasSheet er1) rfl cyX9_hasSheet w_503 w_504 w_505 (rc_ok eu2 rfl (by decide)) (by rfl) (by omega) (by omega) (by rfl) (Nat.le_of_ble_eq_true rfl) dX9_tryUnfold_2 (Or.inl rfl) (fun v M9 q _ => ?_) (fun E M9 q _ => (Sum.inr_ne_inl q.1).elim)
  obtain rfl : v = some (.int r1) := Sum.inl.inj q.1
  obtain rfl := q.2.symm
  refine fr_st (S' := [.int r1]) rfl ?_
  refine fr_if_ne 10 dX9_tryUnfold_5 (by decide) (fun c3 => ?_) (fun c3 => ?_)
  · rw [if_neg c3] at h
    refine fr_aload_n 0 dX9_tryUnfold_10 rfl ?_
    obtain ⟨p4, ep4, h⟩ := ob h
    try dsimp only at h
    refine fr_gP cb9 0 (by decide) rfl w_121 dX9_tryUnfold_11 ep4 ?_
    refine fr_iload_n 1 dX9_tryUnfold_14 rfl ?_
    obtain ⟨p5, ep5, h⟩ := ob h
    try dsimp only at h
    refine fr_aP (t := 120) (by decide) ep5 dX9_tryUnfold_15 ?_
    obtain ⟨x6, ex6, h⟩ := ob h
    try dsimp only at h
    refine fr_gI cb7 5 (by decide) rfl w_93 dX9_tryUnfold_16 ex6 ?_
    refine fr_if_ne 25 dX9_tryUnfold_19 (by decide) (fun c7 => ?_) (fun c7 => ?_)
    · rw [if_neg c7] at h
      refine fr_aload_n 0 dX9_tryUnfold_25 rfl ?_
      obtain ⟨p8, ep8, h⟩ := ob h
      try dsimp only at h
      refine fr_gP cb9 0 (by decide) rfl w_121 dX9_tryUnfold_26 ep8 ?_
      refine fr_iload_n 1 dX9_tryUnfold_29 rfl ?_
      obtain ⟨p9, ep9, h⟩ := ob h
      try dsimp only at h
      refine fr_aP (t := 120) (by decide) ep9 dX9_tryUnfold_30 ?_
      refine fr_iconst (v := 0) dX9_tryUnfold_31 (by decide) ?_
      obtain ⟨M10, eM10, h⟩ := ob h
      try dsimp only at h
      refine fr_sI cb7 5 (by decide) rfl rfl w_93 dX9_tryUnfold_32 eM10 ?_
      refine fr_aload_n 0 dX9_tryUnfold_35 rfl ?_
      obtain ⟨u12, eu12, h⟩ := ob h
      try dsimp only at h
      obtain ⟨r11, er11, h⟩ := ob h
      try dsimp only at h
      refine fr_callV (g1 := false) (k2 := 0) (ev_X9_countFlat er11) rfl cyX9_countFlat w_537 w_538 w_539 (rc_ok eu12 rfl (by decide)) (by rfl) (by omega) (by omega) (by rfl) (Nat.le_of_ble_eq_true rfl) dX9_tryUnfold_36 (Or.inl rfl) (fun v M9 q _ => ?_) (fun E M9 q _ => (Sum.inr_ne_inl q.1).elim)
      obtain rfl : v = some (.int r11) := Sum.inl.inj q.1
      obtain rfl := q.2.symm
      refine fr_st (S' := [.int r11]) rfl ?_
      obtain rfl := Option.some.inj h
      exact fr_iret rfl dX9_tryUnfold_39 ⟨rfl, rfl⟩
    · rw [if_pos c7] at h
      refine fr_bipush (v := (-3)) dX9_tryUnfold_22 (by decide) ?_
      obtain rfl := Option.some.inj h
      exact fr_iret rfl dX9_tryUnfold_24 ⟨rfl, rfl⟩
  · rw [if_pos c3] at h
    refine fr_iconst (v := (-1)) dX9_tryUnfold_8 (by decide) ?_
    obtain rfl := Option.some.inj h
    exact fr_iret rfl dX9_tryUnfold_9 ⟨rfl, rfl⟩
def f_Jx29ce0_ordinal_8abf5 (p0a : Nat) (M : Mem) : Option (Int32) := (fOrd p0a).bind fun x1 => some x1
set_option maxRecDepth 20000 in
theorem ev_Jx29ce0_ordinal_8abf5 {G : Nat × (Nat → Int32) × Value} {p0a : Nat} {M : Mem} {r : Int32} (h : f_Jx29ce0_ordinal_8abf5 p0a M = some r) : Ev (roG G) false YJx29ce0_ordinal_8abf5 0 0 [.ref p0a] M (fun a b => a = wI r ∧ b = M) := by
  refine ev_of cyJx29ce0_ordinal_8abf5.2.2.2.2 (Nat.le_of_ble_eq_true rfl) ?_
  show Fr _ _ _ _ _ _ 0 [(0, .ref p0a)] [] M _
  unfold f_Jx29ce0_ordinal_8abf5 at h
  refine fr_aload_n 0 dJx29ce0_ordinal_8abf5_0 rfl ?_
  obtain ⟨x1, ex1, h⟩ := ob h
  try dsimp only at h
  refine fr_fO w_1509 dJx29ce0_ordinal_8abf5_1 ex1 ?_
  obtain rfl := Option.some.inj h
  exact fr_iret rfl dJx29ce0_ordinal_8abf5_4 ⟨rfl, rfl⟩
