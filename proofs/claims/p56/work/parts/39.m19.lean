/-! ===== methods, 19: X3_stepBack X10_undo L_undo ===== -/
def f_X3_stepBack (p0a : Nat) (p1a : Nat) (M : Mem) : Option (Unit × Mem) := (gI M 4 p0a 1).bind fun x1 => (sI M 4 p0a 1 .int (((x1 + 9) - 1) - ((x1 + 9) - 1) / 9 * 9)).bind fun M3 => (gI M3 4 p0a 2).bind fun x4 => (sI M3 4 p0a 2 .int (x4 - 1)).bind fun M5 => (gP M5 4 p0a 0).bind fun p6 => (gI M5 4 p0a 1).bind fun x7 => (aP M5 121 p6 x7).bind fun p8 => (rc M5 9 p1a).bind fun _ => (f_X9_copyFrom p1a p8 M5).bind fun r9 => some ((), r9.2)
set_option maxRecDepth 20000 in
theorem ev_X3_stepBack {G : Nat × (Nat → Int32) × Value} {p0a : Nat} {p1a : Nat} {M : Mem} {r : Unit × Mem} (h : f_X3_stepBack p0a p1a M = some r) : Ev (roG G) false YX3_stepBack 3 0 [.ref p0a, .ref p1a] M (fun a b => a = wU r.1 ∧ b = r.2) := by
  refine ev_of cyX3_stepBack.2.2.2.2 (Nat.le_of_ble_eq_true rfl) ?_
  show Fr _ _ _ _ _ _ 0 [(0, .ref p0a), (1, .ref p1a)] [] M _
  unfold f_X3_stepBack at h
  refine fr_aload_n 0 dX3_stepBack_0 rfl ?_
  refine fr_aload_n 0 dX3_stepBack_1 rfl ?_
  obtain ⟨x1, ex1, h⟩ := ob h
  try dsimp only at h
  refine fr_gI cb4 1 (by decide) rfl w_157 dX3_stepBack_2 ex1 ?_
  refine fr_bipush (v := 9) dX3_stepBack_5 (by decide) ?_
  refine fr_iadd dX3_stepBack_7 ?_
  refine fr_iconst (v := 1) dX3_stepBack_8 (by decide) ?_
  refine fr_isub dX3_stepBack_9 ?_
  refine fr_bipush (v := 9) dX3_stepBack_10 (by decide) ?_
  refine fr_irem dX3_stepBack_12 (by decide) ?_
  obtain ⟨M3, eM3, h⟩ := ob h
  try dsimp only at h
  refine fr_sI cb4 1 (by decide) rfl rfl w_157 dX3_stepBack_13 eM3 ?_
  refine fr_aload_n 0 dX3_stepBack_16 rfl ?_
  refine fr_dup dX3_stepBack_17 rfl ?_
  obtain ⟨x4, ex4, h⟩ := ob h
  try dsimp only at h
  refine fr_gI cb4 2 (by decide) rfl w_158 dX3_stepBack_18 ex4 ?_
  refine fr_iconst (v := 1) dX3_stepBack_21 (by decide) ?_
  refine fr_isub dX3_stepBack_22 ?_
  obtain ⟨M5, eM5, h⟩ := ob h
  try dsimp only at h
  refine fr_sI cb4 2 (by decide) rfl rfl w_158 dX3_stepBack_23 eM5 ?_
  refine fr_aload_n 1 dX3_stepBack_26 rfl ?_
  refine fr_aload_n 0 dX3_stepBack_27 rfl ?_
  obtain ⟨p6, ep6, h⟩ := ob h
  try dsimp only at h
  refine fr_gP cb4 0 (by decide) rfl w_156 dX3_stepBack_28 ep6 ?_
  refine fr_aload_n 0 dX3_stepBack_31 rfl ?_
  obtain ⟨x7, ex7, h⟩ := ob h
  try dsimp only at h
  refine fr_gI cb4 1 (by decide) rfl w_157 dX3_stepBack_32 ex7 ?_
  obtain ⟨p8, ep8, h⟩ := ob h
  try dsimp only at h
  refine fr_aP (t := 121) (by decide) ep8 dX3_stepBack_35 ?_
  obtain ⟨u10, eu10, h⟩ := ob h
  try dsimp only at h
  obtain ⟨r9, er9, h⟩ := ob h
  try dsimp only at h
  refine fr_callV (g1 := false) (k2 := 0) (ev_X9_copyFrom er9) rfl cyX9_copyFrom w_306 w_279 w_280 (rc_ok eu10 rfl (by decide)) (by rfl) (by omega) (by omega) (by rfl) (Nat.le_of_ble_eq_true rfl) dX3_stepBack_36 (Or.inl rfl) (fun v M9 q _ => ?_) (fun E M9 q _ => (Sum.inr_ne_inl q.1).elim)
  obtain rfl : v = none := Sum.inl.inj q.1
  obtain rfl := q.2.symm
  refine fr_st (S' := []) rfl ?_
  obtain rfl := Option.some.inj h
  exact fr_vret rfl dX3_stepBack_39 ⟨rfl, rfl⟩
def f_X10_undo (p0a : Nat) (M : Mem) : Option ((Int32 ⊕ String) × Mem) := (gP M 10 p0a 3).bind fun p1 => (gI M 4 p1 2).bind fun x2 => if x2 = 0 then (some ((.inr "java/lang/IllegalStateException"), M)) else ((gP M 10 p0a 3).bind fun p4 => (gP M 10 p0a 0).bind fun p5 => (rc M 4 p4).bind fun _ => (f_X3_stepBack p4 p5 M).bind fun r6 => (gP r6.2 10 p0a 3).bind fun p8 => (gI r6.2 4 p8 2).bind fun x9 => some ((.inl x9), r6.2))
set_option maxRecDepth 20000 in
theorem ev_X10_undo {G : Nat × (Nat → Int32) × Value} {p0a : Nat} {M : Mem} {r : (Int32 ⊕ String) × Mem} (h : f_X10_undo p0a M = some r) : Ev (roG G) false YX10_undo 7 1 [.ref p0a] M (fun a b => a = (wE wI) r.1 ∧ b = r.2) := by
  refine ev_of cyX10_undo.2.2.2.2 (Nat.le_of_ble_eq_true rfl) ?_
  show Fr _ _ _ _ _ _ 0 [(0, .ref p0a)] [] M _
  unfold f_X10_undo at h
  refine fr_aload_n 0 dX10_undo_0 rfl ?_
  obtain ⟨p1, ep1, h⟩ := ob h
  try dsimp only at h
  refine fr_gP cb10 3 (by decide) rfl w_230 dX10_undo_1 ep1 ?_
  obtain ⟨x2, ex2, h⟩ := ob h
  try dsimp only at h
  refine fr_gI cb4 2 (by decide) rfl w_159 dX10_undo_4 ex2 ?_
  refine fr_if_ne 21 dX10_undo_7 (by decide) (fun c3 => ?_) (fun c3 => ?_)
  · rw [if_neg c3] at h
    refine fr_aload_n 0 dX10_undo_21 rfl ?_
    obtain ⟨p4, ep4, h⟩ := ob h
    try dsimp only at h
    refine fr_gP cb10 3 (by decide) rfl w_230 dX10_undo_22 ep4 ?_
    refine fr_aload_n 0 dX10_undo_25 rfl ?_
    obtain ⟨p5, ep5, h⟩ := ob h
    try dsimp only at h
    refine fr_gP cb10 0 (by decide) rfl w_227 dX10_undo_26 ep5 ?_
    obtain ⟨u7, eu7, h⟩ := ob h
    try dsimp only at h
    obtain ⟨r6, er6, h⟩ := ob h
    try dsimp only at h
    refine fr_callV (g1 := false) (k2 := 1) (ev_X3_stepBack er6) rfl cyX3_stepBack w_856 w_857 w_858 (rc_ok eu7 rfl (by decide)) (by rfl) (by omega) (by omega) (by rfl) (Nat.le_of_ble_eq_true rfl) dX10_undo_29 (Or.inl rfl) (fun v M9 q _ => ?_) (fun E M9 q _ => (Sum.inr_ne_inl q.1).elim)
    obtain rfl : v = none := Sum.inl.inj q.1
    obtain rfl := q.2.symm
    refine fr_st (S' := []) rfl ?_
    refine fr_aload_n 0 dX10_undo_32 rfl ?_
    obtain ⟨p8, ep8, h⟩ := ob h
    try dsimp only at h
    refine fr_gP cb10 3 (by decide) rfl w_230 dX10_undo_33 ep8 ?_
    obtain ⟨x9, ex9, h⟩ := ob h
    try dsimp only at h
    refine fr_gI cb4 2 (by decide) rfl w_159 dX10_undo_36 ex9 ?_
    obtain rfl := Option.some.inj h
    exact fr_iret rfl dX10_undo_39 ⟨rfl, rfl⟩
  · rw [if_pos c3] at h
    obtain rfl := Option.some.inj h
    exact fr_throwW (names := ["java/lang/RuntimeException", "java/lang/Exception"]) rfl thX10_195 w_416 w_25 (sa := ROB + 31) (show _ ∈ roS from List.mem_of_getElem? (i := 11) rfl) dX10_undo_10 dX10_undo_13 dX10_undo_14 dX10_undo_17 dX10_undo_20 (by omega) (by omega) (Nat.le_of_ble_eq_true rfl) ⟨rfl, rfl⟩
def f_L_undo (p0a : Nat) (M : Mem) : Option (Int32 × Mem) := (rc M 10 p0a).bind fun _ => (f_X10_undo p0a M).bind fun r1 => (match r1 with | (.inl r1v, r1M) => (some (r1v, r1M)) | (.inr r1E, r1M) => (if r1E = "java/lang/IllegalStateException" then (some ((-1001), r1M)) else none))
set_option maxRecDepth 20000 in
theorem ev_L_undo {G : Nat × (Nat → Int32) × Value} {p0a : Nat} {M : Mem} {r : Int32 × Mem} (h : f_L_undo p0a M = some r) : Ev (roG G) false YL_undo 8 1 [.ref p0a] M (fun a b => a = wI r.1 ∧ b = r.2) := by
  refine ev_of cyL_undo.2.2.2.2 (Nat.le_of_ble_eq_true rfl) ?_
  show Fr _ _ _ _ _ _ 0 [(0, .ref p0a)] [] M _
  unfold f_L_undo at h
  refine fr_aload_n 0 dL_undo_0 rfl ?_
  obtain ⟨u2, eu2, h⟩ := ob h
  try dsimp only at h
  obtain ⟨r1, er1, h⟩ := ob h
  try dsimp only at h
  obtain ⟨r1v | r1E, r1M⟩ := r1
  · try dsimp only at h
    refine fr_callV (g1 := false) (k2 := 0) (ev_X10_undo er1) rfl cyX10_undo w_851 w_852 w_853 (rc_ok eu2 rfl (by decide)) (by rfl) (by omega) (by omega) (by rfl) (Nat.le_of_ble_eq_true rfl) dL_undo_1 (Or.inl rfl) (fun v M9 q _ => ?_) (fun E M9 q _ => (Sum.inr_ne_inl q.1).elim)
    obtain rfl : v = some (.int r1v) := Sum.inl.inj q.1
    obtain rfl := q.2.symm
    refine fr_st (S' := [.int r1v]) rfl ?_
    obtain rfl := Option.some.inj h
    exact fr_iret rfl dL_undo_4 ⟨rfl, rfl⟩
  · try dsimp only at h
    refine fr_callV (g1 := false) (k2 := 0) (ev_X10_undo er1) rfl cyX10_undo w_851 w_852 w_853 (rc_ok eu2 rfl (by decide)) (by rfl) (by omega) (by omega) (by rfl) (Nat.le_of_ble_eq_true rfl) dL_undo_1 (Or.inl rfl) (fun v M9 q _ => (Sum.inl_ne_inr q.1).elim) (fun E M9 q _ => ?_)
    obtain rfl : r1E = E := (Sum.inr.inj q.1).symm
    obtain rfl := q.2.symm
    by_cases e3_0 : r1E = "java/lang/IllegalStateException"
    · rw [if_pos e3_0] at h
      subst e3_0
      refine fx_catch (E := "java/lang/IllegalStateException") (name := "java/lang/IllegalStateException") (L' := [(0, .ref p0a)]) [] { startPc := 0, endPc := 4, handlerPc := 5, catchType := 15 } [] rfl ?_ (by decide) (by decide) w_297 (show _ ∈ roC from List.mem_of_getElem? (i := 2) rfl) 1 1 (by decide) (Or.inl ⟨1, rfl, rfl, dL_undo_5⟩) rfl ?_
      · intro z hz; cases hz
      refine fr_sipush (v := (-1001)) dL_undo_6 (by decide) ?_
      obtain rfl := Option.some.inj h
      exact fr_iret rfl dL_undo_9 ⟨rfl, rfl⟩
    rw [if_neg e3_0] at h
    cases h
