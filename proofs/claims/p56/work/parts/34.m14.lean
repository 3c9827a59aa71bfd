/-! ===== methods, 14: X10_crease L_crease X10_errorPosition L_errorPosition X10_failedCommand L_failedCommand J6_bitCount_0f7a4 X10_groupSize L_groupSize X10_isFolded L_isFolded X10_isTorn L_isTorn X10_kind L_kind X2_init X7_init ===== -/
def f_X10_crease (p0a : Nat) (x1a : Int32) (x2a : Int32) (M : Mem) : Option ((Int32 ⊕ String)) := (rc M 10 p0a).bind fun _ => (f_X10_demandedSheet p0a x1a M).bind fun r1 => (match r1 with | .inl r1v => (if x2a < 0 then (some (.inr "java/lang/IndexOutOfBoundsException")) else ((gI M 7 r1v 3).bind fun x4 => if x2a < x4 then ((gP M 7 r1v 1).bind fun p6 => (aI M 101 p6 x2a).bind fun x7 => (nr .char x7).bind fun _ => some (.inl x7)) else (some (.inr "java/lang/IndexOutOfBoundsException")))) | .inr r1E => (some (.inr r1E)))
set_option maxRecDepth 20000 in
theorem ev_X10_crease {G : Nat × (Nat → Int32) × Value} {p0a : Nat} {x1a : Int32} {x2a : Int32} {M : Mem} {r : (Int32 ⊕ String)} (h : f_X10_crease p0a x1a x2a M = some r) : Ev (roG G) false YX10_crease 8 2 [.ref p0a, .int x1a, .int x2a] M (fun a b => a = (wE wI) r ∧ b = M) := by
  refine ev_of cyX10_crease.2.2.2.2 (Nat.le_of_ble_eq_true rfl) ?_
  show Fr _ _ _ _ _ _ 0 [(0, .ref p0a), (1, .int x1a), (2, .int x2a)] [] M _
  unfold f_X10_crease at h
  refine fr_aload_n 0 dX10_crease_0 rfl ?_
  refine fr_iload_n 1 dX10_crease_1 rfl ?_
  obtain ⟨u2, eu2, h⟩ := ob h
  try dsimp only at h
  obtain ⟨r1, er1, h⟩ := ob h
  try dsimp only at h
  rcases r1 with r1v | r1E
  · try dsimp only at h
    refine fr_callV (g1 := false) (k2 := 1) (ev_X10_demandedSheet er1) rfl cyX10_demandedSheet w_655 w_657 w_2 (rc_ok eu2 rfl (by decide)) (by rfl) (by omega) (by omega) (by rfl) (Nat.le_of_ble_eq_true rfl) dX10_crease_2 (Or.inl rfl) (fun v M9 q _ => ?_) (fun E M9 q _ => (Sum.inr_ne_inl q.1).elim)
    obtain rfl : v = some (.ref r1v) := Sum.inl.inj q.1
    obtain rfl := q.2.symm
    refine fr_st (S' := [.ref r1v]) rfl ?_
    refine fr_astore_n (L' := [(0, .ref p0a), (1, .int x1a), (2, .int x2a), (3, .ref r1v)]) dX10_crease_5 (by decide) rfl ?_
    refine fr_iload_n 2 dX10_crease_6 rfl ?_
    refine fr_if_lt 18 dX10_crease_7 (by decide) (fun c3 => ?_) (fun c3 => ?_)
    · rw [if_pos c3] at h
      obtain rfl := Option.some.inj h
      exact fr_throwS (names := ["java/lang/RuntimeException", "java/lang/Exception"]) rfl thX10_135 w_328 w_27 (sa := ROB + 47) (show _ ∈ roS from List.mem_of_getElem? (i := 27) rfl) dX10_crease_18 dX10_crease_21 dX10_crease_22 dX10_crease_24 dX10_crease_27 (by omega) (by omega) (Nat.le_of_ble_eq_true rfl) ⟨rfl, rfl⟩
    · rw [if_neg c3] at h
      refine fr_iload_n 2 dX10_crease_10 rfl ?_
      refine fr_aload_n 3 dX10_crease_11 rfl ?_
      obtain ⟨x4, ex4, h⟩ := ob h
      try dsimp only at h
      refine fr_gI cb7 3 (by decide) rfl w_86 dX10_crease_12 ex4 ?_
      refine fr_icmp_lt 28 dX10_crease_15 (by decide) (fun c5 => ?_) (fun c5 => ?_)
      · rw [if_pos c5] at h
        refine fr_aload_n 3 dX10_crease_28 rfl ?_
        obtain ⟨p6, ep6, h⟩ := ob h
        try dsimp only at h
        refine fr_gP cb7 1 (by decide) rfl w_76 dX10_crease_29 ep6 ?_
        refine fr_iload_n 2 dX10_crease_32 rfl ?_
        obtain ⟨x7, ex7, h⟩ := ob h
        try dsimp only at h
        refine fr_aI1 ex7 dX10_crease_33 ?_
        obtain ⟨u8, eu8, h⟩ := ob h
        try dsimp only at h
        obtain rfl := Option.some.inj h
        exact fr_zret1 (ty := .char) rfl dX10_crease_34 eu8 ⟨rfl, rfl⟩
      · rw [if_neg c5] at h
        obtain rfl := Option.some.inj h
        exact fr_throwS (names := ["java/lang/RuntimeException", "java/lang/Exception"]) rfl thX10_135 w_328 w_27 (sa := ROB + 47) (show _ ∈ roS from List.mem_of_getElem? (i := 27) rfl) dX10_crease_18 dX10_crease_21 dX10_crease_22 dX10_crease_24 dX10_crease_27 (by omega) (by omega) (Nat.le_of_ble_eq_true rfl) ⟨rfl, rfl⟩
  · try dsimp only at h
    refine fr_callV (g1 := false) (k2 := 1) (ev_X10_demandedSheet er1) rfl cyX10_demandedSheet w_655 w_657 w_2 (rc_ok eu2 rfl (by decide)) (by rfl) (by omega) (by omega) (by rfl) (Nat.le_of_ble_eq_true rfl) dX10_crease_2 (Or.inl rfl) (fun v M9 q _ => (Sum.inl_ne_inr q.1).elim) (fun E M9 q _ => ?_)
    obtain rfl : r1E = E := (Sum.inr.inj q.1).symm
    obtain rfl := q.2.symm
    obtain rfl := Option.some.inj h
    exact fx_no rfl ⟨rfl, rfl⟩
def f_L_crease (p0a : Nat) (x1a : Int32) (x2a : Int32) (M : Mem) : Option (Int32) := (rc M 10 p0a).bind fun _ => (f_X10_crease p0a x1a x2a M).bind fun r1 => (match r1 with | .inl r1v => (some r1v) | .inr r1E => (if r1E = "java/lang/IndexOutOfBoundsException" then (some (-1001)) else none))
set_option maxRecDepth 20000 in
theorem ev_L_crease {G : Nat × (Nat → Int32) × Value} {p0a : Nat} {x1a : Int32} {x2a : Int32} {M : Mem} {r : Int32} (h : f_L_crease p0a x1a x2a M = some r) : Ev (roG G) false YL_crease 9 2 [.ref p0a, .int x1a, .int x2a] M (fun a b => a = wI r ∧ b = M) := by
  refine ev_of cyL_crease.2.2.2.2 (Nat.le_of_ble_eq_true rfl) ?_
  show Fr _ _ _ _ _ _ 0 [(0, .ref p0a), (1, .int x1a), (2, .int x2a)] [] M _
  unfold f_L_crease at h
  refine fr_aload_n 0 dL_crease_0 rfl ?_
  refine fr_iload_n 1 dL_crease_1 rfl ?_
  refine fr_iload_n 2 dL_crease_2 rfl ?_
  obtain ⟨u2, eu2, h⟩ := ob h
  try dsimp only at h
  obtain ⟨r1, er1, h⟩ := ob h
  try dsimp only at h
  rcases r1 with r1v | r1E
  · try dsimp only at h
    refine fr_callV (g1 := false) (k2 := 0) (ev_X10_crease er1) rfl cyX10_crease w_1366 w_1367 w_1368 (rc_ok eu2 rfl (by decide)) (by rfl) (by omega) (by omega) (by rfl) (Nat.le_of_ble_eq_true rfl) dL_crease_3 (Or.inl rfl) (fun v M9 q _ => ?_) (fun E M9 q _ => (Sum.inr_ne_inl q.1).elim)
    obtain rfl : v = some (.int r1v) := Sum.inl.inj q.1
    obtain rfl := q.2.symm
    refine fr_st (S' := [.int r1v]) rfl ?_
    obtain rfl := Option.some.inj h
    exact fr_iret rfl dL_crease_6 ⟨rfl, rfl⟩
  · try dsimp only at h
    refine fr_callV (g1 := false) (k2 := 0) (ev_X10_crease er1) rfl cyX10_crease w_1366 w_1367 w_1368 (rc_ok eu2 rfl (by decide)) (by rfl) (by omega) (by omega) (by rfl) (Nat.le_of_ble_eq_true rfl) dL_crease_3 (Or.inl rfl) (fun v M9 q _ => (Sum.inl_ne_inr q.1).elim) (fun E M9 q _ => ?_)
    obtain rfl : r1E = E := (Sum.inr.inj q.1).symm
    obtain rfl := q.2.symm
    by_cases e3_0 : r1E = "java/lang/IndexOutOfBoundsException"
    · rw [if_pos e3_0] at h
      subst e3_0
      refine fx_catch (E := "java/lang/IndexOutOfBoundsException") (name := "java/lang/IndexOutOfBoundsException") (L' := [(0, .ref p0a), (1, .int x1a), (2, .int x2a)]) [] { startPc := 0, endPc := 6, handlerPc := 7, catchType := 21 } [] rfl ?_ (by decide) (by decide) w_474 (show _ ∈ roC from List.mem_of_getElem? (i := 0) rfl) 3 1 (by decide) (Or.inl ⟨3, rfl, rfl, dL_crease_7⟩) rfl ?_
      · intro z hz; cases hz
      refine fr_sipush (v := (-1001)) dL_crease_8 (by decide) ?_
      obtain rfl := Option.some.inj h
      exact fr_iret rfl dL_crease_11 ⟨rfl, rfl⟩
    rw [if_neg e3_0] at h
    cases h
def f_X10_errorPosition (p0a : Nat) (M : Mem) : Option ((Int32 ⊕ String)) := (gI M 10 p0a 8).bind fun x1 => if x1 = (-1) then (some (.inr "java/util/NoSuchElementException")) else ((gI M 10 p0a 8).bind fun x3 => some (.inl x3))
set_option maxRecDepth 20000 in
theorem ev_X10_errorPosition {G : Nat × (Nat → Int32) × Value} {p0a : Nat} {M : Mem} {r : (Int32 ⊕ String)} (h : f_X10_errorPosition p0a M = some r) : Ev (roG G) false YX10_errorPosition 7 1 [.ref p0a] M (fun a b => a = (wE wI) r ∧ b = M) := by
  refine ev_of cyX10_errorPosition.2.2.2.2 (Nat.le_of_ble_eq_true rfl) ?_
  show Fr _ _ _ _ _ _ 0 [(0, .ref p0a)] [] M _
  unfold f_X10_errorPosition at h
  refine fr_aload_n 0 dX10_errorPosition_0 rfl ?_
  obtain ⟨x1, ex1, h⟩ := ob h
  try dsimp only at h
  refine fr_gI cb10 8 (by decide) rfl w_235 dX10_errorPosition_1 ex1 ?_
  refine fr_iconst (v := (-1)) dX10_errorPosition_4 (by decide) ?_
  refine fr_icmp_ne 19 dX10_errorPosition_5 (by decide) (fun c2 => ?_) (fun c2 => ?_)
  · rw [if_neg c2] at h
    refine fr_aload_n 0 dX10_errorPosition_19 rfl ?_
    obtain ⟨x3, ex3, h⟩ := ob h
    try dsimp only at h
    refine fr_gI cb10 8 (by decide) rfl w_235 dX10_errorPosition_20 ex3 ?_
    obtain rfl := Option.some.inj h
    exact fr_iret rfl dX10_errorPosition_23 ⟨rfl, rfl⟩
  · rw [if_pos c2] at h
    obtain rfl := Option.some.inj h
    exact fr_throwWX rfl thX10_149 w_448 w_30 (sa := ROB + 30) (show _ ∈ roS from List.mem_of_getElem? (i := 10) rfl) dX10_errorPosition_8 dX10_errorPosition_11 dX10_errorPosition_12 dX10_errorPosition_15 dX10_errorPosition_18 (by omega) (by omega) (Nat.le_of_ble_eq_true rfl) ⟨rfl, rfl⟩
def f_L_errorPosition (p0a : Nat) (M : Mem) : Option (Int32) := (rc M 10 p0a).bind fun _ => (f_X10_errorPosition p0a M).bind fun r1 => (match r1 with | .inl r1v => (some r1v) | .inr r1E => (if r1E = "java/util/NoSuchElementException" then (some (-1001)) else none))
set_option maxRecDepth 20000 in
theorem ev_L_errorPosition {G : Nat × (Nat → Int32) × Value} {p0a : Nat} {M : Mem} {r : Int32} (h : f_L_errorPosition p0a M = some r) : Ev (roG G) false YL_errorPosition 8 1 [.ref p0a] M (fun a b => a = wI r ∧ b = M) := by
  refine ev_of cyL_errorPosition.2.2.2.2 (Nat.le_of_ble_eq_true rfl) ?_
  show Fr _ _ _ _ _ _ 0 [(0, .ref p0a)] [] M _
  unfold f_L_errorPosition at h
  refine fr_aload_n 0 dL_errorPosition_0 rfl ?_
  obtain ⟨u2, eu2, h⟩ := ob h
  try dsimp only at h
  obtain ⟨r1, er1, h⟩ := ob h
  try dsimp only at h
  rcases r1 with r1v | r1E
  · try dsimp only at h
    refine fr_callV (g1 := false) (k2 := 0) (ev_X10_errorPosition er1) rfl cyX10_errorPosition w_843 w_844 w_845 (rc_ok eu2 rfl (by decide)) (by rfl) (by omega) (by omega) (by rfl) (Nat.le_of_ble_eq_true rfl) dL_errorPosition_1 (Or.inl rfl) (fun v M9 q _ => ?_) (fun E M9 q _ => (Sum.inr_ne_inl q.1).elim)
    obtain rfl : v = some (.int r1v) := Sum.inl.inj q.1
    obtain rfl := q.2.symm
    refine fr_st (S' := [.int r1v]) rfl ?_
    obtain rfl := Option.some.inj h
    exact fr_iret rfl dL_errorPosition_4 ⟨rfl, rfl⟩
  · try dsimp only at h
    refine fr_callV (g1 := false) (k2 := 0) (ev_X10_errorPosition er1) rfl cyX10_errorPosition w_843 w_844 w_845 (rc_ok eu2 rfl (by decide)) (by rfl) (by omega) (by omega) (by rfl) (Nat.le_of_ble_eq_true rfl) dL_errorPosition_1 (Or.inl rfl) (fun v M9 q _ => (Sum.inl_ne_inr q.1).elim) (fun E M9 q _ => ?_)
    obtain rfl : r1E = E := (Sum.inr.inj q.1).symm
    obtain rfl := q.2.symm
    by_cases e3_0 : r1E = "java/util/NoSuchElementException"
    · rw [if_pos e3_0] at h
      subst e3_0
      refine fx_catch (E := "java/util/NoSuchElementException") (name := "java/util/NoSuchElementException") (L' := [(0, .ref p0a)]) [] { startPc := 0, endPc := 4, handlerPc := 5, catchType := 42 } [] rfl ?_ (by decide) (by decide) w_624 (show _ ∈ roC from List.mem_of_getElem? (i := 4) rfl) 1 1 (by decide) (Or.inl ⟨1, rfl, rfl, dL_errorPosition_5⟩) rfl ?_
      · intro z hz; cases hz
      refine fr_sipush (v := (-1001)) dL_errorPosition_6 (by decide) ?_
      obtain rfl := Option.some.inj h
      exact fr_iret rfl dL_errorPosition_9 ⟨rfl, rfl⟩
    rw [if_neg e3_0] at h
    cases h
def f_X10_failedCommand (p0a : Nat) (M : Mem) : Option ((Int32 ⊕ String)) := (gI M 10 p0a 9).bind fun x1 => if x1 = (-1) then (some (.inr "java/util/NoSuchElementException")) else ((gI M 10 p0a 9).bind fun x3 => some (.inl x3))
set_option maxRecDepth 20000 in
theorem ev_X10_failedCommand {G : Nat × (Nat → Int32) × Value} {p0a : Nat} {M : Mem} {r : (Int32 ⊕ String)} (h : f_X10_failedCommand p0a M = some r) : Ev (roG G) false YX10_failedCommand 7 1 [.ref p0a] M (fun a b => a = (wE wI) r ∧ b = M) := by
  refine ev_of cyX10_failedCommand.2.2.2.2 (Nat.le_of_ble_eq_true rfl) ?_
  show Fr _ _ _ _ _ _ 0 [(0, .ref p0a)] [] M _
  unfold f_X10_failedCommand at h
  refine fr_aload_n 0 dX10_failedCommand_0 rfl ?_
  obtain ⟨x1, ex1, h⟩ := ob h
  try dsimp only at h
  refine fr_gI cb10 9 (by decide) rfl w_236 dX10_failedCommand_1 ex1 ?_
  refine fr_iconst (v := (-1)) dX10_failedCommand_4 (by decide) ?_
  refine fr_icmp_ne 19 dX10_failedCommand_5 (by decide) (fun c2 => ?_) (fun c2 => ?_)
  · rw [if_neg c2] at h
    refine fr_aload_n 0 dX10_failedCommand_19 rfl ?_
    obtain ⟨x3, ex3, h⟩ := ob h
    try dsimp only at h
    refine fr_gI cb10 9 (by decide) rfl w_236 dX10_failedCommand_20 ex3 ?_
    obtain rfl := Option.some.inj h
    exact fr_iret rfl dX10_failedCommand_23 ⟨rfl, rfl⟩
  · rw [if_pos c2] at h
    obtain rfl := Option.some.inj h
    exact fr_throwWX rfl thX10_149 w_448 w_30 (sa := ROB + 52) (show _ ∈ roS from List.mem_of_getElem? (i := 32) rfl) dX10_failedCommand_8 dX10_failedCommand_11 dX10_failedCommand_12 dX10_failedCommand_15 dX10_failedCommand_18 (by omega) (by omega) (Nat.le_of_ble_eq_true rfl) ⟨rfl, rfl⟩
def f_L_failedCommand (p0a : Nat) (M : Mem) : Option (Int32) := (rc M 10 p0a).bind fun _ => (f_X10_failedCommand p0a M).bind fun r1 => (match r1 with | .inl r1v => (some r1v) | .inr r1E => (if r1E = "java/util/NoSuchElementException" then (some (-1001)) else none))
set_option maxRecDepth 20000 in
theorem ev_L_failedCommand {G : Nat × (Nat → Int32) × Value} {p0a : Nat} {M : Mem} {r : Int32} (h : f_L_failedCommand p0a M = some r) : Ev (roG G) false YL_failedCommand 8 1 [.ref p0a] M (fun a b => a = wI r ∧ b = M) := by
  refine ev_of cyL_failedCommand.2.2.2.2 (Nat.le_of_ble_eq_true rfl) ?_
  show Fr _ _ _ _ _ _ 0 [(0, .ref p0a)] [] M _
  unfold f_L_failedCommand at h
  refine fr_aload_n 0 dL_failedCommand_0 rfl ?_
  obtain ⟨u2, eu2, h⟩ := ob h
  try dsimp only at h
  obtain ⟨r1, er1, h⟩ := ob h
  try dsimp only at h
  rcases r1 with r1v | r1E
  · try dsimp only at h
    refine fr_callV (g1 := false) (k2 := 0) (ev_X10_failedCommand er1) rfl cyX10_failedCommand w_1472 w_1473 w_1474 (rc_ok eu2 rfl (by decide)) (by rfl) (by omega) (by omega) (by rfl) (Nat.le_of_ble_eq_true rfl) dL_failedCommand_1 (Or.inl rfl) (fun v M9 q _ => ?_) (fun E M9 q _ => (Sum.inr_ne_inl q.1).elim)
    obtain rfl : v = some (.int r1v) := Sum.inl.inj q.1
    obtain rfl := q.2.symm
    refine fr_st (S' := [.int r1v]) rfl ?_
    obtain rfl := Option.some.inj h
    exact fr_iret rfl dL_failedCommand_4 ⟨rfl, rfl⟩
  · try dsimp only at h
    refine fr_callV (g1 := false) (k2 := 0) (ev_X10_failedCommand er1) rfl cyX10_failedCommand w_1472 w_1473 w_1474 (rc_ok eu2 rfl (by decide)) (by rfl) (by omega) (by omega) (by rfl) (Nat.le_of_ble_eq_true rfl) dL_failedCommand_1 (Or.inl rfl) (fun v M9 q _ => (Sum.inl_ne_inr q.1).elim) (fun E M9 q _ => ?_)
    obtain rfl : r1E = E := (Sum.inr.inj q.1).symm
    obtain rfl := q.2.symm
    by_cases e3_0 : r1E = "java/util/NoSuchElementException"
    · rw [if_pos e3_0] at h
      subst e3_0
      refine fx_catch (E := "java/util/NoSuchElementException") (name := "java/util/NoSuchElementException") (L' := [(0, .ref p0a)]) [] { startPc := 0, endPc := 4, handlerPc := 5, catchType := 42 } [] rfl ?_ (by decide) (by decide) w_624 (show _ ∈ roC from List.mem_of_getElem? (i := 4) rfl) 1 1 (by decide) (Or.inl ⟨1, rfl, rfl, dL_failedCommand_5⟩) rfl ?_
      · intro z hz; cases hz
      refine fr_sipush (v := (-1001)) dL_failedCommand_6 (by decide) ?_
      obtain rfl := Option.some.inj h
      exact fr_iret rfl dL_failedCommand_9 ⟨rfl, rfl⟩
    rw [if_neg e3_0] at h
    cases h
def f_J6_bitCount_0f7a4 (x0a : Int32) (M : Mem) : Option (Int32) := some ((((((((x0a - (((x0a.toUInt32 >>> ((1 : Int32).toUInt32 &&& Int32.toUInt32 31)).toInt32) &&& 1431655765)) &&& 858993459) + ((((x0a - (((x0a.toUInt32 >>> ((1 : Int32).toUInt32 &&& Int32.toUInt32 31)).toInt32) &&& 1431655765)).toUInt32 >>> ((2 : Int32).toUInt32 &&& Int32.toUInt32 31)).toInt32) &&& 858993459)) + (((((x0a - (((x0a.toUInt32 >>> ((1 : Int32).toUInt32 &&& Int32.toUInt32 31)).toInt32) &&& 1431655765)) &&& 858993459) + ((((x0a - (((x0a.toUInt32 >>> ((1 : Int32).toUInt32 &&& Int32.toUInt32 31)).toInt32) &&& 1431655765)).toUInt32 >>> ((2 : Int32).toUInt32 &&& Int32.toUInt32 31)).toInt32) &&& 858993459)).toUInt32 >>> ((4 : Int32).toUInt32 &&& Int32.toUInt32 31)).toInt32)) &&& 252645135) + (((((((x0a - (((x0a.toUInt32 >>> ((1 : Int32).toUInt32 &&& Int32.toUInt32 31)).toInt32) &&& 1431655765)) &&& 858993459) + ((((x0a - (((x0a.toUInt32 >>> ((1 : Int32).toUInt32 &&& Int32.toUInt32 31)).toInt32) &&& 1431655765)).toUInt32 >>> ((2 : Int32).toUInt32 &&& Int32.toUInt32 31)).toInt32) &&& 858993459)) + (((((x0a - (((x0a.toUInt32 >>> ((1 : Int32).toUInt32 &&& Int32.toUInt32 31)).toInt32) &&& 1431655765)) &&& 858993459) + ((((x0a - (((x0a.toUInt32 >>> ((1 : Int32).toUInt32 &&& Int32.toUInt32 31)).toInt32) &&& 1431655765)).toUInt32 >>> ((2 : Int32).toUInt32 &&& Int32.toUInt32 31)).toInt32) &&& 858993459)).toUInt32 >>> ((4 : Int32).toUInt32 &&& Int32.toUInt32 31)).toInt32)) &&& 252645135).toUInt32 >>> ((8 : Int32).toUInt32 &&& Int32.toUInt32 31)).toInt32)) + ((((((((x0a - (((x0a.toUInt32 >>> ((1 : Int32).toUInt32 &&& Int32.toUInt32 31)).toInt32) &&& 1431655765)) &&& 858993459) + ((((x0a - (((x0a.toUInt32 >>> ((1 : Int32).toUInt32 &&& Int32.toUInt32 31)).toInt32) &&& 1431655765)).toUInt32 >>> ((2 : Int32).toUInt32 &&& Int32.toUInt32 31)).toInt32) &&& 858993459)) + (((((x0a - (((x0a.toUInt32 >>> ((1 : Int32).toUInt32 &&& Int32.toUInt32 31)).toInt32) &&& 1431655765)) &&& 858993459) + ((((x0a - (((x0a.toUInt32 >>> ((1 : Int32).toUInt32 &&& Int32.toUInt32 31)).toInt32) &&& 1431655765)).toUInt32 >>> ((2 : Int32).toUInt32 &&& Int32.toUInt32 31)).toInt32) &&& 858993459)).toUInt32 >>> ((4 : Int32).toUInt32 &&& Int32.toUInt32 31)).toInt32)) &&& 252645135) + (((((((x0a - (((x0a.toUInt32 >>> ((1 : Int32).toUInt32 &&& Int32.toUInt32 31)).toInt32) &&& 1431655765)) &&& 858993459) + ((((x0a - (((x0a.toUInt32 >>> ((1 : Int32).toUInt32 &&& Int32.toUInt32 31)).toInt32) &&& 1431655765)).toUInt32 >>> ((2 : Int32).toUInt32 &&& Int32.toUInt32 31)).toInt32) &&& 858993459)) + (((((x0a - (((x0a.toUInt32 >>> ((1 : Int32).toUInt32 &&& Int32.toUInt32 31)).toInt32) &&& 1431655765)) &&& 858993459) + ((((x0a - (((x0a.toUInt32 >>> ((1 : Int32).toUInt32 &&& Int32.toUInt32 31)).toInt32) &&& 1431655765)).toUInt32 >>> ((2 : Int32).toUInt32 &&& Int32.toUInt32 31)).toInt32) &&& 858993459)).toUInt32 >>> ((4 : Int32).toUInt32 &&& Int32.toUInt32 31)).toInt32)) &&& 252645135).toUInt32 >>> ((8 : Int32).toUInt32 &&& Int32.toUInt32 31)).toInt32)).toUInt32 >>> ((16 : Int32).toUInt32 &&& Int32.toUInt32 31)).toInt32)) &&& 63)
set_option maxRecDepth 20000 in
theorem ev_J6_bitCount_0f7a4 {G : Nat × (Nat → Int32) × Value} {x0a : Int32} {M : Mem} {r : Int32} (h : f_J6_bitCount_0f7a4 x0a M = some r) : Ev (roG G) false YJ6_bitCount_0f7a4 0 0 [.int x0a] M (fun a b => a = wI r ∧ b = M) := by
  refine ev_of cyJ6_bitCount_0f7a4.2.2.2.2 (Nat.le_of_ble_eq_true rfl) ?_
  show Fr _ _ _ _ _ _ 0 [(0, .int x0a)] [] M _
  unfold f_J6_bitCount_0f7a4 at h
  refine fr_iload_n 0 dJ6_bitCount_0f7a4_0 rfl ?_
  refine fr_iload_n 0 dJ6_bitCount_0f7a4_1 rfl ?_
  refine fr_iconst (v := 1) dJ6_bitCount_0f7a4_2 (by decide) ?_
  refine fr_iushr dJ6_bitCount_0f7a4_3 ?_
  refine fr_ldcw (v := 1431655765) w_1418 dJ6_bitCount_0f7a4_4 ?_
  refine fr_iand dJ6_bitCount_0f7a4_7 ?_
  refine fr_isub dJ6_bitCount_0f7a4_8 ?_
  refine fr_istore_n (L' := [(0, .int (x0a - (((x0a.toUInt32 >>> ((1 : Int32).toUInt32 &&& Int32.toUInt32 31)).toInt32) &&& 1431655765)))]) dJ6_bitCount_0f7a4_9 (by decide) rfl ?_
  refine fr_iload_n 0 dJ6_bitCount_0f7a4_10 rfl ?_
  refine fr_ldcw (v := 858993459) w_1419 dJ6_bitCount_0f7a4_11 ?_
  refine fr_iand dJ6_bitCount_0f7a4_14 ?_
  refine fr_iload_n 0 dJ6_bitCount_0f7a4_15 rfl ?_
  refine fr_iconst (v := 2) dJ6_bitCount_0f7a4_16 (by decide) ?_
  refine fr_iushr dJ6_bitCount_0f7a4_17 ?_
  refine fr_ldcw (v := 858993459) w_1419 dJ6_bitCount_0f7a4_18 ?_
  refine fr_iand dJ6_bitCount_0f7a4_21 ?_
  refine fr_iadd dJ6_bitCount_0f7a4_22 ?_
  refine fr_istore_n (L' := [(0, .int (((x0a - (((x0a.toUInt32 >>> ((1 : Int32).toUInt32 &&& Int32.toUInt32 31)).toInt32) &&& 1431655765)) &&& 858993459) + ((((x0a - (((x0a.toUInt32 >>> ((1 : Int32).toUInt32 &&& Int32.toUInt32 31)).toInt32) &&& 1431655765)).toUInt32 >>> ((2 : Int32).toUInt32 &&& Int32.toUInt32 31)).toInt32) &&& 858993459)))]) dJ6_bitCount_0f7a4_23 (by decide) rfl ?_
  refine fr_iload_n 0 dJ6_bitCount_0f7a4_24 rfl ?_
  refine fr_iload_n 0 dJ6_bitCount_0f7a4_25 rfl ?_
  refine fr_iconst (v := 4) dJ6_bitCount_0f7a4_26 (by decide) ?_
  refine fr_iushr dJ6_bitCount_0f7a4_27 ?_
  refine fr_iadd dJ6_bitCount_0f7a4_28 ?_
  refine fr_ldcw (v := 252645135) w_1420 dJ6_bitCount_0f7a4_29 ?_
  refine fr_iand dJ6_bitCount_0f7a4_32 ?_
  refine fr_istore_n (L' := [(0, .int (((((x0a - (((x0a.toUInt32 >>> ((1 : Int32).toUInt32 &&& Int32.toUInt32 31)).toInt32) &&& 1431655765)) &&& 858993459) + ((((x0a - (((x0a.toUInt32 >>> ((1 : Int32).toUInt32 &&& Int32.toUInt32 31)).toInt32) &&& 1431655765)).toUInt32 >>> ((2 : Int32).toUInt32 &&& Int32.toUInt32 31)).toInt32) &&& 858993459)) + (((((x0a - (((x0a.toUInt32 >>> ((1 : Int32).toUInt32 &&& Int32.toUInt32 31)).toInt32) &&& 1431655765)) &&& 858993459) + ((((x0a - (((x0a.toUInt32 >>> ((1 : Int32).toUInt32 &&& Int32.toUInt32 31)).toInt32) &&& 1431655765)).toUInt32 >>> ((2 : Int32).toUInt32 &&& Int32.toUInt32 31)).toInt32) &&& 858993459)).toUInt32 >>> ((4 : Int32).toUInt32 &&& Int32.toUInt32 31)).toInt32)) &&& 252645135))]) dJ6_bitCount_0f7a4_33 (by decide) rfl ?_
  refine fr_iload_n 0 dJ6_bitCount_0f7a4_34 rfl ?_
  refine fr_iload_n 0 dJ6_bitCount_0f7a4_35 rfl ?_
  refine fr_bipush (v := 8) dJ6_bitCount_0f7a4_36 (by decide) ?_
  refine fr_iushr dJ6_bitCount_0f7a4_38 ?_
  refine fr_iadd dJ6_bitCount_0f7a4_39 ?_
  refine fr_istore_n (L' := [(0, .int ((((((x0a - (((x0a.toUInt32 >>> ((1 : Int32).toUInt32 &&& Int32.toUInt32 31)).toInt32) &&& 1431655765)) &&& 858993459) + ((((x0a - (((x0a.toUInt32 >>> ((1 : Int32).toUInt32 &&& Int32.toUInt32 31)).toInt32) &&& 1431655765)).toUInt32 >>> ((2 : Int32).toUInt32 &&& Int32.toUInt32 31)).toInt32) &&& 858993459)) + (((((x0a - (((x0a.toUInt32 >>> ((1 : Int32).toUInt32 &&& Int32.toUInt32 31)).toInt32) &&& 1431655765)) &&& 858993459) + ((((x0a - (((x0a.toUInt32 >>> ((1 : Int32).toUInt32 &&& Int32.toUInt32 31)).toInt32) &&& 1431655765)).toUInt32 >>> ((2 : Int32).toUInt32 &&& Int32.toUInt32 31)).toInt32) &&& 858993459)).toUInt32 >>> ((4 : Int32).toUInt32 &&& Int32.toUInt32 31)).toInt32)) &&& 252645135) + (((((((x0a - (((x0a.toUInt32 >>> ((1 : Int32).toUInt32 &&& Int32.toUInt32 31)).toInt32) &&& 1431655765)) &&& 858993459) + ((((x0a - (((x0a.toUInt32 >>> ((1 : Int32).toUInt32 &&& Int32.toUInt32 31)).toInt32) &&& 1431655765)).toUInt32 >>> ((2 : Int32).toUInt32 &&& Int32.toUInt32 31)).toInt32) &&& 858993459)) + (((((x0a - (((x0a.toUInt32 >>> ((1 : Int32).toUInt32 &&& Int32.toUInt32 31)).toInt32) &&& 1431655765)) &&& 858993459) + ((((x0a - (((x0a.toUInt32 >>> ((1 : Int32).toUInt32 &&& Int32.toUInt32 31)).toInt32) &&& 1431655765)).toUInt32 >>> ((2 : Int32).toUInt32 &&& Int32.toUInt32 31)).toInt32) &&& 858993459)).toUInt32 >>> ((4 : Int32).toUInt32 &&& Int32.toUInt32 31)).toInt32)) &&& 252645135).toUInt32 >>> ((8 : Int32).toUInt32 &&& Int32.toUInt32 31)).toInt32)))]) dJ6_bitCount_0f7a4_40 (by decide) rfl ?_
  refine fr_iload_n 0 dJ6_bitCount_0f7a4_41 rfl ?_
  refine fr_iload_n 0 dJ6_bitCount_0f7a4_42 rfl ?_
  refine fr_bipush (v := 16) dJ6_bitCount_0f7a4_43 (by decide) ?_
  refine fr_iushr dJ6_bitCount_0f7a4_45 ?_
  refine fr_iadd dJ6_bitCount_0f7a4_46 ?_
  refine fr_istore_n (L' := [(0, .int (((((((x0a - (((x0a.toUInt32 >>> ((1 : Int32).toUInt32 &&& Int32.toUInt32 31)).toInt32) &&& 1431655765)) &&& 858993459) + ((((x0a - (((x0a.toUInt32 >>> ((1 : Int32).toUInt32 &&& Int32.toUInt32 31)).toInt32) &&& 1431655765)).toUInt32 >>> ((2 : Int32).toUInt32 &&& Int32.toUInt32 31)).toInt32) &&& 858993459)) + (((((x0a - (((x0a.toUInt32 >>> ((1 : Int32).toUInt32 &&& Int32.toUInt32 31)).toInt32) &&& 1431655765)) &&& 858993459) + ((((x0a - (((x0a.toUInt32 >>> ((1 : Int32).toUInt32 &&& Int32.toUInt32 31)).toInt32) &&& 1431655765)).toUInt32 >>> ((2 : Int32).toUInt32 &&& Int32.toUInt32 31)).toInt32) &&& 858993459)).toUInt32 >>> ((4 : Int32).toUInt32 &&& Int32.toUInt32 31)).toInt32)) &&& 252645135) + (((((((x0a - (((x0a.toUInt32 >>> ((1 : Int32).toUInt32 &&& Int32.toUInt32 31)).toInt32) &&& 1431655765)) &&& 858993459) + ((((x0a - (((x0a.toUInt32 >>> ((1 : Int32).toUInt32 &&& Int32.toUInt32 31)).toInt32) &&& 1431655765)).toUInt32 >>> ((2 : Int32).toUInt32 &&& Int32.toUInt32 31)).toInt32) &&& 858993459)) + (((((x0a - (((x0a.toUInt32 >>> ((1 : Int32).toUInt32 &&& Int32.toUInt32 31)).toInt32) &&& 1431655765)) &&& 858993459) + ((((x0a - (((x0a.toUInt32 >>> ((1 : Int32).toUInt32 &&& Int32.toUInt32 31)).toInt32) &&& 1431655765)).toUInt32 >>> ((2 : Int32).toUInt32 &&& Int32.toUInt32 31)).toInt32) &&& 858993459)).toUInt32 >>> ((4 : Int32).toUInt32 &&& Int32.toUInt32 31)).toInt32)) &&& 252645135).toUInt32 >>> ((8 : Int32).toUInt32 &&& Int32.toUInt32 31)).toInt32)) + ((((((((x0a - (((x0a.toUInt32 >>> ((1 : Int32).toUInt32 &&& Int32.toUInt32 31)).toInt32) &&& 1431655765)) &&& 858993459) + ((((x0a - (((x0a.toUInt32 >>> ((1 : Int32).toUInt32 &&& Int32.toUInt32 31)).toInt32) &&& 1431655765)).toUInt32 >>> ((2 : Int32).toUInt32 &&& Int32.toUInt32 31)).toInt32) &&& 858993459)) + (((((x0a - (((x0a.toUInt32 >>> ((1 : Int32).toUInt32 &&& Int32.toUInt32 31)).toInt32) &&& 1431655765)) &&& 858993459) + ((((x0a - (((x0a.toUInt32 >>> ((1 : Int32).toUInt32 &&& Int32.toUInt32 31)).toInt32) &&& 1431655765)).toUInt32 >>> ((2 : Int32).toUInt32 &&& Int32.toUInt32 31)).toInt32) &&& 858993459)).toUInt32 >>> ((4 : Int32).toUInt32 &&& Int32.toUInt32 31)).toInt32)) &&& 252645135) + (((((((x0a - (((x0a.toUInt32 >>> ((1 : Int32).toUInt32 &&& Int32.toUInt32 31)).toInt32) &&& 1431655765)) &&& 858993459) + ((((x0a - (((x0a.toUInt32 >>> ((1 : Int32).toUInt32 &&& Int32.toUInt32 31)).toInt32) &&& 1431655765)).toUInt32 >>> ((2 : Int32).toUInt32 &&& Int32.toUInt32 31)).toInt32) &&& 858993459)) + (((((x0a - (((x0a.toUInt32 >>> ((1 : Int32).toUInt32 &&& Int32.toUInt32 31)).toInt32) &&& 1431655765)) &&& 858993459) + ((((x0a - (((x0a.toUInt32 >>> ((1 : Int32).toUInt32 &&& Int32.toUInt32 31)).toInt32) &&& 1431655765)).toUInt32 >>> ((2 : Int32).toUInt32 &&& Int32.toUInt32 31)).toInt32) &&& 858993459)).toUInt32 >>> ((4 : Int32).toUInt32 &&& Int32.toUInt32 31)).toInt32)) &&& 252645135).toUInt32 >>> ((8 : Int32).toUInt32 &&& Int32.toUInt32 31)).toInt32)).toUInt32 >>> ((16 : Int32).toUInt32 &&& Int32.toUInt32 31)).toInt32)))]) dJ6_bitCount_0f7a4_47 (by decide) rfl ?_
  refine fr_iload_n 0 dJ6_bitCount_0f7a4_48 rfl ?_
  refine fr_bipush (v := 63) dJ6_bitCount_0f7a4_49 (by decide) ?_
  refine fr_iand dJ6_bitCount_0f7a4_51 ?_
  obtain rfl := Option.some.inj h
  exact fr_iret rfl dJ6_bitCount_0f7a4_52 ⟨rfl, rfl⟩
def f_X10_groupSize (p0a : Nat) (x1a : Int32) (M : Mem) : Option ((Int32 ⊕ String)) := (f_X10_demandCell x1a M).bind fun r1 => (match r1 with | .inl r1v => ((rc M 10 p0a).bind fun _ => (f_X10_demandOccupied p0a x1a M).bind fun r2 => (match r2 with | .inl r2v => ((gP M 10 p0a 0).bind fun p4 => (f_X2_cellsConnectedTo p4 x1a M).bind fun r5 => (f_J6_bitCount_0f7a4 r5 M).bind fun r6 => some (.inl r6)) | .inr r2E => (some (.inr r2E)))) | .inr r1E => (some (.inr r1E)))
set_option maxRecDepth 20000 in
theorem ev_X10_groupSize {G : Nat × (Nat → Int32) × Value} {p0a : Nat} {x1a : Int32} {M : Mem} {r : (Int32 ⊕ String)} (h : f_X10_groupSize p0a x1a M = some r) : Ev (roG G) false YX10_groupSize 8 2 [.ref p0a, .int x1a] M (fun a b => a = (wE wI) r ∧ b = M) := by
  refine ev_of cyX10_groupSize.2.2.2.2 (Nat.le_of_ble_eq_true rfl) ?_
  show Fr _ _ _ _ _ _ 0 [(0, .ref p0a), (1, .int x1a)] [] M _
  unfold f_X10_groupSize at h
  refine fr_iload_n 1 dX10_groupSize_0 rfl ?_
  obtain ⟨r1, er1, h⟩ := ob h
  try dsimp only at h
  rcases r1 with r1v | r1E
  · try dsimp only at h
    refine fr_callS (g1 := false) (k2 := 1) (ev_X10_demandCell er1) rfl cyX10_demandCell w_682 w_683 (by rfl) (by omega) (by omega) (by rfl) (Nat.le_of_ble_eq_true rfl) dX10_groupSize_1 (Or.inl rfl) (fun v M9 q _ => ?_) (fun E M9 q _ => (Sum.inr_ne_inl q.1).elim)
    obtain rfl : v = none := Sum.inl.inj q.1
    obtain rfl := q.2.symm
    refine fr_st (S' := []) rfl ?_
    refine fr_aload_n 0 dX10_groupSize_4 rfl ?_
    refine fr_iload_n 1 dX10_groupSize_5 rfl ?_
    obtain ⟨u3, eu3, h⟩ := ob h
    try dsimp only at h
    obtain ⟨r2, er2, h⟩ := ob h
    try dsimp only at h
    rcases r2 with r2v | r2E
    · try dsimp only at h
      refine fr_callV (g1 := false) (k2 := 0) (ev_X10_demandOccupied er2) rfl cyX10_demandOccupied w_687 w_689 w_3 (rc_ok eu3 rfl (by decide)) (by rfl) (by omega) (by omega) (by rfl) (Nat.le_of_ble_eq_true rfl) dX10_groupSize_6 (Or.inl rfl) (fun v M9 q _ => ?_) (fun E M9 q _ => (Sum.inr_ne_inl q.1).elim)
      obtain rfl : v = none := Sum.inl.inj q.1
      obtain rfl := q.2.symm
      refine fr_st (S' := []) rfl ?_
      refine fr_aload_n 0 dX10_groupSize_9 rfl ?_
      obtain ⟨p4, ep4, h⟩ := ob h
      try dsimp only at h
      refine fr_gP cb10 0 (by decide) rfl w_227 dX10_groupSize_10 ep4 ?_
      refine fr_iload_n 1 dX10_groupSize_13 rfl ?_
      obtain ⟨r5, er5, h⟩ := ob h
      try dsimp only at h
      refine fr_callS (g1 := false) (k2 := 0) (ev_X2_cellsConnectedTo er5) rfl cyX2_cellsConnectedTo w_1414 w_981 (by rfl) (by omega) (by omega) (by rfl) (Nat.le_of_ble_eq_true rfl) dX10_groupSize_14 (Or.inl rfl) (fun v M9 q _ => ?_) (fun E M9 q _ => (Sum.inr_ne_inl q.1).elim)
      obtain rfl : v = some (.int r5) := Sum.inl.inj q.1
      obtain rfl := q.2.symm
      refine fr_st (S' := [.int r5]) rfl ?_
      obtain ⟨r6, er6, h⟩ := ob h
      try dsimp only at h
      refine fr_callS (g1 := false) (k2 := 0) (ev_J6_bitCount_0f7a4 er6) rfl cyJ6_bitCount_0f7a4 w_1415 w_1416 (by rfl) (by omega) (by omega) (by rfl) (Nat.le_of_ble_eq_true rfl) dX10_groupSize_17 (Or.inl rfl) (fun v M9 q _ => ?_) (fun E M9 q _ => (Sum.inr_ne_inl q.1).elim)
      obtain rfl : v = some (.int r6) := Sum.inl.inj q.1
      obtain rfl := q.2.symm
      refine fr_st (S' := [.int r6]) rfl ?_
      obtain rfl := Option.some.inj h
      exact fr_iret rfl dX10_groupSize_20 ⟨rfl, rfl⟩
    · try dsimp only at h
      refine fr_callV (g1 := false) (k2 := 0) (ev_X10_demandOccupied er2) rfl cyX10_demandOccupied w_687 w_689 w_3 (rc_ok eu3 rfl (by decide)) (by rfl) (by omega) (by omega) (by rfl) (Nat.le_of_ble_eq_true rfl) dX10_groupSize_6 (Or.inl rfl) (fun v M9 q _ => (Sum.inl_ne_inr q.1).elim) (fun E M9 q _ => ?_)
      obtain rfl : r2E = E := (Sum.inr.inj q.1).symm
      obtain rfl := q.2.symm
      obtain rfl := Option.some.inj h
      exact fx_no rfl ⟨rfl, rfl⟩
  · try dsimp only at h
    refine fr_callS (g1 := false) (k2 := 1) (ev_X10_demandCell er1) rfl cyX10_demandCell w_682 w_683 (by rfl) (by omega) (by omega) (by rfl) (Nat.le_of_ble_eq_true rfl) dX10_groupSize_1 (Or.inl rfl) (fun v M9 q _ => (Sum.inl_ne_inr q.1).elim) (fun E M9 q _ => ?_)
    obtain rfl : r1E = E := (Sum.inr.inj q.1).symm
    obtain rfl := q.2.symm
    obtain rfl := Option.some.inj h
    exact fx_no rfl ⟨rfl, rfl⟩
def f_L_groupSize (p0a : Nat) (x1a : Int32) (M : Mem) : Option (Int32) := (rc M 10 p0a).bind fun _ => (f_X10_groupSize p0a x1a M).bind fun r1 => (match r1 with | .inl r1v => (some r1v) | .inr r1E => (if r1E = "java/lang/IndexOutOfBoundsException" then (some (-1001)) else (if r1E = "java/util/NoSuchElementException" then (some (-1002)) else none)))
set_option maxRecDepth 20000 in
theorem ev_L_groupSize {G : Nat × (Nat → Int32) × Value} {p0a : Nat} {x1a : Int32} {M : Mem} {r : Int32} (h : f_L_groupSize p0a x1a M = some r) : Ev (roG G) false YL_groupSize 9 2 [.ref p0a, .int x1a] M (fun a b => a = wI r ∧ b = M) := by
  refine ev_of cyL_groupSize.2.2.2.2 (Nat.le_of_ble_eq_true rfl) ?_
  show Fr _ _ _ _ _ _ 0 [(0, .ref p0a), (1, .int x1a)] [] M _
  unfold f_L_groupSize at h
  refine fr_aload_n 0 dL_groupSize_0 rfl ?_
  refine fr_iload_n 1 dL_groupSize_1 rfl ?_
  obtain ⟨u2, eu2, h⟩ := ob h
  try dsimp only at h
  obtain ⟨r1, er1, h⟩ := ob h
  try dsimp only at h
  rcases r1 with r1v | r1E
  · try dsimp only at h
    refine fr_callV (g1 := false) (k2 := 0) (ev_X10_groupSize er1) rfl cyX10_groupSize w_1410 w_1411 w_1412 (rc_ok eu2 rfl (by decide)) (by rfl) (by omega) (by omega) (by rfl) (Nat.le_of_ble_eq_true rfl) dL_groupSize_2 (Or.inl rfl) (fun v M9 q _ => ?_) (fun E M9 q _ => (Sum.inr_ne_inl q.1).elim)
    obtain rfl : v = some (.int r1v) := Sum.inl.inj q.1
    obtain rfl := q.2.symm
    refine fr_st (S' := [.int r1v]) rfl ?_
    obtain rfl := Option.some.inj h
    exact fr_iret rfl dL_groupSize_5 ⟨rfl, rfl⟩
  · try dsimp only at h
    refine fr_callV (g1 := false) (k2 := 0) (ev_X10_groupSize er1) rfl cyX10_groupSize w_1410 w_1411 w_1412 (rc_ok eu2 rfl (by decide)) (by rfl) (by omega) (by omega) (by rfl) (Nat.le_of_ble_eq_true rfl) dL_groupSize_2 (Or.inl rfl) (fun v M9 q _ => (Sum.inl_ne_inr q.1).elim) (fun E M9 q _ => ?_)
    obtain rfl : r1E = E := (Sum.inr.inj q.1).symm
    obtain rfl := q.2.symm
    by_cases e3_0 : r1E = "java/lang/IndexOutOfBoundsException"
    · rw [if_pos e3_0] at h
      subst e3_0
      refine fx_catch (E := "java/lang/IndexOutOfBoundsException") (name := "java/lang/IndexOutOfBoundsException") (L' := [(0, .ref p0a), (1, .int x1a)]) [] { startPc := 0, endPc := 5, handlerPc := 6, catchType := 21 } [{ startPc := 0, endPc := 5, handlerPc := 11, catchType := 42 }] rfl ?_ (by decide) (by decide) w_474 (show _ ∈ roC from List.mem_of_getElem? (i := 0) rfl) 2 1 (by decide) (Or.inl ⟨2, rfl, rfl, dL_groupSize_6⟩) rfl ?_
      · intro z hz; cases hz
      refine fr_sipush (v := (-1001)) dL_groupSize_7 (by decide) ?_
      obtain rfl := Option.some.inj h
      exact fr_iret rfl dL_groupSize_10 ⟨rfl, rfl⟩
    rw [if_neg e3_0] at h
    by_cases e3_1 : r1E = "java/util/NoSuchElementException"
    · rw [if_pos e3_1] at h
      subst e3_1
      refine fx_catch (E := "java/util/NoSuchElementException") (name := "java/util/NoSuchElementException") (L' := [(0, .ref p0a), (1, .int x1a)]) [{ startPc := 0, endPc := 5, handlerPc := 6, catchType := 21 }] { startPc := 0, endPc := 5, handlerPc := 11, catchType := 42 } [] rfl ?_ (by decide) (by decide) w_624 (show _ ∈ roC from List.mem_of_getElem? (i := 4) rfl) 2 1 (by decide) (Or.inl ⟨2, rfl, rfl, dL_groupSize_11⟩) rfl ?_
      · intro z hz
        simp only [List.mem_cons, List.not_mem_nil, or_false] at hz
        subst hz
        exact Or.inr ⟨by decide, "java/lang/IndexOutOfBoundsException", w_474, show _ ∈ roN from List.mem_of_getElem? (i := 45) rfl⟩
      refine fr_sipush (v := (-1002)) dL_groupSize_12 (by decide) ?_
      obtain rfl := Option.some.inj h
      exact fr_iret rfl dL_groupSize_15 ⟨rfl, rfl⟩
    rw [if_neg e3_1] at h
    cases h
def f_X10_isFolded (p0a : Nat) (x1a : Int32) (M : Mem) : Option ((Int32 ⊕ String)) := (rc M 10 p0a).bind fun _ => (f_X10_demandedSheet p0a x1a M).bind fun r1 => (match r1 with | .inl r1v => ((gI M 7 r1v 5).bind fun x3 => (nr .boolean x3).bind fun _ => some (.inl x3)) | .inr r1E => (some (.inr r1E)))
set_option maxRecDepth 20000 in
theorem ev_X10_isFolded {G : Nat × (Nat → Int32) × Value} {p0a : Nat} {x1a : Int32} {M : Mem} {r : (Int32 ⊕ String)} (h : f_X10_isFolded p0a x1a M = some r) : Ev (roG G) false YX10_isFolded 8 1 [.ref p0a, .int x1a] M (fun a b => a = (wE wI) r ∧ b = M) := by
  refine ev_of cyX10_isFolded.2.2.2.2 (Nat.le_of_ble_eq_true rfl) ?_
  show Fr _ _ _ _ _ _ 0 [(0, .ref p0a), (1, .int x1a)] [] M _
  unfold f_X10_isFolded at h
  refine fr_aload_n 0 dX10_isFolded_0 rfl ?_
  refine fr_iload_n 1 dX10_isFolded_1 rfl ?_
  obtain ⟨u2, eu2, h⟩ := ob h
  try dsimp only at h
  obtain ⟨r1, er1, h⟩ := ob h
  try dsimp only at h
  rcases r1 with r1v | r1E
  · try dsimp only at h
    refine fr_callV (g1 := false) (k2 := 0) (ev_X10_demandedSheet er1) rfl cyX10_demandedSheet w_655 w_657 w_2 (rc_ok eu2 rfl (by decide)) (by rfl) (by omega) (by omega) (by rfl) (Nat.le_of_ble_eq_true rfl) dX10_isFolded_2 (Or.inl rfl) (fun v M9 q _ => ?_) (fun E M9 q _ => (Sum.inr_ne_inl q.1).elim)
    obtain rfl : v = some (.ref r1v) := Sum.inl.inj q.1
    obtain rfl := q.2.symm
    refine fr_st (S' := [.ref r1v]) rfl ?_
    obtain ⟨x3, ex3, h⟩ := ob h
    try dsimp only at h
    refine fr_gI cb7 5 (by decide) rfl w_94 dX10_isFolded_5 ex3 ?_
    obtain ⟨u4, eu4, h⟩ := ob h
    try dsimp only at h
    obtain rfl := Option.some.inj h
    exact fr_zret1 (ty := .boolean) rfl dX10_isFolded_8 eu4 ⟨rfl, rfl⟩
  · try dsimp only at h
    refine fr_callV (g1 := false) (k2 := 0) (ev_X10_demandedSheet er1) rfl cyX10_demandedSheet w_655 w_657 w_2 (rc_ok eu2 rfl (by decide)) (by rfl) (by omega) (by omega) (by rfl) (Nat.le_of_ble_eq_true rfl) dX10_isFolded_2 (Or.inl rfl) (fun v M9 q _ => (Sum.inl_ne_inr q.1).elim) (fun E M9 q _ => ?_)
    obtain rfl : r1E = E := (Sum.inr.inj q.1).symm
    obtain rfl := q.2.symm
    obtain rfl := Option.some.inj h
    exact fx_no rfl ⟨rfl, rfl⟩
def f_L_isFolded (p0a : Nat) (x1a : Int32) (M : Mem) : Option (Int32) := (rc M 10 p0a).bind fun _ => (f_X10_isFolded p0a x1a M).bind fun r1 => (match r1 with | .inl r1v => (if r1v = 0 then (some 0) else (some 1)) | .inr r1E => (if r1E = "java/lang/IndexOutOfBoundsException" then (some (-1001)) else none))
set_option maxRecDepth 20000 in
theorem ev_L_isFolded {G : Nat × (Nat → Int32) × Value} {p0a : Nat} {x1a : Int32} {M : Mem} {r : Int32} (h : f_L_isFolded p0a x1a M = some r) : Ev (roG G) false YL_isFolded 9 1 [.ref p0a, .int x1a] M (fun a b => a = wI r ∧ b = M) := by
  refine ev_of cyL_isFolded.2.2.2.2 (Nat.le_of_ble_eq_true rfl) ?_
  show Fr _ _ _ _ _ _ 0 [(0, .ref p0a), (1, .int x1a)] [] M _
  unfold f_L_isFolded at h
  refine fr_aload_n 0 dL_isFolded_0 rfl ?_
  refine fr_iload_n 1 dL_isFolded_1 rfl ?_
  obtain ⟨u2, eu2, h⟩ := ob h
  try dsimp only at h
  obtain ⟨r1, er1, h⟩ := ob h
  try dsimp only at h
  rcases r1 with r1v | r1E
  · try dsimp only at h
    refine fr_callV (g1 := false) (k2 := 0) (ev_X10_isFolded er1) rfl cyX10_isFolded w_664 w_665 w_666 (rc_ok eu2 rfl (by decide)) (by rfl) (by omega) (by omega) (by rfl) (Nat.le_of_ble_eq_true rfl) dL_isFolded_2 (Or.inl rfl) (fun v M9 q _ => ?_) (fun E M9 q _ => (Sum.inr_ne_inl q.1).elim)
    obtain rfl : v = some (.int r1v) := Sum.inl.inj q.1
    obtain rfl := q.2.symm
    refine fr_st (S' := [.int r1v]) rfl ?_
    refine fr_if_eq 12 dL_isFolded_5 (by decide) (fun c3 => ?_) (fun c3 => ?_)
    · rw [if_pos c3] at h
      refine fr_iconst (v := 0) dL_isFolded_12 (by decide) ?_
      obtain rfl := Option.some.inj h
      exact fr_iret rfl dL_isFolded_13 ⟨rfl, rfl⟩
    · rw [if_neg c3] at h
      refine fr_iconst (v := 1) dL_isFolded_8 (by decide) ?_
      refine fr_goto 13 dL_isFolded_9 (by decide) ?_
      obtain rfl := Option.some.inj h
      exact fr_iret rfl dL_isFolded_13 ⟨rfl, rfl⟩
  · try dsimp only at h
    refine fr_callV (g1 := false) (k2 := 0) (ev_X10_isFolded er1) rfl cyX10_isFolded w_664 w_665 w_666 (rc_ok eu2 rfl (by decide)) (by rfl) (by omega) (by omega) (by rfl) (Nat.le_of_ble_eq_true rfl) dL_isFolded_2 (Or.inl rfl) (fun v M9 q _ => (Sum.inl_ne_inr q.1).elim) (fun E M9 q _ => ?_)
    obtain rfl : r1E = E := (Sum.inr.inj q.1).symm
    obtain rfl := q.2.symm
    by_cases e4_0 : r1E = "java/lang/IndexOutOfBoundsException"
    · rw [if_pos e4_0] at h
      subst e4_0
      refine fx_catch (E := "java/lang/IndexOutOfBoundsException") (name := "java/lang/IndexOutOfBoundsException") (L' := [(0, .ref p0a), (1, .int x1a)]) [] { startPc := 0, endPc := 13, handlerPc := 14, catchType := 21 } [] rfl ?_ (by decide) (by decide) w_474 (show _ ∈ roC from List.mem_of_getElem? (i := 0) rfl) 2 1 (by decide) (Or.inl ⟨2, rfl, rfl, dL_isFolded_14⟩) rfl ?_
      · intro z hz; cases hz
      refine fr_sipush (v := (-1001)) dL_isFolded_15 (by decide) ?_
      obtain rfl := Option.some.inj h
      exact fr_iret rfl dL_isFolded_18 ⟨rfl, rfl⟩
    rw [if_neg e4_0] at h
    cases h
def f_X10_isTorn (p0a : Nat) (x1a : Int32) (M : Mem) : Option ((Int32 ⊕ String)) := (rc M 10 p0a).bind fun _ => (f_X10_demandedSheet p0a x1a M).bind fun r1 => (match r1 with | .inl r1v => ((rc M 7 r1v).bind fun _ => (f_X7_torn r1v M).bind fun r3 => (nr .boolean r3).bind fun _ => some (.inl r3)) | .inr r1E => (some (.inr r1E)))
set_option maxRecDepth 20000 in
theorem ev_X10_isTorn {G : Nat × (Nat → Int32) × Value} {p0a : Nat} {x1a : Int32} {M : Mem} {r : (Int32 ⊕ String)} (h : f_X10_isTorn p0a x1a M = some r) : Ev (roG G) false YX10_isTorn 8 1 [.ref p0a, .int x1a] M (fun a b => a = (wE wI) r ∧ b = M) := by
  refine ev_of cyX10_isTorn.2.2.2.2 (Nat.le_of_ble_eq_true rfl) ?_
  show Fr _ _ _ _ _ _ 0 [(0, .ref p0a), (1, .int x1a)] [] M _
  unfold f_X10_isTorn at h
  refine fr_aload_n 0 dX10_isTorn_0 rfl ?_
  refine fr_iload_n 1 dX10_isTorn_1 rfl ?_
  obtain ⟨u2, eu2, h⟩ := ob h
  try dsimp only at h
  obtain ⟨r1, er1, h⟩ := ob h
  try dsimp only at h
  rcases r1 with r1v | r1E
  · try dsimp only at h
    refine fr_callV (g1 := false) (k2 := 0) (ev_X10_demandedSheet er1) rfl cyX10_demandedSheet w_655 w_657 w_2 (rc_ok eu2 rfl (by decide)) (by rfl) (by omega) (by omega) (by rfl) (Nat.le_of_ble_eq_true rfl) dX10_isTorn_2 (Or.inl rfl) (fun v M9 q _ => ?_) (fun E M9 q _ => (Sum.inr_ne_inl q.1).elim)
    obtain rfl : v = some (.ref r1v) := Sum.inl.inj q.1
    obtain rfl := q.2.symm
    refine fr_st (S' := [.ref r1v]) rfl ?_
    obtain ⟨u4, eu4, h⟩ := ob h
    try dsimp only at h
    obtain ⟨r3, er3, h⟩ := ob h
    try dsimp only at h
    refine fr_callV (g1 := false) (k2 := 0) (ev_X7_torn er3) rfl cyX7_torn w_1435 w_575 w_576 (rc_ok eu4 rfl (by decide)) (by rfl) (by omega) (by omega) (by rfl) (Nat.le_of_ble_eq_true rfl) dX10_isTorn_5 (Or.inl rfl) (fun v M9 q _ => ?_) (fun E M9 q _ => (Sum.inr_ne_inl q.1).elim)
    obtain rfl : v = some (.int r3) := Sum.inl.inj q.1
    obtain rfl := q.2.symm
    refine fr_st (S' := [.int r3]) rfl ?_
    obtain ⟨u5, eu5, h⟩ := ob h
    try dsimp only at h
    obtain rfl := Option.some.inj h
    exact fr_zret1 (ty := .boolean) rfl dX10_isTorn_8 eu5 ⟨rfl, rfl⟩
  · try dsimp only at h
    refine fr_callV (g1 := false) (k2 := 0) (ev_X10_demandedSheet er1) rfl cyX10_demandedSheet w_655 w_657 w_2 (rc_ok eu2 rfl (by decide)) (by rfl) (by omega) (by omega) (by rfl) (Nat.le_of_ble_eq_true rfl) dX10_isTorn_2 (Or.inl rfl) (fun v M9 q _ => (Sum.inl_ne_inr q.1).elim) (fun E M9 q _ => ?_)
    obtain rfl : r1E = E := (Sum.inr.inj q.1).symm
    obtain rfl := q.2.symm
    obtain rfl := Option.some.inj h
    exact fx_no rfl ⟨rfl, rfl⟩
def f_L_isTorn (p0a : Nat) (x1a : Int32) (M : Mem) : Option (Int32) := (rc M 10 p0a).bind fun _ => (f_X10_isTorn p0a x1a M).bind fun r1 => (match r1 with | .inl r1v => (if r1v = 0 then (some 0) else (some 1)) | .inr r1E => (if r1E = "java/lang/IndexOutOfBoundsException" then (some (-1001)) else none))
set_option maxRecDepth 20000 in
theorem ev_L_isTorn {G : Nat × (Nat → Int32) × Value} {p0a : Nat} {x1a : Int32} {M : Mem} {r : Int32} (h : f_L_isTorn p0a x1a M = some r) : Ev (roG G) false YL_isTorn 9 1 [.ref p0a, .int x1a] M (fun a b => a = wI r ∧ b = M) := by
  refine ev_of cyL_isTorn.2.2.2.2 (Nat.le_of_ble_eq_true rfl) ?_
  show Fr _ _ _ _ _ _ 0 [(0, .ref p0a), (1, .int x1a)] [] M _
  unfold f_L_isTorn at h
  refine fr_aload_n 0 dL_isTorn_0 rfl ?_
  refine fr_iload_n 1 dL_isTorn_1 rfl ?_
  obtain ⟨u2, eu2, h⟩ := ob h
  try dsimp only at h
  obtain ⟨r1, er1, h⟩ := ob h
  try dsimp only at h
  rcases r1 with r1v | r1E
  · try dsimp only at h
    refine fr_callV (g1 := false) (k2 := 0) (ev_X10_isTorn er1) rfl cyX10_isTorn w_1431 w_1432 w_1433 (rc_ok eu2 rfl (by decide)) (by rfl) (by omega) (by omega) (by rfl) (Nat.le_of_ble_eq_true rfl) dL_isTorn_2 (Or.inl rfl) (fun v M9 q _ => ?_) (fun E M9 q _ => (Sum.inr_ne_inl q.1).elim)
    obtain rfl : v = some (.int r1v) := Sum.inl.inj q.1
    obtain rfl := q.2.symm
    refine fr_st (S' := [.int r1v]) rfl ?_
    refine fr_if_eq 12 dL_isTorn_5 (by decide) (fun c3 => ?_) (fun c3 => ?_)
    · rw [if_pos c3] at h
      refine fr_iconst (v := 0) dL_isTorn_12 (by decide) ?_
      obtain rfl := Option.some.inj h
      exact fr_iret rfl dL_isTorn_13 ⟨rfl, rfl⟩
    · rw [if_neg c3] at h
      refine fr_iconst (v := 1) dL_isTorn_8 (by decide) ?_
      refine fr_goto 13 dL_isTorn_9 (by decide) ?_
      obtain rfl := Option.some.inj h
      exact fr_iret rfl dL_isTorn_13 ⟨rfl, rfl⟩
  · try dsimp only at h
    refine fr_callV (g1 := false) (k2 := 0) (ev_X10_isTorn er1) rfl cyX10_isTorn w_1431 w_1432 w_1433 (rc_ok eu2 rfl (by decide)) (by rfl) (by omega) (by omega) (by rfl) (Nat.le_of_ble_eq_true rfl) dL_isTorn_2 (Or.inl rfl) (fun v M9 q _ => (Sum.inl_ne_inr q.1).elim) (fun E M9 q _ => ?_)
    obtain rfl : r1E = E := (Sum.inr.inj q.1).symm
    obtain rfl := q.2.symm
    by_cases e4_0 : r1E = "java/lang/IndexOutOfBoundsException"
    · rw [if_pos e4_0] at h
      subst e4_0
      refine fx_catch (E := "java/lang/IndexOutOfBoundsException") (name := "java/lang/IndexOutOfBoundsException") (L' := [(0, .ref p0a), (1, .int x1a)]) [] { startPc := 0, endPc := 13, handlerPc := 14, catchType := 21 } [] rfl ?_ (by decide) (by decide) w_474 (show _ ∈ roC from List.mem_of_getElem? (i := 0) rfl) 2 1 (by decide) (Or.inl ⟨2, rfl, rfl, dL_isTorn_14⟩) rfl ?_
      · intro z hz; cases hz
      refine fr_sipush (v := (-1001)) dL_isTorn_15 (by decide) ?_
      obtain rfl := Option.some.inj h
      exact fr_iret rfl dL_isTorn_18 ⟨rfl, rfl⟩
    rw [if_neg e4_0] at h
    cases h
def f_X10_kind (p0a : Nat) (x1a : Int32) (M : Mem) : Option ((Int32 ⊕ String)) := (rc M 10 p0a).bind fun _ => (f_X10_demandedSheet p0a x1a M).bind fun r1 => (match r1 with | .inl r1v => ((gI M 7 r1v 2).bind fun x3 => (nr .char x3).bind fun _ => some (.inl x3)) | .inr r1E => (some (.inr r1E)))
set_option maxRecDepth 20000 in
theorem ev_X10_kind {G : Nat × (Nat → Int32) × Value} {p0a : Nat} {x1a : Int32} {M : Mem} {r : (Int32 ⊕ String)} (h : f_X10_kind p0a x1a M = some r) : Ev (roG G) false YX10_kind 8 1 [.ref p0a, .int x1a] M (fun a b => a = (wE wI) r ∧ b = M) := by
  refine ev_of cyX10_kind.2.2.2.2 (Nat.le_of_ble_eq_true rfl) ?_
  show Fr _ _ _ _ _ _ 0 [(0, .ref p0a), (1, .int x1a)] [] M _
  unfold f_X10_kind at h
  refine fr_aload_n 0 dX10_kind_0 rfl ?_
  refine fr_iload_n 1 dX10_kind_1 rfl ?_
  obtain ⟨u2, eu2, h⟩ := ob h
  try dsimp only at h
  obtain ⟨r1, er1, h⟩ := ob h
  try dsimp only at h
  rcases r1 with r1v | r1E
  · try dsimp only at h
    refine fr_callV (g1 := false) (k2 := 0) (ev_X10_demandedSheet er1) rfl cyX10_demandedSheet w_655 w_657 w_2 (rc_ok eu2 rfl (by decide)) (by rfl) (by omega) (by omega) (by rfl) (Nat.le_of_ble_eq_true rfl) dX10_kind_2 (Or.inl rfl) (fun v M9 q _ => ?_) (fun E M9 q _ => (Sum.inr_ne_inl q.1).elim)
    obtain rfl : v = some (.ref r1v) := Sum.inl.inj q.1
    obtain rfl := q.2.symm
    refine fr_st (S' := [.ref r1v]) rfl ?_
    obtain ⟨x3, ex3, h⟩ := ob h
    try dsimp only at h
    refine fr_gI cb7 2 (by decide) rfl w_80 dX10_kind_5 ex3 ?_
    obtain ⟨u4, eu4, h⟩ := ob h
    try dsimp only at h
    obtain rfl := Option.some.inj h
    exact fr_zret1 (ty := .char) rfl dX10_kind_8 eu4 ⟨rfl, rfl⟩
  · try dsimp only at h
    refine fr_callV (g1 := false) (k2 := 0) (ev_X10_demandedSheet er1) rfl cyX10_demandedSheet w_655 w_657 w_2 (rc_ok eu2 rfl (by decide)) (by rfl) (by omega) (by omega) (by rfl) (Nat.le_of_ble_eq_true rfl) dX10_kind_2 (Or.inl rfl) (fun v M9 q _ => (Sum.inl_ne_inr q.1).elim) (fun E M9 q _ => ?_)
    obtain rfl : r1E = E := (Sum.inr.inj q.1).symm
    obtain rfl := q.2.symm
    obtain rfl := Option.some.inj h
    exact fx_no rfl ⟨rfl, rfl⟩
def f_L_kind (p0a : Nat) (x1a : Int32) (M : Mem) : Option (Int32) := (rc M 10 p0a).bind fun _ => (f_X10_kind p0a x1a M).bind fun r1 => (match r1 with | .inl r1v => (some r1v) | .inr r1E => (if r1E = "java/lang/IndexOutOfBoundsException" then (some (-1001)) else none))
set_option maxRecDepth 20000 in
theorem ev_L_kind {G : Nat × (Nat → Int32) × Value} {p0a : Nat} {x1a : Int32} {M : Mem} {r : Int32} (h : f_L_kind p0a x1a M = some r) : Ev (roG G) false YL_kind 9 1 [.ref p0a, .int x1a] M (fun a b => a = wI r ∧ b = M) := by
  refine ev_of cyL_kind.2.2.2.2 (Nat.le_of_ble_eq_true rfl) ?_
  show Fr _ _ _ _ _ _ 0 [(0, .ref p0a), (1, .int x1a)] [] M _
  unfold f_L_kind at h
  refine fr_aload_n 0 dL_kind_0 rfl ?_
  refine fr_iload_n 1 dL_kind_1 rfl ?_
  obtain ⟨u2, eu2, h⟩ := ob h
  try dsimp only at h
  obtain ⟨r1, er1, h⟩ := ob h
  try dsimp only at h
  rcases r1 with r1v | r1E
  · try dsimp only at h
    refine fr_callV (g1 := false) (k2 := 0) (ev_X10_kind er1) rfl cyX10_kind w_1424 w_1425 w_1426 (rc_ok eu2 rfl (by decide)) (by rfl) (by omega) (by omega) (by rfl) (Nat.le_of_ble_eq_true rfl) dL_kind_2 (Or.inl rfl) (fun v M9 q _ => ?_) (fun E M9 q _ => (Sum.inr_ne_inl q.1).elim)
    obtain rfl : v = some (.int r1v) := Sum.inl.inj q.1
    obtain rfl := q.2.symm
    refine fr_st (S' := [.int r1v]) rfl ?_
    obtain rfl := Option.some.inj h
    exact fr_iret rfl dL_kind_5 ⟨rfl, rfl⟩
  · try dsimp only at h
    refine fr_callV (g1 := false) (k2 := 0) (ev_X10_kind er1) rfl cyX10_kind w_1424 w_1425 w_1426 (rc_ok eu2 rfl (by decide)) (by rfl) (by omega) (by omega) (by rfl) (Nat.le_of_ble_eq_true rfl) dL_kind_2 (Or.inl rfl) (fun v M9 q _ => (Sum.inl_ne_inr q.1).elim) (fun E M9 q _ => ?_)
    obtain rfl : r1E = E := (Sum.inr.inj q.1).symm
    obtain rfl := q.2.symm
    by_cases e3_0 : r1E = "java/lang/IndexOutOfBoundsException"
    · rw [if_pos e3_0] at h
      subst e3_0
      refine fx_catch (E := "java/lang/IndexOutOfBoundsException") (name := "java/lang/IndexOutOfBoundsException") (L' := [(0, .ref p0a), (1, .int x1a)]) [] { startPc := 0, endPc := 5, handlerPc := 6, catchType := 21 } [] rfl ?_ (by decide) (by decide) w_474 (show _ ∈ roC from List.mem_of_getElem? (i := 0) rfl) 2 1 (by decide) (Or.inl ⟨2, rfl, rfl, dL_kind_6⟩) rfl ?_
      · intro z hz; cases hz
      refine fr_sipush (v := (-1001)) dL_kind_7 (by decide) ?_
      obtain rfl := Option.some.inj h
      exact fr_iret rfl dL_kind_10 ⟨rfl, rfl⟩
    rw [if_neg e3_0] at h
    cases h
def f_X2_init (p0a : Nat) (M : Mem) : Option (Unit × Mem) := (gd M [(0, .ref p0a)] [.ref p0a]).bind fun _ => (na 9).bind fun _ => (some (mNew M 100 (Int32.toNatClampNeg 9))).bind fun M2 => (sP M2 3 p0a 0 (mN M)).bind fun M3 => some ((), M3)
set_option maxRecDepth 20000 in
theorem ev_X2_init {G : Nat × (Nat → Int32) × Value} (hv : rob G.2.2) {p0a : Nat} {M : Mem} {r : Unit × Mem} (h : f_X2_init p0a M = some r) : Ev (roG G) true YX2_init 1 1 [.ref p0a] M (fun a b => a = wU r.1 ∧ b = r.2) := by
  refine ev_of cyX2_init.2.2.2.2 (Nat.le_of_ble_eq_true rfl) ?_
  show Fr _ _ _ _ _ _ 0 [(0, .ref p0a)] [] M _
  unfold f_X2_init at h
  refine fr_aload_n 0 dX2_init_0 rfl ?_
  refine fr_objInit w_172 w_56 w_57 (by omega) (Nat.le_of_ble_eq_true rfl) dX2_init_1 ?_
  refine fr_aload_n 0 dX2_init_4 rfl ?_
  refine fr_bipush (v := 9) dX2_init_5 (by decide) ?_
  obtain ⟨u1, eu1, h⟩ := ob h
  try dsimp only at h
  obtain ⟨u1b, eu1b, h⟩ := ob h
  try dsimp only at h
  obtain ⟨M2, eM2, h⟩ := ob h
  try dsimp only at h
  obtain rfl := Option.some.inj eM2
  refine fr_newarrg (k2 := 0) (ty := .int) 0 100 rfl rfl (by decide) (by decide) rfl w_119 (gd_N eu1) (gd_L eu1) (roG_ok hv) (na_0 eu1b) (na_1 eu1b) dX2_init_7 (by omega) ?_
  obtain ⟨M3, eM3, h⟩ := ob h
  try dsimp only at h
  refine fr_sPF cb3 0 (by decide) rfl rfl rfl rfl w_173 dX2_init_9 rfl eM3 ?_
  obtain rfl := Option.some.inj h
  exact fr_vret rfl dX2_init_12 ⟨rfl, rfl⟩
def f_X7_init (p0a : Nat) (M : Mem) : Option (Unit × Mem) := (gd M [(0, .ref p0a)] [.ref p0a]).bind fun _ => (na 4).bind fun _ => (some (mNew M 100 (Int32.toNatClampNeg 4))).bind fun M2 => (sP M2 7 p0a 0 (mN M)).bind fun M3 => (gd M3 [(0, .ref p0a)] [.ref p0a]).bind fun _ => (na 6).bind fun _ => (some (mNew M3 101 (Int32.toNatClampNeg 6))).bind fun M5 => (sP M5 7 p0a 1 (mN M3)).bind fun M6 => (sI M6 7 p0a 2 .char 115).bind fun M7 => (sI M7 7 p0a 6 .int (-1)).bind fun M8 => some ((), M8)
set_option maxRecDepth 20000 in
theorem ev_X7_init {G : Nat × (Nat → Int32) × Value} (hv : rob G.2.2) {p0a : Nat} {M : Mem} {r : Unit × Mem} (h : f_X7_init p0a M = some r) : Ev (roG G) true YX7_init 1 2 [.ref p0a] M (fun a b => a = wU r.1 ∧ b = r.2) := by
  refine ev_of cyX7_init.2.2.2.2 (Nat.le_of_ble_eq_true rfl) ?_
  show Fr _ _ _ _ _ _ 0 [(0, .ref p0a)] [] M _
  unfold f_X7_init at h
  refine fr_aload_n 0 dX7_init_0 rfl ?_
  refine fr_objInit w_70 w_56 w_57 (by omega) (Nat.le_of_ble_eq_true rfl) dX7_init_1 ?_
  refine fr_aload_n 0 dX7_init_4 rfl ?_
  refine fr_iconst (v := 4) dX7_init_5 (by decide) ?_
  obtain ⟨u1, eu1, h⟩ := ob h
  try dsimp only at h
  obtain ⟨u1b, eu1b, h⟩ := ob h
  try dsimp only at h
  obtain ⟨M2, eM2, h⟩ := ob h
  try dsimp only at h
  obtain rfl := Option.some.inj eM2
  refine fr_newarrg (k2 := 1) (ty := .int) 0 100 rfl rfl (by decide) (by decide) rfl w_119 (gd_N eu1) (gd_L eu1) (roG_ok hv) (na_0 eu1b) (na_1 eu1b) dX7_init_6 (by omega) ?_
  obtain ⟨M3, eM3, h⟩ := ob h
  try dsimp only at h
  refine fr_sPF cb7 0 (by decide) rfl rfl rfl rfl w_71 dX7_init_8 rfl eM3 ?_
  refine fr_aload_n 0 dX7_init_11 rfl ?_
  refine fr_bipush (v := 6) dX7_init_12 (by decide) ?_
  obtain ⟨u4, eu4, h⟩ := ob h
  try dsimp only at h
  obtain ⟨u4b, eu4b, h⟩ := ob h
  try dsimp only at h
  obtain ⟨M5, eM5, h⟩ := ob h
  try dsimp only at h
  obtain rfl := Option.some.inj eM5
  refine fr_newarrg (k2 := 0) (ty := .char) 1 101 rfl rfl (by decide) (by decide) rfl w_120 (gd_N eu4) (gd_L eu4) (roG_ok hv) (na_0 eu4b) (na_1 eu4b) dX7_init_14 (by omega) ?_
  obtain ⟨M6, eM6, h⟩ := ob h
  try dsimp only at h
  refine fr_sPF cb7 1 (by decide) rfl rfl rfl rfl w_72 dX7_init_16 rfl eM6 ?_
  refine fr_aload_n 0 dX7_init_19 rfl ?_
  refine fr_bipush (v := 115) dX7_init_20 (by decide) ?_
  obtain ⟨M7, eM7, h⟩ := ob h
  try dsimp only at h
  refine fr_sI cb7 2 (by decide) rfl rfl w_77 dX7_init_22 eM7 ?_
  refine fr_aload_n 0 dX7_init_25 rfl ?_
  refine fr_iconst (v := (-1)) dX7_init_26 (by decide) ?_
  obtain ⟨M8, eM8, h⟩ := ob h
  try dsimp only at h
  refine fr_sI cb7 6 (by decide) rfl rfl w_95 dX7_init_27 eM8 ?_
  obtain rfl := Option.some.inj h
  exact fr_vret rfl dX7_init_30 ⟨rfl, rfl⟩
