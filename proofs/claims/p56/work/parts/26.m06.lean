/-! ===== methods, 6: L_outputChar X9_countPlaces X10_waysToPut L_waysToPut X4_describeSheet X10_writeSheet L_writeSheet Jxe99ae_isNaN_b9ae7 Jxe99ae_doubleToLongBits_ccdee Jxf58ca_isNaN_12338 Jxf58ca_floatToIntBits_5c35a ===== -/
def f_L_outputChar (p0a : Nat) (x1a : Int32) (M : Mem) : Option (Int32) := (rc M 10 p0a).bind fun _ => (f_X10_outputChar p0a x1a M).bind fun r1 => (match r1 with | .inl r1v => (some r1v) | .inr r1E => (if r1E = "java/lang/IndexOutOfBoundsException" then (some (-1001)) else none))
set_option maxRecDepth 20000 in
theorem ev_L_outputChar {G : Nat × (Nat → Int32) × Value} {p0a : Nat} {x1a : Int32} {M : Mem} {r : Int32} (h : f_L_outputChar p0a x1a M = some r) : Ev (roG G) false YL_outputChar 8 1 [.ref p0a, .int x1a] M (fun a b => a = wI r ∧ b = M) := by
  refine ev_of cyL_outputChar.2.2.2.2 (Nat.le_of_ble_eq_true rfl) ?_
  show Fr _ _ _ _ _ _ 0 [(0, .ref p0a), (1, .int x1a)] [] M _
  unfold f_L_outputChar at h
  refine fr_aload_n 0 dL_outputChar_0 rfl ?_
  refine fr_iload_n 1 dL_outputChar_1 rfl ?_
  obtain ⟨u2, eu2, h⟩ := ob h
  try dsimp only at h
  obtain ⟨r1, er1, h⟩ := ob h
  try dsimp only at h
  rcases r1 with r1v | r1E
  · try dsimp only at h
    refine fr_callV (g1 := false) (k2 := 0) (ev_X10_outputChar er1) rfl cyX10_outputChar w_1040 w_1041 w_1042 (rc_ok eu2 rfl (by decide)) (by rfl) (by omega) (by omega) (by rfl) (Nat.le_of_ble_eq_true rfl) dL_outputChar_2 (Or.inl rfl) (fun v M9 q _ => ?_) (fun E M9 q _ => (Sum.inr_ne_inl q.1).elim)
    obtain rfl : v = some (.int r1v) := Sum.inl.inj q.1
    obtain rfl := q.2.symm
    refine fr_st (S' := [.int r1v]) rfl ?_
    obtain rfl := Option.some.inj h
    exact fr_iret rfl dL_outputChar_5 ⟨rfl, rfl⟩
  · try dsimp only at h
    refine fr_callV (g1 := false) (k2 := 0) (ev_X10_outputChar er1) rfl cyX10_outputChar w_1040 w_1041 w_1042 (rc_ok eu2 rfl (by decide)) (by rfl) (by omega) (by omega) (by rfl) (Nat.le_of_ble_eq_true rfl) dL_outputChar_2 (Or.inl rfl) (fun v M9 q _ => (Sum.inl_ne_inr q.1).elim) (fun E M9 q _ => ?_)
    obtain rfl : r1E = E := (Sum.inr.inj q.1).symm
    obtain rfl := q.2.symm
    by_cases e3_0 : r1E = "java/lang/IndexOutOfBoundsException"
    · rw [if_pos e3_0] at h
      subst e3_0
      refine fx_catch (E := "java/lang/IndexOutOfBoundsException") (name := "java/lang/IndexOutOfBoundsException") (L' := [(0, .ref p0a), (1, .int x1a)]) [] { startPc := 0, endPc := 5, handlerPc := 6, catchType := 21 } [] rfl ?_ (by decide) (by decide) w_474 (show _ ∈ roC from List.mem_of_getElem? (i := 0) rfl) 2 1 (by decide) (Or.inl ⟨2, rfl, rfl, dL_outputChar_6⟩) rfl ?_
      · intro z hz; cases hz
      refine fr_sipush (v := (-1001)) dL_outputChar_7 (by decide) ?_
      obtain rfl := Option.some.inj h
      exact fr_iret rfl dL_outputChar_10 ⟨rfl, rfl⟩
    rw [if_neg e3_0] at h
    cases h
def lp_X9_countPlaces_13 (p_0 : Nat) (p_1 : Nat) (x_3 : Int32) (M_ : Mem) : Nat → Int32 → Int32 → Option ((Int32 × Int32) ⊕ (Int32))
  | 0, _, _ => none
  | n + 1, x_2, x_4 => if 4 ≤ x_4 then (some (.inl (x_2, x_4))) else ((rc M_ 9 p_0).bind fun _ => (f_X9_isOccupied p_0 x_3 M_).bind fun r3 => if r3 = 0 then ((rc M_ 9 p_0).bind fun _ => (f_X9_fits p_0 p_1 x_3 x_4 M_).bind fun r6 => if r6 = 0 then (lp_X9_countPlaces_13 p_0 p_1 x_3 M_ n x_2 (x_4 + 1)) else (lp_X9_countPlaces_13 p_0 p_1 x_3 M_ n (x_2 + 1) (x_4 + 1))) else (lp_X9_countPlaces_13 p_0 p_1 x_3 M_ n x_2 (x_4 + 1)))
def lp_X9_countPlaces_4 (p_0 : Nat) (p_1 : Nat) (M_ : Mem) : Nat → Int32 → Int32 → Option ((Int32 × Int32) ⊕ (Int32))
  | 0, _, _ => none
  | n + 1, x_2, x_3 => if 9 ≤ x_3 then (some (.inl (x_2, x_3))) else ((lp_X9_countPlaces_13 p_0 p_1 x_3 M_ 100 x_2 0).bind fun q9 => match q9 with | .inl (q9_2, q9_4) => (lp_X9_countPlaces_4 p_0 p_1 M_ n q9_2 (x_3 + 1)) | .inr q9_r => some (.inr q9_r))
def f_X9_countPlaces (p0a : Nat) (p1a : Nat) (M : Mem) : Option (Int32) := ((lp_X9_countPlaces_4 p0a p1a M 100 0 0).bind fun q10 => match q10 with | .inl (q10_2, q10_3) => (some q10_2) | .inr q10_r => some q10_r)
set_option maxRecDepth 20000 in
theorem lp_X9_countPlaces_13_ok {G : Nat × (Nat → Int32) × Value} {P : Res → Mem → Prop} {n0 d ke : Nat} {p_0 : Nat} {p_1 : Nat} {x_3 : Int32} {M_ : Mem} (hd : 4 ≤ d) : ∀ (n : Nat) (x_2 : Int32) (x_4 : Int32) (res : (Int32 × Int32) ⊕ (Int32)), lp_X9_countPlaces_13 p_0 p_1 x_3 M_ n x_2 x_4 = some res → (∀ (y_2 : Int32) (y_4 : Int32), res = .inl (y_2, y_4) → Fr (roG G) false n0 YX9_countPlaces d ke 47 [(0, .ref p_0), (1, .ref p_1), (2, .int y_2), (3, .int x_3), (4, .int y_4)] [] M_ P) → (∀ r : Int32, res = .inr r → P (wI r) M_) → Fr (roG G) false n0 YX9_countPlaces d ke 13 [(0, .ref p_0), (1, .ref p_1), (2, .int x_2), (3, .int x_3), (4, .int x_4)] [] M_ P := by
  intro n
  induction n with
  | zero => intro x_2 x_4 res h; unfold lp_X9_countPlaces_13 at h; cases h
  | succ n ih =>
    intro x_2 x_4 res h he hr
    unfold lp_X9_countPlaces_13 at h
    refine fr_iload 4 dX9_countPlaces_13 rfl ?_
    refine fr_iconst (v := 4) dX9_countPlaces_15 (by decide) ?_
    refine fr_icmp_ge 47 dX9_countPlaces_16 (by decide) (fun c2 => ?_) (fun c2 => ?_)
    · rw [if_pos c2] at h
      obtain rfl := Option.some.inj h
      exact he _ _ rfl
    · rw [if_neg c2] at h
      refine fr_aload_n 0 dX9_countPlaces_19 rfl ?_
      refine fr_iload_n 3 dX9_countPlaces_20 rfl ?_
      obtain ⟨u4, eu4, h⟩ := ob h
      try dsimp only at h
      obtain ⟨r3, er3, h⟩ := ob h
      try dsimp only at h
      refine fr_callV (g1 := false) (k2 := ke) (ev_X9_isOccupied er3) rfl cyX9_isOccupied w_579 w_580 w_581 (rc_ok eu4 rfl (by decide)) (by rfl) (by omega) (by omega) (by rfl) (Nat.le_of_ble_eq_true rfl) dX9_countPlaces_21 (Or.inl rfl) (fun v M9 q _ => ?_) (fun E M9 q _ => (Sum.inr_ne_inl q.1).elim)
      obtain rfl : v = some (.int r3) := Sum.inl.inj q.1
      obtain rfl := q.2.symm
      refine fr_st (S' := [.int r3]) rfl ?_
      refine fr_if_ne 41 dX9_countPlaces_24 (by decide) (fun c5 => ?_) (fun c5 => ?_)
      · rw [if_neg c5] at h
        refine fr_iinc (v := (x_4 + 1)) (L' := [(0, .ref p_0), (1, .ref p_1), (2, .int x_2), (3, .int x_3), (4, .int (x_4 + 1))]) 4 dX9_countPlaces_41 rfl rfl (by decide) rfl ?_
        refine fr_goto 13 dX9_countPlaces_44 (by decide) ?_
        exact ih _ _ _ h he hr
      · rw [if_pos c5] at h
        refine fr_aload_n 0 dX9_countPlaces_27 rfl ?_
        refine fr_aload_n 1 dX9_countPlaces_28 rfl ?_
        refine fr_iload_n 3 dX9_countPlaces_29 rfl ?_
        refine fr_iload 4 dX9_countPlaces_30 rfl ?_
        obtain ⟨u7, eu7, h⟩ := ob h
        try dsimp only at h
        obtain ⟨r6, er6, h⟩ := ob h
        try dsimp only at h
        refine fr_callV (g1 := false) (k2 := ke) (ev_X9_fits er6) rfl cyX9_fits w_583 w_584 w_585 (rc_ok eu7 rfl (by decide)) (by rfl) (by omega) (by omega) (by rfl) (Nat.le_of_ble_eq_true rfl) dX9_countPlaces_32 (Or.inl rfl) (fun v M9 q _ => ?_) (fun E M9 q _ => (Sum.inr_ne_inl q.1).elim)
        obtain rfl : v = some (.int r6) := Sum.inl.inj q.1
        obtain rfl := q.2.symm
        refine fr_st (S' := [.int r6]) rfl ?_
        refine fr_if_eq 41 dX9_countPlaces_35 (by decide) (fun c8 => ?_) (fun c8 => ?_)
        · rw [if_pos c8] at h
          refine fr_iinc (v := (x_4 + 1)) (L' := [(0, .ref p_0), (1, .ref p_1), (2, .int x_2), (3, .int x_3), (4, .int (x_4 + 1))]) 4 dX9_countPlaces_41 rfl rfl (by decide) rfl ?_
          refine fr_goto 13 dX9_countPlaces_44 (by decide) ?_
          exact ih _ _ _ h he hr
        · rw [if_neg c8] at h
          refine fr_iinc (v := (x_2 + 1)) (L' := [(0, .ref p_0), (1, .ref p_1), (2, .int (x_2 + 1)), (3, .int x_3), (4, .int x_4)]) 2 dX9_countPlaces_38 rfl rfl (by decide) rfl ?_
          refine fr_iinc (v := (x_4 + 1)) (L' := [(0, .ref p_0), (1, .ref p_1), (2, .int (x_2 + 1)), (3, .int x_3), (4, .int (x_4 + 1))]) 4 dX9_countPlaces_41 rfl rfl (by decide) rfl ?_
          refine fr_goto 13 dX9_countPlaces_44 (by decide) ?_
          exact ih _ _ _ h he hr
set_option maxRecDepth 20000 in
theorem lp_X9_countPlaces_4_ok {G : Nat × (Nat → Int32) × Value} {P : Res → Mem → Prop} {n0 d ke : Nat} {p_0 : Nat} {p_1 : Nat} {M_ : Mem} (hd : 4 ≤ d) : ∀ (n : Nat) (x_2 : Int32) (x_3 : Int32) (res : (Int32 × Int32) ⊕ (Int32)), lp_X9_countPlaces_4 p_0 p_1 M_ n x_2 x_3 = some res → (∀ (y_2 : Int32) (y_3 : Int32), res = .inl (y_2, y_3) → Fr (roG G) false n0 YX9_countPlaces d ke 53 [(0, .ref p_0), (1, .ref p_1), (2, .int y_2), (3, .int y_3)] [] M_ P) → (∀ r : Int32, res = .inr r → P (wI r) M_) → Fr (roG G) false n0 YX9_countPlaces d ke 4 [(0, .ref p_0), (1, .ref p_1), (2, .int x_2), (3, .int x_3)] [] M_ P := by
  intro n
  induction n with
  | zero => intro x_2 x_3 res h; unfold lp_X9_countPlaces_4 at h; cases h
  | succ n ih =>
    intro x_2 x_3 res h he hr
    unfold lp_X9_countPlaces_4 at h
    refine fr_iload_n 3 dX9_countPlaces_4 rfl ?_
    refine fr_bipush (v := 9) dX9_countPlaces_5 (by decide) ?_
    refine fr_icmp_ge 53 dX9_countPlaces_7 (by decide) (fun c1 => ?_) (fun c1 => ?_)
    · rw [if_pos c1] at h
      obtain rfl := Option.some.inj h
      exact he _ _ rfl
    · rw [if_neg c1] at h
      refine fr_iconst (v := 0) dX9_countPlaces_10 (by decide) ?_
      refine fr_istore (L' := [(0, .ref p_0), (1, .ref p_1), (2, .int x_2), (3, .int x_3), (4, .int 0)]) dX9_countPlaces_11 (by decide) rfl ?_
      obtain ⟨q9, eq9, h⟩ := ob h
      try dsimp only at h
      refine lp_X9_countPlaces_13_ok (by omega) 100 _ _ q9 eq9 (fun q9_2 q9_4 e9 => ?_) (fun q9_r e9 => ?_)
      · subst e9
        try dsimp only at h
        refine fr_iinc (v := (x_3 + 1)) (L' := [(0, .ref p_0), (1, .ref p_1), (2, .int q9_2), (3, .int (x_3 + 1)), (4, .int q9_4)]) 3 dX9_countPlaces_47 rfl rfl (by decide) rfl ?_
        refine fr_goto 4 dX9_countPlaces_50 (by decide) ?_
        refine fr_loc [0, 1, 2, 3] (L' := [(0, .ref p_0), (1, .ref p_1), (2, .int q9_2), (3, .int (x_3 + 1))]) rfl ?_
        exact ih _ _ _ h he hr
      · subst e9
        try dsimp only at h
        obtain rfl := Option.some.inj h
        exact hr _ rfl
set_option maxRecDepth 20000 in
theorem ev_X9_countPlaces {G : Nat × (Nat → Int32) × Value} {p0a : Nat} {p1a : Nat} {M : Mem} {r : Int32} (h : f_X9_countPlaces p0a p1a M = some r) : Ev (roG G) false YX9_countPlaces 4 0 [.ref p0a, .ref p1a] M (fun a b => a = wI r ∧ b = M) := by
  refine ev_of cyX9_countPlaces.2.2.2.2 (Nat.le_of_ble_eq_true rfl) ?_
  show Fr _ _ _ _ _ _ 0 [(0, .ref p0a), (1, .ref p1a)] [] M _
  unfold f_X9_countPlaces at h
  refine fr_iconst (v := 0) dX9_countPlaces_0 (by decide) ?_
  refine fr_istore_n (L' := [(0, .ref p0a), (1, .ref p1a), (2, .int 0)]) dX9_countPlaces_1 (by decide) rfl ?_
  refine fr_iconst (v := 0) dX9_countPlaces_2 (by decide) ?_
  refine fr_istore_n (L' := [(0, .ref p0a), (1, .ref p1a), (2, .int 0), (3, .int 0)]) dX9_countPlaces_3 (by decide) rfl ?_
  obtain ⟨q10, eq10, h⟩ := ob h
  try dsimp only at h
  refine lp_X9_countPlaces_4_ok (by omega) 100 _ _ q10 eq10 (fun q10_2 q10_3 e9 => ?_) (fun q10_r e9 => ?_)
  · subst e9
    try dsimp only at h
    refine fr_iload_n 2 dX9_countPlaces_53 rfl ?_
    obtain rfl := Option.some.inj h
    exact fr_iret rfl dX9_countPlaces_54 ⟨rfl, rfl⟩
  · subst e9
    try dsimp only at h
    obtain rfl := Option.some.inj h
    exact ⟨rfl, rfl⟩
def f_X10_waysToPut (p0a : Nat) (x1a : Int32) (M : Mem) : Option ((Int32 ⊕ String)) := (rc M 10 p0a).bind fun _ => (f_X10_demandedSheet p0a x1a M).bind fun r1 => (match r1 with | .inl r1v => ((rc M 7 r1v).bind fun _ => (f_X7_canBeLaid r1v M).bind fun r3 => if r3 = 0 then (some (.inl 0)) else ((gP M 10 p0a 0).bind fun p6 => (rc M 9 p6).bind fun _ => (f_X9_countPlaces p6 r1v M).bind fun r7 => some (.inl r7))) | .inr r1E => (some (.inr r1E)))
set_option maxRecDepth 20000 in
theorem ev_X10_waysToPut {G : Nat × (Nat → Int32) × Value} {p0a : Nat} {x1a : Int32} {M : Mem} {r : (Int32 ⊕ String)} (h : f_X10_waysToPut p0a x1a M = some r) : Ev (roG G) false YX10_waysToPut 8 1 [.ref p0a, .int x1a] M (fun a b => a = (wE wI) r ∧ b = M) := by
  refine ev_of cyX10_waysToPut.2.2.2.2 (Nat.le_of_ble_eq_true rfl) ?_
  show Fr _ _ _ _ _ _ 0 [(0, .ref p0a), (1, .int x1a)] [] M _
  unfold f_X10_waysToPut at h
  refine fr_aload_n 0 dX10_waysToPut_0 rfl ?_
  refine fr_iload_n 1 dX10_waysToPut_1 rfl ?_
  obtain ⟨u2, eu2, h⟩ := ob h
  try dsimp only at h
  obtain ⟨r1, er1, h⟩ := ob h
  try dsimp only at h
  rcases r1 with r1v | r1E
  · try dsimp only at h
    refine fr_callV (g1 := false) (k2 := 0) (ev_X10_demandedSheet er1) rfl cyX10_demandedSheet w_655 w_657 w_2 (rc_ok eu2 rfl (by decide)) (by rfl) (by omega) (by omega) (by rfl) (Nat.le_of_ble_eq_true rfl) dX10_waysToPut_2 (Or.inl rfl) (fun v M9 q _ => ?_) (fun E M9 q _ => (Sum.inr_ne_inl q.1).elim)
    obtain rfl : v = some (.ref r1v) := Sum.inl.inj q.1
    obtain rfl := q.2.symm
    refine fr_st (S' := [.ref r1v]) rfl ?_
    refine fr_astore_n (L' := [(0, .ref p0a), (1, .int x1a), (2, .ref r1v)]) dX10_waysToPut_5 (by decide) rfl ?_
    refine fr_aload_n 2 dX10_waysToPut_6 rfl ?_
    obtain ⟨u4, eu4, h⟩ := ob h
    try dsimp only at h
    obtain ⟨r3, er3, h⟩ := ob h
    try dsimp only at h
    refine fr_callV (g1 := false) (k2 := 0) (ev_X7_canBeLaid er3) rfl cyX7_canBeLaid w_1011 w_571 w_572 (rc_ok eu4 rfl (by decide)) (by rfl) (by omega) (by omega) (by rfl) (Nat.le_of_ble_eq_true rfl) dX10_waysToPut_7 (Or.inl rfl) (fun v M9 q _ => ?_) (fun E M9 q _ => (Sum.inr_ne_inl q.1).elim)
    obtain rfl : v = some (.int r3) := Sum.inl.inj q.1
    obtain rfl := q.2.symm
    refine fr_st (S' := [.int r3]) rfl ?_
    refine fr_if_eq 24 dX10_waysToPut_10 (by decide) (fun c5 => ?_) (fun c5 => ?_)
    · rw [if_pos c5] at h
      refine fr_iconst (v := 0) dX10_waysToPut_24 (by decide) ?_
      obtain rfl := Option.some.inj h
      exact fr_iret rfl dX10_waysToPut_25 ⟨rfl, rfl⟩
    · rw [if_neg c5] at h
      refine fr_aload_n 0 dX10_waysToPut_13 rfl ?_
      obtain ⟨p6, ep6, h⟩ := ob h
      try dsimp only at h
      refine fr_gP cb10 0 (by decide) rfl w_227 dX10_waysToPut_14 ep6 ?_
      refine fr_aload_n 2 dX10_waysToPut_17 rfl ?_
      obtain ⟨u8, eu8, h⟩ := ob h
      try dsimp only at h
      obtain ⟨r7, er7, h⟩ := ob h
      try dsimp only at h
      refine fr_callV (g1 := false) (k2 := 0) (ev_X9_countPlaces er7) rfl cyX9_countPlaces w_1052 w_1053 w_1054 (rc_ok eu8 rfl (by decide)) (by rfl) (by omega) (by omega) (by rfl) (Nat.le_of_ble_eq_true rfl) dX10_waysToPut_18 (Or.inl rfl) (fun v M9 q _ => ?_) (fun E M9 q _ => (Sum.inr_ne_inl q.1).elim)
      obtain rfl : v = some (.int r7) := Sum.inl.inj q.1
      obtain rfl := q.2.symm
      refine fr_st (S' := [.int r7]) rfl ?_
      refine fr_goto 25 dX10_waysToPut_21 (by decide) ?_
      obtain rfl := Option.some.inj h
      exact fr_iret rfl dX10_waysToPut_25 ⟨rfl, rfl⟩
  · try dsimp only at h
    refine fr_callV (g1 := false) (k2 := 0) (ev_X10_demandedSheet er1) rfl cyX10_demandedSheet w_655 w_657 w_2 (rc_ok eu2 rfl (by decide)) (by rfl) (by omega) (by omega) (by rfl) (Nat.le_of_ble_eq_true rfl) dX10_waysToPut_2 (Or.inl rfl) (fun v M9 q _ => (Sum.inl_ne_inr q.1).elim) (fun E M9 q _ => ?_)
    obtain rfl : r1E = E := (Sum.inr.inj q.1).symm
    obtain rfl := q.2.symm
    obtain rfl := Option.some.inj h
    exact fx_no rfl ⟨rfl, rfl⟩
def f_L_waysToPut (p0a : Nat) (x1a : Int32) (M : Mem) : Option (Int32) := (rc M 10 p0a).bind fun _ => (f_X10_waysToPut p0a x1a M).bind fun r1 => (match r1 with | .inl r1v => (some r1v) | .inr r1E => (if r1E = "java/lang/IndexOutOfBoundsException" then (some (-1001)) else none))
set_option maxRecDepth 20000 in
theorem ev_L_waysToPut {G : Nat × (Nat → Int32) × Value} {p0a : Nat} {x1a : Int32} {M : Mem} {r : Int32} (h : f_L_waysToPut p0a x1a M = some r) : Ev (roG G) false YL_waysToPut 9 1 [.ref p0a, .int x1a] M (fun a b => a = wI r ∧ b = M) := by
  refine ev_of cyL_waysToPut.2.2.2.2 (Nat.le_of_ble_eq_true rfl) ?_
  show Fr _ _ _ _ _ _ 0 [(0, .ref p0a), (1, .int x1a)] [] M _
  unfold f_L_waysToPut at h
  refine fr_aload_n 0 dL_waysToPut_0 rfl ?_
  refine fr_iload_n 1 dL_waysToPut_1 rfl ?_
  obtain ⟨u2, eu2, h⟩ := ob h
  try dsimp only at h
  obtain ⟨r1, er1, h⟩ := ob h
  try dsimp only at h
  rcases r1 with r1v | r1E
  · try dsimp only at h
    refine fr_callV (g1 := false) (k2 := 0) (ev_X10_waysToPut er1) rfl cyX10_waysToPut w_1048 w_1049 w_1050 (rc_ok eu2 rfl (by decide)) (by rfl) (by omega) (by omega) (by rfl) (Nat.le_of_ble_eq_true rfl) dL_waysToPut_2 (Or.inl rfl) (fun v M9 q _ => ?_) (fun E M9 q _ => (Sum.inr_ne_inl q.1).elim)
    obtain rfl : v = some (.int r1v) := Sum.inl.inj q.1
    obtain rfl := q.2.symm
    refine fr_st (S' := [.int r1v]) rfl ?_
    obtain rfl := Option.some.inj h
    exact fr_iret rfl dL_waysToPut_5 ⟨rfl, rfl⟩
  · try dsimp only at h
    refine fr_callV (g1 := false) (k2 := 0) (ev_X10_waysToPut er1) rfl cyX10_waysToPut w_1048 w_1049 w_1050 (rc_ok eu2 rfl (by decide)) (by rfl) (by omega) (by omega) (by rfl) (Nat.le_of_ble_eq_true rfl) dL_waysToPut_2 (Or.inl rfl) (fun v M9 q _ => (Sum.inl_ne_inr q.1).elim) (fun E M9 q _ => ?_)
    obtain rfl : r1E = E := (Sum.inr.inj q.1).symm
    obtain rfl := q.2.symm
    by_cases e3_0 : r1E = "java/lang/IndexOutOfBoundsException"
    · rw [if_pos e3_0] at h
      subst e3_0
      refine fx_catch (E := "java/lang/IndexOutOfBoundsException") (name := "java/lang/IndexOutOfBoundsException") (L' := [(0, .ref p0a), (1, .int x1a)]) [] { startPc := 0, endPc := 5, handlerPc := 6, catchType := 21 } [] rfl ?_ (by decide) (by decide) w_474 (show _ ∈ roC from List.mem_of_getElem? (i := 0) rfl) 2 1 (by decide) (Or.inl ⟨2, rfl, rfl, dL_waysToPut_6⟩) rfl ?_
      · intro z hz; cases hz
      refine fr_sipush (v := (-1001)) dL_waysToPut_7 (by decide) ?_
      obtain rfl := Option.some.inj h
      exact fr_iret rfl dL_waysToPut_10 ⟨rfl, rfl⟩
    rw [if_neg e3_0] at h
    cases h
def lp_X4_describeSheet_15 (p_0 : Nat) (p_1 : Nat) : Nat → Int32 → Mem → Option ((Int32 × Mem) ⊕ (Unit × Mem))
  | 0, _, _ => none
  | n + 1, x_2, M_ => if 4 ≤ x_2 then (some (.inl (x_2, M_))) else ((rc M_ 7 p_1).bind fun _ => (f_X7_borderWhenTurned p_1 x_2 0 M_).bind fun r6 => (rc M_ 5 p_0).bind fun _ => (f_X4_writeDigit p_0 r6 M_).bind fun r8 => lp_X4_describeSheet_15 p_0 p_1 n (x_2 + 1) r8.2)
def lp_X4_describeSheet_51 (p_0 : Nat) (p_1 : Nat) : Nat → Int32 → Mem → Option ((Int32 × Mem) ⊕ (Unit × Mem))
  | 0, _, _ => none
  | n + 1, x_2, M_ => (gI M_ 7 p_1 3).bind fun x13 => if x13 ≤ x_2 then (some (.inl (x_2, M_))) else ((gP M_ 7 p_1 1).bind fun p15 => (aI M_ 101 p15 x_2).bind fun x16 => (rc M_ 5 p_0).bind fun _ => (f_X4_write p_0 x16 M_).bind fun r17 => lp_X4_describeSheet_51 p_0 p_1 n (x_2 + 1) r17.2)
def f_X4_describeSheet (p0a : Nat) (p1a : Nat) (M : Mem) : Option (Unit × Mem) := (sI M 5 p0a 1 .int 0).bind fun M1 => (gI M1 7 p1a 2).bind fun x2 => (rc M1 5 p0a).bind fun _ => (f_X4_write p0a x2 M1).bind fun r3 => ((lp_X4_describeSheet_15 p0a p1a 100 0 r3.2).bind fun q10 => match q10 with | .inl (q10_2, q10_M) => ((gI q10_M 7 p1a 3).bind fun x11 => if x11 ≤ 0 then ((lp_X4_describeSheet_51 p0a p1a 100 0 q10_M).bind fun q19 => match q19 with | .inl (q19_2, q19_M) => ((gI q19_M 7 p1a 4).bind fun x20 => (rc q19_M 5 p0a).bind fun _ => (f_X4_writeTimes p0a 42 x20 q19_M).bind fun r21 => (gI r21.2 7 p1a 5).bind fun x23 => if x23 = 0 then ((rc r21.2 5 p0a).bind fun _ => (f_X4_writeTimes p0a 35 0 r21.2).bind fun r25 => some ((), r25.2)) else ((rc r21.2 5 p0a).bind fun _ => (f_X4_writeTimes p0a 35 1 r21.2).bind fun r27 => some ((), r27.2))) | .inr q19_r => some q19_r) else ((rc q10_M 5 p0a).bind fun _ => (f_X4_write p0a 124 q10_M).bind fun r29 => ((lp_X4_describeSheet_51 p0a p1a 100 0 r29.2).bind fun q31 => match q31 with | .inl (q31_2, q31_M) => ((gI q31_M 7 p1a 4).bind fun x32 => (rc q31_M 5 p0a).bind fun _ => (f_X4_writeTimes p0a 42 x32 q31_M).bind fun r33 => (gI r33.2 7 p1a 5).bind fun x35 => if x35 = 0 then ((rc r33.2 5 p0a).bind fun _ => (f_X4_writeTimes p0a 35 0 r33.2).bind fun r37 => some ((), r37.2)) else ((rc r33.2 5 p0a).bind fun _ => (f_X4_writeTimes p0a 35 1 r33.2).bind fun r39 => some ((), r39.2))) | .inr q31_r => some q31_r))) | .inr q10_r => some q10_r)
set_option maxRecDepth 20000 in
theorem lp_X4_describeSheet_15_ok {G : Nat × (Nat → Int32) × Value} {P : Res → Mem → Prop} {n0 d ke : Nat} {p_0 : Nat} {p_1 : Nat} (hd : 2 ≤ d) : ∀ (n : Nat) (x_2 : Int32) (M_ : Mem) (res : (Int32 × Mem) ⊕ (Unit × Mem)), lp_X4_describeSheet_15 p_0 p_1 n x_2 M_ = some res → (∀ (y_2 : Int32) (M9 : Mem), res = .inl (y_2, M9) → Fr (roG G) false n0 YX4_describeSheet d ke 36 [(0, .ref p_0), (1, .ref p_1), (2, .int y_2)] [] M9 P) → (∀ r : Unit × Mem, res = .inr r → P (wU r.1) r.2) → Fr (roG G) false n0 YX4_describeSheet d ke 15 [(0, .ref p_0), (1, .ref p_1), (2, .int x_2)] [] M_ P := by
  intro n
  induction n with
  | zero => intro x_2 M_ res h; unfold lp_X4_describeSheet_15 at h; cases h
  | succ n ih =>
    intro x_2 M_ res h he hr
    unfold lp_X4_describeSheet_15 at h
    refine fr_iload_n 2 dX4_describeSheet_15 rfl ?_
    refine fr_iconst (v := 4) dX4_describeSheet_16 (by decide) ?_
    refine fr_icmp_ge 36 dX4_describeSheet_17 (by decide) (fun c5 => ?_) (fun c5 => ?_)
    · rw [if_pos c5] at h
      obtain rfl := Option.some.inj h
      exact he _ _ rfl
    · rw [if_neg c5] at h
      refine fr_aload_n 0 dX4_describeSheet_20 rfl ?_
      refine fr_aload_n 1 dX4_describeSheet_21 rfl ?_
      refine fr_iload_n 2 dX4_describeSheet_22 rfl ?_
      refine fr_iconst (v := 0) dX4_describeSheet_23 (by decide) ?_
      obtain ⟨u7, eu7, h⟩ := ob h
      try dsimp only at h
      obtain ⟨r6, er6, h⟩ := ob h
      try dsimp only at h
      refine fr_callV (g1 := false) (k2 := ke) (ev_X7_borderWhenTurned er6) rfl cyX7_borderWhenTurned w_1118 w_599 w_600 (rc_ok eu7 rfl (by decide)) (by rfl) (by omega) (by omega) (by rfl) (Nat.le_of_ble_eq_true rfl) dX4_describeSheet_24 (Or.inl rfl) (fun v M9 q _ => ?_) (fun E M9 q _ => (Sum.inr_ne_inl q.1).elim)
      obtain rfl : v = some (.int r6) := Sum.inl.inj q.1
      obtain rfl := q.2.symm
      refine fr_st (S' := [.int r6, .ref p_0]) rfl ?_
      obtain ⟨u9, eu9, h⟩ := ob h
      try dsimp only at h
      obtain ⟨r8, er8, h⟩ := ob h
      try dsimp only at h
      refine fr_callV (g1 := false) (k2 := ke) (ev_X4_writeDigit er8) rfl cyX4_writeDigit w_1028 w_1030 w_9 (rc_ok eu9 rfl (by decide)) (by rfl) (by omega) (by omega) (by rfl) (Nat.le_of_ble_eq_true rfl) dX4_describeSheet_27 (Or.inl rfl) (fun v M9 q _ => ?_) (fun E M9 q _ => (Sum.inr_ne_inl q.1).elim)
      obtain rfl : v = none := Sum.inl.inj q.1
      obtain rfl := q.2.symm
      refine fr_st (S' := []) rfl ?_
      refine fr_iinc (v := (x_2 + 1)) (L' := [(0, .ref p_0), (1, .ref p_1), (2, .int (x_2 + 1))]) 2 dX4_describeSheet_30 rfl rfl (by decide) rfl ?_
      refine fr_goto 15 dX4_describeSheet_33 (by decide) ?_
      exact ih _ _ _ h he hr
set_option maxRecDepth 20000 in
theorem lp_X4_describeSheet_51_ok {G : Nat × (Nat → Int32) × Value} {P : Res → Mem → Prop} {n0 d ke : Nat} {p_0 : Nat} {p_1 : Nat} (hd : 2 ≤ d) : ∀ (n : Nat) (x_2 : Int32) (M_ : Mem) (res : (Int32 × Mem) ⊕ (Unit × Mem)), lp_X4_describeSheet_51 p_0 p_1 n x_2 M_ = some res → (∀ (y_2 : Int32) (M9 : Mem), res = .inl (y_2, M9) → Fr (roG G) false n0 YX4_describeSheet d ke 75 [(0, .ref p_0), (1, .ref p_1), (2, .int y_2)] [] M9 P) → (∀ r : Unit × Mem, res = .inr r → P (wU r.1) r.2) → Fr (roG G) false n0 YX4_describeSheet d ke 51 [(0, .ref p_0), (1, .ref p_1), (2, .int x_2)] [] M_ P := by
  intro n
  induction n with
  | zero => intro x_2 M_ res h; unfold lp_X4_describeSheet_51 at h; cases h
  | succ n ih =>
    intro x_2 M_ res h he hr
    unfold lp_X4_describeSheet_51 at h
    refine fr_iload_n 2 dX4_describeSheet_51 rfl ?_
    refine fr_aload_n 1 dX4_describeSheet_52 rfl ?_
    obtain ⟨x13, ex13, h⟩ := ob h
    try dsimp only at h
    refine fr_gI cb7 3 (by decide) rfl w_83 dX4_describeSheet_53 ex13 ?_
    refine fr_icmp_ge 75 dX4_describeSheet_56 (by decide) (fun c14 => ?_) (fun c14 => ?_)
    · rw [if_pos c14] at h
      obtain rfl := Option.some.inj h
      exact he _ _ rfl
    · rw [if_neg c14] at h
      refine fr_aload_n 0 dX4_describeSheet_59 rfl ?_
      refine fr_aload_n 1 dX4_describeSheet_60 rfl ?_
      obtain ⟨p15, ep15, h⟩ := ob h
      try dsimp only at h
      refine fr_gP cb7 1 (by decide) rfl w_73 dX4_describeSheet_61 ep15 ?_
      refine fr_iload_n 2 dX4_describeSheet_64 rfl ?_
      obtain ⟨x16, ex16, h⟩ := ob h
      try dsimp only at h
      refine fr_aI1 ex16 dX4_describeSheet_65 ?_
      obtain ⟨u18, eu18, h⟩ := ob h
      try dsimp only at h
      obtain ⟨r17, er17, h⟩ := ob h
      try dsimp only at h
      refine fr_callV (g1 := false) (k2 := ke) (ev_X4_write er17) rfl cyX4_write w_1023 w_1025 w_8 (rc_ok eu18 rfl (by decide)) (by rfl) (by omega) (by omega) (by rfl) (Nat.le_of_ble_eq_true rfl) dX4_describeSheet_66 (Or.inl rfl) (fun v M9 q _ => ?_) (fun E M9 q _ => (Sum.inr_ne_inl q.1).elim)
      obtain rfl : v = none := Sum.inl.inj q.1
      obtain rfl := q.2.symm
      refine fr_st (S' := []) rfl ?_
      refine fr_iinc (v := (x_2 + 1)) (L' := [(0, .ref p_0), (1, .ref p_1), (2, .int (x_2 + 1))]) 2 dX4_describeSheet_69 rfl rfl (by decide) rfl ?_
      refine fr_goto 51 dX4_describeSheet_72 (by decide) ?_
      exact ih _ _ _ h he hr
set_option maxRecDepth 20000 in
theorem ev_X4_describeSheet {G : Nat × (Nat → Int32) × Value} {p0a : Nat} {p1a : Nat} {M : Mem} {r : Unit × Mem} (h : f_X4_describeSheet p0a p1a M = some r) : Ev (roG G) false YX4_describeSheet 2 0 [.ref p0a, .ref p1a] M (fun a b => a = wU r.1 ∧ b = r.2) := by
  refine ev_of cyX4_describeSheet.2.2.2.2 (Nat.le_of_ble_eq_true rfl) ?_
  show Fr _ _ _ _ _ _ 0 [(0, .ref p0a), (1, .ref p1a)] [] M _
  unfold f_X4_describeSheet at h
  refine fr_aload_n 0 dX4_describeSheet_0 rfl ?_
  refine fr_iconst (v := 0) dX4_describeSheet_1 (by decide) ?_
  obtain ⟨M1, eM1, h⟩ := ob h
  try dsimp only at h
  refine fr_sI cb5 1 (by decide) rfl rfl w_220 dX4_describeSheet_2 eM1 ?_
  refine fr_aload_n 0 dX4_describeSheet_5 rfl ?_
  refine fr_aload_n 1 dX4_describeSheet_6 rfl ?_
  obtain ⟨x2, ex2, h⟩ := ob h
  try dsimp only at h
  refine fr_gI cb7 2 (by decide) rfl w_79 dX4_describeSheet_7 ex2 ?_
  obtain ⟨u4, eu4, h⟩ := ob h
  try dsimp only at h
  obtain ⟨r3, er3, h⟩ := ob h
  try dsimp only at h
  refine fr_callV (g1 := false) (k2 := 0) (ev_X4_write er3) rfl cyX4_write w_1023 w_1025 w_8 (rc_ok eu4 rfl (by decide)) (by rfl) (by omega) (by omega) (by rfl) (Nat.le_of_ble_eq_true rfl) dX4_describeSheet_10 (Or.inl rfl) (fun v M9 q _ => ?_) (fun E M9 q _ => (Sum.inr_ne_inl q.1).elim)
  obtain rfl : v = none := Sum.inl.inj q.1
  obtain rfl := q.2.symm
  refine fr_st (S' := []) rfl ?_
  refine fr_iconst (v := 0) dX4_describeSheet_13 (by decide) ?_
  refine fr_istore_n (L' := [(0, .ref p0a), (1, .ref p1a), (2, .int 0)]) dX4_describeSheet_14 (by decide) rfl ?_
  obtain ⟨q10, eq10, h⟩ := ob h
  try dsimp only at h
  refine lp_X4_describeSheet_15_ok (by omega) 100 _ _ q10 eq10 (fun q10_2 q10_M e9 => ?_) (fun q10_r e9 => ?_)
  · subst e9
    try dsimp only at h
    refine fr_aload_n 1 dX4_describeSheet_36 rfl ?_
    obtain ⟨x11, ex11, h⟩ := ob h
    try dsimp only at h
    refine fr_gI cb7 3 (by decide) rfl w_83 dX4_describeSheet_37 ex11 ?_
    refine fr_if_le 49 dX4_describeSheet_40 (by decide) (fun c12 => ?_) (fun c12 => ?_)
    · rw [if_pos c12] at h
      refine fr_iconst (v := 0) dX4_describeSheet_49 (by decide) ?_
      refine fr_istore_n (L' := [(0, .ref p0a), (1, .ref p1a), (2, .int 0)]) dX4_describeSheet_50 (by decide) rfl ?_
      obtain ⟨q19, eq19, h⟩ := ob h
      try dsimp only at h
      refine lp_X4_describeSheet_51_ok (by omega) 100 _ _ q19 eq19 (fun q19_2 q19_M e9 => ?_) (fun q19_r e9 => ?_)
      · subst e9
        try dsimp only at h
        refine fr_aload_n 0 dX4_describeSheet_75 rfl ?_
        refine fr_bipush (v := 42) dX4_describeSheet_76 (by decide) ?_
        refine fr_aload_n 1 dX4_describeSheet_78 rfl ?_
        obtain ⟨x20, ex20, h⟩ := ob h
        try dsimp only at h
        refine fr_gI cb7 4 (by decide) rfl w_88 dX4_describeSheet_79 ex20 ?_
        obtain ⟨u22, eu22, h⟩ := ob h
        try dsimp only at h
        obtain ⟨r21, er21, h⟩ := ob h
        try dsimp only at h
        refine fr_callV (g1 := false) (k2 := 0) (ev_X4_writeTimes er21) rfl cyX4_writeTimes w_1033 w_1035 w_10 (rc_ok eu22 rfl (by decide)) (by rfl) (by omega) (by omega) (by rfl) (Nat.le_of_ble_eq_true rfl) dX4_describeSheet_82 (Or.inl rfl) (fun v M9 q _ => ?_) (fun E M9 q _ => (Sum.inr_ne_inl q.1).elim)
        obtain rfl : v = none := Sum.inl.inj q.1
        obtain rfl := q.2.symm
        refine fr_st (S' := []) rfl ?_
        refine fr_aload_n 0 dX4_describeSheet_85 rfl ?_
        refine fr_bipush (v := 35) dX4_describeSheet_86 (by decide) ?_
        refine fr_aload_n 1 dX4_describeSheet_88 rfl ?_
        obtain ⟨x23, ex23, h⟩ := ob h
        try dsimp only at h
        refine fr_gI cb7 5 (by decide) rfl w_92 dX4_describeSheet_89 ex23 ?_
        refine fr_if_eq 99 dX4_describeSheet_92 (by decide) (fun c24 => ?_) (fun c24 => ?_)
        · rw [if_pos c24] at h
          refine fr_iconst (v := 0) dX4_describeSheet_99 (by decide) ?_
          obtain ⟨u26, eu26, h⟩ := ob h
          try dsimp only at h
          obtain ⟨r25, er25, h⟩ := ob h
          try dsimp only at h
          refine fr_callV (g1 := false) (k2 := 0) (ev_X4_writeTimes er25) rfl cyX4_writeTimes w_1033 w_1035 w_10 (rc_ok eu26 rfl (by decide)) (by rfl) (by omega) (by omega) (by rfl) (Nat.le_of_ble_eq_true rfl) dX4_describeSheet_100 (Or.inl rfl) (fun v M9 q _ => ?_) (fun E M9 q _ => (Sum.inr_ne_inl q.1).elim)
          obtain rfl : v = none := Sum.inl.inj q.1
          obtain rfl := q.2.symm
          refine fr_st (S' := []) rfl ?_
          obtain rfl := Option.some.inj h
          exact fr_vret rfl dX4_describeSheet_103 ⟨rfl, rfl⟩
        · rw [if_neg c24] at h
          refine fr_iconst (v := 1) dX4_describeSheet_95 (by decide) ?_
          refine fr_goto 100 dX4_describeSheet_96 (by decide) ?_
          obtain ⟨u28, eu28, h⟩ := ob h
          try dsimp only at h
          obtain ⟨r27, er27, h⟩ := ob h
          try dsimp only at h
          refine fr_callV (g1 := false) (k2 := 0) (ev_X4_writeTimes er27) rfl cyX4_writeTimes w_1033 w_1035 w_10 (rc_ok eu28 rfl (by decide)) (by rfl) (by omega) (by omega) (by rfl) (Nat.le_of_ble_eq_true rfl) dX4_describeSheet_100 (Or.inl rfl) (fun v M9 q _ => ?_) (fun E M9 q _ => (Sum.inr_ne_inl q.1).elim)
          obtain rfl : v = none := Sum.inl.inj q.1
          obtain rfl := q.2.symm
          refine fr_st (S' := []) rfl ?_
          obtain rfl := Option.some.inj h
          exact fr_vret rfl dX4_describeSheet_103 ⟨rfl, rfl⟩
      · subst e9
        try dsimp only at h
        obtain rfl := Option.some.inj h
        exact ⟨rfl, rfl⟩
    · rw [if_neg c12] at h
      refine fr_aload_n 0 dX4_describeSheet_43 rfl ?_
      refine fr_bipush (v := 124) dX4_describeSheet_44 (by decide) ?_
      obtain ⟨u30, eu30, h⟩ := ob h
      try dsimp only at h
      obtain ⟨r29, er29, h⟩ := ob h
      try dsimp only at h
      refine fr_callV (g1 := false) (k2 := 0) (ev_X4_write er29) rfl cyX4_write w_1023 w_1025 w_8 (rc_ok eu30 rfl (by decide)) (by rfl) (by omega) (by omega) (by rfl) (Nat.le_of_ble_eq_true rfl) dX4_describeSheet_46 (Or.inl rfl) (fun v M9 q _ => ?_) (fun E M9 q _ => (Sum.inr_ne_inl q.1).elim)
      obtain rfl : v = none := Sum.inl.inj q.1
      obtain rfl := q.2.symm
      refine fr_st (S' := []) rfl ?_
      refine fr_iconst (v := 0) dX4_describeSheet_49 (by decide) ?_
      refine fr_istore_n (L' := [(0, .ref p0a), (1, .ref p1a), (2, .int 0)]) dX4_describeSheet_50 (by decide) rfl ?_
      obtain ⟨q31, eq31, h⟩ := ob h
      try dsimp only at h
      refine lp_X4_describeSheet_51_ok (by omega) 100 _ _ q31 eq31 (fun q31_2 q31_M e9 => ?_) (fun q31_r e9 => ?_)
      · subst e9
        try dsimp only at h
        refine fr_aload_n 0 dX4_describeSheet_75 rfl ?_
        refine fr_bipush (v := 42) dX4_describeSheet_76 (by decide) ?_
        refine fr_aload_n 1 dX4_describeSheet_78 rfl ?_
        obtain ⟨x32, ex32, h⟩ := ob h
        try dsimp only at h
        refine fr_gI cb7 4 (by decide) rfl w_88 dX4_describeSheet_79 ex32 ?_
        obtain ⟨u34, eu34, h⟩ := ob h
        try dsimp only at h
        obtain ⟨r33, er33, h⟩ := ob h
        try dsimp only at h
        refine fr_callV (g1 := false) (k2 := 0) (ev_X4_writeTimes er33) rfl cyX4_writeTimes w_1033 w_1035 w_10 (rc_ok eu34 rfl (by decide)) (by rfl) (by omega) (by omega) (by rfl) (Nat.le_of_ble_eq_true rfl) dX4_describeSheet_82 (Or.inl rfl) (fun v M9 q _ => ?_) (fun E M9 q _ => (Sum.inr_ne_inl q.1).elim)
        obtain rfl : v = none := Sum.inl.inj q.1
        obtain rfl := q.2.symm
        refine fr_st (S' := []) rfl ?_
        refine fr_aload_n 0 dX4_describeSheet_85 rfl ?_
        refine fr_bipush (v := 35) dX4_describeSheet_86 (by decide) ?_
        refine fr_aload_n 1 dX4_describeSheet_88 rfl ?_
        obtain ⟨x35, ex35, h⟩ := ob h
        try dsimp only at h
        refine fr_gI cb7 5 (by decide) rfl w_92 dX4_describeSheet_89 ex35 ?_
        refine fr_if_eq 99 dX4_describeSheet_92 (by decide) (fun c36 => ?_) (fun c36 => ?_)
        · rw [if_pos c36] at h
          refine fr_iconst (v := 0) dX4_describeSheet_99 (by decide) ?_
          obtain ⟨u38, eu38, h⟩ := ob h
          try dsimp only at h
          obtain ⟨r37, er37, h⟩ := ob h
          try dsimp only at h
          refine fr_callV (g1 := false) (k2 := 0) (ev_X4_writeTimes er37) rfl cyX4_writeTimes w_1033 w_1035 w_10 (rc_ok eu38 rfl (by decide)) (by rfl) (by omega) (by omega) (by rfl) (Nat.le_of_ble_eq_true rfl) dX4_describeSheet_100 (Or.inl rfl) (fun v M9 q _ => ?_) (fun E M9 q _ => (Sum.inr_ne_inl q.1).elim)
          obtain rfl : v = none := Sum.inl.inj q.1
          obtain rfl := q.2.symm
          refine fr_st (S' := []) rfl ?_
          obtain rfl := Option.some.inj h
          exact fr_vret rfl dX4_describeSheet_103 ⟨rfl, rfl⟩
        · rw [if_neg c36] at h
          refine fr_iconst (v := 1) dX4_describeSheet_95 (by decide) ?_
          refine fr_goto 100 dX4_describeSheet_96 (by decide) ?_
          obtain ⟨u40, eu40, h⟩ := ob h
          try dsimp only at h
          obtain ⟨r39, er39, h⟩ := ob h
          try dsimp only at h
          refine fr_callV (g1 := false) (k2 := 0) (ev_X4_writeTimes er39) rfl cyX4_writeTimes w_1033 w_1035 w_10 (rc_ok eu40 rfl (by decide)) (by rfl) (by omega) (by omega) (by rfl) (Nat.le_of_ble_eq_true rfl) dX4_describeSheet_100 (Or.inl rfl) (fun v M9 q _ => ?_) (fun E M9 q _ => (Sum.inr_ne_inl q.1).elim)
          obtain rfl : v = none := Sum.inl.inj q.1
          obtain rfl := q.2.symm
          refine fr_st (S' := []) rfl ?_
          obtain rfl := Option.some.inj h
          exact fr_vret rfl dX4_describeSheet_103 ⟨rfl, rfl⟩
      · subst e9
        try dsimp only at h
        obtain rfl := Option.some.inj h
        exact ⟨rfl, rfl⟩
  · subst e9
    try dsimp only at h
    obtain rfl := Option.some.inj h
    exact ⟨rfl, rfl⟩
def f_X10_writeSheet (p0a : Nat) (x1a : Int32) (M : Mem) : Option ((Int32 ⊕ String) × Mem) := (gP M 10 p0a 7).bind fun p1 => (rc M 10 p0a).bind fun _ => (f_X10_demandedSheet p0a x1a M).bind fun r2 => (match r2 with | .inl r2v => ((rc M 5 p1).bind fun _ => (f_X4_describeSheet p1 r2v M).bind fun r4 => (gP r4.2 10 p0a 7).bind fun p6 => (gI r4.2 5 p6 1).bind fun x7 => some ((.inl x7), r4.2)) | .inr r2E => (some ((.inr r2E), M)))
set_option maxRecDepth 20000 in
theorem ev_X10_writeSheet {G : Nat × (Nat → Int32) × Value} {p0a : Nat} {x1a : Int32} {M : Mem} {r : (Int32 ⊕ String) × Mem} (h : f_X10_writeSheet p0a x1a M = some r) : Ev (roG G) false YX10_writeSheet 8 1 [.ref p0a, .int x1a] M (fun a b => a = (wE wI) r.1 ∧ b = r.2) := by
  refine ev_of cyX10_writeSheet.2.2.2.2 (Nat.le_of_ble_eq_true rfl) ?_
  show Fr _ _ _ _ _ _ 0 [(0, .ref p0a), (1, .int x1a)] [] M _
  unfold f_X10_writeSheet at h
  refine fr_aload_n 0 dX10_writeSheet_0 rfl ?_
  obtain ⟨p1, ep1, h⟩ := ob h
  try dsimp only at h
  refine fr_gP cb10 7 (by decide) rfl w_234 dX10_writeSheet_1 ep1 ?_
  refine fr_aload_n 0 dX10_writeSheet_4 rfl ?_
  refine fr_iload_n 1 dX10_writeSheet_5 rfl ?_
  obtain ⟨u3, eu3, h⟩ := ob h
  try dsimp only at h
  obtain ⟨r2, er2, h⟩ := ob h
  try dsimp only at h
  rcases r2 with r2v | r2E
  · try dsimp only at h
    refine fr_callV (g1 := false) (k2 := 0) (ev_X10_demandedSheet er2) rfl cyX10_demandedSheet w_655 w_657 w_2 (rc_ok eu3 rfl (by decide)) (by rfl) (by omega) (by omega) (by rfl) (Nat.le_of_ble_eq_true rfl) dX10_writeSheet_6 (Or.inl rfl) (fun v M9 q _ => ?_) (fun E M9 q _ => (Sum.inr_ne_inl q.1).elim)
    obtain rfl : v = some (.ref r2v) := Sum.inl.inj q.1
    obtain rfl := q.2.symm
    refine fr_st (S' := [.ref r2v, .ref p1]) rfl ?_
    obtain ⟨u5, eu5, h⟩ := ob h
    try dsimp only at h
    obtain ⟨r4, er4, h⟩ := ob h
    try dsimp only at h
    refine fr_callV (g1 := false) (k2 := 0) (ev_X4_describeSheet er4) rfl cyX4_describeSheet w_1114 w_1115 w_1116 (rc_ok eu5 rfl (by decide)) (by rfl) (by omega) (by omega) (by rfl) (Nat.le_of_ble_eq_true rfl) dX10_writeSheet_9 (Or.inl rfl) (fun v M9 q _ => ?_) (fun E M9 q _ => (Sum.inr_ne_inl q.1).elim)
    obtain rfl : v = none := Sum.inl.inj q.1
    obtain rfl := q.2.symm
    refine fr_st (S' := []) rfl ?_
    refine fr_aload_n 0 dX10_writeSheet_12 rfl ?_
    obtain ⟨p6, ep6, h⟩ := ob h
    try dsimp only at h
    refine fr_gP cb10 7 (by decide) rfl w_234 dX10_writeSheet_13 ep6 ?_
    obtain ⟨x7, ex7, h⟩ := ob h
    try dsimp only at h
    refine fr_gI cb5 1 (by decide) rfl w_221 dX10_writeSheet_16 ex7 ?_
    obtain rfl := Option.some.inj h
    exact fr_iret rfl dX10_writeSheet_19 ⟨rfl, rfl⟩
  · try dsimp only at h
    refine fr_callV (g1 := false) (k2 := 0) (ev_X10_demandedSheet er2) rfl cyX10_demandedSheet w_655 w_657 w_2 (rc_ok eu3 rfl (by decide)) (by rfl) (by omega) (by omega) (by rfl) (Nat.le_of_ble_eq_true rfl) dX10_writeSheet_6 (Or.inl rfl) (fun v M9 q _ => (Sum.inl_ne_inr q.1).elim) (fun E M9 q _ => ?_)
    obtain rfl : r2E = E := (Sum.inr.inj q.1).symm
    obtain rfl := q.2.symm
    obtain rfl := Option.some.inj h
    exact fx_no rfl ⟨rfl, rfl⟩
def f_L_writeSheet (p0a : Nat) (x1a : Int32) (M : Mem) : Option (Int32 × Mem) := (rc M 10 p0a).bind fun _ => (f_X10_writeSheet p0a x1a M).bind fun r1 => (match r1 with | (.inl r1v, r1M) => (some (r1v, r1M)) | (.inr r1E, r1M) => (if r1E = "java/lang/IndexOutOfBoundsException" then (some ((-1001), r1M)) else none))
set_option maxRecDepth 20000 in
theorem ev_L_writeSheet {G : Nat × (Nat → Int32) × Value} {p0a : Nat} {x1a : Int32} {M : Mem} {r : Int32 × Mem} (h : f_L_writeSheet p0a x1a M = some r) : Ev (roG G) false YL_writeSheet 9 1 [.ref p0a, .int x1a] M (fun a b => a = wI r.1 ∧ b = r.2) := by
  refine ev_of cyL_writeSheet.2.2.2.2 (Nat.le_of_ble_eq_true rfl) ?_
  show Fr _ _ _ _ _ _ 0 [(0, .ref p0a), (1, .int x1a)] [] M _
  unfold f_L_writeSheet at h
  refine fr_aload_n 0 dL_writeSheet_0 rfl ?_
  refine fr_iload_n 1 dL_writeSheet_1 rfl ?_
  obtain ⟨u2, eu2, h⟩ := ob h
  try dsimp only at h
  obtain ⟨r1, er1, h⟩ := ob h
  try dsimp only at h
  obtain ⟨r1v | r1E, r1M⟩ := r1
  · try dsimp only at h
    refine fr_callV (g1 := false) (k2 := 0) (ev_X10_writeSheet er1) rfl cyX10_writeSheet w_1110 w_1111 w_1112 (rc_ok eu2 rfl (by decide)) (by rfl) (by omega) (by omega) (by rfl) (Nat.le_of_ble_eq_true rfl) dL_writeSheet_2 (Or.inl rfl) (fun v M9 q _ => ?_) (fun E M9 q _ => (Sum.inr_ne_inl q.1).elim)
    obtain rfl : v = some (.int r1v) := Sum.inl.inj q.1
    obtain rfl := q.2.symm
    refine fr_st (S' := [.int r1v]) rfl ?_
    obtain rfl := Option.some.inj h
    exact fr_iret rfl dL_writeSheet_5 ⟨rfl, rfl⟩
  · try dsimp only at h
    refine fr_callV (g1 := false) (k2 := 0) (ev_X10_writeSheet er1) rfl cyX10_writeSheet w_1110 w_1111 w_1112 (rc_ok eu2 rfl (by decide)) (by rfl) (by omega) (by omega) (by rfl) (Nat.le_of_ble_eq_true rfl) dL_writeSheet_2 (Or.inl rfl) (fun v M9 q _ => (Sum.inl_ne_inr q.1).elim) (fun E M9 q _ => ?_)
    obtain rfl : r1E = E := (Sum.inr.inj q.1).symm
    obtain rfl := q.2.symm
    by_cases e3_0 : r1E = "java/lang/IndexOutOfBoundsException"
    · rw [if_pos e3_0] at h
      subst e3_0
      refine fx_catch (E := "java/lang/IndexOutOfBoundsException") (name := "java/lang/IndexOutOfBoundsException") (L' := [(0, .ref p0a), (1, .int x1a)]) [] { startPc := 0, endPc := 5, handlerPc := 6, catchType := 21 } [] rfl ?_ (by decide) (by decide) w_474 (show _ ∈ roC from List.mem_of_getElem? (i := 0) rfl) 2 1 (by decide) (Or.inl ⟨2, rfl, rfl, dL_writeSheet_6⟩) rfl ?_
      · intro z hz; cases hz
      refine fr_sipush (v := (-1001)) dL_writeSheet_7 (by decide) ?_
      obtain rfl := Option.some.inj h
      exact fr_iret rfl dL_writeSheet_10 ⟨rfl, rfl⟩
    rw [if_neg e3_0] at h
    cases h
def f_Jxe99ae_isNaN_b9ae7 (d0a : UInt64) (M : Mem) : Option (Int32) := if (Op.cmpValue (FP.dcmp d0a d0a) .l) = 0 then (some 0) else (some 1)
set_option maxRecDepth 20000 in
theorem ev_Jxe99ae_isNaN_b9ae7 {G : Nat × (Nat → Int32) × Value} {d0a : UInt64} {M : Mem} {r : Int32} (h : f_Jxe99ae_isNaN_b9ae7 d0a M = some r) : Ev (roG G) false YJxe99ae_isNaN_b9ae7 0 0 [.double d0a] M (fun a b => a = wI r ∧ b = M) := by
  refine ev_of cyJxe99ae_isNaN_b9ae7.2.2.2.2 (Nat.le_of_ble_eq_true rfl) ?_
  show Fr _ _ _ _ _ _ 0 [(0, .double d0a)] [] M _
  unfold f_Jxe99ae_isNaN_b9ae7 at h
  refine fr_dload_n 0 dJxe99ae_isNaN_b9ae7_0 rfl ?_
  refine fr_dload_n 0 dJxe99ae_isNaN_b9ae7_1 rfl ?_
  refine fr_dcmp dJxe99ae_isNaN_b9ae7_2 ?_
  refine fr_if_eq 10 dJxe99ae_isNaN_b9ae7_3 (by decide) (fun c1 => ?_) (fun c1 => ?_)
  · rw [if_pos c1] at h
    refine fr_iconst (v := 0) dJxe99ae_isNaN_b9ae7_10 (by decide) ?_
    obtain rfl := Option.some.inj h
    exact fr_zret (ty := .boolean) rfl rfl dJxe99ae_isNaN_b9ae7_11 ⟨rfl, rfl⟩
  · rw [if_neg c1] at h
    refine fr_iconst (v := 1) dJxe99ae_isNaN_b9ae7_6 (by decide) ?_
    refine fr_goto 11 dJxe99ae_isNaN_b9ae7_7 (by decide) ?_
    obtain rfl := Option.some.inj h
    exact fr_zret (ty := .boolean) rfl rfl dJxe99ae_isNaN_b9ae7_11 ⟨rfl, rfl⟩
def f_Jxe99ae_doubleToLongBits_ccdee (d0a : UInt64) (M : Mem) : Option (Int64) := (f_Jxe99ae_isNaN_b9ae7 d0a M).bind fun r1 => if r1 = 0 then (some (UInt64.toInt64 d0a)) else (some 9221120237041090560)
set_option maxRecDepth 20000 in
theorem ev_Jxe99ae_doubleToLongBits_ccdee {G : Nat × (Nat → Int32) × Value} {d0a : UInt64} {M : Mem} {r : Int64} (h : f_Jxe99ae_doubleToLongBits_ccdee d0a M = some r) : Ev (roG G) false YJxe99ae_doubleToLongBits_ccdee 1 0 [.double d0a] M (fun a b => a = wJ r ∧ b = M) := by
  refine ev_of cyJxe99ae_doubleToLongBits_ccdee.2.2.2.2 (Nat.le_of_ble_eq_true rfl) ?_
  show Fr _ _ _ _ _ _ 0 [(0, .double d0a)] [] M _
  unfold f_Jxe99ae_doubleToLongBits_ccdee at h
  refine fr_dload_n 0 dJxe99ae_doubleToLongBits_ccdee_0 rfl ?_
  obtain ⟨r1, er1, h⟩ := ob h
  try dsimp only at h
  refine fr_callS (g1 := false) (k2 := 0) (ev_Jxe99ae_isNaN_b9ae7 er1) rfl cyJxe99ae_isNaN_b9ae7 w_916 w_917 (by rfl) (by omega) (by omega) (by rfl) (Nat.le_of_ble_eq_true rfl) dJxe99ae_doubleToLongBits_ccdee_1 (Or.inl rfl) (fun v M9 q _ => ?_) (fun E M9 q _ => (Sum.inr_ne_inl q.1).elim)
  obtain rfl : v = some (.int r1) := Sum.inl.inj q.1
  obtain rfl := q.2.symm
  refine fr_st (S' := [.int r1]) rfl ?_
  refine fr_if_ne 12 dJxe99ae_doubleToLongBits_ccdee_4 (by decide) (fun c2 => ?_) (fun c2 => ?_)
  · rw [if_neg c2] at h
    refine fr_ldc2 (v := 9221120237041090560) dJxe99ae_doubleToLongBits_ccdee_12 w_922 ?_
    obtain rfl := Option.some.inj h
    exact fr_lret rfl dJxe99ae_doubleToLongBits_ccdee_15 ⟨rfl, rfl⟩
  · rw [if_pos c2] at h
    refine fr_dload_n 0 dJxe99ae_doubleToLongBits_ccdee_7 rfl ?_
    refine fr_d2l w_919 w_921 w_920 w_42 (by omega) (Nat.le_of_ble_eq_true rfl) dJxe99ae_doubleToLongBits_ccdee_8 ?_
    obtain rfl := Option.some.inj h
    exact fr_lret rfl dJxe99ae_doubleToLongBits_ccdee_11 ⟨rfl, rfl⟩
def f_Jxf58ca_isNaN_12338 (f0a : UInt32) (M : Mem) : Option (Int32) := if (Op.cmpValue (FP.fcmp f0a f0a) .l) = 0 then (some 0) else (some 1)
set_option maxRecDepth 20000 in
theorem ev_Jxf58ca_isNaN_12338 {G : Nat × (Nat → Int32) × Value} {f0a : UInt32} {M : Mem} {r : Int32} (h : f_Jxf58ca_isNaN_12338 f0a M = some r) : Ev (roG G) false YJxf58ca_isNaN_12338 0 0 [.float f0a] M (fun a b => a = wI r ∧ b = M) := by
  refine ev_of cyJxf58ca_isNaN_12338.2.2.2.2 (Nat.le_of_ble_eq_true rfl) ?_
  show Fr _ _ _ _ _ _ 0 [(0, .float f0a)] [] M _
  unfold f_Jxf58ca_isNaN_12338 at h
  refine fr_fload_n 0 dJxf58ca_isNaN_12338_0 rfl ?_
  refine fr_fload_n 0 dJxf58ca_isNaN_12338_1 rfl ?_
  refine fr_fcmp dJxf58ca_isNaN_12338_2 ?_
  refine fr_if_eq 10 dJxf58ca_isNaN_12338_3 (by decide) (fun c1 => ?_) (fun c1 => ?_)
  · rw [if_pos c1] at h
    refine fr_iconst (v := 0) dJxf58ca_isNaN_12338_10 (by decide) ?_
    obtain rfl := Option.some.inj h
    exact fr_zret (ty := .boolean) rfl rfl dJxf58ca_isNaN_12338_11 ⟨rfl, rfl⟩
  · rw [if_neg c1] at h
    refine fr_iconst (v := 1) dJxf58ca_isNaN_12338_6 (by decide) ?_
    refine fr_goto 11 dJxf58ca_isNaN_12338_7 (by decide) ?_
    obtain rfl := Option.some.inj h
    exact fr_zret (ty := .boolean) rfl rfl dJxf58ca_isNaN_12338_11 ⟨rfl, rfl⟩
def f_Jxf58ca_floatToIntBits_5c35a (f0a : UInt32) (M : Mem) : Option (Int32) := (f_Jxf58ca_isNaN_12338 f0a M).bind fun r1 => if r1 = 0 then (some (UInt32.toInt32 f0a)) else (some 2143289344)
set_option maxRecDepth 20000 in
theorem ev_Jxf58ca_floatToIntBits_5c35a {G : Nat × (Nat → Int32) × Value} {f0a : UInt32} {M : Mem} {r : Int32} (h : f_Jxf58ca_floatToIntBits_5c35a f0a M = some r) : Ev (roG G) false YJxf58ca_floatToIntBits_5c35a 1 0 [.float f0a] M (fun a b => a = wI r ∧ b = M) := by
  refine ev_of cyJxf58ca_floatToIntBits_5c35a.2.2.2.2 (Nat.le_of_ble_eq_true rfl) ?_
  show Fr _ _ _ _ _ _ 0 [(0, .float f0a)] [] M _
  unfold f_Jxf58ca_floatToIntBits_5c35a at h
  refine fr_fload_n 0 dJxf58ca_floatToIntBits_5c35a_0 rfl ?_
  obtain ⟨r1, er1, h⟩ := ob h
  try dsimp only at h
  refine fr_callS (g1 := false) (k2 := 0) (ev_Jxf58ca_isNaN_12338 er1) rfl cyJxf58ca_isNaN_12338 w_935 w_936 (by rfl) (by omega) (by omega) (by rfl) (Nat.le_of_ble_eq_true rfl) dJxf58ca_floatToIntBits_5c35a_1 (Or.inl rfl) (fun v M9 q _ => ?_) (fun E M9 q _ => (Sum.inr_ne_inl q.1).elim)
  obtain rfl : v = some (.int r1) := Sum.inl.inj q.1
  obtain rfl := q.2.symm
  refine fr_st (S' := [.int r1]) rfl ?_
  refine fr_if_ne 12 dJxf58ca_floatToIntBits_5c35a_4 (by decide) (fun c2 => ?_) (fun c2 => ?_)
  · rw [if_neg c2] at h
    refine fr_ldci (v := 2143289344) w_941 dJxf58ca_floatToIntBits_5c35a_12 ?_
    obtain rfl := Option.some.inj h
    exact fr_iret rfl dJxf58ca_floatToIntBits_5c35a_14 ⟨rfl, rfl⟩
  · rw [if_pos c2] at h
    refine fr_fload_n 0 dJxf58ca_floatToIntBits_5c35a_7 rfl ?_
    refine fr_f2i w_938 w_940 w_939 w_43 (by omega) (Nat.le_of_ble_eq_true rfl) dJxf58ca_floatToIntBits_5c35a_8 ?_
    obtain rfl := Option.some.inj h
    exact fr_iret rfl dJxf58ca_floatToIntBits_5c35a_11 ⟨rfl, rfl⟩
