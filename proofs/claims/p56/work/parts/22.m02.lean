/-! ===== methods, 2: X9_countNeighbourPairs X10_matchedBorders X10_paste X9_sheetLaidIn X9_countKindBeside J9_max_7cf53 X5_ofCity X9_countBeside X5_inCell X5_sheetBySheet X10_points X10_sheetCount X10_usedPaste X4_write X4_writeDigit X4_writeTimes ===== -/
def lp_X9_countNeighbourPairs_12 (p_0 : Nat) (x_2 : Int32) (M_ : Mem) : Nat → Int32 → Int32 → Option ((Int32 × Int32) ⊕ (Int32))
  | 0, _, _ => none
  | n + 1, x_1, x_3 => if 2 < x_3 then (some (.inl (x_1, x_3))) else ((rc M_ 9 p_0).bind fun _ => (f_X9_isOccupied p_0 x_2 M_).bind fun r3 => if r3 = 0 then (lp_X9_countNeighbourPairs_12 p_0 x_2 M_ n x_1 (x_3 + 1)) else ((rc M_ 9 p_0).bind fun _ => (f_X9_isOccupiedBeside p_0 x_2 x_3 M_).bind fun r6 => if r6 = 0 then (lp_X9_countNeighbourPairs_12 p_0 x_2 M_ n x_1 (x_3 + 1)) else (lp_X9_countNeighbourPairs_12 p_0 x_2 M_ n (x_1 + 1) (x_3 + 1))))
def lp_X9_countNeighbourPairs_4 (p_0 : Nat) (M_ : Mem) : Nat → Int32 → Int32 → Option ((Int32 × Int32) ⊕ (Int32))
  | 0, _, _ => none
  | n + 1, x_1, x_2 => if 9 ≤ x_2 then (some (.inl (x_1, x_2))) else ((lp_X9_countNeighbourPairs_12 p_0 x_2 M_ 100 x_1 1).bind fun q9 => match q9 with | .inl (q9_1, q9_3) => (lp_X9_countNeighbourPairs_4 p_0 M_ n q9_1 (x_2 + 1)) | .inr q9_r => some (.inr q9_r))
def f_X9_countNeighbourPairs (p0a : Nat) (M : Mem) : Option (Int32) := ((lp_X9_countNeighbourPairs_4 p0a M 100 0 0).bind fun q10 => match q10 with | .inl (q10_1, q10_2) => (some q10_1) | .inr q10_r => some q10_r)
set_option maxRecDepth 20000 in
theorem lp_X9_countNeighbourPairs_12_ok {G : Nat × (Nat → Int32) × Value} {P : Res → Mem → Prop} {n0 d ke : Nat} {p_0 : Nat} {x_2 : Int32} {M_ : Mem} (hd : 2 ≤ d) : ∀ (n : Nat) (x_1 : Int32) (x_3 : Int32) (res : (Int32 × Int32) ⊕ (Int32)), lp_X9_countNeighbourPairs_12 p_0 x_2 M_ n x_1 x_3 = some res → (∀ (y_1 : Int32) (y_3 : Int32), res = .inl (y_1, y_3) → Fr (roG G) false n0 YX9_countNeighbourPairs d ke 43 [(0, .ref p_0), (1, .int y_1), (2, .int x_2), (3, .int y_3)] [] M_ P) → (∀ r : Int32, res = .inr r → P (wI r) M_) → Fr (roG G) false n0 YX9_countNeighbourPairs d ke 12 [(0, .ref p_0), (1, .int x_1), (2, .int x_2), (3, .int x_3)] [] M_ P := by
  intro n
  induction n with
  | zero => intro x_1 x_3 res h; unfold lp_X9_countNeighbourPairs_12 at h; cases h
  | succ n ih =>
    intro x_1 x_3 res h he hr
    unfold lp_X9_countNeighbourPairs_12 at h
    refine fr_iload_n 3 dX9_countNeighbourPairs_12 rfl ?_
    refine fr_iconst (v := 2) dX9_countNeighbourPairs_13 (by decide) ?_
    refine fr_icmp_gt 43 dX9_countNeighbourPairs_14 (by decide) (fun c2 => ?_) (fun c2 => ?_)
    · rw [if_pos c2] at h
      obtain rfl := Option.some.inj h
      exact he _ _ rfl
    · rw [if_neg c2] at h
      refine fr_aload_n 0 dX9_countNeighbourPairs_17 rfl ?_
      refine fr_iload_n 2 dX9_countNeighbourPairs_18 rfl ?_
      obtain ⟨u4, eu4, h⟩ := ob h
      try dsimp only at h
      obtain ⟨r3, er3, h⟩ := ob h
      try dsimp only at h
      refine fr_callV (g1 := false) (k2 := ke) (ev_X9_isOccupied er3) rfl cyX9_isOccupied w_579 w_580 w_581 (rc_ok eu4 rfl (by decide)) (by rfl) (by omega) (by omega) (by rfl) (Nat.le_of_ble_eq_true rfl) dX9_countNeighbourPairs_19 (Or.inl rfl) (fun v M9 q _ => ?_) (fun E M9 q _ => (Sum.inr_ne_inl q.1).elim)
      obtain rfl : v = some (.int r3) := Sum.inl.inj q.1
      obtain rfl := q.2.symm
      refine fr_st (S' := [.int r3]) rfl ?_
      refine fr_if_eq 37 dX9_countNeighbourPairs_22 (by decide) (fun c5 => ?_) (fun c5 => ?_)
      · rw [if_pos c5] at h
        refine fr_iinc (v := (x_3 + 1)) (L' := [(0, .ref p_0), (1, .int x_1), (2, .int x_2), (3, .int (x_3 + 1))]) 3 dX9_countNeighbourPairs_37 rfl rfl (by decide) rfl ?_
        refine fr_goto 12 dX9_countNeighbourPairs_40 (by decide) ?_
        exact ih _ _ _ h he hr
      · rw [if_neg c5] at h
        refine fr_aload_n 0 dX9_countNeighbourPairs_25 rfl ?_
        refine fr_iload_n 2 dX9_countNeighbourPairs_26 rfl ?_
        refine fr_iload_n 3 dX9_countNeighbourPairs_27 rfl ?_
        obtain ⟨u7, eu7, h⟩ := ob h
        try dsimp only at h
        obtain ⟨r6, er6, h⟩ := ob h
        try dsimp only at h
        refine fr_callV (g1 := false) (k2 := ke) (ev_X9_isOccupiedBeside er6) rfl cyX9_isOccupiedBeside w_587 w_588 w_589 (rc_ok eu7 rfl (by decide)) (by rfl) (by omega) (by omega) (by rfl) (Nat.le_of_ble_eq_true rfl) dX9_countNeighbourPairs_28 (Or.inl rfl) (fun v M9 q _ => ?_) (fun E M9 q _ => (Sum.inr_ne_inl q.1).elim)
        obtain rfl : v = some (.int r6) := Sum.inl.inj q.1
        obtain rfl := q.2.symm
        refine fr_st (S' := [.int r6]) rfl ?_
        refine fr_if_eq 37 dX9_countNeighbourPairs_31 (by decide) (fun c8 => ?_) (fun c8 => ?_)
        · rw [if_pos c8] at h
          refine fr_iinc (v := (x_3 + 1)) (L' := [(0, .ref p_0), (1, .int x_1), (2, .int x_2), (3, .int (x_3 + 1))]) 3 dX9_countNeighbourPairs_37 rfl rfl (by decide) rfl ?_
          refine fr_goto 12 dX9_countNeighbourPairs_40 (by decide) ?_
          exact ih _ _ _ h he hr
        · rw [if_neg c8] at h
          refine fr_iinc (v := (x_1 + 1)) (L' := [(0, .ref p_0), (1, .int (x_1 + 1)), (2, .int x_2), (3, .int x_3)]) 1 dX9_countNeighbourPairs_34 rfl rfl (by decide) rfl ?_
          refine fr_iinc (v := (x_3 + 1)) (L' := [(0, .ref p_0), (1, .int (x_1 + 1)), (2, .int x_2), (3, .int (x_3 + 1))]) 3 dX9_countNeighbourPairs_37 rfl rfl (by decide) rfl ?_
          refine fr_goto 12 dX9_countNeighbourPairs_40 (by decide) ?_
          exact ih _ _ _ h he hr
set_option maxRecDepth 20000 in
theorem lp_X9_countNeighbourPairs_4_ok {G : Nat × (Nat → Int32) × Value} {P : Res → Mem → Prop} {n0 d ke : Nat} {p_0 : Nat} {M_ : Mem} (hd : 2 ≤ d) : ∀ (n : Nat) (x_1 : Int32) (x_2 : Int32) (res : (Int32 × Int32) ⊕ (Int32)), lp_X9_countNeighbourPairs_4 p_0 M_ n x_1 x_2 = some res → (∀ (y_1 : Int32) (y_2 : Int32), res = .inl (y_1, y_2) → Fr (roG G) false n0 YX9_countNeighbourPairs d ke 49 [(0, .ref p_0), (1, .int y_1), (2, .int y_2)] [] M_ P) → (∀ r : Int32, res = .inr r → P (wI r) M_) → Fr (roG G) false n0 YX9_countNeighbourPairs d ke 4 [(0, .ref p_0), (1, .int x_1), (2, .int x_2)] [] M_ P := by
  intro n
  induction n with
  | zero => intro x_1 x_2 res h; unfold lp_X9_countNeighbourPairs_4 at h; cases h
  | succ n ih =>
    intro x_1 x_2 res h he hr
    unfold lp_X9_countNeighbourPairs_4 at h
    refine fr_iload_n 2 dX9_countNeighbourPairs_4 rfl ?_
    refine fr_bipush (v := 9) dX9_countNeighbourPairs_5 (by decide) ?_
    refine fr_icmp_ge 49 dX9_countNeighbourPairs_7 (by decide) (fun c1 => ?_) (fun c1 => ?_)
    · rw [if_pos c1] at h
      obtain rfl := Option.some.inj h
      exact he _ _ rfl
    · rw [if_neg c1] at h
      refine fr_iconst (v := 1) dX9_countNeighbourPairs_10 (by decide) ?_
      refine fr_istore_n (L' := [(0, .ref p_0), (1, .int x_1), (2, .int x_2), (3, .int 1)]) dX9_countNeighbourPairs_11 (by decide) rfl ?_
      obtain ⟨q9, eq9, h⟩ := ob h
      try dsimp only at h
      refine lp_X9_countNeighbourPairs_12_ok (by omega) 100 _ _ q9 eq9 (fun q9_1 q9_3 e9 => ?_) (fun q9_r e9 => ?_)
      · subst e9
        try dsimp only at h
        refine fr_iinc (v := (x_2 + 1)) (L' := [(0, .ref p_0), (1, .int q9_1), (2, .int (x_2 + 1)), (3, .int q9_3)]) 2 dX9_countNeighbourPairs_43 rfl rfl (by decide) rfl ?_
        refine fr_goto 4 dX9_countNeighbourPairs_46 (by decide) ?_
        refine fr_loc [0, 1, 2] (L' := [(0, .ref p_0), (1, .int q9_1), (2, .int (x_2 + 1))]) rfl ?_
        exact ih _ _ _ h he hr
      · subst e9
        try dsimp only at h
        obtain rfl := Option.some.inj h
        exact hr _ rfl
set_option maxRecDepth 20000 in
theorem ev_X9_countNeighbourPairs {G : Nat × (Nat → Int32) × Value} {p0a : Nat} {M : Mem} {r : Int32} (h : f_X9_countNeighbourPairs p0a M = some r) : Ev (roG G) false YX9_countNeighbourPairs 2 0 [.ref p0a] M (fun a b => a = wI r ∧ b = M) := by
  refine ev_of cyX9_countNeighbourPairs.2.2.2.2 (Nat.le_of_ble_eq_true rfl) ?_
  show Fr _ _ _ _ _ _ 0 [(0, .ref p0a)] [] M _
  unfold f_X9_countNeighbourPairs at h
  refine fr_iconst (v := 0) dX9_countNeighbourPairs_0 (by decide) ?_
  refine fr_istore_n (L' := [(0, .ref p0a), (1, .int 0)]) dX9_countNeighbourPairs_1 (by decide) rfl ?_
  refine fr_iconst (v := 0) dX9_countNeighbourPairs_2 (by decide) ?_
  refine fr_istore_n (L' := [(0, .ref p0a), (1, .int 0), (2, .int 0)]) dX9_countNeighbourPairs_3 (by decide) rfl ?_
  obtain ⟨q10, eq10, h⟩ := ob h
  try dsimp only at h
  refine lp_X9_countNeighbourPairs_4_ok (by omega) 100 _ _ q10 eq10 (fun q10_1 q10_2 e9 => ?_) (fun q10_r e9 => ?_)
  · subst e9
    try dsimp only at h
    refine fr_iload_n 1 dX9_countNeighbourPairs_49 rfl ?_
    obtain rfl := Option.some.inj h
    exact fr_iret rfl dX9_countNeighbourPairs_50 ⟨rfl, rfl⟩
  · subst e9
    try dsimp only at h
    obtain rfl := Option.some.inj h
    exact ⟨rfl, rfl⟩
def f_X10_matchedBorders (p0a : Nat) (M : Mem) : Option (Int32) := (gP M 10 p0a 0).bind fun p1 => (rc M 9 p1).bind fun _ => (f_X9_countNeighbourPairs p1 M).bind fun r2 => some r2
set_option maxRecDepth 20000 in
theorem ev_X10_matchedBorders {G : Nat × (Nat → Int32) × Value} {p0a : Nat} {M : Mem} {r : Int32} (h : f_X10_matchedBorders p0a M = some r) : Ev (roG G) false YX10_matchedBorders 3 0 [.ref p0a] M (fun a b => a = wI r ∧ b = M) := by
  refine ev_of cyX10_matchedBorders.2.2.2.2 (Nat.le_of_ble_eq_true rfl) ?_
  show Fr _ _ _ _ _ _ 0 [(0, .ref p0a)] [] M _
  unfold f_X10_matchedBorders at h
  refine fr_aload_n 0 dX10_matchedBorders_0 rfl ?_
  obtain ⟨p1, ep1, h⟩ := ob h
  try dsimp only at h
  refine fr_gP cb10 0 (by decide) rfl w_227 dX10_matchedBorders_1 ep1 ?_
  obtain ⟨u3, eu3, h⟩ := ob h
  try dsimp only at h
  obtain ⟨r2, er2, h⟩ := ob h
  try dsimp only at h
  refine fr_callV (g1 := false) (k2 := 0) (ev_X9_countNeighbourPairs er2) rfl cyX9_countNeighbourPairs w_992 w_993 w_994 (rc_ok eu3 rfl (by decide)) (by rfl) (by omega) (by omega) (by rfl) (Nat.le_of_ble_eq_true rfl) dX10_matchedBorders_4 (Or.inl rfl) (fun v M9 q _ => ?_) (fun E M9 q _ => (Sum.inr_ne_inl q.1).elim)
  obtain rfl : v = some (.int r2) := Sum.inl.inj q.1
  obtain rfl := q.2.symm
  refine fr_st (S' := [.int r2]) rfl ?_
  obtain rfl := Option.some.inj h
  exact fr_iret rfl dX10_matchedBorders_7 ⟨rfl, rfl⟩
def f_X10_paste (p0a : Nat) (M : Mem) : Option (Int32) := (gP M 10 p0a 0).bind fun p1 => (gI M 9 p1 3).bind fun x2 => some x2
set_option maxRecDepth 20000 in
theorem ev_X10_paste {G : Nat × (Nat → Int32) × Value} {p0a : Nat} {M : Mem} {r : Int32} (h : f_X10_paste p0a M = some r) : Ev (roG G) false YX10_paste 0 0 [.ref p0a] M (fun a b => a = wI r ∧ b = M) := by
  refine ev_of cyX10_paste.2.2.2.2 (Nat.le_of_ble_eq_true rfl) ?_
  show Fr _ _ _ _ _ _ 0 [(0, .ref p0a)] [] M _
  unfold f_X10_paste at h
  refine fr_aload_n 0 dX10_paste_0 rfl ?_
  obtain ⟨p1, ep1, h⟩ := ob h
  try dsimp only at h
  refine fr_gP cb10 0 (by decide) rfl w_227 dX10_paste_1 ep1 ?_
  obtain ⟨x2, ex2, h⟩ := ob h
  try dsimp only at h
  refine fr_gI cb9 3 (by decide) rfl w_129 dX10_paste_4 ex2 ?_
  obtain rfl := Option.some.inj h
  exact fr_iret rfl dX10_paste_7 ⟨rfl, rfl⟩
def f_X9_sheetLaidIn (p0a : Nat) (x1a : Int32) (M : Mem) : Option (Nat) := (gP M 9 p0a 0).bind fun p1 => (gP M 9 p0a 1).bind fun p2 => (aI M 100 p2 x1a).bind fun x3 => (aP M 120 p1 x3).bind fun p4 => some p4
set_option maxRecDepth 20000 in
theorem ev_X9_sheetLaidIn {G : Nat × (Nat → Int32) × Value} {p0a : Nat} {x1a : Int32} {M : Mem} {r : Nat} (h : f_X9_sheetLaidIn p0a x1a M = some r) : Ev (roG G) false YX9_sheetLaidIn 0 0 [.ref p0a, .int x1a] M (fun a b => a = wP r ∧ b = M) := by
  refine ev_of cyX9_sheetLaidIn.2.2.2.2 (Nat.le_of_ble_eq_true rfl) ?_
  show Fr _ _ _ _ _ _ 0 [(0, .ref p0a), (1, .int x1a)] [] M _
  unfold f_X9_sheetLaidIn at h
  refine fr_aload_n 0 dX9_sheetLaidIn_0 rfl ?_
  obtain ⟨p1, ep1, h⟩ := ob h
  try dsimp only at h
  refine fr_gP cb9 0 (by decide) rfl w_121 dX9_sheetLaidIn_1 ep1 ?_
  refine fr_aload_n 0 dX9_sheetLaidIn_4 rfl ?_
  obtain ⟨p2, ep2, h⟩ := ob h
  try dsimp only at h
  refine fr_gP cb9 1 (by decide) rfl w_123 dX9_sheetLaidIn_5 ep2 ?_
  refine fr_iload_n 1 dX9_sheetLaidIn_8 rfl ?_
  obtain ⟨x3, ex3, h⟩ := ob h
  try dsimp only at h
  refine fr_aI0 ex3 dX9_sheetLaidIn_9 ?_
  obtain ⟨p4, ep4, h⟩ := ob h
  try dsimp only at h
  refine fr_aP (t := 120) (by decide) ep4 dX9_sheetLaidIn_10 ?_
  obtain rfl := Option.some.inj h
  exact fr_aret (Or.inl ⟨_, rfl⟩) rfl dX9_sheetLaidIn_11 ⟨rfl, rfl⟩
def lp_X9_countKindBeside_5 (p_0 : Nat) (x_1 : Int32) (x_2 : Int32) (M_ : Mem) : Nat → Int32 → Int32 → Option ((Int32 × Int32) ⊕ (Int32))
  | 0, _, _ => none
  | n + 1, x_3, x_4 => if 4 ≤ x_4 then (some (.inl (x_3, x_4))) else ((rc M_ 9 p_0).bind fun _ => (f_X9_isOccupiedBeside p_0 x_1 x_4 M_).bind fun r2 => if r2 = 0 then (lp_X9_countKindBeside_5 p_0 x_1 x_2 M_ n x_3 (x_4 + 1)) else ((f_X10_neighbour x_1 x_4 M_).bind fun r5 => (rc M_ 9 p_0).bind fun _ => (f_X9_sheetLaidIn p_0 r5 M_).bind fun r6 => (gI M_ 7 r6 2).bind fun x8 => if x8 = x_2 then (lp_X9_countKindBeside_5 p_0 x_1 x_2 M_ n (x_3 + 1) (x_4 + 1)) else (lp_X9_countKindBeside_5 p_0 x_1 x_2 M_ n x_3 (x_4 + 1))))
def f_X9_countKindBeside (p0a : Nat) (x1a : Int32) (x2a : Int32) (M : Mem) : Option (Int32) := ((lp_X9_countKindBeside_5 p0a x1a x2a M 100 0 0).bind fun q10 => match q10 with | .inl (q10_3, q10_4) => (some q10_3) | .inr q10_r => some q10_r)
set_option maxRecDepth 20000 in
theorem lp_X9_countKindBeside_5_ok {G : Nat × (Nat → Int32) × Value} {P : Res → Mem → Prop} {n0 d ke : Nat} {p_0 : Nat} {x_1 : Int32} {x_2 : Int32} {M_ : Mem} (hd : 2 ≤ d) : ∀ (n : Nat) (x_3 : Int32) (x_4 : Int32) (res : (Int32 × Int32) ⊕ (Int32)), lp_X9_countKindBeside_5 p_0 x_1 x_2 M_ n x_3 x_4 = some res → (∀ (y_3 : Int32) (y_4 : Int32), res = .inl (y_3, y_4) → Fr (roG G) false n0 YX9_countKindBeside d ke 47 [(0, .ref p_0), (1, .int x_1), (2, .int x_2), (3, .int y_3), (4, .int y_4)] [] M_ P) → (∀ r : Int32, res = .inr r → P (wI r) M_) → Fr (roG G) false n0 YX9_countKindBeside d ke 5 [(0, .ref p_0), (1, .int x_1), (2, .int x_2), (3, .int x_3), (4, .int x_4)] [] M_ P := by
  intro n
  induction n with
  | zero => intro x_3 x_4 res h; unfold lp_X9_countKindBeside_5 at h; cases h
  | succ n ih =>
    intro x_3 x_4 res h he hr
    unfold lp_X9_countKindBeside_5 at h
    refine fr_iload 4 dX9_countKindBeside_5 rfl ?_
    refine fr_iconst (v := 4) dX9_countKindBeside_7 (by decide) ?_
    refine fr_icmp_ge 47 dX9_countKindBeside_8 (by decide) (fun c1 => ?_) (fun c1 => ?_)
    · rw [if_pos c1] at h
      obtain rfl := Option.some.inj h
      exact he _ _ rfl
    · rw [if_neg c1] at h
      refine fr_aload_n 0 dX9_countKindBeside_11 rfl ?_
      refine fr_iload_n 1 dX9_countKindBeside_12 rfl ?_
      refine fr_iload 4 dX9_countKindBeside_13 rfl ?_
      obtain ⟨u3, eu3, h⟩ := ob h
      try dsimp only at h
      obtain ⟨r2, er2, h⟩ := ob h
      try dsimp only at h
      refine fr_callV (g1 := false) (k2 := ke) (ev_X9_isOccupiedBeside er2) rfl cyX9_isOccupiedBeside w_587 w_588 w_589 (rc_ok eu3 rfl (by decide)) (by rfl) (by omega) (by omega) (by rfl) (Nat.le_of_ble_eq_true rfl) dX9_countKindBeside_15 (Or.inl rfl) (fun v M9 q _ => ?_) (fun E M9 q _ => (Sum.inr_ne_inl q.1).elim)
      obtain rfl : v = some (.int r2) := Sum.inl.inj q.1
      obtain rfl := q.2.symm
      refine fr_st (S' := [.int r2]) rfl ?_
      refine fr_if_eq 41 dX9_countKindBeside_18 (by decide) (fun c4 => ?_) (fun c4 => ?_)
      · rw [if_pos c4] at h
        refine fr_iinc (v := (x_4 + 1)) (L' := [(0, .ref p_0), (1, .int x_1), (2, .int x_2), (3, .int x_3), (4, .int (x_4 + 1))]) 4 dX9_countKindBeside_41 rfl rfl (by decide) rfl ?_
        refine fr_goto 5 dX9_countKindBeside_44 (by decide) ?_
        exact ih _ _ _ h he hr
      · rw [if_neg c4] at h
        refine fr_aload_n 0 dX9_countKindBeside_21 rfl ?_
        refine fr_iload_n 1 dX9_countKindBeside_22 rfl ?_
        refine fr_iload 4 dX9_countKindBeside_23 rfl ?_
        obtain ⟨r5, er5, h⟩ := ob h
        try dsimp only at h
        refine fr_callSN (g1 := false) (k2 := ke) "MapHall" (ev_X10_neighbour er5) rfl cyX10_neighbour (show _ ∈ roM from List.mem_of_getElem? (i := 10) rfl) w_592 (by rfl) (by omega) (by omega) (by rfl) (Nat.le_of_ble_eq_true rfl) dX9_countKindBeside_25 (Or.inl rfl) (fun v M9 q _ => ?_) (fun E M9 q _ => (Sum.inr_ne_inl q.1).elim)
        obtain rfl : v = some (.int r5) := Sum.inl.inj q.1
        obtain rfl := q.2.symm
        refine fr_st (S' := [.int r5, .ref p_0]) rfl ?_
        obtain ⟨u7, eu7, h⟩ := ob h
        try dsimp only at h
        obtain ⟨r6, er6, h⟩ := ob h
        try dsimp only at h
        refine fr_callV (g1 := false) (k2 := ke) (ev_X9_sheetLaidIn er6) rfl cyX9_sheetLaidIn w_594 w_595 w_596 (rc_ok eu7 rfl (by decide)) (by rfl) (by omega) (by omega) (by rfl) (Nat.le_of_ble_eq_true rfl) dX9_countKindBeside_28 (Or.inl rfl) (fun v M9 q _ => ?_) (fun E M9 q _ => (Sum.inr_ne_inl q.1).elim)
        obtain rfl : v = some (.ref r6) := Sum.inl.inj q.1
        obtain rfl := q.2.symm
        refine fr_st (S' := [.ref r6]) rfl ?_
        obtain ⟨x8, ex8, h⟩ := ob h
        try dsimp only at h
        refine fr_gI cb7 2 (by decide) rfl w_81 dX9_countKindBeside_31 ex8 ?_
        refine fr_iload_n 2 dX9_countKindBeside_34 rfl ?_
        refine fr_icmp_ne 41 dX9_countKindBeside_35 (by decide) (fun c9 => ?_) (fun c9 => ?_)
        · rw [if_neg c9] at h
          refine fr_iinc (v := (x_4 + 1)) (L' := [(0, .ref p_0), (1, .int x_1), (2, .int x_2), (3, .int x_3), (4, .int (x_4 + 1))]) 4 dX9_countKindBeside_41 rfl rfl (by decide) rfl ?_
          refine fr_goto 5 dX9_countKindBeside_44 (by decide) ?_
          exact ih _ _ _ h he hr
        · rw [if_pos c9] at h
          refine fr_iinc (v := (x_3 + 1)) (L' := [(0, .ref p_0), (1, .int x_1), (2, .int x_2), (3, .int (x_3 + 1)), (4, .int x_4)]) 3 dX9_countKindBeside_38 rfl rfl (by decide) rfl ?_
          refine fr_iinc (v := (x_4 + 1)) (L' := [(0, .ref p_0), (1, .int x_1), (2, .int x_2), (3, .int (x_3 + 1)), (4, .int (x_4 + 1))]) 4 dX9_countKindBeside_41 rfl rfl (by decide) rfl ?_
          refine fr_goto 5 dX9_countKindBeside_44 (by decide) ?_
          exact ih _ _ _ h he hr
set_option maxRecDepth 20000 in
theorem ev_X9_countKindBeside {G : Nat × (Nat → Int32) × Value} {p0a : Nat} {x1a : Int32} {x2a : Int32} {M : Mem} {r : Int32} (h : f_X9_countKindBeside p0a x1a x2a M = some r) : Ev (roG G) false YX9_countKindBeside 2 0 [.ref p0a, .int x1a, .int x2a] M (fun a b => a = wI r ∧ b = M) := by
  refine ev_of cyX9_countKindBeside.2.2.2.2 (Nat.le_of_ble_eq_true rfl) ?_
  show Fr _ _ _ _ _ _ 0 [(0, .ref p0a), (1, .int x1a), (2, .int x2a)] [] M _
  unfold f_X9_countKindBeside at h
  refine fr_iconst (v := 0) dX9_countKindBeside_0 (by decide) ?_
  refine fr_istore_n (L' := [(0, .ref p0a), (1, .int x1a), (2, .int x2a), (3, .int 0)]) dX9_countKindBeside_1 (by decide) rfl ?_
  refine fr_iconst (v := 0) dX9_countKindBeside_2 (by decide) ?_
  refine fr_istore (L' := [(0, .ref p0a), (1, .int x1a), (2, .int x2a), (3, .int 0), (4, .int 0)]) dX9_countKindBeside_3 (by decide) rfl ?_
  obtain ⟨q10, eq10, h⟩ := ob h
  try dsimp only at h
  refine lp_X9_countKindBeside_5_ok (by omega) 100 _ _ q10 eq10 (fun q10_3 q10_4 e9 => ?_) (fun q10_r e9 => ?_)
  · subst e9
    try dsimp only at h
    refine fr_iload_n 3 dX9_countKindBeside_47 rfl ?_
    obtain rfl := Option.some.inj h
    exact fr_iret rfl dX9_countKindBeside_48 ⟨rfl, rfl⟩
  · subst e9
    try dsimp only at h
    obtain rfl := Option.some.inj h
    exact ⟨rfl, rfl⟩
def f_J9_max_7cf53 (x0a : Int32) (x1a : Int32) (M : Mem) : Option (Int32) := if x0a < x1a then (some x1a) else (some x0a)
set_option maxRecDepth 20000 in
theorem ev_J9_max_7cf53 {G : Nat × (Nat → Int32) × Value} {x0a : Int32} {x1a : Int32} {M : Mem} {r : Int32} (h : f_J9_max_7cf53 x0a x1a M = some r) : Ev (roG G) false YJ9_max_7cf53 0 0 [.int x0a, .int x1a] M (fun a b => a = wI r ∧ b = M) := by
  refine ev_of cyJ9_max_7cf53.2.2.2.2 (Nat.le_of_ble_eq_true rfl) ?_
  show Fr _ _ _ _ _ _ 0 [(0, .int x0a), (1, .int x1a)] [] M _
  unfold f_J9_max_7cf53 at h
  refine fr_iload_n 0 dJ9_max_7cf53_0 rfl ?_
  refine fr_iload_n 1 dJ9_max_7cf53_1 rfl ?_
  refine fr_icmp_lt 9 dJ9_max_7cf53_2 (by decide) (fun c1 => ?_) (fun c1 => ?_)
  · rw [if_pos c1] at h
    refine fr_iload_n 1 dJ9_max_7cf53_9 rfl ?_
    obtain rfl := Option.some.inj h
    exact fr_iret rfl dJ9_max_7cf53_10 ⟨rfl, rfl⟩
  · rw [if_neg c1] at h
    refine fr_iload_n 0 dJ9_max_7cf53_5 rfl ?_
    refine fr_goto 10 dJ9_max_7cf53_6 (by decide) ?_
    obtain rfl := Option.some.inj h
    exact fr_iret rfl dJ9_max_7cf53_10 ⟨rfl, rfl⟩
def f_X5_ofCity (p0a : Nat) (x1a : Int32) (M : Mem) : Option (Int32) := (rc M 9 p0a).bind fun _ => (f_X9_countKindBeside p0a x1a 99 M).bind fun r1 => (f_J9_max_7cf53 0 (6 - (2 * r1)) M).bind fun r3 => some r3
set_option maxRecDepth 20000 in
theorem ev_X5_ofCity {G : Nat × (Nat → Int32) × Value} {p0a : Nat} {x1a : Int32} {M : Mem} {r : Int32} (h : f_X5_ofCity p0a x1a M = some r) : Ev (roG G) false YX5_ofCity 3 0 [.ref p0a, .int x1a] M (fun a b => a = wI r ∧ b = M) := by
  refine ev_of cyX5_ofCity.2.2.2.2 (Nat.le_of_ble_eq_true rfl) ?_
  show Fr _ _ _ _ _ _ 0 [(0, .ref p0a), (1, .int x1a)] [] M _
  unfold f_X5_ofCity at h
  refine fr_iconst (v := 0) dX5_ofCity_0 (by decide) ?_
  refine fr_bipush (v := 6) dX5_ofCity_1 (by decide) ?_
  refine fr_iconst (v := 2) dX5_ofCity_3 (by decide) ?_
  refine fr_aload_n 0 dX5_ofCity_4 rfl ?_
  refine fr_iload_n 1 dX5_ofCity_5 rfl ?_
  refine fr_bipush (v := 99) dX5_ofCity_6 (by decide) ?_
  obtain ⟨u2, eu2, h⟩ := ob h
  try dsimp only at h
  obtain ⟨r1, er1, h⟩ := ob h
  try dsimp only at h
  refine fr_callV (g1 := false) (k2 := 0) (ev_X9_countKindBeside er1) rfl cyX9_countKindBeside w_958 w_959 w_960 (rc_ok eu2 rfl (by decide)) (by rfl) (by omega) (by omega) (by rfl) (Nat.le_of_ble_eq_true rfl) dX5_ofCity_8 (Or.inl rfl) (fun v M9 q _ => ?_) (fun E M9 q _ => (Sum.inr_ne_inl q.1).elim)
  obtain rfl : v = some (.int r1) := Sum.inl.inj q.1
  obtain rfl := q.2.symm
  refine fr_st (S' := [.int r1, .int 2, .int 6, .int 0]) rfl ?_
  refine fr_imul dX5_ofCity_11 ?_
  refine fr_isub dX5_ofCity_12 ?_
  obtain ⟨r3, er3, h⟩ := ob h
  try dsimp only at h
  refine fr_callS (g1 := false) (k2 := 0) (ev_J9_max_7cf53 er3) rfl cyJ9_max_7cf53 w_966 w_967 (by rfl) (by omega) (by omega) (by rfl) (Nat.le_of_ble_eq_true rfl) dX5_ofCity_13 (Or.inl rfl) (fun v M9 q _ => ?_) (fun E M9 q _ => (Sum.inr_ne_inl q.1).elim)
  obtain rfl : v = some (.int r3) := Sum.inl.inj q.1
  obtain rfl := q.2.symm
  refine fr_st (S' := [.int r3]) rfl ?_
  obtain rfl := Option.some.inj h
  exact fr_iret rfl dX5_ofCity_16 ⟨rfl, rfl⟩
def lp_X9_countBeside_4 (p_0 : Nat) (x_1 : Int32) (M_ : Mem) : Nat → Int32 → Int32 → Option ((Int32 × Int32) ⊕ (Int32))
  | 0, _, _ => none
  | n + 1, x_2, x_3 => if 4 ≤ x_3 then (some (.inl (x_2, x_3))) else ((rc M_ 9 p_0).bind fun _ => (f_X9_isOccupiedBeside p_0 x_1 x_3 M_).bind fun r2 => if r2 = 0 then (lp_X9_countBeside_4 p_0 x_1 M_ n x_2 (x_3 + 1)) else (lp_X9_countBeside_4 p_0 x_1 M_ n (x_2 + 1) (x_3 + 1)))
def f_X9_countBeside (p0a : Nat) (x1a : Int32) (M : Mem) : Option (Int32) := ((lp_X9_countBeside_4 p0a x1a M 100 0 0).bind fun q5 => match q5 with | .inl (q5_2, q5_3) => (some q5_2) | .inr q5_r => some q5_r)
set_option maxRecDepth 20000 in
theorem lp_X9_countBeside_4_ok {G : Nat × (Nat → Int32) × Value} {P : Res → Mem → Prop} {n0 d ke : Nat} {p_0 : Nat} {x_1 : Int32} {M_ : Mem} (hd : 2 ≤ d) : ∀ (n : Nat) (x_2 : Int32) (x_3 : Int32) (res : (Int32 × Int32) ⊕ (Int32)), lp_X9_countBeside_4 p_0 x_1 M_ n x_2 x_3 = some res → (∀ (y_2 : Int32) (y_3 : Int32), res = .inl (y_2, y_3) → Fr (roG G) false n0 YX9_countBeside d ke 27 [(0, .ref p_0), (1, .int x_1), (2, .int y_2), (3, .int y_3)] [] M_ P) → (∀ r : Int32, res = .inr r → P (wI r) M_) → Fr (roG G) false n0 YX9_countBeside d ke 4 [(0, .ref p_0), (1, .int x_1), (2, .int x_2), (3, .int x_3)] [] M_ P := by
  intro n
  induction n with
  | zero => intro x_2 x_3 res h; unfold lp_X9_countBeside_4 at h; cases h
  | succ n ih =>
    intro x_2 x_3 res h he hr
    unfold lp_X9_countBeside_4 at h
    refine fr_iload_n 3 dX9_countBeside_4 rfl ?_
    refine fr_iconst (v := 4) dX9_countBeside_5 (by decide) ?_
    refine fr_icmp_ge 27 dX9_countBeside_6 (by decide) (fun c1 => ?_) (fun c1 => ?_)
    · rw [if_pos c1] at h
      obtain rfl := Option.some.inj h
      exact he _ _ rfl
    · rw [if_neg c1] at h
      refine fr_aload_n 0 dX9_countBeside_9 rfl ?_
      refine fr_iload_n 1 dX9_countBeside_10 rfl ?_
      refine fr_iload_n 3 dX9_countBeside_11 rfl ?_
      obtain ⟨u3, eu3, h⟩ := ob h
      try dsimp only at h
      obtain ⟨r2, er2, h⟩ := ob h
      try dsimp only at h
      refine fr_callV (g1 := false) (k2 := ke) (ev_X9_isOccupiedBeside er2) rfl cyX9_isOccupiedBeside w_587 w_588 w_589 (rc_ok eu3 rfl (by decide)) (by rfl) (by omega) (by omega) (by rfl) (Nat.le_of_ble_eq_true rfl) dX9_countBeside_12 (Or.inl rfl) (fun v M9 q _ => ?_) (fun E M9 q _ => (Sum.inr_ne_inl q.1).elim)
      obtain rfl : v = some (.int r2) := Sum.inl.inj q.1
      obtain rfl := q.2.symm
      refine fr_st (S' := [.int r2]) rfl ?_
      refine fr_if_eq 21 dX9_countBeside_15 (by decide) (fun c4 => ?_) (fun c4 => ?_)
      · rw [if_pos c4] at h
        refine fr_iinc (v := (x_3 + 1)) (L' := [(0, .ref p_0), (1, .int x_1), (2, .int x_2), (3, .int (x_3 + 1))]) 3 dX9_countBeside_21 rfl rfl (by decide) rfl ?_
        refine fr_goto 4 dX9_countBeside_24 (by decide) ?_
        exact ih _ _ _ h he hr
      · rw [if_neg c4] at h
        refine fr_iinc (v := (x_2 + 1)) (L' := [(0, .ref p_0), (1, .int x_1), (2, .int (x_2 + 1)), (3, .int x_3)]) 2 dX9_countBeside_18 rfl rfl (by decide) rfl ?_
        refine fr_iinc (v := (x_3 + 1)) (L' := [(0, .ref p_0), (1, .int x_1), (2, .int (x_2 + 1)), (3, .int (x_3 + 1))]) 3 dX9_countBeside_21 rfl rfl (by decide) rfl ?_
        refine fr_goto 4 dX9_countBeside_24 (by decide) ?_
        exact ih _ _ _ h he hr
set_option maxRecDepth 20000 in
theorem ev_X9_countBeside {G : Nat × (Nat → Int32) × Value} {p0a : Nat} {x1a : Int32} {M : Mem} {r : Int32} (h : f_X9_countBeside p0a x1a M = some r) : Ev (roG G) false YX9_countBeside 2 0 [.ref p0a, .int x1a] M (fun a b => a = wI r ∧ b = M) := by
  refine ev_of cyX9_countBeside.2.2.2.2 (Nat.le_of_ble_eq_true rfl) ?_
  show Fr _ _ _ _ _ _ 0 [(0, .ref p0a), (1, .int x1a)] [] M _
  unfold f_X9_countBeside at h
  refine fr_iconst (v := 0) dX9_countBeside_0 (by decide) ?_
  refine fr_istore_n (L' := [(0, .ref p0a), (1, .int x1a), (2, .int 0)]) dX9_countBeside_1 (by decide) rfl ?_
  refine fr_iconst (v := 0) dX9_countBeside_2 (by decide) ?_
  refine fr_istore_n (L' := [(0, .ref p0a), (1, .int x1a), (2, .int 0), (3, .int 0)]) dX9_countBeside_3 (by decide) rfl ?_
  obtain ⟨q5, eq5, h⟩ := ob h
  try dsimp only at h
  refine lp_X9_countBeside_4_ok (by omega) 100 _ _ q5 eq5 (fun q5_2 q5_3 e9 => ?_) (fun q5_r e9 => ?_)
  · subst e9
    try dsimp only at h
    refine fr_iload_n 2 dX9_countBeside_27 rfl ?_
    obtain rfl := Option.some.inj h
    exact fr_iret rfl dX9_countBeside_28 ⟨rfl, rfl⟩
  · subst e9
    try dsimp only at h
    obtain rfl := Option.some.inj h
    exact ⟨rfl, rfl⟩
def f_X5_inCell (p0a : Nat) (x1a : Int32) (M : Mem) : Option (Int32) := (rc M 9 p0a).bind fun _ => (f_X9_sheetLaidIn p0a x1a M).bind fun r1 => (gI M 7 r1 2).bind fun x3 => if x3 = 115 then ((rc M 9 p0a).bind fun _ => (f_X9_countKindBeside p0a x1a 115 M).bind fun r11 => some (1 + r11)) else (if x3 = 108 then ((rc M 9 p0a).bind fun _ => (f_X9_countBeside p0a x1a M).bind fun r7 => (rc M 9 p0a).bind fun _ => (f_X9_countKindBeside p0a x1a 108 M).bind fun r9 => some ((2 + r7) - r9)) else ((f_X5_ofCity p0a x1a M).bind fun r6 => some r6))
set_option maxRecDepth 20000 in
theorem ev_X5_inCell {G : Nat × (Nat → Int32) × Value} {p0a : Nat} {x1a : Int32} {M : Mem} {r : Int32} (h : f_X5_inCell p0a x1a M = some r) : Ev (roG G) false YX5_inCell 4 0 [.ref p0a, .int x1a] M (fun a b => a = wI r ∧ b = M) := by
  refine ev_of cyX5_inCell.2.2.2.2 (Nat.le_of_ble_eq_true rfl) ?_
  show Fr _ _ _ _ _ _ 0 [(0, .ref p0a), (1, .int x1a)] [] M _
  unfold f_X5_inCell at h
  refine fr_aload_n 0 dX5_inCell_0 rfl ?_
  refine fr_iload_n 1 dX5_inCell_1 rfl ?_
  obtain ⟨u2, eu2, h⟩ := ob h
  try dsimp only at h
  obtain ⟨r1, er1, h⟩ := ob h
  try dsimp only at h
  refine fr_callV (g1 := false) (k2 := 0) (ev_X9_sheetLaidIn er1) rfl cyX9_sheetLaidIn w_957 w_595 w_596 (rc_ok eu2 rfl (by decide)) (by rfl) (by omega) (by omega) (by rfl) (Nat.le_of_ble_eq_true rfl) dX5_inCell_2 (Or.inl rfl) (fun v M9 q _ => ?_) (fun E M9 q _ => (Sum.inr_ne_inl q.1).elim)
  obtain rfl : v = some (.ref r1) := Sum.inl.inj q.1
  obtain rfl := q.2.symm
  refine fr_st (S' := [.ref r1]) rfl ?_
  obtain ⟨x3, ex3, h⟩ := ob h
  try dsimp only at h
  refine fr_gI cb7 2 (by decide) rfl w_78 dX5_inCell_5 ex3 ?_
  refine fr_istore_n (L' := [(0, .ref p0a), (1, .int x1a), (2, .int x3)]) dX5_inCell_8 (by decide) rfl ?_
  refine fr_iload_n 2 dX5_inCell_9 rfl ?_
  refine fr_bipush (v := 115) dX5_inCell_10 (by decide) ?_
  refine fr_icmp_ne 25 dX5_inCell_12 (by decide) (fun c4 => ?_) (fun c4 => ?_)
  · rw [if_neg c4] at h
    refine fr_iload_n 2 dX5_inCell_25 rfl ?_
    refine fr_bipush (v := 108) dX5_inCell_26 (by decide) ?_
    refine fr_icmp_ne 47 dX5_inCell_28 (by decide) (fun c5 => ?_) (fun c5 => ?_)
    · rw [if_neg c5] at h
      refine fr_aload_n 0 dX5_inCell_47 rfl ?_
      refine fr_iload_n 1 dX5_inCell_48 rfl ?_
      obtain ⟨r6, er6, h⟩ := ob h
      try dsimp only at h
      refine fr_callS (g1 := false) (k2 := 0) (ev_X5_ofCity er6) rfl cyX5_ofCity w_963 w_964 (by rfl) (by omega) (by omega) (by rfl) (Nat.le_of_ble_eq_true rfl) dX5_inCell_49 (Or.inl rfl) (fun v M9 q _ => ?_) (fun E M9 q _ => (Sum.inr_ne_inl q.1).elim)
      obtain rfl : v = some (.int r6) := Sum.inl.inj q.1
      obtain rfl := q.2.symm
      refine fr_st (S' := [.int r6]) rfl ?_
      obtain rfl := Option.some.inj h
      exact fr_iret rfl dX5_inCell_52 ⟨rfl, rfl⟩
    · rw [if_pos c5] at h
      refine fr_iconst (v := 2) dX5_inCell_31 (by decide) ?_
      refine fr_aload_n 0 dX5_inCell_32 rfl ?_
      refine fr_iload_n 1 dX5_inCell_33 rfl ?_
      obtain ⟨u8, eu8, h⟩ := ob h
      try dsimp only at h
      obtain ⟨r7, er7, h⟩ := ob h
      try dsimp only at h
      refine fr_callV (g1 := false) (k2 := 0) (ev_X9_countBeside er7) rfl cyX9_countBeside w_962 w_618 w_619 (rc_ok eu8 rfl (by decide)) (by rfl) (by omega) (by omega) (by rfl) (Nat.le_of_ble_eq_true rfl) dX5_inCell_34 (Or.inl rfl) (fun v M9 q _ => ?_) (fun E M9 q _ => (Sum.inr_ne_inl q.1).elim)
      obtain rfl : v = some (.int r7) := Sum.inl.inj q.1
      obtain rfl := q.2.symm
      refine fr_st (S' := [.int r7, .int 2]) rfl ?_
      refine fr_iadd dX5_inCell_37 ?_
      refine fr_aload_n 0 dX5_inCell_38 rfl ?_
      refine fr_iload_n 1 dX5_inCell_39 rfl ?_
      refine fr_bipush (v := 108) dX5_inCell_40 (by decide) ?_
      obtain ⟨u10, eu10, h⟩ := ob h
      try dsimp only at h
      obtain ⟨r9, er9, h⟩ := ob h
      try dsimp only at h
      refine fr_callV (g1 := false) (k2 := 0) (ev_X9_countKindBeside er9) rfl cyX9_countKindBeside w_958 w_959 w_960 (rc_ok eu10 rfl (by decide)) (by rfl) (by omega) (by omega) (by rfl) (Nat.le_of_ble_eq_true rfl) dX5_inCell_42 (Or.inl rfl) (fun v M9 q _ => ?_) (fun E M9 q _ => (Sum.inr_ne_inl q.1).elim)
      obtain rfl : v = some (.int r9) := Sum.inl.inj q.1
      obtain rfl := q.2.symm
      refine fr_st (S' := [.int r9, .int (2 + r7)]) rfl ?_
      refine fr_isub dX5_inCell_45 ?_
      obtain rfl := Option.some.inj h
      exact fr_iret rfl dX5_inCell_46 ⟨rfl, rfl⟩
  · rw [if_pos c4] at h
    refine fr_iconst (v := 1) dX5_inCell_15 (by decide) ?_
    refine fr_aload_n 0 dX5_inCell_16 rfl ?_
    refine fr_iload_n 1 dX5_inCell_17 rfl ?_
    refine fr_bipush (v := 115) dX5_inCell_18 (by decide) ?_
    obtain ⟨u12, eu12, h⟩ := ob h
    try dsimp only at h
    obtain ⟨r11, er11, h⟩ := ob h
    try dsimp only at h
    refine fr_callV (g1 := false) (k2 := 0) (ev_X9_countKindBeside er11) rfl cyX9_countKindBeside w_958 w_959 w_960 (rc_ok eu12 rfl (by decide)) (by rfl) (by omega) (by omega) (by rfl) (Nat.le_of_ble_eq_true rfl) dX5_inCell_20 (Or.inl rfl) (fun v M9 q _ => ?_) (fun E M9 q _ => (Sum.inr_ne_inl q.1).elim)
    obtain rfl : v = some (.int r11) := Sum.inl.inj q.1
    obtain rfl := q.2.symm
    refine fr_st (S' := [.int r11, .int 1]) rfl ?_
    refine fr_iadd dX5_inCell_23 ?_
    obtain rfl := Option.some.inj h
    exact fr_iret rfl dX5_inCell_24 ⟨rfl, rfl⟩
def lp_X5_sheetBySheet_4 (p_0 : Nat) (M_ : Mem) : Nat → Int32 → Int32 → Option ((Int32 × Int32) ⊕ (Int32))
  | 0, _, _ => none
  | n + 1, x_1, x_2 => if 9 ≤ x_2 then (some (.inl (x_1, x_2))) else ((rc M_ 9 p_0).bind fun _ => (f_X9_isOccupied p_0 x_2 M_).bind fun r2 => if r2 = 0 then (lp_X5_sheetBySheet_4 p_0 M_ n x_1 (x_2 + 1)) else ((f_X5_inCell p_0 x_2 M_).bind fun r5 => lp_X5_sheetBySheet_4 p_0 M_ n (x_1 + r5) (x_2 + 1)))
def f_X5_sheetBySheet (p0a : Nat) (M : Mem) : Option (Int32) := ((lp_X5_sheetBySheet_4 p0a M 100 0 0).bind fun q6 => match q6 with | .inl (q6_1, q6_2) => (some q6_1) | .inr q6_r => some q6_r)
set_option maxRecDepth 20000 in
theorem lp_X5_sheetBySheet_4_ok {G : Nat × (Nat → Int32) × Value} {P : Res → Mem → Prop} {n0 d ke : Nat} {p_0 : Nat} {M_ : Mem} (hd : 5 ≤ d) : ∀ (n : Nat) (x_1 : Int32) (x_2 : Int32) (res : (Int32 × Int32) ⊕ (Int32)), lp_X5_sheetBySheet_4 p_0 M_ n x_1 x_2 = some res → (∀ (y_1 : Int32) (y_2 : Int32), res = .inl (y_1, y_2) → Fr (roG G) false n0 YX5_sheetBySheet d ke 32 [(0, .ref p_0), (1, .int y_1), (2, .int y_2)] [] M_ P) → (∀ r : Int32, res = .inr r → P (wI r) M_) → Fr (roG G) false n0 YX5_sheetBySheet d ke 4 [(0, .ref p_0), (1, .int x_1), (2, .int x_2)] [] M_ P := by
  intro n
  induction n with
  | zero => intro x_1 x_2 res h; unfold lp_X5_sheetBySheet_4 at h; cases h
  | succ n ih =>
    intro x_1 x_2 res h he hr
    unfold lp_X5_sheetBySheet_4 at h
    refine fr_iload_n 2 dX5_sheetBySheet_4 rfl ?_
    refine fr_bipush (v := 9) dX5_sheetBySheet_5 (by decide) ?_
    refine fr_icmp_ge 32 dX5_sheetBySheet_7 (by decide) (fun c1 => ?_) (fun c1 => ?_)
    · rw [if_pos c1] at h
      obtain rfl := Option.some.inj h
      exact he _ _ rfl
    · rw [if_neg c1] at h
      refine fr_aload_n 0 dX5_sheetBySheet_10 rfl ?_
      refine fr_iload_n 2 dX5_sheetBySheet_11 rfl ?_
      obtain ⟨u3, eu3, h⟩ := ob h
      try dsimp only at h
      obtain ⟨r2, er2, h⟩ := ob h
      try dsimp only at h
      refine fr_callV (g1 := false) (k2 := ke) (ev_X9_isOccupied er2) rfl cyX9_isOccupied w_953 w_580 w_581 (rc_ok eu3 rfl (by decide)) (by rfl) (by omega) (by omega) (by rfl) (Nat.le_of_ble_eq_true rfl) dX5_sheetBySheet_12 (Or.inl rfl) (fun v M9 q _ => ?_) (fun E M9 q _ => (Sum.inr_ne_inl q.1).elim)
      obtain rfl : v = some (.int r2) := Sum.inl.inj q.1
      obtain rfl := q.2.symm
      refine fr_st (S' := [.int r2]) rfl ?_
      refine fr_if_eq 26 dX5_sheetBySheet_15 (by decide) (fun c4 => ?_) (fun c4 => ?_)
      · rw [if_pos c4] at h
        refine fr_iinc (v := (x_2 + 1)) (L' := [(0, .ref p_0), (1, .int x_1), (2, .int (x_2 + 1))]) 2 dX5_sheetBySheet_26 rfl rfl (by decide) rfl ?_
        refine fr_goto 4 dX5_sheetBySheet_29 (by decide) ?_
        exact ih _ _ _ h he hr
      · rw [if_neg c4] at h
        refine fr_iload_n 1 dX5_sheetBySheet_18 rfl ?_
        refine fr_aload_n 0 dX5_sheetBySheet_19 rfl ?_
        refine fr_iload_n 2 dX5_sheetBySheet_20 rfl ?_
        obtain ⟨r5, er5, h⟩ := ob h
        try dsimp only at h
        refine fr_callS (g1 := false) (k2 := ke) (ev_X5_inCell er5) rfl cyX5_inCell w_954 w_955 (by rfl) (by omega) (by omega) (by rfl) (Nat.le_of_ble_eq_true rfl) dX5_sheetBySheet_21 (Or.inl rfl) (fun v M9 q _ => ?_) (fun E M9 q _ => (Sum.inr_ne_inl q.1).elim)
        obtain rfl : v = some (.int r5) := Sum.inl.inj q.1
        obtain rfl := q.2.symm
        refine fr_st (S' := [.int r5, .int x_1]) rfl ?_
        refine fr_iadd dX5_sheetBySheet_24 ?_
        refine fr_istore_n (L' := [(0, .ref p_0), (1, .int (x_1 + r5)), (2, .int x_2)]) dX5_sheetBySheet_25 (by decide) rfl ?_
        refine fr_iinc (v := (x_2 + 1)) (L' := [(0, .ref p_0), (1, .int (x_1 + r5)), (2, .int (x_2 + 1))]) 2 dX5_sheetBySheet_26 rfl rfl (by decide) rfl ?_
        refine fr_goto 4 dX5_sheetBySheet_29 (by decide) ?_
        exact ih _ _ _ h he hr
set_option maxRecDepth 20000 in
theorem ev_X5_sheetBySheet {G : Nat × (Nat → Int32) × Value} {p0a : Nat} {M : Mem} {r : Int32} (h : f_X5_sheetBySheet p0a M = some r) : Ev (roG G) false YX5_sheetBySheet 5 0 [.ref p0a] M (fun a b => a = wI r ∧ b = M) := by
  refine ev_of cyX5_sheetBySheet.2.2.2.2 (Nat.le_of_ble_eq_true rfl) ?_
  show Fr _ _ _ _ _ _ 0 [(0, .ref p0a)] [] M _
  unfold f_X5_sheetBySheet at h
  refine fr_iconst (v := 0) dX5_sheetBySheet_0 (by decide) ?_
  refine fr_istore_n (L' := [(0, .ref p0a), (1, .int 0)]) dX5_sheetBySheet_1 (by decide) rfl ?_
  refine fr_iconst (v := 0) dX5_sheetBySheet_2 (by decide) ?_
  refine fr_istore_n (L' := [(0, .ref p0a), (1, .int 0), (2, .int 0)]) dX5_sheetBySheet_3 (by decide) rfl ?_
  obtain ⟨q6, eq6, h⟩ := ob h
  try dsimp only at h
  refine lp_X5_sheetBySheet_4_ok (by omega) 100 _ _ q6 eq6 (fun q6_1 q6_2 e9 => ?_) (fun q6_r e9 => ?_)
  · subst e9
    try dsimp only at h
    refine fr_iload_n 1 dX5_sheetBySheet_32 rfl ?_
    obtain rfl := Option.some.inj h
    exact fr_iret rfl dX5_sheetBySheet_33 ⟨rfl, rfl⟩
  · subst e9
    try dsimp only at h
    obtain rfl := Option.some.inj h
    exact ⟨rfl, rfl⟩
def f_X10_points (p0a : Nat) (M : Mem) : Option (Int32) := (gP M 10 p0a 0).bind fun p1 => (f_X5_sheetBySheet p1 M).bind fun r2 => some r2
set_option maxRecDepth 20000 in
theorem ev_X10_points {G : Nat × (Nat → Int32) × Value} {p0a : Nat} {M : Mem} {r : Int32} (h : f_X10_points p0a M = some r) : Ev (roG G) false YX10_points 6 0 [.ref p0a] M (fun a b => a = wI r ∧ b = M) := by
  refine ev_of cyX10_points.2.2.2.2 (Nat.le_of_ble_eq_true rfl) ?_
  show Fr _ _ _ _ _ _ 0 [(0, .ref p0a)] [] M _
  unfold f_X10_points at h
  refine fr_aload_n 0 dX10_points_0 rfl ?_
  obtain ⟨p1, ep1, h⟩ := ob h
  try dsimp only at h
  refine fr_gP cb10 0 (by decide) rfl w_227 dX10_points_1 ep1 ?_
  obtain ⟨r2, er2, h⟩ := ob h
  try dsimp only at h
  refine fr_callS (g1 := false) (k2 := 0) (ev_X5_sheetBySheet er2) rfl cyX5_sheetBySheet w_950 w_951 (by rfl) (by omega) (by omega) (by rfl) (Nat.le_of_ble_eq_true rfl) dX10_points_4 (Or.inl rfl) (fun v M9 q _ => ?_) (fun E M9 q _ => (Sum.inr_ne_inl q.1).elim)
  obtain rfl : v = some (.int r2) := Sum.inl.inj q.1
  obtain rfl := q.2.symm
  refine fr_st (S' := [.int r2]) rfl ?_
  obtain rfl := Option.some.inj h
  exact fr_iret rfl dX10_points_7 ⟨rfl, rfl⟩
def f_X10_sheetCount (p0a : Nat) (M : Mem) : Option (Int32) := (gP M 10 p0a 0).bind fun p1 => (gI M 9 p1 2).bind fun x2 => some x2
set_option maxRecDepth 20000 in
theorem ev_X10_sheetCount {G : Nat × (Nat → Int32) × Value} {p0a : Nat} {M : Mem} {r : Int32} (h : f_X10_sheetCount p0a M = some r) : Ev (roG G) false YX10_sheetCount 0 0 [.ref p0a] M (fun a b => a = wI r ∧ b = M) := by
  refine ev_of cyX10_sheetCount.2.2.2.2 (Nat.le_of_ble_eq_true rfl) ?_
  show Fr _ _ _ _ _ _ 0 [(0, .ref p0a)] [] M _
  unfold f_X10_sheetCount at h
  refine fr_aload_n 0 dX10_sheetCount_0 rfl ?_
  obtain ⟨p1, ep1, h⟩ := ob h
  try dsimp only at h
  refine fr_gP cb10 0 (by decide) rfl w_227 dX10_sheetCount_1 ep1 ?_
  obtain ⟨x2, ex2, h⟩ := ob h
  try dsimp only at h
  refine fr_gI cb9 2 (by decide) rfl w_127 dX10_sheetCount_4 ex2 ?_
  obtain rfl := Option.some.inj h
  exact fr_iret rfl dX10_sheetCount_7 ⟨rfl, rfl⟩
def f_X10_usedPaste (p0a : Nat) (M : Mem) : Option (Int32) := (gP M 10 p0a 0).bind fun p1 => (gI M 9 p1 4).bind fun x2 => some x2
set_option maxRecDepth 20000 in
theorem ev_X10_usedPaste {G : Nat × (Nat → Int32) × Value} {p0a : Nat} {M : Mem} {r : Int32} (h : f_X10_usedPaste p0a M = some r) : Ev (roG G) false YX10_usedPaste 0 0 [.ref p0a] M (fun a b => a = wI r ∧ b = M) := by
  refine ev_of cyX10_usedPaste.2.2.2.2 (Nat.le_of_ble_eq_true rfl) ?_
  show Fr _ _ _ _ _ _ 0 [(0, .ref p0a)] [] M _
  unfold f_X10_usedPaste at h
  refine fr_aload_n 0 dX10_usedPaste_0 rfl ?_
  obtain ⟨p1, ep1, h⟩ := ob h
  try dsimp only at h
  refine fr_gP cb10 0 (by decide) rfl w_227 dX10_usedPaste_1 ep1 ?_
  obtain ⟨x2, ex2, h⟩ := ob h
  try dsimp only at h
  refine fr_gI cb9 4 (by decide) rfl w_131 dX10_usedPaste_4 ex2 ?_
  obtain rfl := Option.some.inj h
  exact fr_iret rfl dX10_usedPaste_7 ⟨rfl, rfl⟩
def f_X4_write (p0a : Nat) (x1a : Int32) (M : Mem) : Option (Unit × Mem) := (gI M 5 p0a 1).bind fun x1 => if 22 ≤ x1 then (some ((), M)) else ((gP M 5 p0a 0).bind fun p3 => (gI M 5 p0a 1).bind fun x4 => (asC M p3 x4 x1a).bind fun M5 => (gI M5 5 p0a 1).bind fun x6 => (sI M5 5 p0a 1 .int (x6 + 1)).bind fun M7 => some ((), M7))
set_option maxRecDepth 20000 in
theorem ev_X4_write {G : Nat × (Nat → Int32) × Value} {p0a : Nat} {x1a : Int32} {M : Mem} {r : Unit × Mem} (h : f_X4_write p0a x1a M = some r) : Ev (roG G) false YX4_write 0 0 [.ref p0a, .int x1a] M (fun a b => a = wU r.1 ∧ b = r.2) := by
  refine ev_of cyX4_write.2.2.2.2 (Nat.le_of_ble_eq_true rfl) ?_
  show Fr _ _ _ _ _ _ 0 [(0, .ref p0a), (1, .int x1a)] [] M _
  unfold f_X4_write at h
  refine fr_aload_n 0 dX4_write_0 rfl ?_
  obtain ⟨x1, ex1, h⟩ := ob h
  try dsimp only at h
  refine fr_gI cb5 1 (by decide) rfl w_220 dX4_write_1 ex1 ?_
  refine fr_bipush (v := 22) dX4_write_4 (by decide) ?_
  refine fr_icmp_ge 29 dX4_write_6 (by decide) (fun c2 => ?_) (fun c2 => ?_)
  · rw [if_pos c2] at h
    obtain rfl := Option.some.inj h
    exact fr_vret rfl dX4_write_29 ⟨rfl, rfl⟩
  · rw [if_neg c2] at h
    refine fr_aload_n 0 dX4_write_9 rfl ?_
    obtain ⟨p3, ep3, h⟩ := ob h
    try dsimp only at h
    refine fr_gP cb5 0 (by decide) rfl w_218 dX4_write_10 ep3 ?_
    refine fr_aload_n 0 dX4_write_13 rfl ?_
    obtain ⟨x4, ex4, h⟩ := ob h
    try dsimp only at h
    refine fr_gI cb5 1 (by decide) rfl w_220 dX4_write_14 ex4 ?_
    refine fr_iload_n 1 dX4_write_17 rfl ?_
    obtain ⟨M5, eM5, h⟩ := ob h
    try dsimp only at h
    refine fr_asC eM5 dX4_write_18 ?_
    refine fr_aload_n 0 dX4_write_19 rfl ?_
    refine fr_dup dX4_write_20 rfl ?_
    obtain ⟨x6, ex6, h⟩ := ob h
    try dsimp only at h
    refine fr_gI cb5 1 (by decide) rfl w_220 dX4_write_21 ex6 ?_
    refine fr_iconst (v := 1) dX4_write_24 (by decide) ?_
    refine fr_iadd dX4_write_25 ?_
    obtain ⟨M7, eM7, h⟩ := ob h
    try dsimp only at h
    refine fr_sI cb5 1 (by decide) rfl rfl w_220 dX4_write_26 eM7 ?_
    obtain rfl := Option.some.inj h
    exact fr_vret rfl dX4_write_29 ⟨rfl, rfl⟩
def f_X4_writeDigit (p0a : Nat) (x1a : Int32) (M : Mem) : Option (Unit × Mem) := (rc M 5 p0a).bind fun _ => (f_X4_write p0a (((48 + x1a).toUInt32 % 65536).toInt32) M).bind fun r1 => some ((), r1.2)
set_option maxRecDepth 20000 in
theorem ev_X4_writeDigit {G : Nat × (Nat → Int32) × Value} {p0a : Nat} {x1a : Int32} {M : Mem} {r : Unit × Mem} (h : f_X4_writeDigit p0a x1a M = some r) : Ev (roG G) false YX4_writeDigit 1 0 [.ref p0a, .int x1a] M (fun a b => a = wU r.1 ∧ b = r.2) := by
  refine ev_of cyX4_writeDigit.2.2.2.2 (Nat.le_of_ble_eq_true rfl) ?_
  show Fr _ _ _ _ _ _ 0 [(0, .ref p0a), (1, .int x1a)] [] M _
  unfold f_X4_writeDigit at h
  refine fr_aload_n 0 dX4_writeDigit_0 rfl ?_
  refine fr_bipush (v := 48) dX4_writeDigit_1 (by decide) ?_
  refine fr_iload_n 1 dX4_writeDigit_3 rfl ?_
  refine fr_iadd dX4_writeDigit_4 ?_
  refine fr_i2c dX4_writeDigit_5 ?_
  obtain ⟨u2, eu2, h⟩ := ob h
  try dsimp only at h
  obtain ⟨r1, er1, h⟩ := ob h
  try dsimp only at h
  refine fr_callV (g1 := false) (k2 := 0) (ev_X4_write er1) rfl cyX4_write w_1023 w_1025 w_8 (rc_ok eu2 rfl (by decide)) (by rfl) (by omega) (by omega) (by rfl) (Nat.le_of_ble_eq_true rfl) dX4_writeDigit_6 (Or.inl rfl) (fun v M9 q _ => ?_) (fun E M9 q _ => (Sum.inr_ne_inl q.1).elim)
  obtain rfl : v = none := Sum.inl.inj q.1
  obtain rfl := q.2.symm
  refine fr_st (S' := []) rfl ?_
  obtain rfl := Option.some.inj h
  exact fr_vret rfl dX4_writeDigit_9 ⟨rfl, rfl⟩
def lp_X4_writeTimes_2 (p_0 : Nat) (x_1 : Int32) (x_2 : Int32) : Nat → Int32 → Mem → Option ((Int32 × Mem) ⊕ (Unit × Mem))
  | 0, _, _ => none
  | n + 1, x_3, M_ => if x_2 ≤ x_3 then (some (.inl (x_3, M_))) else ((rc M_ 5 p_0).bind fun _ => (f_X4_write p_0 x_1 M_).bind fun r2 => lp_X4_writeTimes_2 p_0 x_1 x_2 n (x_3 + 1) r2.2)
def f_X4_writeTimes (p0a : Nat) (x1a : Int32) (x2a : Int32) (M : Mem) : Option (Unit × Mem) := ((lp_X4_writeTimes_2 p0a x1a x2a 100 0 M).bind fun q4 => match q4 with | .inl (q4_3, q4_M) => (some ((), q4_M)) | .inr q4_r => some q4_r)
set_option maxRecDepth 20000 in
theorem lp_X4_writeTimes_2_ok {G : Nat × (Nat → Int32) × Value} {P : Res → Mem → Prop} {n0 d ke : Nat} {p_0 : Nat} {x_1 : Int32} {x_2 : Int32} (hd : 1 ≤ d) : ∀ (n : Nat) (x_3 : Int32) (M_ : Mem) (res : (Int32 × Mem) ⊕ (Unit × Mem)), lp_X4_writeTimes_2 p_0 x_1 x_2 n x_3 M_ = some res → (∀ (y_3 : Int32) (M9 : Mem), res = .inl (y_3, M9) → Fr (roG G) false n0 YX4_writeTimes d ke 18 [(0, .ref p_0), (1, .int x_1), (2, .int x_2), (3, .int y_3)] [] M9 P) → (∀ r : Unit × Mem, res = .inr r → P (wU r.1) r.2) → Fr (roG G) false n0 YX4_writeTimes d ke 2 [(0, .ref p_0), (1, .int x_1), (2, .int x_2), (3, .int x_3)] [] M_ P := by
  intro n
  induction n with
  | zero => intro x_3 M_ res h; unfold lp_X4_writeTimes_2 at h; cases h
  | succ n ih =>
    intro x_3 M_ res h he hr
    unfold lp_X4_writeTimes_2 at h
    refine fr_iload_n 3 dX4_writeTimes_2 rfl ?_
    refine fr_iload_n 2 dX4_writeTimes_3 rfl ?_
    refine fr_icmp_ge 18 dX4_writeTimes_4 (by decide) (fun c1 => ?_) (fun c1 => ?_)
    · rw [if_pos c1] at h
      obtain rfl := Option.some.inj h
      exact he _ _ rfl
    · rw [if_neg c1] at h
      refine fr_aload_n 0 dX4_writeTimes_7 rfl ?_
      refine fr_iload_n 1 dX4_writeTimes_8 rfl ?_
      obtain ⟨u3, eu3, h⟩ := ob h
      try dsimp only at h
      obtain ⟨r2, er2, h⟩ := ob h
      try dsimp only at h
      refine fr_callV (g1 := false) (k2 := ke) (ev_X4_write er2) rfl cyX4_write w_1023 w_1025 w_8 (rc_ok eu3 rfl (by decide)) (by rfl) (by omega) (by omega) (by rfl) (Nat.le_of_ble_eq_true rfl) dX4_writeTimes_9 (Or.inl rfl) (fun v M9 q _ => ?_) (fun E M9 q _ => (Sum.inr_ne_inl q.1).elim)
      obtain rfl : v = none := Sum.inl.inj q.1
      obtain rfl := q.2.symm
      refine fr_st (S' := []) rfl ?_
      refine fr_iinc (v := (x_3 + 1)) (L' := [(0, .ref p_0), (1, .int x_1), (2, .int x_2), (3, .int (x_3 + 1))]) 3 dX4_writeTimes_12 rfl rfl (by decide) rfl ?_
      refine fr_goto 2 dX4_writeTimes_15 (by decide) ?_
      exact ih _ _ _ h he hr
set_option maxRecDepth 20000 in
theorem ev_X4_writeTimes {G : Nat × (Nat → Int32) × Value} {p0a : Nat} {x1a : Int32} {x2a : Int32} {M : Mem} {r : Unit × Mem} (h : f_X4_writeTimes p0a x1a x2a M = some r) : Ev (roG G) false YX4_writeTimes 1 0 [.ref p0a, .int x1a, .int x2a] M (fun a b => a = wU r.1 ∧ b = r.2) := by
  refine ev_of cyX4_writeTimes.2.2.2.2 (Nat.le_of_ble_eq_true rfl) ?_
  show Fr _ _ _ _ _ _ 0 [(0, .ref p0a), (1, .int x1a), (2, .int x2a)] [] M _
  unfold f_X4_writeTimes at h
  refine fr_iconst (v := 0) dX4_writeTimes_0 (by decide) ?_
  refine fr_istore_n (L' := [(0, .ref p0a), (1, .int x1a), (2, .int x2a), (3, .int 0)]) dX4_writeTimes_1 (by decide) rfl ?_
  obtain ⟨q4, eq4, h⟩ := ob h
  try dsimp only at h
  refine lp_X4_writeTimes_2_ok (by omega) 100 _ _ q4 eq4 (fun q4_3 q4_M e9 => ?_) (fun q4_r e9 => ?_)
  · subst e9
    try dsimp only at h
    obtain rfl := Option.some.inj h
    exact fr_vret rfl dX4_writeTimes_18 ⟨rfl, rfl⟩
  · subst e9
    try dsimp only at h
    obtain rfl := Option.some.inj h
    exact ⟨rfl, rfl⟩
