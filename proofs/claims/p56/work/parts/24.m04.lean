/-! ===== methods, 4: X9_fits X9_lay X9_lift X10_waysFrom X10_completions L_completions X10_demandedSheet X10_creaseCount L_creaseCount X8_isBetween X8_cross ===== -/
def lp_X9_fits_3 (p_0 : Nat) (p_1 : Nat) (x_2 : Int32) (x_3 : Int32) (M_ : Mem) : Nat → Int32 → Option ((Int32) ⊕ (Int32))
  | 0, _ => none
  | n + 1, x_4 => if 4 ≤ x_4 then (some (.inl x_4)) else ((rc M_ 9 p_0).bind fun _ => (f_X9_isOccupiedBeside p_0 x_2 x_4 M_).bind fun r2 => if r2 = 0 then (lp_X9_fits_3 p_0 p_1 x_2 x_3 M_ n (x_4 + 1)) else ((f_X10_neighbour x_2 x_4 M_).bind fun r5 => (rc M_ 9 p_0).bind fun _ => (f_X9_sheetLaidIn p_0 r5 M_).bind fun r6 => (rc M_ 7 p_1).bind fun _ => (f_X7_borderWhenTurned p_1 x_4 x_3 M_).bind fun r8 => (f_X10_opposite x_4 M_).bind fun r10 => (rc M_ 7 r6).bind fun _ => (f_X7_borderAsLaid r6 r10 M_).bind fun r11 => if r8 = r11 then (lp_X9_fits_3 p_0 p_1 x_2 x_3 M_ n (x_4 + 1)) else (some (.inr 0))))
def f_X9_fits (p0a : Nat) (p1a : Nat) (x2a : Int32) (x3a : Int32) (M : Mem) : Option (Int32) := ((lp_X9_fits_3 p0a p1a x2a x3a M 100 0).bind fun q14 => match q14 with | .inl q14_4 => (some 1) | .inr q14_r => some q14_r)
set_option maxRecDepth 20000 in
theorem lp_X9_fits_3_ok {G : Nat × (Nat → Int32) × Value} {P : Res → Mem → Prop} {n0 d ke : Nat} {p_0 : Nat} {p_1 : Nat} {x_2 : Int32} {x_3 : Int32} {M_ : Mem} (hd : 3 ≤ d) : ∀ (n : Nat) (x_4 : Int32) (res : (Int32) ⊕ (Int32)), lp_X9_fits_3 p_0 p_1 x_2 x_3 M_ n x_4 = some res → (∀ (y_4 : Int32), res = .inl y_4 → Fr (roG G) false n0 YX9_fits d ke 59 [(0, .ref p_0), (1, .ref p_1), (2, .int x_2), (3, .int x_3), (4, .int y_4)] [] M_ P) → (∀ r : Int32, res = .inr r → P (wI r) M_) → Fr (roG G) false n0 YX9_fits d ke 3 [(0, .ref p_0), (1, .ref p_1), (2, .int x_2), (3, .int x_3), (4, .int x_4)] [] M_ P := by
  intro n
  induction n with
  | zero => intro x_4 res h; unfold lp_X9_fits_3 at h; cases h
  | succ n ih =>
    intro x_4 res h he hr
    unfold lp_X9_fits_3 at h
    refine fr_iload 4 dX9_fits_3 rfl ?_
    refine fr_iconst (v := 4) dX9_fits_5 (by decide) ?_
    refine fr_icmp_ge 59 dX9_fits_6 (by decide) (fun c1 => ?_) (fun c1 => ?_)
    · rw [if_pos c1] at h
      obtain rfl := Option.some.inj h
      exact he _ rfl
    · rw [if_neg c1] at h
      refine fr_aload_n 0 dX9_fits_9 rfl ?_
      refine fr_iload_n 2 dX9_fits_10 rfl ?_
      refine fr_iload 4 dX9_fits_11 rfl ?_
      obtain ⟨u3, eu3, h⟩ := ob h
      try dsimp only at h
      obtain ⟨r2, er2, h⟩ := ob h
      try dsimp only at h
      refine fr_callV (g1 := false) (k2 := ke) (ev_X9_isOccupiedBeside er2) rfl cyX9_isOccupiedBeside w_587 w_588 w_589 (rc_ok eu3 rfl (by decide)) (by rfl) (by omega) (by omega) (by rfl) (Nat.le_of_ble_eq_true rfl) dX9_fits_13 (Or.inl rfl) (fun v M9 q _ => ?_) (fun E M9 q _ => (Sum.inr_ne_inl q.1).elim)
      obtain rfl : v = some (.int r2) := Sum.inl.inj q.1
      obtain rfl := q.2.symm
      refine fr_st (S' := [.int r2]) rfl ?_
      refine fr_if_eq 53 dX9_fits_16 (by decide) (fun c4 => ?_) (fun c4 => ?_)
      · rw [if_pos c4] at h
        refine fr_iinc (v := (x_4 + 1)) (L' := [(0, .ref p_0), (1, .ref p_1), (2, .int x_2), (3, .int x_3), (4, .int (x_4 + 1))]) 4 dX9_fits_53 rfl rfl (by decide) rfl ?_
        refine fr_goto 3 dX9_fits_56 (by decide) ?_
        exact ih _ _ h he hr
      · rw [if_neg c4] at h
        refine fr_aload_n 0 dX9_fits_19 rfl ?_
        refine fr_iload_n 2 dX9_fits_20 rfl ?_
        refine fr_iload 4 dX9_fits_21 rfl ?_
        obtain ⟨r5, er5, h⟩ := ob h
        try dsimp only at h
        refine fr_callSN (g1 := false) (k2 := ke) "MapHall" (ev_X10_neighbour er5) rfl cyX10_neighbour (show _ ∈ roM from List.mem_of_getElem? (i := 10) rfl) w_592 (by rfl) (by omega) (by omega) (by rfl) (Nat.le_of_ble_eq_true rfl) dX9_fits_23 (Or.inl rfl) (fun v M9 q _ => ?_) (fun E M9 q _ => (Sum.inr_ne_inl q.1).elim)
        obtain rfl : v = some (.int r5) := Sum.inl.inj q.1
        obtain rfl := q.2.symm
        refine fr_st (S' := [.int r5, .ref p_0]) rfl ?_
        obtain ⟨u7, eu7, h⟩ := ob h
        try dsimp only at h
        obtain ⟨r6, er6, h⟩ := ob h
        try dsimp only at h
        refine fr_callV (g1 := false) (k2 := ke) (ev_X9_sheetLaidIn er6) rfl cyX9_sheetLaidIn w_594 w_595 w_596 (rc_ok eu7 rfl (by decide)) (by rfl) (by omega) (by omega) (by rfl) (Nat.le_of_ble_eq_true rfl) dX9_fits_26 (Or.inl rfl) (fun v M9 q _ => ?_) (fun E M9 q _ => (Sum.inr_ne_inl q.1).elim)
        obtain rfl : v = some (.ref r6) := Sum.inl.inj q.1
        obtain rfl := q.2.symm
        refine fr_st (S' := [.ref r6]) rfl ?_
        refine fr_astore (L' := [(0, .ref p_0), (1, .ref p_1), (2, .int x_2), (3, .int x_3), (4, .int x_4), (5, .ref r6)]) dX9_fits_29 (by decide) rfl ?_
        refine fr_aload_n 1 dX9_fits_31 rfl ?_
        refine fr_iload 4 dX9_fits_32 rfl ?_
        refine fr_iload_n 3 dX9_fits_34 rfl ?_
        obtain ⟨u9, eu9, h⟩ := ob h
        try dsimp only at h
        obtain ⟨r8, er8, h⟩ := ob h
        try dsimp only at h
        refine fr_callV (g1 := false) (k2 := ke) (ev_X7_borderWhenTurned er8) rfl cyX7_borderWhenTurned w_598 w_599 w_600 (rc_ok eu9 rfl (by decide)) (by rfl) (by omega) (by omega) (by rfl) (Nat.le_of_ble_eq_true rfl) dX9_fits_35 (Or.inl rfl) (fun v M9 q _ => ?_) (fun E M9 q _ => (Sum.inr_ne_inl q.1).elim)
        obtain rfl : v = some (.int r8) := Sum.inl.inj q.1
        obtain rfl := q.2.symm
        refine fr_st (S' := [.int r8]) rfl ?_
        refine fr_aload 5 dX9_fits_38 rfl ?_
        refine fr_iload 4 dX9_fits_40 rfl ?_
        obtain ⟨r10, er10, h⟩ := ob h
        try dsimp only at h
        refine fr_callSN (g1 := false) (k2 := ke) "MapHall" (ev_X10_opposite er10) rfl cyX10_opposite (show _ ∈ roM from List.mem_of_getElem? (i := 11) rfl) w_606 (by rfl) (by omega) (by omega) (by rfl) (Nat.le_of_ble_eq_true rfl) dX9_fits_42 (Or.inl rfl) (fun v M9 q _ => ?_) (fun E M9 q _ => (Sum.inr_ne_inl q.1).elim)
        obtain rfl : v = some (.int r10) := Sum.inl.inj q.1
        obtain rfl := q.2.symm
        refine fr_st (S' := [.int r10, .ref r6, .int r8]) rfl ?_
        obtain ⟨u12, eu12, h⟩ := ob h
        try dsimp only at h
        obtain ⟨r11, er11, h⟩ := ob h
        try dsimp only at h
        refine fr_callV (g1 := false) (k2 := ke) (ev_X7_borderAsLaid er11) rfl cyX7_borderAsLaid w_608 w_609 w_610 (rc_ok eu12 rfl (by decide)) (by rfl) (by omega) (by omega) (by rfl) (Nat.le_of_ble_eq_true rfl) dX9_fits_45 (Or.inl rfl) (fun v M9 q _ => ?_) (fun E M9 q _ => (Sum.inr_ne_inl q.1).elim)
        obtain rfl : v = some (.int r11) := Sum.inl.inj q.1
        obtain rfl := q.2.symm
        refine fr_st (S' := [.int r11, .int r8]) rfl ?_
        refine fr_icmp_eq 53 dX9_fits_48 (by decide) (fun c13 => ?_) (fun c13 => ?_)
        · rw [if_pos c13] at h
          refine fr_iinc (v := (x_4 + 1)) (L' := [(0, .ref p_0), (1, .ref p_1), (2, .int x_2), (3, .int x_3), (4, .int (x_4 + 1)), (5, .ref r6)]) 4 dX9_fits_53 rfl rfl (by decide) rfl ?_
          refine fr_goto 3 dX9_fits_56 (by decide) ?_
          refine fr_loc [0, 1, 2, 3, 4] (L' := [(0, .ref p_0), (1, .ref p_1), (2, .int x_2), (3, .int x_3), (4, .int (x_4 + 1))]) rfl ?_
          exact ih _ _ h he hr
        · rw [if_neg c13] at h
          refine fr_iconst (v := 0) dX9_fits_51 (by decide) ?_
          obtain rfl := Option.some.inj h
          exact fr_zret (ty := .boolean) rfl rfl dX9_fits_52 (hr _ rfl)
set_option maxRecDepth 20000 in
theorem ev_X9_fits {G : Nat × (Nat → Int32) × Value} {p0a : Nat} {p1a : Nat} {x2a : Int32} {x3a : Int32} {M : Mem} {r : Int32} (h : f_X9_fits p0a p1a x2a x3a M = some r) : Ev (roG G) false YX9_fits 3 0 [.ref p0a, .ref p1a, .int x2a, .int x3a] M (fun a b => a = wI r ∧ b = M) := by
  refine ev_of cyX9_fits.2.2.2.2 (Nat.le_of_ble_eq_true rfl) ?_
  show Fr _ _ _ _ _ _ 0 [(0, .ref p0a), (1, .ref p1a), (2, .int x2a), (3, .int x3a)] [] M _
  unfold f_X9_fits at h
  refine fr_iconst (v := 0) dX9_fits_0 (by decide) ?_
  refine fr_istore (L' := [(0, .ref p0a), (1, .ref p1a), (2, .int x2a), (3, .int x3a), (4, .int 0)]) dX9_fits_1 (by decide) rfl ?_
  obtain ⟨q14, eq14, h⟩ := ob h
  try dsimp only at h
  refine lp_X9_fits_3_ok (by omega) 100 _ q14 eq14 (fun q14_4 e9 => ?_) (fun q14_r e9 => ?_)
  · subst e9
    try dsimp only at h
    refine fr_iconst (v := 1) dX9_fits_59 (by decide) ?_
    obtain rfl := Option.some.inj h
    exact fr_zret (ty := .boolean) rfl rfl dX9_fits_60 ⟨rfl, rfl⟩
  · subst e9
    try dsimp only at h
    obtain rfl := Option.some.inj h
    exact ⟨rfl, rfl⟩
def f_X9_lay (p0a : Nat) (x1a : Int32) (x2a : Int32) (x3a : Int32) (M : Mem) : Option (Unit × Mem) := (gP M 9 p0a 1).bind fun p1 => (asI M 100 p1 x2a x1a).bind fun M2 => (gP M2 9 p0a 0).bind fun p3 => (aP M2 120 p3 x1a).bind fun p4 => (sI M2 7 p4 6 .int x2a).bind fun M5 => (gP M5 9 p0a 0).bind fun p6 => (aP M5 120 p6 x1a).bind fun p7 => (sI M5 7 p7 7 .int x3a).bind fun M8 => some ((), M8)
set_option maxRecDepth 20000 in
theorem ev_X9_lay {G : Nat × (Nat → Int32) × Value} {p0a : Nat} {x1a : Int32} {x2a : Int32} {x3a : Int32} {M : Mem} {r : Unit × Mem} (h : f_X9_lay p0a x1a x2a x3a M = some r) : Ev (roG G) false YX9_lay 0 0 [.ref p0a, .int x1a, .int x2a, .int x3a] M (fun a b => a = wU r.1 ∧ b = r.2) := by
  refine ev_of cyX9_lay.2.2.2.2 (Nat.le_of_ble_eq_true rfl) ?_
  show Fr _ _ _ _ _ _ 0 [(0, .ref p0a), (1, .int x1a), (2, .int x2a), (3, .int x3a)] [] M _
  unfold f_X9_lay at h
  refine fr_aload_n 0 dX9_lay_0 rfl ?_
  obtain ⟨p1, ep1, h⟩ := ob h
  try dsimp only at h
  refine fr_gP cb9 1 (by decide) rfl w_123 dX9_lay_1 ep1 ?_
  refine fr_iload_n 2 dX9_lay_4 rfl ?_
  refine fr_iload_n 1 dX9_lay_5 rfl ?_
  obtain ⟨M2, eM2, h⟩ := ob h
  try dsimp only at h
  refine fr_asI eM2 dX9_lay_6 ?_
  refine fr_aload_n 0 dX9_lay_7 rfl ?_
  obtain ⟨p3, ep3, h⟩ := ob h
  try dsimp only at h
  refine fr_gP cb9 0 (by decide) rfl w_121 dX9_lay_8 ep3 ?_
  refine fr_iload_n 1 dX9_lay_11 rfl ?_
  obtain ⟨p4, ep4, h⟩ := ob h
  try dsimp only at h
  refine fr_aP (t := 120) (by decide) ep4 dX9_lay_12 ?_
  refine fr_iload_n 2 dX9_lay_13 rfl ?_
  obtain ⟨M5, eM5, h⟩ := ob h
  try dsimp only at h
  refine fr_sI cb7 6 (by decide) rfl rfl w_96 dX9_lay_14 eM5 ?_
  refine fr_aload_n 0 dX9_lay_17 rfl ?_
  obtain ⟨p6, ep6, h⟩ := ob h
  try dsimp only at h
  refine fr_gP cb9 0 (by decide) rfl w_121 dX9_lay_18 ep6 ?_
  refine fr_iload_n 1 dX9_lay_21 rfl ?_
  obtain ⟨p7, ep7, h⟩ := ob h
  try dsimp only at h
  refine fr_aP (t := 120) (by decide) ep7 dX9_lay_22 ?_
  refine fr_iload_n 3 dX9_lay_23 rfl ?_
  obtain ⟨M8, eM8, h⟩ := ob h
  try dsimp only at h
  refine fr_sI cb7 7 (by decide) rfl rfl w_100 dX9_lay_24 eM8 ?_
  obtain rfl := Option.some.inj h
  exact fr_vret rfl dX9_lay_27 ⟨rfl, rfl⟩
def f_X9_lift (p0a : Nat) (x1a : Int32) (M : Mem) : Option (Unit × Mem) := (rc M 9 p0a).bind fun _ => (f_X9_sheetLaidIn p0a x1a M).bind fun r1 => (sI M 7 r1 6 .int (-1)).bind fun M3 => (gP M3 9 p0a 1).bind fun p4 => (asI M3 100 p4 x1a (-1)).bind fun M5 => some ((), M5)
set_option maxRecDepth 20000 in
theorem ev_X9_lift {G : Nat × (Nat → Int32) × Value} {p0a : Nat} {x1a : Int32} {M : Mem} {r : Unit × Mem} (h : f_X9_lift p0a x1a M = some r) : Ev (roG G) false YX9_lift 1 0 [.ref p0a, .int x1a] M (fun a b => a = wU r.1 ∧ b = r.2) := by
  refine ev_of cyX9_lift.2.2.2.2 (Nat.le_of_ble_eq_true rfl) ?_
  show Fr _ _ _ _ _ _ 0 [(0, .ref p0a), (1, .int x1a)] [] M _
  unfold f_X9_lift at h
  refine fr_aload_n 0 dX9_lift_0 rfl ?_
  refine fr_iload_n 1 dX9_lift_1 rfl ?_
  obtain ⟨u2, eu2, h⟩ := ob h
  try dsimp only at h
  obtain ⟨r1, er1, h⟩ := ob h
  try dsimp only at h
  refine fr_callV (g1 := false) (k2 := 0) (ev_X9_sheetLaidIn er1) rfl cyX9_sheetLaidIn w_594 w_595 w_596 (rc_ok eu2 rfl (by decide)) (by rfl) (by omega) (by omega) (by rfl) (Nat.le_of_ble_eq_true rfl) dX9_lift_2 (Or.inl rfl) (fun v M9 q _ => ?_) (fun E M9 q _ => (Sum.inr_ne_inl q.1).elim)
  obtain rfl : v = some (.ref r1) := Sum.inl.inj q.1
  obtain rfl := q.2.symm
  refine fr_st (S' := [.ref r1]) rfl ?_
  refine fr_iconst (v := (-1)) dX9_lift_5 (by decide) ?_
  obtain ⟨M3, eM3, h⟩ := ob h
  try dsimp only at h
  refine fr_sI cb7 6 (by decide) rfl rfl w_96 dX9_lift_6 eM3 ?_
  refine fr_aload_n 0 dX9_lift_9 rfl ?_
  obtain ⟨p4, ep4, h⟩ := ob h
  try dsimp only at h
  refine fr_gP cb9 1 (by decide) rfl w_123 dX9_lift_10 ep4 ?_
  refine fr_iload_n 1 dX9_lift_13 rfl ?_
  refine fr_iconst (v := (-1)) dX9_lift_14 (by decide) ?_
  obtain ⟨M5, eM5, h⟩ := ob h
  try dsimp only at h
  refine fr_asI eM5 dX9_lift_15 ?_
  obtain rfl := Option.some.inj h
  exact fr_vret rfl dX9_lift_16 ⟨rfl, rfl⟩
def lp_X10_waysFrom_65 (rec : Nat → Int32 → Int32 → Mem → Option (Int32 × Mem)) (p_0 : Nat) (x_1 : Int32) (x_2 : Int32) (x_3 : Int32) (x_5 : Int32) (p_6 : Nat) : Nat → Int32 → Int32 → Mem → Option ((Int32 × Int32 × Mem) ⊕ (Int32 × Mem))
  | 0, _, _, _ => none
  | n + 1, x_4, x_7, M_ => if 4 ≤ x_7 then (some (.inl (x_4, x_7, M_))) else ((rc M_ 7 p_6).bind fun _ => (f_X7_canBeLaid p_6 M_).bind fun r11 => if r11 = 0 then (lp_X10_waysFrom_65 rec p_0 x_1 x_2 x_3 x_5 p_6 n x_4 (x_7 + 1) M_) else ((rc M_ 9 p_0).bind fun _ => (f_X9_fits p_0 p_6 x_3 x_7 M_).bind fun r14 => if r14 = 0 then (lp_X10_waysFrom_65 rec p_0 x_1 x_2 x_3 x_5 p_6 n x_4 (x_7 + 1) M_) else ((rc M_ 9 p_0).bind fun _ => (f_X9_lay p_0 x_5 x_3 x_7 M_).bind fun r17 => (rec p_0 (x_1 + 1) x_2 r17.2).bind fun r19 => (rc r19.2 9 p_0).bind fun _ => (f_X9_lift p_0 x_3 r19.2).bind fun r20 => lp_X10_waysFrom_65 rec p_0 x_1 x_2 x_3 x_5 p_6 n (x_4 + r19.1) (x_7 + 1) r20.2)))
def lp_X10_waysFrom_44 (rec : Nat → Int32 → Int32 → Mem → Option (Int32 × Mem)) (p_0 : Nat) (x_1 : Int32) (x_2 : Int32) (x_3 : Int32) : Nat → Int32 → Int32 → Mem → Option ((Int32 × Int32 × Mem) ⊕ (Int32 × Mem))
  | 0, _, _, _ => none
  | n + 1, x_4, x_5, M_ => (gI M_ 9 p_0 2).bind fun x6 => if x6 ≤ x_5 then (some (.inl (x_4, x_5, M_))) else ((gP M_ 9 p_0 0).bind fun p8 => (aP M_ 120 p8 x_5).bind fun p9 => ((lp_X10_waysFrom_65 rec p_0 x_1 x_2 x_3 x_5 p9 100 x_4 0 M_).bind fun q22 => match q22 with | .inl (q22_4, q22_7, q22_M) => (lp_X10_waysFrom_44 rec p_0 x_1 x_2 x_3 n q22_4 (x_5 + 1) q22_M) | .inr q22_r => some (.inr q22_r)))
def f_X10_waysFrom : Nat → Nat → Int32 → Int32 → Mem → Option (Int32 × Mem)
  | 0, _, _, _, _ => none
  | n + 1, p0a, x1a, x2a, M => if x1a < 9 then (if x2a = 0 then ((rc M 9 p0a).bind fun _ => (f_X9_isOccupied p0a x1a M).bind fun r3 => if r3 = 0 then ((lp_X10_waysFrom_44 (f_X10_waysFrom n) p0a x1a x2a x1a 100 0 0 M).bind fun q23 => match q23 with | .inl (q23_4, q23_5, q23_M) => (some (q23_4, q23_M)) | .inr q23_r => some q23_r) else (((f_X10_waysFrom n) p0a (x1a + 1) x2a M).bind fun r24 => some (r24.1, r24.2))) else ((rc M 9 p0a).bind fun _ => (f_X9_isOccupied p0a (8 - x1a) M).bind fun r25 => if r25 = 0 then ((lp_X10_waysFrom_44 (f_X10_waysFrom n) p0a x1a x2a (8 - x1a) 100 0 0 M).bind fun q28 => match q28 with | .inl (q28_4, q28_5, q28_M) => (some (q28_4, q28_M)) | .inr q28_r => some q28_r) else (((f_X10_waysFrom n) p0a (x1a + 1) x2a M).bind fun r29 => some (r29.1, r29.2)))) else (some (1, M))
set_option maxRecDepth 20000 in
theorem lp_X10_waysFrom_65_ok {G : Nat × (Nat → Int32) × Value} {P : Res → Mem → Prop} {n0 d ke : Nat} {rec : Nat → Int32 → Int32 → Mem → Option (Int32 × Mem)} {dr : Nat} {p_0 : Nat} {x_1 : Int32} {x_2 : Int32} {x_3 : Int32} {x_5 : Int32} {p_6 : Nat} (hd : 4 ≤ d) (hdr : dr + 1 ≤ d) (hrec : ∀ (a0 : Nat) (a1 : Int32) (a2 : Int32) (Mr : Mem) (r : Int32 × Mem), rec a0 a1 a2 Mr = some r → Ev (roG G) false YX10_waysFrom dr 0 [.ref a0, .int a1, .int a2] Mr (fun a b => a = wI r.1 ∧ b = r.2)) : ∀ (n : Nat) (x_4 : Int32) (x_7 : Int32) (M_ : Mem) (res : (Int32 × Int32 × Mem) ⊕ (Int32 × Mem)), lp_X10_waysFrom_65 rec p_0 x_1 x_2 x_3 x_5 p_6 n x_4 x_7 M_ = some res → (∀ (y_4 : Int32) (y_7 : Int32) (M9 : Mem), res = .inl (y_4, y_7, M9) → Fr (roG G) false n0 YX10_waysFrom d ke 124 [(0, .ref p_0), (1, .int x_1), (2, .int x_2), (3, .int x_3), (4, .int y_4), (5, .int x_5), (6, .ref p_6), (7, .int y_7)] [] M9 P) → (∀ r : Int32 × Mem, res = .inr r → P (wI r.1) r.2) → Fr (roG G) false n0 YX10_waysFrom d ke 65 [(0, .ref p_0), (1, .int x_1), (2, .int x_2), (3, .int x_3), (4, .int x_4), (5, .int x_5), (6, .ref p_6), (7, .int x_7)] [] M_ P := by
  intro n
  induction n with
  | zero => intro x_4 x_7 M_ res h; unfold lp_X10_waysFrom_65 at h; cases h
  | succ n ih =>
    intro x_4 x_7 M_ res h he hr
    unfold lp_X10_waysFrom_65 at h
    refine fr_iload 7 dX10_waysFrom_65 rfl ?_
    refine fr_iconst (v := 4) dX10_waysFrom_67 (by decide) ?_
    refine fr_icmp_ge 124 dX10_waysFrom_68 (by decide) (fun c10 => ?_) (fun c10 => ?_)
    · rw [if_pos c10] at h
      obtain rfl := Option.some.inj h
      exact he _ _ _ rfl
    · rw [if_neg c10] at h
      refine fr_aload 6 dX10_waysFrom_71 rfl ?_
      obtain ⟨u12, eu12, h⟩ := ob h
      try dsimp only at h
      obtain ⟨r11, er11, h⟩ := ob h
      try dsimp only at h
      refine fr_callV (g1 := false) (k2 := ke) (ev_X7_canBeLaid er11) rfl cyX7_canBeLaid w_1011 w_571 w_572 (rc_ok eu12 rfl (by decide)) (by rfl) (by omega) (by omega) (by rfl) (Nat.le_of_ble_eq_true rfl) dX10_waysFrom_73 (Or.inl rfl) (fun v M9 q _ => ?_) (fun E M9 q _ => (Sum.inr_ne_inl q.1).elim)
      obtain rfl : v = some (.int r11) := Sum.inl.inj q.1
      obtain rfl := q.2.symm
      refine fr_st (S' := [.int r11]) rfl ?_
      refine fr_if_eq 118 dX10_waysFrom_76 (by decide) (fun c13 => ?_) (fun c13 => ?_)
      · rw [if_pos c13] at h
        refine fr_iinc (v := (x_7 + 1)) (L' := [(0, .ref p_0), (1, .int x_1), (2, .int x_2), (3, .int x_3), (4, .int x_4), (5, .int x_5), (6, .ref p_6), (7, .int (x_7 + 1))]) 7 dX10_waysFrom_118 rfl rfl (by decide) rfl ?_
        refine fr_goto 65 dX10_waysFrom_121 (by decide) ?_
        exact ih _ _ _ _ h he hr
      · rw [if_neg c13] at h
        refine fr_aload_n 0 dX10_waysFrom_79 rfl ?_
        refine fr_aload 6 dX10_waysFrom_80 rfl ?_
        refine fr_iload_n 3 dX10_waysFrom_82 rfl ?_
        refine fr_iload 7 dX10_waysFrom_83 rfl ?_
        obtain ⟨u15, eu15, h⟩ := ob h
        try dsimp only at h
        obtain ⟨r14, er14, h⟩ := ob h
        try dsimp only at h
        refine fr_callV (g1 := false) (k2 := ke) (ev_X9_fits er14) rfl cyX9_fits w_1012 w_584 w_585 (rc_ok eu15 rfl (by decide)) (by rfl) (by omega) (by omega) (by rfl) (Nat.le_of_ble_eq_true rfl) dX10_waysFrom_85 (Or.inl rfl) (fun v M9 q _ => ?_) (fun E M9 q _ => (Sum.inr_ne_inl q.1).elim)
        obtain rfl : v = some (.int r14) := Sum.inl.inj q.1
        obtain rfl := q.2.symm
        refine fr_st (S' := [.int r14]) rfl ?_
        refine fr_if_eq 118 dX10_waysFrom_88 (by decide) (fun c16 => ?_) (fun c16 => ?_)
        · rw [if_pos c16] at h
          refine fr_iinc (v := (x_7 + 1)) (L' := [(0, .ref p_0), (1, .int x_1), (2, .int x_2), (3, .int x_3), (4, .int x_4), (5, .int x_5), (6, .ref p_6), (7, .int (x_7 + 1))]) 7 dX10_waysFrom_118 rfl rfl (by decide) rfl ?_
          refine fr_goto 65 dX10_waysFrom_121 (by decide) ?_
          exact ih _ _ _ _ h he hr
        · rw [if_neg c16] at h
          refine fr_aload_n 0 dX10_waysFrom_91 rfl ?_
          refine fr_iload 5 dX10_waysFrom_92 rfl ?_
          refine fr_iload_n 3 dX10_waysFrom_94 rfl ?_
          refine fr_iload 7 dX10_waysFrom_95 rfl ?_
          obtain ⟨u18, eu18, h⟩ := ob h
          try dsimp only at h
          obtain ⟨r17, er17, h⟩ := ob h
          try dsimp only at h
          refine fr_callV (g1 := false) (k2 := ke) (ev_X9_lay er17) rfl cyX9_lay w_1013 w_614 w_615 (rc_ok eu18 rfl (by decide)) (by rfl) (by omega) (by omega) (by rfl) (Nat.le_of_ble_eq_true rfl) dX10_waysFrom_97 (Or.inl rfl) (fun v M9 q _ => ?_) (fun E M9 q _ => (Sum.inr_ne_inl q.1).elim)
          obtain rfl : v = none := Sum.inl.inj q.1
          obtain rfl := q.2.symm
          refine fr_st (S' := []) rfl ?_
          refine fr_iload 4 dX10_waysFrom_100 rfl ?_
          refine fr_aload_n 0 dX10_waysFrom_102 rfl ?_
          refine fr_iload_n 1 dX10_waysFrom_103 rfl ?_
          refine fr_iconst (v := 1) dX10_waysFrom_104 (by decide) ?_
          refine fr_iadd dX10_waysFrom_105 ?_
          refine fr_iload_n 2 dX10_waysFrom_106 rfl ?_
          obtain ⟨r19, er19, h⟩ := ob h
          try dsimp only at h
          refine fr_callS (g1 := false) (k2 := ke) (hrec _ _ _ _ _ er19) rfl cyX10_waysFrom w_1008 w_1009 (by rfl) (by omega) (by omega) (by rfl) (Nat.le_of_ble_eq_true rfl) dX10_waysFrom_107 (Or.inl rfl) (fun v M9 q _ => ?_) (fun E M9 q _ => (Sum.inr_ne_inl q.1).elim)
          obtain rfl : v = some (.int r19.1) := Sum.inl.inj q.1
          obtain rfl := q.2.symm
          refine fr_st (S' := [.int r19.1, .int x_4]) rfl ?_
          refine fr_iadd dX10_waysFrom_110 ?_
          refine fr_istore (L' := [(0, .ref p_0), (1, .int x_1), (2, .int x_2), (3, .int x_3), (4, .int (x_4 + r19.1)), (5, .int x_5), (6, .ref p_6), (7, .int x_7)]) dX10_waysFrom_111 (by decide) rfl ?_
          refine fr_aload_n 0 dX10_waysFrom_113 rfl ?_
          refine fr_iload_n 3 dX10_waysFrom_114 rfl ?_
          obtain ⟨u21, eu21, h⟩ := ob h
          try dsimp only at h
          obtain ⟨r20, er20, h⟩ := ob h
          try dsimp only at h
          refine fr_callV (g1 := false) (k2 := ke) (ev_X9_lift er20) rfl cyX9_lift w_1014 w_634 w_635 (rc_ok eu21 rfl (by decide)) (by rfl) (by omega) (by omega) (by rfl) (Nat.le_of_ble_eq_true rfl) dX10_waysFrom_115 (Or.inl rfl) (fun v M9 q _ => ?_) (fun E M9 q _ => (Sum.inr_ne_inl q.1).elim)
          obtain rfl : v = none := Sum.inl.inj q.1
          obtain rfl := q.2.symm
          refine fr_st (S' := []) rfl ?_
          refine fr_iinc (v := (x_7 + 1)) (L' := [(0, .ref p_0), (1, .int x_1), (2, .int x_2), (3, .int x_3), (4, .int (x_4 + r19.1)), (5, .int x_5), (6, .ref p_6), (7, .int (x_7 + 1))]) 7 dX10_waysFrom_118 rfl rfl (by decide) rfl ?_
          refine fr_goto 65 dX10_waysFrom_121 (by decide) ?_
          exact ih _ _ _ _ h he hr
set_option maxRecDepth 20000 in
theorem lp_X10_waysFrom_44_ok {G : Nat × (Nat → Int32) × Value} {P : Res → Mem → Prop} {n0 d ke : Nat} {rec : Nat → Int32 → Int32 → Mem → Option (Int32 × Mem)} {dr : Nat} {p_0 : Nat} {x_1 : Int32} {x_2 : Int32} {x_3 : Int32} (hd : 4 ≤ d) (hdr : dr + 1 ≤ d) (hrec : ∀ (a0 : Nat) (a1 : Int32) (a2 : Int32) (Mr : Mem) (r : Int32 × Mem), rec a0 a1 a2 Mr = some r → Ev (roG G) false YX10_waysFrom dr 0 [.ref a0, .int a1, .int a2] Mr (fun a b => a = wI r.1 ∧ b = r.2)) : ∀ (n : Nat) (x_4 : Int32) (x_5 : Int32) (M_ : Mem) (res : (Int32 × Int32 × Mem) ⊕ (Int32 × Mem)), lp_X10_waysFrom_44 rec p_0 x_1 x_2 x_3 n x_4 x_5 M_ = some res → (∀ (y_4 : Int32) (y_5 : Int32) (M9 : Mem), res = .inl (y_4, y_5, M9) → Fr (roG G) false n0 YX10_waysFrom d ke 130 [(0, .ref p_0), (1, .int x_1), (2, .int x_2), (3, .int x_3), (4, .int y_4), (5, .int y_5)] [] M9 P) → (∀ r : Int32 × Mem, res = .inr r → P (wI r.1) r.2) → Fr (roG G) false n0 YX10_waysFrom d ke 44 [(0, .ref p_0), (1, .int x_1), (2, .int x_2), (3, .int x_3), (4, .int x_4), (5, .int x_5)] [] M_ P := by
  intro n
  induction n with
  | zero => intro x_4 x_5 M_ res h; unfold lp_X10_waysFrom_44 at h; cases h
  | succ n ih =>
    intro x_4 x_5 M_ res h he hr
    unfold lp_X10_waysFrom_44 at h
    refine fr_iload 5 dX10_waysFrom_44 rfl ?_
    refine fr_aload_n 0 dX10_waysFrom_46 rfl ?_
    obtain ⟨x6, ex6, h⟩ := ob h
    try dsimp only at h
    refine fr_gI cb9 2 (by decide) rfl w_127 dX10_waysFrom_47 ex6 ?_
    refine fr_icmp_ge 130 dX10_waysFrom_50 (by decide) (fun c7 => ?_) (fun c7 => ?_)
    · rw [if_pos c7] at h
      obtain rfl := Option.some.inj h
      exact he _ _ _ rfl
    · rw [if_neg c7] at h
      refine fr_aload_n 0 dX10_waysFrom_53 rfl ?_
      obtain ⟨p8, ep8, h⟩ := ob h
      try dsimp only at h
      refine fr_gP cb9 0 (by decide) rfl w_122 dX10_waysFrom_54 ep8 ?_
      refine fr_iload 5 dX10_waysFrom_57 rfl ?_
      obtain ⟨p9, ep9, h⟩ := ob h
      try dsimp only at h
      refine fr_aP (t := 120) (by decide) ep9 dX10_waysFrom_59 ?_
      refine fr_astore (L' := [(0, .ref p_0), (1, .int x_1), (2, .int x_2), (3, .int x_3), (4, .int x_4), (5, .int x_5), (6, .ref p9)]) dX10_waysFrom_60 (by decide) rfl ?_
      refine fr_iconst (v := 0) dX10_waysFrom_62 (by decide) ?_
      refine fr_istore (L' := [(0, .ref p_0), (1, .int x_1), (2, .int x_2), (3, .int x_3), (4, .int x_4), (5, .int x_5), (6, .ref p9), (7, .int 0)]) dX10_waysFrom_63 (by decide) rfl ?_
      obtain ⟨q22, eq22, h⟩ := ob h
      try dsimp only at h
      refine lp_X10_waysFrom_65_ok (by omega) (by omega) hrec 100 _ _ _ q22 eq22 (fun q22_4 q22_7 q22_M e9 => ?_) (fun q22_r e9 => ?_)
      · subst e9
        try dsimp only at h
        refine fr_iinc (v := (x_5 + 1)) (L' := [(0, .ref p_0), (1, .int x_1), (2, .int x_2), (3, .int x_3), (4, .int q22_4), (5, .int (x_5 + 1)), (6, .ref p9), (7, .int q22_7)]) 5 dX10_waysFrom_124 rfl rfl (by decide) rfl ?_
        refine fr_goto 44 dX10_waysFrom_127 (by decide) ?_
        refine fr_loc [0, 1, 2, 3, 4, 5] (L' := [(0, .ref p_0), (1, .int x_1), (2, .int x_2), (3, .int x_3), (4, .int q22_4), (5, .int (x_5 + 1))]) rfl ?_
        exact ih _ _ _ _ h he hr
      · subst e9
        try dsimp only at h
        obtain rfl := Option.some.inj h
        exact hr _ rfl
set_option maxRecDepth 20000 in
theorem ev_X10_waysFrom {G : Nat × (Nat → Int32) × Value} : ∀ (n : Nat) (p0a : Nat) (x1a : Int32) (x2a : Int32) (M : Mem) (r : Int32 × Mem), f_X10_waysFrom n p0a x1a x2a M = some r → Ev (roG G) false YX10_waysFrom (4 + n) 0 [.ref p0a, .int x1a, .int x2a] M (fun a b => a = wI r.1 ∧ b = r.2) := by
  intro n
  induction n with
  | zero => intro p0a x1a x2a M r h; unfold f_X10_waysFrom at h; cases h
  | succ n hrec =>
    intro p0a x1a x2a M r h
    refine ev_of cyX10_waysFrom.2.2.2.2 (Nat.le_of_ble_eq_true rfl) ?_
    show Fr _ _ _ _ _ _ 0 [(0, .ref p0a), (1, .int x1a), (2, .int x2a)] [] M _
    unfold f_X10_waysFrom at h
    refine fr_iload_n 1 dX10_waysFrom_0 rfl ?_
    refine fr_bipush (v := 9) dX10_waysFrom_1 (by decide) ?_
    refine fr_icmp_lt 8 dX10_waysFrom_3 (by decide) (fun c1 => ?_) (fun c1 => ?_)
    · rw [if_pos c1] at h
      refine fr_iload_n 2 dX10_waysFrom_8 rfl ?_
      refine fr_if_eq 19 dX10_waysFrom_9 (by decide) (fun c2 => ?_) (fun c2 => ?_)
      · rw [if_pos c2] at h
        refine fr_iload_n 1 dX10_waysFrom_19 rfl ?_
        refine fr_istore_n (L' := [(0, .ref p0a), (1, .int x1a), (2, .int x2a), (3, .int x1a)]) dX10_waysFrom_20 (by decide) rfl ?_
        refine fr_aload_n 0 dX10_waysFrom_21 rfl ?_
        refine fr_iload_n 3 dX10_waysFrom_22 rfl ?_
        obtain ⟨u4, eu4, h⟩ := ob h
        try dsimp only at h
        obtain ⟨r3, er3, h⟩ := ob h
        try dsimp only at h
        refine fr_callV (g1 := false) (k2 := 0) (ev_X9_isOccupied er3) rfl cyX9_isOccupied w_691 w_580 w_581 (rc_ok eu4 rfl (by decide)) (by rfl) (by omega) (by omega) (by rfl) (Nat.le_of_ble_eq_true rfl) dX10_waysFrom_23 (Or.inl rfl) (fun v M9 q _ => ?_) (fun E M9 q _ => (Sum.inr_ne_inl q.1).elim)
        obtain rfl : v = some (.int r3) := Sum.inl.inj q.1
        obtain rfl := q.2.symm
        refine fr_st (S' := [.int r3]) rfl ?_
        refine fr_if_eq 38 dX10_waysFrom_26 (by decide) (fun c5 => ?_) (fun c5 => ?_)
        · rw [if_pos c5] at h
          refine fr_iconst (v := 0) dX10_waysFrom_38 (by decide) ?_
          refine fr_istore (L' := [(0, .ref p0a), (1, .int x1a), (2, .int x2a), (3, .int x1a), (4, .int 0)]) dX10_waysFrom_39 (by decide) rfl ?_
          refine fr_iconst (v := 0) dX10_waysFrom_41 (by decide) ?_
          refine fr_istore (L' := [(0, .ref p0a), (1, .int x1a), (2, .int x2a), (3, .int x1a), (4, .int 0), (5, .int 0)]) dX10_waysFrom_42 (by decide) rfl ?_
          obtain ⟨q23, eq23, h⟩ := ob h
          try dsimp only at h
          refine lp_X10_waysFrom_44_ok (by omega) (by omega) hrec 100 _ _ _ q23 eq23 (fun q23_4 q23_5 q23_M e9 => ?_) (fun q23_r e9 => ?_)
          · subst e9
            try dsimp only at h
            refine fr_iload 4 dX10_waysFrom_130 rfl ?_
            obtain rfl := Option.some.inj h
            exact fr_iret rfl dX10_waysFrom_132 ⟨rfl, rfl⟩
          · subst e9
            try dsimp only at h
            obtain rfl := Option.some.inj h
            exact ⟨rfl, rfl⟩
        · rw [if_neg c5] at h
          refine fr_aload_n 0 dX10_waysFrom_29 rfl ?_
          refine fr_iload_n 1 dX10_waysFrom_30 rfl ?_
          refine fr_iconst (v := 1) dX10_waysFrom_31 (by decide) ?_
          refine fr_iadd dX10_waysFrom_32 ?_
          refine fr_iload_n 2 dX10_waysFrom_33 rfl ?_
          obtain ⟨r24, er24, h⟩ := ob h
          try dsimp only at h
          refine fr_callS (g1 := false) (k2 := 0) (hrec _ _ _ _ _ er24) rfl cyX10_waysFrom w_1008 w_1009 (by rfl) (by omega) (by omega) (by rfl) (Nat.le_of_ble_eq_true rfl) dX10_waysFrom_34 (Or.inl rfl) (fun v M9 q _ => ?_) (fun E M9 q _ => (Sum.inr_ne_inl q.1).elim)
          obtain rfl : v = some (.int r24.1) := Sum.inl.inj q.1
          obtain rfl := q.2.symm
          refine fr_st (S' := [.int r24.1]) rfl ?_
          obtain rfl := Option.some.inj h
          exact fr_iret rfl dX10_waysFrom_37 ⟨rfl, rfl⟩
      · rw [if_neg c2] at h
        refine fr_bipush (v := 8) dX10_waysFrom_12 (by decide) ?_
        refine fr_iload_n 1 dX10_waysFrom_14 rfl ?_
        refine fr_isub dX10_waysFrom_15 ?_
        refine fr_goto 20 dX10_waysFrom_16 (by decide) ?_
        refine fr_istore_n (L' := [(0, .ref p0a), (1, .int x1a), (2, .int x2a), (3, .int (8 - x1a))]) dX10_waysFrom_20 (by decide) rfl ?_
        refine fr_aload_n 0 dX10_waysFrom_21 rfl ?_
        refine fr_iload_n 3 dX10_waysFrom_22 rfl ?_
        obtain ⟨u26, eu26, h⟩ := ob h
        try dsimp only at h
        obtain ⟨r25, er25, h⟩ := ob h
        try dsimp only at h
        refine fr_callV (g1 := false) (k2 := 0) (ev_X9_isOccupied er25) rfl cyX9_isOccupied w_691 w_580 w_581 (rc_ok eu26 rfl (by decide)) (by rfl) (by omega) (by omega) (by rfl) (Nat.le_of_ble_eq_true rfl) dX10_waysFrom_23 (Or.inl rfl) (fun v M9 q _ => ?_) (fun E M9 q _ => (Sum.inr_ne_inl q.1).elim)
        obtain rfl : v = some (.int r25) := Sum.inl.inj q.1
        obtain rfl := q.2.symm
        refine fr_st (S' := [.int r25]) rfl ?_
        refine fr_if_eq 38 dX10_waysFrom_26 (by decide) (fun c27 => ?_) (fun c27 => ?_)
        · rw [if_pos c27] at h
          refine fr_iconst (v := 0) dX10_waysFrom_38 (by decide) ?_
          refine fr_istore (L' := [(0, .ref p0a), (1, .int x1a), (2, .int x2a), (3, .int (8 - x1a)), (4, .int 0)]) dX10_waysFrom_39 (by decide) rfl ?_
          refine fr_iconst (v := 0) dX10_waysFrom_41 (by decide) ?_
          refine fr_istore (L' := [(0, .ref p0a), (1, .int x1a), (2, .int x2a), (3, .int (8 - x1a)), (4, .int 0), (5, .int 0)]) dX10_waysFrom_42 (by decide) rfl ?_
          obtain ⟨q28, eq28, h⟩ := ob h
          try dsimp only at h
          refine lp_X10_waysFrom_44_ok (by omega) (by omega) hrec 100 _ _ _ q28 eq28 (fun q28_4 q28_5 q28_M e9 => ?_) (fun q28_r e9 => ?_)
          · subst e9
            try dsimp only at h
            refine fr_iload 4 dX10_waysFrom_130 rfl ?_
            obtain rfl := Option.some.inj h
            exact fr_iret rfl dX10_waysFrom_132 ⟨rfl, rfl⟩
          · subst e9
            try dsimp only at h
            obtain rfl := Option.some.inj h
            exact ⟨rfl, rfl⟩
        · rw [if_neg c27] at h
          refine fr_aload_n 0 dX10_waysFrom_29 rfl ?_
          refine fr_iload_n 1 dX10_waysFrom_30 rfl ?_
          refine fr_iconst (v := 1) dX10_waysFrom_31 (by decide) ?_
          refine fr_iadd dX10_waysFrom_32 ?_
          refine fr_iload_n 2 dX10_waysFrom_33 rfl ?_
          obtain ⟨r29, er29, h⟩ := ob h
          try dsimp only at h
          refine fr_callS (g1 := false) (k2 := 0) (hrec _ _ _ _ _ er29) rfl cyX10_waysFrom w_1008 w_1009 (by rfl) (by omega) (by omega) (by rfl) (Nat.le_of_ble_eq_true rfl) dX10_waysFrom_34 (Or.inl rfl) (fun v M9 q _ => ?_) (fun E M9 q _ => (Sum.inr_ne_inl q.1).elim)
          obtain rfl : v = some (.int r29.1) := Sum.inl.inj q.1
          obtain rfl := q.2.symm
          refine fr_st (S' := [.int r29.1]) rfl ?_
          obtain rfl := Option.some.inj h
          exact fr_iret rfl dX10_waysFrom_37 ⟨rfl, rfl⟩
    · rw [if_neg c1] at h
      refine fr_iconst (v := 1) dX10_waysFrom_6 (by decide) ?_
      obtain rfl := Option.some.inj h
      exact fr_iret rfl dX10_waysFrom_7 ⟨rfl, rfl⟩
def f_X10_completions (p0a : Nat) (M : Mem) : Option ((Int32 ⊕ String) × Mem) := (rc M 10 p0a).bind fun _ => (f_X10_demandFewEmptyCells p0a M).bind fun r1 => (match r1 with | .inl r1v => ((gP M 10 p0a 0).bind fun p3 => (f_X10_waysFrom 12 p3 0 0 M).bind fun r4 => some ((.inl r4.1), r4.2)) | .inr r1E => (some ((.inr r1E), M)))
set_option maxRecDepth 20000 in
theorem ev_X10_completions {G : Nat × (Nat → Int32) × Value} {p0a : Nat} {M : Mem} {r : (Int32 ⊕ String) × Mem} (h : f_X10_completions p0a M = some r) : Ev (roG G) false YX10_completions 17 1 [.ref p0a] M (fun a b => a = (wE wI) r.1 ∧ b = r.2) := by
  refine ev_of cyX10_completions.2.2.2.2 (Nat.le_of_ble_eq_true rfl) ?_
  show Fr _ _ _ _ _ _ 0 [(0, .ref p0a)] [] M _
  unfold f_X10_completions at h
  refine fr_aload_n 0 dX10_completions_0 rfl ?_
  obtain ⟨u2, eu2, h⟩ := ob h
  try dsimp only at h
  obtain ⟨r1, er1, h⟩ := ob h
  try dsimp only at h
  rcases r1 with r1v | r1E
  · try dsimp only at h
    refine fr_callV (g1 := false) (k2 := 0) (ev_X10_demandFewEmptyCells er1) rfl cyX10_demandFewEmptyCells w_1003 w_1005 w_7 (rc_ok eu2 rfl (by decide)) (by rfl) (by omega) (by omega) (by rfl) (Nat.le_of_ble_eq_true rfl) dX10_completions_1 (Or.inl rfl) (fun v M9 q _ => ?_) (fun E M9 q _ => (Sum.inr_ne_inl q.1).elim)
    obtain rfl : v = none := Sum.inl.inj q.1
    obtain rfl := q.2.symm
    refine fr_st (S' := []) rfl ?_
    refine fr_aload_n 0 dX10_completions_4 rfl ?_
    obtain ⟨p3, ep3, h⟩ := ob h
    try dsimp only at h
    refine fr_gP cb10 0 (by decide) rfl w_227 dX10_completions_5 ep3 ?_
    refine fr_iconst (v := 0) dX10_completions_8 (by decide) ?_
    refine fr_iconst (v := 0) dX10_completions_9 (by decide) ?_
    obtain ⟨r4, er4, h⟩ := ob h
    try dsimp only at h
    refine fr_callS (g1 := false) (k2 := 0) (ev_X10_waysFrom _ _ _ _ _ _ er4) rfl cyX10_waysFrom w_1008 w_1009 (by rfl) (by omega) (by omega) (by rfl) (Nat.le_of_ble_eq_true rfl) dX10_completions_10 (Or.inl rfl) (fun v M9 q _ => ?_) (fun E M9 q _ => (Sum.inr_ne_inl q.1).elim)
    obtain rfl : v = some (.int r4.1) := Sum.inl.inj q.1
    obtain rfl := q.2.symm
    refine fr_st (S' := [.int r4.1]) rfl ?_
    obtain rfl := Option.some.inj h
    exact fr_iret rfl dX10_completions_13 ⟨rfl, rfl⟩
  · try dsimp only at h
    refine fr_callV (g1 := false) (k2 := 0) (ev_X10_demandFewEmptyCells er1) rfl cyX10_demandFewEmptyCells w_1003 w_1005 w_7 (rc_ok eu2 rfl (by decide)) (by rfl) (by omega) (by omega) (by rfl) (Nat.le_of_ble_eq_true rfl) dX10_completions_1 (Or.inl rfl) (fun v M9 q _ => (Sum.inl_ne_inr q.1).elim) (fun E M9 q _ => ?_)
    obtain rfl : r1E = E := (Sum.inr.inj q.1).symm
    obtain rfl := q.2.symm
    obtain rfl := Option.some.inj h
    exact fx_no rfl ⟨rfl, rfl⟩
def f_L_completions (p0a : Nat) (M : Mem) : Option (Int32 × Mem) := (rc M 10 p0a).bind fun _ => (f_X10_completions p0a M).bind fun r1 => (match r1 with | (.inl r1v, r1M) => (some (r1v, r1M)) | (.inr r1E, r1M) => (if r1E = "java/lang/UnsupportedOperationException" then (some ((-1001), r1M)) else none))
set_option maxRecDepth 20000 in
theorem ev_L_completions {G : Nat × (Nat → Int32) × Value} {p0a : Nat} {M : Mem} {r : Int32 × Mem} (h : f_L_completions p0a M = some r) : Ev (roG G) false YL_completions 18 1 [.ref p0a] M (fun a b => a = wI r.1 ∧ b = r.2) := by
  refine ev_of cyL_completions.2.2.2.2 (Nat.le_of_ble_eq_true rfl) ?_
  show Fr _ _ _ _ _ _ 0 [(0, .ref p0a)] [] M _
  unfold f_L_completions at h
  refine fr_aload_n 0 dL_completions_0 rfl ?_
  obtain ⟨u2, eu2, h⟩ := ob h
  try dsimp only at h
  obtain ⟨r1, er1, h⟩ := ob h
  try dsimp only at h
  obtain ⟨r1v | r1E, r1M⟩ := r1
  · try dsimp only at h
    refine fr_callV (g1 := false) (k2 := 0) (ev_X10_completions er1) rfl cyX10_completions w_999 w_1000 w_1001 (rc_ok eu2 rfl (by decide)) (by rfl) (by omega) (by omega) (by rfl) (Nat.le_of_ble_eq_true rfl) dL_completions_1 (Or.inl rfl) (fun v M9 q _ => ?_) (fun E M9 q _ => (Sum.inr_ne_inl q.1).elim)
    obtain rfl : v = some (.int r1v) := Sum.inl.inj q.1
    obtain rfl := q.2.symm
    refine fr_st (S' := [.int r1v]) rfl ?_
    obtain rfl := Option.some.inj h
    exact fr_iret rfl dL_completions_4 ⟨rfl, rfl⟩
  · try dsimp only at h
    refine fr_callV (g1 := false) (k2 := 0) (ev_X10_completions er1) rfl cyX10_completions w_999 w_1000 w_1001 (rc_ok eu2 rfl (by decide)) (by rfl) (by omega) (by omega) (by rfl) (Nat.le_of_ble_eq_true rfl) dL_completions_1 (Or.inl rfl) (fun v M9 q _ => (Sum.inl_ne_inr q.1).elim) (fun E M9 q _ => ?_)
    obtain rfl : r1E = E := (Sum.inr.inj q.1).symm
    obtain rfl := q.2.symm
    by_cases e3_0 : r1E = "java/lang/UnsupportedOperationException"
    · rw [if_pos e3_0] at h
      subst e3_0
      refine fx_catch (E := "java/lang/UnsupportedOperationException") (name := "java/lang/UnsupportedOperationException") (L' := [(0, .ref p0a)]) [] { startPc := 0, endPc := 4, handlerPc := 5, catchType := 33 } [] rfl ?_ (by decide) (by decide) w_544 (show _ ∈ roC from List.mem_of_getElem? (i := 3) rfl) 1 1 (by decide) (Or.inl ⟨1, rfl, rfl, dL_completions_5⟩) rfl ?_
      · intro z hz; cases hz
      refine fr_sipush (v := (-1001)) dL_completions_6 (by decide) ?_
      obtain rfl := Option.some.inj h
      exact fr_iret rfl dL_completions_9 ⟨rfl, rfl⟩
    rw [if_neg e3_0] at h
    cases h
def f_X10_demandedSheet (p0a : Nat) (x1a : Int32) (M : Mem) : Option ((Nat ⊕ String)) := (gP M 10 p0a 0).bind fun p1 => (rc M 9 p1).bind fun _ => (f_X9_hasSheet p1 x1a M).bind fun r2 => if r2 = 0 then (some (.inr "java/lang/IndexOutOfBoundsException")) else ((gP M 10 p0a 0).bind fun p5 => (gP M 9 p5 0).bind fun p6 => (aP M 120 p6 x1a).bind fun p7 => some (.inl p7))
set_option maxRecDepth 20000 in
theorem ev_X10_demandedSheet {G : Nat × (Nat → Int32) × Value} {p0a : Nat} {x1a : Int32} {M : Mem} {r : (Nat ⊕ String)} (h : f_X10_demandedSheet p0a x1a M = some r) : Ev (roG G) false YX10_demandedSheet 7 1 [.ref p0a, .int x1a] M (fun a b => a = (wE wP) r ∧ b = M) := by
  refine ev_of cyX10_demandedSheet.2.2.2.2 (Nat.le_of_ble_eq_true rfl) ?_
  show Fr _ _ _ _ _ _ 0 [(0, .ref p0a), (1, .int x1a)] [] M _
  unfold f_X10_demandedSheet at h
  refine fr_aload_n 0 dX10_demandedSheet_0 rfl ?_
  obtain ⟨p1, ep1, h⟩ := ob h
  try dsimp only at h
  refine fr_gP cb10 0 (by decide) rfl w_227 dX10_demandedSheet_1 ep1 ?_
  refine fr_iload_n 1 dX10_demandedSheet_4 rfl ?_
  obtain ⟨u3, eu3, h⟩ := ob h
  try dsimp only at h
  obtain ⟨r2, er2, h⟩ := ob h
  try dsimp only at h
  refine fr_callV (g1 := false) (k2 := 1) (ev_X9_hasSheet er2) rfl cyX9_hasSheet w_659 w_504 w_505 (rc_ok eu3 rfl (by decide)) (by rfl) (by omega) (by omega) (by rfl) (Nat.le_of_ble_eq_true rfl) dX10_demandedSheet_5 (Or.inl rfl) (fun v M9 q _ => ?_) (fun E M9 q _ => (Sum.inr_ne_inl q.1).elim)
  obtain rfl : v = some (.int r2) := Sum.inl.inj q.1
  obtain rfl := q.2.symm
  refine fr_st (S' := [.int r2]) rfl ?_
  refine fr_if_ne 22 dX10_demandedSheet_8 (by decide) (fun c4 => ?_) (fun c4 => ?_)
  · rw [if_neg c4] at h
    refine fr_aload_n 0 dX10_demandedSheet_22 rfl ?_
    obtain ⟨p5, ep5, h⟩ := ob h
    try dsimp only at h
    refine fr_gP cb10 0 (by decide) rfl w_227 dX10_demandedSheet_23 ep5 ?_
    obtain ⟨p6, ep6, h⟩ := ob h
    try dsimp only at h
    refine fr_gP cb9 0 (by decide) rfl w_122 dX10_demandedSheet_26 ep6 ?_
    refine fr_iload_n 1 dX10_demandedSheet_29 rfl ?_
    obtain ⟨p7, ep7, h⟩ := ob h
    try dsimp only at h
    refine fr_aP (t := 120) (by decide) ep7 dX10_demandedSheet_30 ?_
    obtain rfl := Option.some.inj h
    exact fr_aret (Or.inl ⟨_, rfl⟩) rfl dX10_demandedSheet_31 ⟨rfl, rfl⟩
  · rw [if_pos c4] at h
    obtain rfl := Option.some.inj h
    exact fr_throwW (names := ["java/lang/RuntimeException", "java/lang/Exception"]) rfl thX10_135 w_328 w_27 (sa := ROB + 25) (show _ ∈ roS from List.mem_of_getElem? (i := 5) rfl) dX10_demandedSheet_11 dX10_demandedSheet_14 dX10_demandedSheet_15 dX10_demandedSheet_18 dX10_demandedSheet_21 (by omega) (by omega) (Nat.le_of_ble_eq_true rfl) ⟨rfl, rfl⟩
def f_X10_creaseCount (p0a : Nat) (x1a : Int32) (M : Mem) : Option ((Int32 ⊕ String)) := (rc M 10 p0a).bind fun _ => (f_X10_demandedSheet p0a x1a M).bind fun r1 => (match r1 with | .inl r1v => ((gI M 7 r1v 3).bind fun x3 => some (.inl x3)) | .inr r1E => (some (.inr r1E)))
set_option maxRecDepth 20000 in
theorem ev_X10_creaseCount {G : Nat × (Nat → Int32) × Value} {p0a : Nat} {x1a : Int32} {M : Mem} {r : (Int32 ⊕ String)} (h : f_X10_creaseCount p0a x1a M = some r) : Ev (roG G) false YX10_creaseCount 8 1 [.ref p0a, .int x1a] M (fun a b => a = (wE wI) r ∧ b = M) := by
  refine ev_of cyX10_creaseCount.2.2.2.2 (Nat.le_of_ble_eq_true rfl) ?_
  show Fr _ _ _ _ _ _ 0 [(0, .ref p0a), (1, .int x1a)] [] M _
  unfold f_X10_creaseCount at h
  refine fr_aload_n 0 dX10_creaseCount_0 rfl ?_
  refine fr_iload_n 1 dX10_creaseCount_1 rfl ?_
  obtain ⟨u2, eu2, h⟩ := ob h
  try dsimp only at h
  obtain ⟨r1, er1, h⟩ := ob h
  try dsimp only at h
  rcases r1 with r1v | r1E
  · try dsimp only at h
    refine fr_callV (g1 := false) (k2 := 0) (ev_X10_demandedSheet er1) rfl cyX10_demandedSheet w_655 w_657 w_2 (rc_ok eu2 rfl (by decide)) (by rfl) (by omega) (by omega) (by rfl) (Nat.le_of_ble_eq_true rfl) dX10_creaseCount_2 (Or.inl rfl) (fun v M9 q _ => ?_) (fun E M9 q _ => (Sum.inr_ne_inl q.1).elim)
    obtain rfl : v = some (.ref r1v) := Sum.inl.inj q.1
    obtain rfl := q.2.symm
    refine fr_st (S' := [.ref r1v]) rfl ?_
    obtain ⟨x3, ex3, h⟩ := ob h
    try dsimp only at h
    refine fr_gI cb7 3 (by decide) rfl w_86 dX10_creaseCount_5 ex3 ?_
    obtain rfl := Option.some.inj h
    exact fr_iret rfl dX10_creaseCount_8 ⟨rfl, rfl⟩
  · try dsimp only at h
    refine fr_callV (g1 := false) (k2 := 0) (ev_X10_demandedSheet er1) rfl cyX10_demandedSheet w_655 w_657 w_2 (rc_ok eu2 rfl (by decide)) (by rfl) (by omega) (by omega) (by rfl) (Nat.le_of_ble_eq_true rfl) dX10_creaseCount_2 (Or.inl rfl) (fun v M9 q _ => (Sum.inl_ne_inr q.1).elim) (fun E M9 q _ => ?_)
    obtain rfl : r1E = E := (Sum.inr.inj q.1).symm
    obtain rfl := q.2.symm
    obtain rfl := Option.some.inj h
    exact fx_no rfl ⟨rfl, rfl⟩
def f_L_creaseCount (p0a : Nat) (x1a : Int32) (M : Mem) : Option (Int32) := (rc M 10 p0a).bind fun _ => (f_X10_creaseCount p0a x1a M).bind fun r1 => (match r1 with | .inl r1v => (some r1v) | .inr r1E => (if r1E = "java/lang/IndexOutOfBoundsException" then (some (-1001)) else none))
set_option maxRecDepth 20000 in
theorem ev_L_creaseCount {G : Nat × (Nat → Int32) × Value} {p0a : Nat} {x1a : Int32} {M : Mem} {r : Int32} (h : f_L_creaseCount p0a x1a M = some r) : Ev (roG G) false YL_creaseCount 9 1 [.ref p0a, .int x1a] M (fun a b => a = wI r ∧ b = M) := by
  refine ev_of cyL_creaseCount.2.2.2.2 (Nat.le_of_ble_eq_true rfl) ?_
  show Fr _ _ _ _ _ _ 0 [(0, .ref p0a), (1, .int x1a)] [] M _
  unfold f_L_creaseCount at h
  refine fr_aload_n 0 dL_creaseCount_0 rfl ?_
  refine fr_iload_n 1 dL_creaseCount_1 rfl ?_
  obtain ⟨u2, eu2, h⟩ := ob h
  try dsimp only at h
  obtain ⟨r1, er1, h⟩ := ob h
  try dsimp only at h
  rcases r1 with r1v | r1E
  · try dsimp only at h
    refine fr_callV (g1 := false) (k2 := 0) (ev_X10_creaseCount er1) rfl cyX10_creaseCount w_671 w_672 w_673 (rc_ok eu2 rfl (by decide)) (by rfl) (by omega) (by omega) (by rfl) (Nat.le_of_ble_eq_true rfl) dL_creaseCount_2 (Or.inl rfl) (fun v M9 q _ => ?_) (fun E M9 q _ => (Sum.inr_ne_inl q.1).elim)
    obtain rfl : v = some (.int r1v) := Sum.inl.inj q.1
    obtain rfl := q.2.symm
    refine fr_st (S' := [.int r1v]) rfl ?_
    obtain rfl := Option.some.inj h
    exact fr_iret rfl dL_creaseCount_5 ⟨rfl, rfl⟩
  · try dsimp only at h
    refine fr_callV (g1 := false) (k2 := 0) (ev_X10_creaseCount er1) rfl cyX10_creaseCount w_671 w_672 w_673 (rc_ok eu2 rfl (by decide)) (by rfl) (by omega) (by omega) (by rfl) (Nat.le_of_ble_eq_true rfl) dL_creaseCount_2 (Or.inl rfl) (fun v M9 q _ => (Sum.inl_ne_inr q.1).elim) (fun E M9 q _ => ?_)
    obtain rfl : r1E = E := (Sum.inr.inj q.1).symm
    obtain rfl := q.2.symm
    by_cases e3_0 : r1E = "java/lang/IndexOutOfBoundsException"
    · rw [if_pos e3_0] at h
      subst e3_0
      refine fx_catch (E := "java/lang/IndexOutOfBoundsException") (name := "java/lang/IndexOutOfBoundsException") (L' := [(0, .ref p0a), (1, .int x1a)]) [] { startPc := 0, endPc := 5, handlerPc := 6, catchType := 21 } [] rfl ?_ (by decide) (by decide) w_474 (show _ ∈ roC from List.mem_of_getElem? (i := 0) rfl) 2 1 (by decide) (Or.inl ⟨2, rfl, rfl, dL_creaseCount_6⟩) rfl ?_
      · intro z hz; cases hz
      refine fr_sipush (v := (-1001)) dL_creaseCount_7 (by decide) ?_
      obtain rfl := Option.some.inj h
      exact fr_iret rfl dL_creaseCount_10 ⟨rfl, rfl⟩
    rw [if_neg e3_0] at h
    cases h
def f_X8_isBetween (x0a : Int32) (x1a : Int32) (x2a : Int32) (M : Mem) : Option (Int32) := if x0a ≤ x1a then (some 0) else (if x2a ≤ x0a then (some 0) else (some 1))
set_option maxRecDepth 20000 in
theorem ev_X8_isBetween {G : Nat × (Nat → Int32) × Value} {x0a : Int32} {x1a : Int32} {x2a : Int32} {M : Mem} {r : Int32} (h : f_X8_isBetween x0a x1a x2a M = some r) : Ev (roG G) false YX8_isBetween 0 0 [.int x0a, .int x1a, .int x2a] M (fun a b => a = wI r ∧ b = M) := by
  refine ev_of cyX8_isBetween.2.2.2.2 (Nat.le_of_ble_eq_true rfl) ?_
  show Fr _ _ _ _ _ _ 0 [(0, .int x0a), (1, .int x1a), (2, .int x2a)] [] M _
  unfold f_X8_isBetween at h
  refine fr_iload_n 1 dX8_isBetween_0 rfl ?_
  refine fr_iload_n 0 dX8_isBetween_1 rfl ?_
  refine fr_icmp_ge 14 dX8_isBetween_2 (by decide) (fun c1 => ?_) (fun c1 => ?_)
  · rw [if_pos c1] at h
    refine fr_iconst (v := 0) dX8_isBetween_14 (by decide) ?_
    obtain rfl := Option.some.inj h
    exact fr_zret (ty := .boolean) rfl rfl dX8_isBetween_15 ⟨rfl, rfl⟩
  · rw [if_neg c1] at h
    refine fr_iload_n 0 dX8_isBetween_5 rfl ?_
    refine fr_iload_n 2 dX8_isBetween_6 rfl ?_
    refine fr_icmp_ge 14 dX8_isBetween_7 (by decide) (fun c2 => ?_) (fun c2 => ?_)
    · rw [if_pos c2] at h
      refine fr_iconst (v := 0) dX8_isBetween_14 (by decide) ?_
      obtain rfl := Option.some.inj h
      exact fr_zret (ty := .boolean) rfl rfl dX8_isBetween_15 ⟨rfl, rfl⟩
    · rw [if_neg c2] at h
      refine fr_iconst (v := 1) dX8_isBetween_10 (by decide) ?_
      refine fr_goto 15 dX8_isBetween_11 (by decide) ?_
      obtain rfl := Option.some.inj h
      exact fr_zret (ty := .boolean) rfl rfl dX8_isBetween_15 ⟨rfl, rfl⟩
def f_X8_cross (p0a : Nat) (x1a : Int32) (x2a : Int32) (M : Mem) : Option (Int32) := (aI M 100 p0a x1a).bind fun x1 => (aI M 100 p0a (x1a + 1)).bind fun x2 => (f_J9_min_7cf53 x1 x2 M).bind fun r3 => (aI M 100 p0a x1a).bind fun x4 => (aI M 100 p0a (x1a + 1)).bind fun x5 => (f_J9_max_7cf53 x4 x5 M).bind fun r6 => (aI M 100 p0a x2a).bind fun x7 => (f_X8_isBetween x7 r3 r6 M).bind fun r8 => (aI M 100 p0a (x2a + 1)).bind fun x9 => (f_X8_isBetween x9 r3 r6 M).bind fun r10 => if r8 = r10 then (some 0) else (some 1)
set_option maxRecDepth 20000 in
theorem ev_X8_cross {G : Nat × (Nat → Int32) × Value} {p0a : Nat} {x1a : Int32} {x2a : Int32} {M : Mem} {r : Int32} (h : f_X8_cross p0a x1a x2a M = some r) : Ev (roG G) false YX8_cross 1 0 [.ref p0a, .int x1a, .int x2a] M (fun a b => a = wI r ∧ b = M) := by
  refine ev_of cyX8_cross.2.2.2.2 (Nat.le_of_ble_eq_true rfl) ?_
  show Fr _ _ _ _ _ _ 0 [(0, .ref p0a), (1, .int x1a), (2, .int x2a)] [] M _
  unfold f_X8_cross at h
  refine fr_aload_n 0 dX8_cross_0 rfl ?_
  refine fr_iload_n 1 dX8_cross_1 rfl ?_
  obtain ⟨x1, ex1, h⟩ := ob h
  try dsimp only at h
  refine fr_aI0 ex1 dX8_cross_2 ?_
  refine fr_aload_n 0 dX8_cross_3 rfl ?_
  refine fr_iload_n 1 dX8_cross_4 rfl ?_
  refine fr_iconst (v := 1) dX8_cross_5 (by decide) ?_
  refine fr_iadd dX8_cross_6 ?_
  obtain ⟨x2, ex2, h⟩ := ob h
  try dsimp only at h
  refine fr_aI0 ex2 dX8_cross_7 ?_
  obtain ⟨r3, er3, h⟩ := ob h
  try dsimp only at h
  refine fr_callS (g1 := false) (k2 := 0) (ev_J9_min_7cf53 er3) rfl cyJ9_min_7cf53 w_1099 w_469 (by rfl) (by omega) (by omega) (by rfl) (Nat.le_of_ble_eq_true rfl) dX8_cross_8 (Or.inl rfl) (fun v M9 q _ => ?_) (fun E M9 q _ => (Sum.inr_ne_inl q.1).elim)
  obtain rfl : v = some (.int r3) := Sum.inl.inj q.1
  obtain rfl := q.2.symm
  refine fr_st (S' := [.int r3]) rfl ?_
  refine fr_istore_n (L' := [(0, .ref p0a), (1, .int x1a), (2, .int x2a), (3, .int r3)]) dX8_cross_11 (by decide) rfl ?_
  refine fr_aload_n 0 dX8_cross_12 rfl ?_
  refine fr_iload_n 1 dX8_cross_13 rfl ?_
  obtain ⟨x4, ex4, h⟩ := ob h
  try dsimp only at h
  refine fr_aI0 ex4 dX8_cross_14 ?_
  refine fr_aload_n 0 dX8_cross_15 rfl ?_
  refine fr_iload_n 1 dX8_cross_16 rfl ?_
  refine fr_iconst (v := 1) dX8_cross_17 (by decide) ?_
  refine fr_iadd dX8_cross_18 ?_
  obtain ⟨x5, ex5, h⟩ := ob h
  try dsimp only at h
  refine fr_aI0 ex5 dX8_cross_19 ?_
  obtain ⟨r6, er6, h⟩ := ob h
  try dsimp only at h
  refine fr_callS (g1 := false) (k2 := 0) (ev_J9_max_7cf53 er6) rfl cyJ9_max_7cf53 w_1100 w_967 (by rfl) (by omega) (by omega) (by rfl) (Nat.le_of_ble_eq_true rfl) dX8_cross_20 (Or.inl rfl) (fun v M9 q _ => ?_) (fun E M9 q _ => (Sum.inr_ne_inl q.1).elim)
  obtain rfl : v = some (.int r6) := Sum.inl.inj q.1
  obtain rfl := q.2.symm
  refine fr_st (S' := [.int r6]) rfl ?_
  refine fr_istore (L' := [(0, .ref p0a), (1, .int x1a), (2, .int x2a), (3, .int r3), (4, .int r6)]) dX8_cross_23 (by decide) rfl ?_
  refine fr_aload_n 0 dX8_cross_25 rfl ?_
  refine fr_iload_n 2 dX8_cross_26 rfl ?_
  obtain ⟨x7, ex7, h⟩ := ob h
  try dsimp only at h
  refine fr_aI0 ex7 dX8_cross_27 ?_
  refine fr_iload_n 3 dX8_cross_28 rfl ?_
  refine fr_iload 4 dX8_cross_29 rfl ?_
  obtain ⟨r8, er8, h⟩ := ob h
  try dsimp only at h
  refine fr_callS (g1 := false) (k2 := 0) (ev_X8_isBetween er8) rfl cyX8_isBetween w_1101 w_1102 (by rfl) (by omega) (by omega) (by rfl) (Nat.le_of_ble_eq_true rfl) dX8_cross_31 (Or.inl rfl) (fun v M9 q _ => ?_) (fun E M9 q _ => (Sum.inr_ne_inl q.1).elim)
  obtain rfl : v = some (.int r8) := Sum.inl.inj q.1
  obtain rfl := q.2.symm
  refine fr_st (S' := [.int r8]) rfl ?_
  refine fr_aload_n 0 dX8_cross_34 rfl ?_
  refine fr_iload_n 2 dX8_cross_35 rfl ?_
  refine fr_iconst (v := 1) dX8_cross_36 (by decide) ?_
  refine fr_iadd dX8_cross_37 ?_
  obtain ⟨x9, ex9, h⟩ := ob h
  try dsimp only at h
  refine fr_aI0 ex9 dX8_cross_38 ?_
  refine fr_iload_n 3 dX8_cross_39 rfl ?_
  refine fr_iload 4 dX8_cross_40 rfl ?_
  obtain ⟨r10, er10, h⟩ := ob h
  try dsimp only at h
  refine fr_callS (g1 := false) (k2 := 0) (ev_X8_isBetween er10) rfl cyX8_isBetween w_1101 w_1102 (by rfl) (by omega) (by omega) (by rfl) (Nat.le_of_ble_eq_true rfl) dX8_cross_42 (Or.inl rfl) (fun v M9 q _ => ?_) (fun E M9 q _ => (Sum.inr_ne_inl q.1).elim)
  obtain rfl : v = some (.int r10) := Sum.inl.inj q.1
  obtain rfl := q.2.symm
  refine fr_st (S' := [.int r10, .int r8]) rfl ?_
  refine fr_icmp_eq 52 dX8_cross_45 (by decide) (fun c11 => ?_) (fun c11 => ?_)
  · rw [if_pos c11] at h
    refine fr_iconst (v := 0) dX8_cross_52 (by decide) ?_
    obtain rfl := Option.some.inj h
    exact fr_zret (ty := .boolean) rfl rfl dX8_cross_53 ⟨rfl, rfl⟩
  · rw [if_neg c11] at h
    refine fr_iconst (v := 1) dX8_cross_48 (by decide) ?_
    refine fr_goto 53 dX8_cross_49 (by decide) ?_
    obtain rfl := Option.some.inj h
    exact fr_zret (ty := .boolean) rfl rfl dX8_cross_53 ⟨rfl, rfl⟩
