/-! ===== methods, 15: X9_init X3_init X4_init X6_init X8_init X10_init X10_save X10_undoCount ===== -/
def lp_X9_init_23 (p_0 : Nat) : Nat → Int32 → Mem → Option ((Int32 × Mem) ⊕ (Unit × Mem))
  | 0, _, _ => none
  | n + 1, x_1, M_ => if 9 ≤ x_1 then (some (.inl (x_1, M_))) else ((gP M_ 9 p_0 0).bind fun p8 => (gd M_ [(0, .ref p_0), (1, .int x_1)] [.int x_1, .ref p8]).bind fun _ => (some (mNew M_ 7 0)).bind fun M10 => (gd M10 [(0, .ref p_0), (1, .int x_1)] [.ref (mN M_), .int x_1, .ref p8]).bind fun _ => (f_X7_init (mN M_) M10).bind fun r11 => (asP r11.2 120 7 p8 x_1 (mN M_)).bind fun M13 => lp_X9_init_23 p_0 n (x_1 + 1) M13)
def lp_X9_init_50 (p_0 : Nat) : Nat → Int32 → Mem → Option ((Int32 × Mem) ⊕ (Unit × Mem))
  | 0, _, _ => none
  | n + 1, x_1, M_ => if 9 ≤ x_1 then (some (.inl (x_1, M_))) else ((gP M_ 9 p_0 1).bind fun p16 => (asI M_ 100 p16 x_1 (-1)).bind fun M17 => lp_X9_init_50 p_0 n (x_1 + 1) M17)
def f_X9_init (p0a : Nat) (M : Mem) : Option (Unit × Mem) := (gd M [(0, .ref p0a)] [.ref p0a]).bind fun _ => (na 9).bind fun _ => (some (mNew M 120 (Int32.toNatClampNeg 9))).bind fun M2 => (sP M2 9 p0a 0 (mN M)).bind fun M3 => (gd M3 [(0, .ref p0a)] [.ref p0a]).bind fun _ => (na 9).bind fun _ => (some (mNew M3 100 (Int32.toNatClampNeg 9))).bind fun M5 => (sP M5 9 p0a 1 (mN M3)).bind fun M6 => ((lp_X9_init_23 p0a 100 0 M6).bind fun q14 => match q14 with | .inl (q14_1, q14_M) => ((lp_X9_init_50 p0a 100 0 q14_M).bind fun q18 => match q18 with | .inl (q18_1, q18_M) => (some ((), q18_M)) | .inr q18_r => some q18_r) | .inr q14_r => some q14_r)
set_option maxRecDepth 20000 in
theorem lp_X9_init_23_ok {G : Nat × (Nat → Int32) × Value} (hv : rob G.2.2) {P : Res → Mem → Prop} {n0 d ke : Nat} {p_0 : Nat} (hd : 2 ≤ d) : ∀ (n : Nat) (x_1 : Int32) (M_ : Mem) (res : (Int32 × Mem) ⊕ (Unit × Mem)), lp_X9_init_23 p_0 n x_1 M_ = some res → (∀ (y_1 : Int32) (M9 : Mem), res = .inl (y_1, M9) → Fr (roG G) true n0 YX9_init d ke 48 [(0, .ref p_0), (1, .int y_1)] [] M9 P) → (∀ r : Unit × Mem, res = .inr r → P (wU r.1) r.2) → Fr (roG G) true n0 YX9_init d (3 * n + ke) 23 [(0, .ref p_0), (1, .int x_1)] [] M_ P := by
  intro n
  induction n with
  | zero => intro x_1 M_ res h; unfold lp_X9_init_23 at h; cases h
  | succ n ih =>
    intro x_1 M_ res h he hr
    unfold lp_X9_init_23 at h
    refine fr_room (Nat.le_refl _) (show (3 * n + 3 + ke) ≤ 3 * (n + 1) + ke by omega) ?_
    refine fr_iload_n 1 dX9_init_23 rfl ?_
    refine fr_bipush (v := 9) dX9_init_24 (by decide) ?_
    refine fr_icmp_ge 48 dX9_init_26 (by decide) (fun c7 => ?_) (fun c7 => ?_)
    · rw [if_pos c7] at h
      obtain rfl := Option.some.inj h
      refine fr_room (Nat.le_refl _) (show ke ≤ (3 * n + 3 + ke) by omega) ?_
      exact he _ _ rfl
    · rw [if_neg c7] at h
      refine fr_aload_n 0 dX9_init_29 rfl ?_
      obtain ⟨p8, ep8, h⟩ := ob h
      try dsimp only at h
      refine fr_gP cb9 0 (by decide) rfl w_121 dX9_init_30 ep8 ?_
      refine fr_iload_n 1 dX9_init_33 rfl ?_
      obtain ⟨u9, eu9, h⟩ := ob h
      try dsimp only at h
      obtain ⟨M10, eM10, h⟩ := ob h
      try dsimp only at h
      obtain rfl := Option.some.inj eM10
      refine fr_newg (k2 := (3 * n + 2 + ke)) cb7 w_64 w_66 w_16 (gd_N eu9) (gd_L eu9) (roG_ok hv) (by decide) dX9_init_34 (by omega) ?_
      refine fr_dup dX9_init_37 rfl ?_
      obtain ⟨u12, eu12, h⟩ := ob h
      try dsimp only at h
      obtain ⟨r11, er11, h⟩ := ob h
      try dsimp only at h
      refine fr_callIN (g1 := true) (k2 := (3 * n + 0 + ke)) "MapHall" (ev_X7_init hv er11) rfl cyX7_init rfl rfl (show _ ∈ roM from List.mem_of_getElem? (i := 0) rfl) w_68 (by rfl) (by omega) (by omega) (by rfl) (Nat.le_of_ble_eq_true rfl) dX9_init_38 (Or.inr ⟨rfl, gd_L eu12, roG_ok hv⟩) (fun v M9 q _ => ?_) (fun E M9 q _ => (Sum.inr_ne_inl q.1).elim)
      obtain rfl : v = none := Sum.inl.inj q.1
      obtain rfl := q.2.symm
      refine fr_st (S' := [.ref (mN M_), .int x_1, .ref p8]) rfl ?_
      obtain ⟨M13, eM13, h⟩ := ob h
      try dsimp only at h
      refine fr_asP cb7 (by decide) eM13 dX9_init_41 ?_
      refine fr_iinc (v := (x_1 + 1)) (L' := [(0, .ref p_0), (1, .int (x_1 + 1))]) 1 dX9_init_42 rfl rfl (by decide) rfl ?_
      refine fr_goto 23 dX9_init_45 (by decide) ?_
      exact ih _ _ _ h he hr
set_option maxRecDepth 20000 in
theorem lp_X9_init_50_ok {G : Nat × (Nat → Int32) × Value} (hv : rob G.2.2) {P : Res → Mem → Prop} {n0 d ke : Nat} {p_0 : Nat} (hd : 2 ≤ d) : ∀ (n : Nat) (x_1 : Int32) (M_ : Mem) (res : (Int32 × Mem) ⊕ (Unit × Mem)), lp_X9_init_50 p_0 n x_1 M_ = some res → (∀ (y_1 : Int32) (M9 : Mem), res = .inl (y_1, M9) → Fr (roG G) true n0 YX9_init d ke 69 [(0, .ref p_0), (1, .int y_1)] [] M9 P) → (∀ r : Unit × Mem, res = .inr r → P (wU r.1) r.2) → Fr (roG G) true n0 YX9_init d ke 50 [(0, .ref p_0), (1, .int x_1)] [] M_ P := by
  intro n
  induction n with
  | zero => intro x_1 M_ res h; unfold lp_X9_init_50 at h; cases h
  | succ n ih =>
    intro x_1 M_ res h he hr
    unfold lp_X9_init_50 at h
    refine fr_iload_n 1 dX9_init_50 rfl ?_
    refine fr_bipush (v := 9) dX9_init_51 (by decide) ?_
    refine fr_icmp_ge 69 dX9_init_53 (by decide) (fun c15 => ?_) (fun c15 => ?_)
    · rw [if_pos c15] at h
      obtain rfl := Option.some.inj h
      exact he _ _ rfl
    · rw [if_neg c15] at h
      refine fr_aload_n 0 dX9_init_56 rfl ?_
      obtain ⟨p16, ep16, h⟩ := ob h
      try dsimp only at h
      refine fr_gP cb9 1 (by decide) rfl w_123 dX9_init_57 ep16 ?_
      refine fr_iload_n 1 dX9_init_60 rfl ?_
      refine fr_iconst (v := (-1)) dX9_init_61 (by decide) ?_
      obtain ⟨M17, eM17, h⟩ := ob h
      try dsimp only at h
      refine fr_asI eM17 dX9_init_62 ?_
      refine fr_iinc (v := (x_1 + 1)) (L' := [(0, .ref p_0), (1, .int (x_1 + 1))]) 1 dX9_init_63 rfl rfl (by decide) rfl ?_
      refine fr_goto 50 dX9_init_66 (by decide) ?_
      exact ih _ _ _ h he hr
set_option maxRecDepth 20000 in
theorem ev_X9_init {G : Nat × (Nat → Int32) × Value} (hv : rob G.2.2) {p0a : Nat} {M : Mem} {r : Unit × Mem} (h : f_X9_init p0a M = some r) : Ev (roG G) true YX9_init 2 302 [.ref p0a] M (fun a b => a = wU r.1 ∧ b = r.2) := by
  refine ev_of cyX9_init.2.2.2.2 (Nat.le_of_ble_eq_true rfl) ?_
  show Fr _ _ _ _ _ _ 0 [(0, .ref p0a)] [] M _
  unfold f_X9_init at h
  refine fr_aload_n 0 dX9_init_0 rfl ?_
  refine fr_objInit w_63 w_56 w_57 (by omega) (Nat.le_of_ble_eq_true rfl) dX9_init_1 ?_
  refine fr_aload_n 0 dX9_init_4 rfl ?_
  refine fr_bipush (v := 9) dX9_init_5 (by decide) ?_
  obtain ⟨u1, eu1, h⟩ := ob h
  try dsimp only at h
  obtain ⟨u1b, eu1b, h⟩ := ob h
  try dsimp only at h
  obtain ⟨M2, eM2, h⟩ := ob h
  try dsimp only at h
  obtain rfl := Option.some.inj eM2
  refine fr_anewg (k2 := 301) 4 120 rfl (by decide) w_64 (show _ ∈ roA from List.mem_of_getElem? (i := 0) rfl) (gd_N eu1) (gd_L eu1) (roG_ok hv) (na_0 eu1b) (na_1 eu1b) dX9_init_7 (by omega) ?_
  obtain ⟨M3, eM3, h⟩ := ob h
  try dsimp only at h
  refine fr_sPF cb9 0 (by decide) rfl rfl rfl rfl w_121 dX9_init_10 rfl eM3 ?_
  refine fr_aload_n 0 dX9_init_13 rfl ?_
  refine fr_bipush (v := 9) dX9_init_14 (by decide) ?_
  obtain ⟨u4, eu4, h⟩ := ob h
  try dsimp only at h
  obtain ⟨u4b, eu4b, h⟩ := ob h
  try dsimp only at h
  obtain ⟨M5, eM5, h⟩ := ob h
  try dsimp only at h
  obtain rfl := Option.some.inj eM5
  refine fr_newarrg (k2 := 300) (ty := .int) 0 100 rfl rfl (by decide) (by decide) rfl w_119 (gd_N eu4) (gd_L eu4) (roG_ok hv) (na_0 eu4b) (na_1 eu4b) dX9_init_16 (by omega) ?_
  obtain ⟨M6, eM6, h⟩ := ob h
  try dsimp only at h
  refine fr_sPF cb9 1 (by decide) rfl rfl rfl rfl w_123 dX9_init_18 rfl eM6 ?_
  refine fr_iconst (v := 0) dX9_init_21 (by decide) ?_
  refine fr_istore_n (L' := [(0, .ref p0a), (1, .int 0)]) dX9_init_22 (by decide) rfl ?_
  obtain ⟨q14, eq14, h⟩ := ob h
  try dsimp only at h
  refine fr_room (k' := 3 * 100 + 0) (Nat.le_refl _) (by omega) ?_
  refine lp_X9_init_23_ok hv (by omega) 100 _ _ q14 eq14 (fun q14_1 q14_M e9 => ?_) (fun q14_r e9 => ?_)
  · subst e9
    try dsimp only at h
    refine fr_iconst (v := 0) dX9_init_48 (by decide) ?_
    refine fr_istore_n (L' := [(0, .ref p0a), (1, .int 0)]) dX9_init_49 (by decide) rfl ?_
    obtain ⟨q18, eq18, h⟩ := ob h
    try dsimp only at h
    refine lp_X9_init_50_ok hv (by omega) 100 _ _ q18 eq18 (fun q18_1 q18_M e9 => ?_) (fun q18_r e9 => ?_)
    · subst e9
      try dsimp only at h
      obtain rfl := Option.some.inj h
      exact fr_vret rfl dX9_init_69 ⟨rfl, rfl⟩
    · subst e9
      try dsimp only at h
      obtain rfl := Option.some.inj h
      exact ⟨rfl, rfl⟩
  · subst e9
    try dsimp only at h
    obtain rfl := Option.some.inj h
    exact ⟨rfl, rfl⟩
def lp_X3_init_15 (p_0 : Nat) : Nat → Int32 → Mem → Option ((Int32 × Mem) ⊕ (Unit × Mem))
  | 0, _, _ => none
  | n + 1, x_1, M_ => if 9 ≤ x_1 then (some (.inl (x_1, M_))) else ((gP M_ 4 p_0 0).bind fun p5 => (gd M_ [(0, .ref p_0), (1, .int x_1)] [.int x_1, .ref p5]).bind fun _ => (some (mNew M_ 9 0)).bind fun M7 => (gd M7 [(0, .ref p_0), (1, .int x_1)] [.ref (mN M_), .int x_1, .ref p5]).bind fun _ => (f_X9_init (mN M_) M7).bind fun r8 => (asP r8.2 121 9 p5 x_1 (mN M_)).bind fun M10 => lp_X3_init_15 p_0 n (x_1 + 1) M10)
def f_X3_init (p0a : Nat) (M : Mem) : Option (Unit × Mem) := (gd M [(0, .ref p0a)] [.ref p0a]).bind fun _ => (na 9).bind fun _ => (some (mNew M 121 (Int32.toNatClampNeg 9))).bind fun M2 => (sP M2 4 p0a 0 (mN M)).bind fun M3 => ((lp_X3_init_15 p0a 100 0 M3).bind fun q11 => match q11 with | .inl (q11_1, q11_M) => (some ((), q11_M)) | .inr q11_r => some q11_r)
set_option maxRecDepth 20000 in
theorem lp_X3_init_15_ok {G : Nat × (Nat → Int32) × Value} (hv : rob G.2.2) {P : Res → Mem → Prop} {n0 d ke : Nat} {p_0 : Nat} (hd : 3 ≤ d) : ∀ (n : Nat) (x_1 : Int32) (M_ : Mem) (res : (Int32 × Mem) ⊕ (Unit × Mem)), lp_X3_init_15 p_0 n x_1 M_ = some res → (∀ (y_1 : Int32) (M9 : Mem), res = .inl (y_1, M9) → Fr (roG G) true n0 YX3_init d ke 40 [(0, .ref p_0), (1, .int y_1)] [] M9 P) → (∀ r : Unit × Mem, res = .inr r → P (wU r.1) r.2) → Fr (roG G) true n0 YX3_init d (303 * n + ke) 15 [(0, .ref p_0), (1, .int x_1)] [] M_ P := by
  intro n
  induction n with
  | zero => intro x_1 M_ res h; unfold lp_X3_init_15 at h; cases h
  | succ n ih =>
    intro x_1 M_ res h he hr
    unfold lp_X3_init_15 at h
    refine fr_room (Nat.le_refl _) (show (303 * n + 303 + ke) ≤ 303 * (n + 1) + ke by omega) ?_
    refine fr_iload_n 1 dX3_init_15 rfl ?_
    refine fr_bipush (v := 9) dX3_init_16 (by decide) ?_
    refine fr_icmp_ge 40 dX3_init_18 (by decide) (fun c4 => ?_) (fun c4 => ?_)
    · rw [if_pos c4] at h
      obtain rfl := Option.some.inj h
      refine fr_room (Nat.le_refl _) (show ke ≤ (303 * n + 303 + ke) by omega) ?_
      exact he _ _ rfl
    · rw [if_neg c4] at h
      refine fr_aload_n 0 dX3_init_21 rfl ?_
      obtain ⟨p5, ep5, h⟩ := ob h
      try dsimp only at h
      refine fr_gP cb4 0 (by decide) rfl w_156 dX3_init_22 ep5 ?_
      refine fr_iload_n 1 dX3_init_25 rfl ?_
      obtain ⟨u6, eu6, h⟩ := ob h
      try dsimp only at h
      obtain ⟨M7, eM7, h⟩ := ob h
      try dsimp only at h
      obtain rfl := Option.some.inj eM7
      refine fr_newg (k2 := (303 * n + 302 + ke)) cb9 w_153 w_59 w_15 (gd_N eu6) (gd_L eu6) (roG_ok hv) (by decide) dX3_init_26 (by omega) ?_
      refine fr_dup dX3_init_29 rfl ?_
      obtain ⟨u9, eu9, h⟩ := ob h
      try dsimp only at h
      obtain ⟨r8, er8, h⟩ := ob h
      try dsimp only at h
      refine fr_callI (g1 := true) (k2 := (303 * n + 0 + ke)) (ev_X9_init hv er8) rfl cyX9_init rfl rfl w_155 w_61 (by rfl) (by omega) (by omega) (by rfl) (Nat.le_of_ble_eq_true rfl) dX3_init_30 (Or.inr ⟨rfl, gd_L eu9, roG_ok hv⟩) (fun v M9 q _ => ?_) (fun E M9 q _ => (Sum.inr_ne_inl q.1).elim)
      obtain rfl : v = none := Sum.inl.inj q.1
      obtain rfl := q.2.symm
      refine fr_st (S' := [.ref (mN M_), .int x_1, .ref p5]) rfl ?_
      obtain ⟨M10, eM10, h⟩ := ob h
      try dsimp only at h
      refine fr_asP cb9 (by decide) eM10 dX3_init_33 ?_
      refine fr_iinc (v := (x_1 + 1)) (L' := [(0, .ref p_0), (1, .int (x_1 + 1))]) 1 dX3_init_34 rfl rfl (by decide) rfl ?_
      refine fr_goto 15 dX3_init_37 (by decide) ?_
      exact ih _ _ _ h he hr
set_option maxRecDepth 20000 in
theorem ev_X3_init {G : Nat × (Nat → Int32) × Value} (hv : rob G.2.2) {p0a : Nat} {M : Mem} {r : Unit × Mem} (h : f_X3_init p0a M = some r) : Ev (roG G) true YX3_init 3 30301 [.ref p0a] M (fun a b => a = wU r.1 ∧ b = r.2) := by
  refine ev_of cyX3_init.2.2.2.2 (Nat.le_of_ble_eq_true rfl) ?_
  show Fr _ _ _ _ _ _ 0 [(0, .ref p0a)] [] M _
  unfold f_X3_init at h
  refine fr_aload_n 0 dX3_init_0 rfl ?_
  refine fr_objInit w_152 w_56 w_57 (by omega) (Nat.le_of_ble_eq_true rfl) dX3_init_1 ?_
  refine fr_aload_n 0 dX3_init_4 rfl ?_
  refine fr_bipush (v := 9) dX3_init_5 (by decide) ?_
  obtain ⟨u1, eu1, h⟩ := ob h
  try dsimp only at h
  obtain ⟨u1b, eu1b, h⟩ := ob h
  try dsimp only at h
  obtain ⟨M2, eM2, h⟩ := ob h
  try dsimp only at h
  obtain rfl := Option.some.inj eM2
  refine fr_anewg (k2 := 30300) 5 121 rfl (by decide) w_153 (show _ ∈ roA from List.mem_of_getElem? (i := 1) rfl) (gd_N eu1) (gd_L eu1) (roG_ok hv) (na_0 eu1b) (na_1 eu1b) dX3_init_7 (by omega) ?_
  obtain ⟨M3, eM3, h⟩ := ob h
  try dsimp only at h
  refine fr_sPF cb4 0 (by decide) rfl rfl rfl rfl w_156 dX3_init_10 rfl eM3 ?_
  refine fr_iconst (v := 0) dX3_init_13 (by decide) ?_
  refine fr_istore_n (L' := [(0, .ref p0a), (1, .int 0)]) dX3_init_14 (by decide) rfl ?_
  obtain ⟨q11, eq11, h⟩ := ob h
  try dsimp only at h
  refine fr_room (k' := 303 * 100 + 0) (Nat.le_refl _) (by omega) ?_
  refine lp_X3_init_15_ok hv (by omega) 100 _ _ q11 eq11 (fun q11_1 q11_M e9 => ?_) (fun q11_r e9 => ?_)
  · subst e9
    try dsimp only at h
    obtain rfl := Option.some.inj h
    exact fr_vret rfl dX3_init_40 ⟨rfl, rfl⟩
  · subst e9
    try dsimp only at h
    obtain rfl := Option.some.inj h
    exact ⟨rfl, rfl⟩
def f_X4_init (p0a : Nat) (M : Mem) : Option (Unit × Mem) := (gd M [(0, .ref p0a)] [.ref p0a]).bind fun _ => (na 22).bind fun _ => (some (mNew M 101 (Int32.toNatClampNeg 22))).bind fun M2 => (sP M2 5 p0a 0 (mN M)).bind fun M3 => some ((), M3)
set_option maxRecDepth 20000 in
theorem ev_X4_init {G : Nat × (Nat → Int32) × Value} (hv : rob G.2.2) {p0a : Nat} {M : Mem} {r : Unit × Mem} (h : f_X4_init p0a M = some r) : Ev (roG G) true YX4_init 1 1 [.ref p0a] M (fun a b => a = wU r.1 ∧ b = r.2) := by
  refine ev_of cyX4_init.2.2.2.2 (Nat.le_of_ble_eq_true rfl) ?_
  show Fr _ _ _ _ _ _ 0 [(0, .ref p0a)] [] M _
  unfold f_X4_init at h
  refine fr_aload_n 0 dX4_init_0 rfl ?_
  refine fr_objInit w_217 w_56 w_57 (by omega) (Nat.le_of_ble_eq_true rfl) dX4_init_1 ?_
  refine fr_aload_n 0 dX4_init_4 rfl ?_
  refine fr_bipush (v := 22) dX4_init_5 (by decide) ?_
  obtain ⟨u1, eu1, h⟩ := ob h
  try dsimp only at h
  obtain ⟨u1b, eu1b, h⟩ := ob h
  try dsimp only at h
  obtain ⟨M2, eM2, h⟩ := ob h
  try dsimp only at h
  obtain rfl := Option.some.inj eM2
  refine fr_newarrg (k2 := 0) (ty := .char) 1 101 rfl rfl (by decide) (by decide) rfl w_120 (gd_N eu1) (gd_L eu1) (roG_ok hv) (na_0 eu1b) (na_1 eu1b) dX4_init_7 (by omega) ?_
  obtain ⟨M3, eM3, h⟩ := ob h
  try dsimp only at h
  refine fr_sPF cb5 0 (by decide) rfl rfl rfl rfl w_218 dX4_init_9 rfl eM3 ?_
  obtain rfl := Option.some.inj h
  exact fr_vret rfl dX4_init_12 ⟨rfl, rfl⟩
def f_X6_init (p0a : Nat) (M : Mem) : Option (Unit × Mem) := (gd M [(0, .ref p0a)] [.ref p0a]).bind fun _ => (na 60).bind fun _ => (some (mNew M 101 (Int32.toNatClampNeg 60))).bind fun M2 => (sP M2 6 p0a 0 (mN M)).bind fun M3 => (gd M3 [(0, .ref p0a)] [.ref p0a]).bind fun _ => (na 60).bind fun _ => (some (mNew M3 100 (Int32.toNatClampNeg 60))).bind fun M5 => (sP M5 6 p0a 1 (mN M3)).bind fun M6 => (gd M6 [(0, .ref p0a)] [.ref p0a]).bind fun _ => (na 60).bind fun _ => (some (mNew M6 100 (Int32.toNatClampNeg 60))).bind fun M8 => (sP M8 6 p0a 2 (mN M6)).bind fun M9 => some ((), M9)
set_option maxRecDepth 20000 in
theorem ev_X6_init {G : Nat × (Nat → Int32) × Value} (hv : rob G.2.2) {p0a : Nat} {M : Mem} {r : Unit × Mem} (h : f_X6_init p0a M = some r) : Ev (roG G) true YX6_init 1 3 [.ref p0a] M (fun a b => a = wU r.1 ∧ b = r.2) := by
  refine ev_of cyX6_init.2.2.2.2 (Nat.le_of_ble_eq_true rfl) ?_
  show Fr _ _ _ _ _ _ 0 [(0, .ref p0a)] [] M _
  unfold f_X6_init at h
  refine fr_aload_n 0 dX6_init_0 rfl ?_
  refine fr_objInit w_192 w_56 w_57 (by omega) (Nat.le_of_ble_eq_true rfl) dX6_init_1 ?_
  refine fr_aload_n 0 dX6_init_4 rfl ?_
  refine fr_bipush (v := 60) dX6_init_5 (by decide) ?_
  obtain ⟨u1, eu1, h⟩ := ob h
  try dsimp only at h
  obtain ⟨u1b, eu1b, h⟩ := ob h
  try dsimp only at h
  obtain ⟨M2, eM2, h⟩ := ob h
  try dsimp only at h
  obtain rfl := Option.some.inj eM2
  refine fr_newarrg (k2 := 2) (ty := .char) 1 101 rfl rfl (by decide) (by decide) rfl w_120 (gd_N eu1) (gd_L eu1) (roG_ok hv) (na_0 eu1b) (na_1 eu1b) dX6_init_7 (by omega) ?_
  obtain ⟨M3, eM3, h⟩ := ob h
  try dsimp only at h
  refine fr_sPF cb6 0 (by decide) rfl rfl rfl rfl w_193 dX6_init_9 rfl eM3 ?_
  refine fr_aload_n 0 dX6_init_12 rfl ?_
  refine fr_bipush (v := 60) dX6_init_13 (by decide) ?_
  obtain ⟨u4, eu4, h⟩ := ob h
  try dsimp only at h
  obtain ⟨u4b, eu4b, h⟩ := ob h
  try dsimp only at h
  obtain ⟨M5, eM5, h⟩ := ob h
  try dsimp only at h
  obtain rfl := Option.some.inj eM5
  refine fr_newarrg (k2 := 1) (ty := .int) 0 100 rfl rfl (by decide) (by decide) rfl w_119 (gd_N eu4) (gd_L eu4) (roG_ok hv) (na_0 eu4b) (na_1 eu4b) dX6_init_15 (by omega) ?_
  obtain ⟨M6, eM6, h⟩ := ob h
  try dsimp only at h
  refine fr_sPF cb6 1 (by decide) rfl rfl rfl rfl w_194 dX6_init_17 rfl eM6 ?_
  refine fr_aload_n 0 dX6_init_20 rfl ?_
  refine fr_bipush (v := 60) dX6_init_21 (by decide) ?_
  obtain ⟨u7, eu7, h⟩ := ob h
  try dsimp only at h
  obtain ⟨u7b, eu7b, h⟩ := ob h
  try dsimp only at h
  obtain ⟨M8, eM8, h⟩ := ob h
  try dsimp only at h
  obtain rfl := Option.some.inj eM8
  refine fr_newarrg (k2 := 0) (ty := .int) 0 100 rfl rfl (by decide) (by decide) rfl w_119 (gd_N eu7) (gd_L eu7) (roG_ok hv) (na_0 eu7b) (na_1 eu7b) dX6_init_23 (by omega) ?_
  obtain ⟨M9, eM9, h⟩ := ob h
  try dsimp only at h
  refine fr_sPF cb6 2 (by decide) rfl rfl rfl rfl w_195 dX6_init_25 rfl eM9 ?_
  obtain rfl := Option.some.inj h
  exact fr_vret rfl dX6_init_28 ⟨rfl, rfl⟩
def f_X8_init (p0a : Nat) (M : Mem) : Option (Unit × Mem) := (gd M [(0, .ref p0a)] [.ref p0a]).bind fun _ => (na 7).bind fun _ => (some (mNew M 100 (Int32.toNatClampNeg 7))).bind fun M2 => (sP M2 8 p0a 0 (mN M)).bind fun M3 => some ((), M3)
set_option maxRecDepth 20000 in
theorem ev_X8_init {G : Nat × (Nat → Int32) × Value} (hv : rob G.2.2) {p0a : Nat} {M : Mem} {r : Unit × Mem} (h : f_X8_init p0a M = some r) : Ev (roG G) true YX8_init 1 1 [.ref p0a] M (fun a b => a = wU r.1 ∧ b = r.2) := by
  refine ev_of cyX8_init.2.2.2.2 (Nat.le_of_ble_eq_true rfl) ?_
  show Fr _ _ _ _ _ _ 0 [(0, .ref p0a)] [] M _
  unfold f_X8_init at h
  refine fr_aload_n 0 dX8_init_0 rfl ?_
  refine fr_objInit w_182 w_56 w_57 (by omega) (Nat.le_of_ble_eq_true rfl) dX8_init_1 ?_
  refine fr_aload_n 0 dX8_init_4 rfl ?_
  refine fr_bipush (v := 7) dX8_init_5 (by decide) ?_
  obtain ⟨u1, eu1, h⟩ := ob h
  try dsimp only at h
  obtain ⟨u1b, eu1b, h⟩ := ob h
  try dsimp only at h
  obtain ⟨M2, eM2, h⟩ := ob h
  try dsimp only at h
  obtain rfl := Option.some.inj eM2
  refine fr_newarrg (k2 := 0) (ty := .int) 0 100 rfl rfl (by decide) (by decide) rfl w_119 (gd_N eu1) (gd_L eu1) (roG_ok hv) (na_0 eu1b) (na_1 eu1b) dX8_init_7 (by omega) ?_
  obtain ⟨M3, eM3, h⟩ := ob h
  try dsimp only at h
  refine fr_sPF cb8 0 (by decide) rfl rfl rfl rfl w_183 dX8_init_9 rfl eM3 ?_
  obtain rfl := Option.some.inj h
  exact fr_vret rfl dX8_init_12 ⟨rfl, rfl⟩
def f_X10_init (p0a : Nat) (M : Mem) : Option (Unit × Mem) := (gd M [(0, .ref p0a)] [.ref p0a]).bind fun _ => (some (mNew M 9 0)).bind fun M2 => (gd M2 [(0, .ref p0a)] [.ref (mN M), .ref p0a]).bind fun _ => (f_X9_init (mN M) M2).bind fun r3 => (sP r3.2 10 p0a 0 (mN M)).bind fun M5 => (gd M5 [(0, .ref p0a)] [.ref p0a]).bind fun _ => (some (mNew M5 9 0)).bind fun M7 => (gd M7 [(0, .ref p0a)] [.ref (mN M5), .ref p0a]).bind fun _ => (f_X9_init (mN M5) M7).bind fun r8 => (sP r8.2 10 p0a 1 (mN M5)).bind fun M10 => (gd M10 [(0, .ref p0a)] [.ref p0a]).bind fun _ => (some (mNew M10 4 0)).bind fun M12 => (gd M12 [(0, .ref p0a)] [.ref (mN M10), .ref p0a]).bind fun _ => (f_X3_init (mN M10) M12).bind fun r13 => (sP r13.2 10 p0a 3 (mN M10)).bind fun M15 => (gd M15 [(0, .ref p0a)] [.ref p0a]).bind fun _ => (some (mNew M15 3 0)).bind fun M17 => (gd M17 [(0, .ref p0a)] [.ref (mN M15), .ref p0a]).bind fun _ => (f_X2_init (mN M15) M17).bind fun r18 => (sP r18.2 10 p0a 4 (mN M15)).bind fun M20 => (gd M20 [(0, .ref p0a)] [.ref p0a]).bind fun _ => (some (mNew M20 8 0)).bind fun M22 => (gd M22 [(0, .ref p0a)] [.ref (mN M20), .ref p0a]).bind fun _ => (f_X8_init (mN M20) M22).bind fun r23 => (sP r23.2 10 p0a 5 (mN M20)).bind fun M25 => (gd M25 [(0, .ref p0a)] [.ref p0a]).bind fun _ => (some (mNew M25 6 0)).bind fun M27 => (gd M27 [(0, .ref p0a)] [.ref (mN M25), .ref p0a]).bind fun _ => (f_X6_init (mN M25) M27).bind fun r28 => (sP r28.2 10 p0a 6 (mN M25)).bind fun M30 => (gd M30 [(0, .ref p0a)] [.ref p0a]).bind fun _ => (some (mNew M30 5 0)).bind fun M32 => (gd M32 [(0, .ref p0a)] [.ref (mN M30), .ref p0a]).bind fun _ => (f_X4_init (mN M30) M32).bind fun r33 => (sP r33.2 10 p0a 7 (mN M30)).bind fun M35 => (sI M35 10 p0a 8 .int (-1)).bind fun M36 => (sI M36 10 p0a 9 .int (-1)).bind fun M37 => some ((), M37)
set_option maxRecDepth 20000 in
theorem ev_X10_init {G : Nat × (Nat → Int32) × Value} (hv : rob G.2.2) {p0a : Nat} {M : Mem} {r : Unit × Mem} (h : f_X10_init p0a M = some r) : Ev (roG G) true YX10_init 4 30918 [.ref p0a] M (fun a b => a = wU r.1 ∧ b = r.2) := by
  refine ev_of cyX10_init.2.2.2.2 (Nat.le_of_ble_eq_true rfl) ?_
  show Fr _ _ _ _ _ _ 0 [(0, .ref p0a)] [] M _
  unfold f_X10_init at h
  refine fr_aload_n 0 dX10_init_0 rfl ?_
  refine fr_objInit w_55 w_56 w_57 (by omega) (Nat.le_of_ble_eq_true rfl) dX10_init_1 ?_
  refine fr_aload_n 0 dX10_init_4 rfl ?_
  obtain ⟨u1, eu1, h⟩ := ob h
  try dsimp only at h
  obtain ⟨M2, eM2, h⟩ := ob h
  try dsimp only at h
  obtain rfl := Option.some.inj eM2
  refine fr_newg (k2 := 30917) cb9 w_58 w_59 w_15 (gd_N eu1) (gd_L eu1) (roG_ok hv) (by decide) dX10_init_5 (by omega) ?_
  refine fr_dup dX10_init_8 rfl ?_
  obtain ⟨u4, eu4, h⟩ := ob h
  try dsimp only at h
  obtain ⟨r3, er3, h⟩ := ob h
  try dsimp only at h
  refine fr_callI (g1 := true) (k2 := 30615) (ev_X9_init hv er3) rfl cyX9_init rfl rfl w_60 w_61 (by rfl) (by omega) (by omega) (by rfl) (Nat.le_of_ble_eq_true rfl) dX10_init_9 (Or.inr ⟨rfl, gd_L eu4, roG_ok hv⟩) (fun v M9 q _ => ?_) (fun E M9 q _ => (Sum.inr_ne_inl q.1).elim)
  obtain rfl : v = none := Sum.inl.inj q.1
  obtain rfl := q.2.symm
  refine fr_st (S' := [.ref (mN M), .ref p0a]) rfl ?_
  obtain ⟨M5, eM5, h⟩ := ob h
  try dsimp only at h
  refine fr_sPF cb10 0 (by decide) rfl rfl rfl rfl w_227 dX10_init_12 rfl eM5 ?_
  refine fr_aload_n 0 dX10_init_15 rfl ?_
  obtain ⟨u6, eu6, h⟩ := ob h
  try dsimp only at h
  obtain ⟨M7, eM7, h⟩ := ob h
  try dsimp only at h
  obtain rfl := Option.some.inj eM7
  refine fr_newg (k2 := 30614) cb9 w_58 w_59 w_15 (gd_N eu6) (gd_L eu6) (roG_ok hv) (by decide) dX10_init_16 (by omega) ?_
  refine fr_dup dX10_init_19 rfl ?_
  obtain ⟨u9, eu9, h⟩ := ob h
  try dsimp only at h
  obtain ⟨r8, er8, h⟩ := ob h
  try dsimp only at h
  refine fr_callI (g1 := true) (k2 := 30312) (ev_X9_init hv er8) rfl cyX9_init rfl rfl w_60 w_61 (by rfl) (by omega) (by omega) (by rfl) (Nat.le_of_ble_eq_true rfl) dX10_init_20 (Or.inr ⟨rfl, gd_L eu9, roG_ok hv⟩) (fun v M9 q _ => ?_) (fun E M9 q _ => (Sum.inr_ne_inl q.1).elim)
  obtain rfl : v = none := Sum.inl.inj q.1
  obtain rfl := q.2.symm
  refine fr_st (S' := [.ref (mN M5), .ref p0a]) rfl ?_
  obtain ⟨M10, eM10, h⟩ := ob h
  try dsimp only at h
  refine fr_sPF cb10 1 (by decide) rfl rfl rfl rfl w_228 dX10_init_23 rfl eM10 ?_
  refine fr_aload_n 0 dX10_init_26 rfl ?_
  obtain ⟨u11, eu11, h⟩ := ob h
  try dsimp only at h
  obtain ⟨M12, eM12, h⟩ := ob h
  try dsimp only at h
  obtain rfl := Option.some.inj eM12
  refine fr_newg (k2 := 30311) cb4 w_147 w_148 w_17 (gd_N eu11) (gd_L eu11) (roG_ok hv) (by decide) dX10_init_27 (by omega) ?_
  refine fr_dup dX10_init_30 rfl ?_
  obtain ⟨u14, eu14, h⟩ := ob h
  try dsimp only at h
  obtain ⟨r13, er13, h⟩ := ob h
  try dsimp only at h
  refine fr_callI (g1 := true) (k2 := 10) (ev_X3_init hv er13) rfl cyX3_init rfl rfl w_149 w_150 (by rfl) (by omega) (by omega) (by rfl) (Nat.le_of_ble_eq_true rfl) dX10_init_31 (Or.inr ⟨rfl, gd_L eu14, roG_ok hv⟩) (fun v M9 q _ => ?_) (fun E M9 q _ => (Sum.inr_ne_inl q.1).elim)
  obtain rfl : v = none := Sum.inl.inj q.1
  obtain rfl := q.2.symm
  refine fr_st (S' := [.ref (mN M10), .ref p0a]) rfl ?_
  obtain ⟨M15, eM15, h⟩ := ob h
  try dsimp only at h
  refine fr_sPF cb10 3 (by decide) rfl rfl rfl rfl w_230 dX10_init_34 rfl eM15 ?_
  refine fr_aload_n 0 dX10_init_37 rfl ?_
  obtain ⟨u16, eu16, h⟩ := ob h
  try dsimp only at h
  obtain ⟨M17, eM17, h⟩ := ob h
  try dsimp only at h
  obtain rfl := Option.some.inj eM17
  refine fr_newg (k2 := 9) cb3 w_167 w_168 w_18 (gd_N eu16) (gd_L eu16) (roG_ok hv) (by decide) dX10_init_38 (by omega) ?_
  refine fr_dup dX10_init_41 rfl ?_
  obtain ⟨u19, eu19, h⟩ := ob h
  try dsimp only at h
  obtain ⟨r18, er18, h⟩ := ob h
  try dsimp only at h
  refine fr_callIN (g1 := true) (k2 := 8) "MapHall" (ev_X2_init hv er18) rfl cyX2_init rfl rfl (show _ ∈ roM from List.mem_of_getElem? (i := 1) rfl) w_170 (by rfl) (by omega) (by omega) (by rfl) (Nat.le_of_ble_eq_true rfl) dX10_init_42 (Or.inr ⟨rfl, gd_L eu19, roG_ok hv⟩) (fun v M9 q _ => ?_) (fun E M9 q _ => (Sum.inr_ne_inl q.1).elim)
  obtain rfl : v = none := Sum.inl.inj q.1
  obtain rfl := q.2.symm
  refine fr_st (S' := [.ref (mN M15), .ref p0a]) rfl ?_
  obtain ⟨M20, eM20, h⟩ := ob h
  try dsimp only at h
  refine fr_sPF cb10 4 (by decide) rfl rfl rfl rfl w_231 dX10_init_45 rfl eM20 ?_
  refine fr_aload_n 0 dX10_init_48 rfl ?_
  obtain ⟨u21, eu21, h⟩ := ob h
  try dsimp only at h
  obtain ⟨M22, eM22, h⟩ := ob h
  try dsimp only at h
  obtain rfl := Option.some.inj eM22
  refine fr_newg (k2 := 7) cb8 w_177 w_178 w_19 (gd_N eu21) (gd_L eu21) (roG_ok hv) (by decide) dX10_init_49 (by omega) ?_
  refine fr_dup dX10_init_52 rfl ?_
  obtain ⟨u24, eu24, h⟩ := ob h
  try dsimp only at h
  obtain ⟨r23, er23, h⟩ := ob h
  try dsimp only at h
  refine fr_callIN (g1 := true) (k2 := 6) "MapHall" (ev_X8_init hv er23) rfl cyX8_init rfl rfl (show _ ∈ roM from List.mem_of_getElem? (i := 2) rfl) w_180 (by rfl) (by omega) (by omega) (by rfl) (Nat.le_of_ble_eq_true rfl) dX10_init_53 (Or.inr ⟨rfl, gd_L eu24, roG_ok hv⟩) (fun v M9 q _ => ?_) (fun E M9 q _ => (Sum.inr_ne_inl q.1).elim)
  obtain rfl : v = none := Sum.inl.inj q.1
  obtain rfl := q.2.symm
  refine fr_st (S' := [.ref (mN M20), .ref p0a]) rfl ?_
  obtain ⟨M25, eM25, h⟩ := ob h
  try dsimp only at h
  refine fr_sPF cb10 5 (by decide) rfl rfl rfl rfl w_232 dX10_init_56 rfl eM25 ?_
  refine fr_aload_n 0 dX10_init_59 rfl ?_
  obtain ⟨u26, eu26, h⟩ := ob h
  try dsimp only at h
  obtain ⟨M27, eM27, h⟩ := ob h
  try dsimp only at h
  obtain rfl := Option.some.inj eM27
  refine fr_newg (k2 := 5) cb6 w_187 w_188 w_20 (gd_N eu26) (gd_L eu26) (roG_ok hv) (by decide) dX10_init_60 (by omega) ?_
  refine fr_dup dX10_init_63 rfl ?_
  obtain ⟨u29, eu29, h⟩ := ob h
  try dsimp only at h
  obtain ⟨r28, er28, h⟩ := ob h
  try dsimp only at h
  refine fr_callIN (g1 := true) (k2 := 2) "MapHall" (ev_X6_init hv er28) rfl cyX6_init rfl rfl (show _ ∈ roM from List.mem_of_getElem? (i := 3) rfl) w_190 (by rfl) (by omega) (by omega) (by rfl) (Nat.le_of_ble_eq_true rfl) dX10_init_64 (Or.inr ⟨rfl, gd_L eu29, roG_ok hv⟩) (fun v M9 q _ => ?_) (fun E M9 q _ => (Sum.inr_ne_inl q.1).elim)
  obtain rfl : v = none := Sum.inl.inj q.1
  obtain rfl := q.2.symm
  refine fr_st (S' := [.ref (mN M25), .ref p0a]) rfl ?_
  obtain ⟨M30, eM30, h⟩ := ob h
  try dsimp only at h
  refine fr_sPF cb10 6 (by decide) rfl rfl rfl rfl w_233 dX10_init_67 rfl eM30 ?_
  refine fr_aload_n 0 dX10_init_70 rfl ?_
  obtain ⟨u31, eu31, h⟩ := ob h
  try dsimp only at h
  obtain ⟨M32, eM32, h⟩ := ob h
  try dsimp only at h
  obtain rfl := Option.some.inj eM32
  refine fr_newg (k2 := 1) cb5 w_212 w_213 w_21 (gd_N eu31) (gd_L eu31) (roG_ok hv) (by decide) dX10_init_71 (by omega) ?_
  refine fr_dup dX10_init_74 rfl ?_
  obtain ⟨u34, eu34, h⟩ := ob h
  try dsimp only at h
  obtain ⟨r33, er33, h⟩ := ob h
  try dsimp only at h
  refine fr_callIN (g1 := true) (k2 := 0) "MapHall" (ev_X4_init hv er33) rfl cyX4_init rfl rfl (show _ ∈ roM from List.mem_of_getElem? (i := 4) rfl) w_215 (by rfl) (by omega) (by omega) (by rfl) (Nat.le_of_ble_eq_true rfl) dX10_init_75 (Or.inr ⟨rfl, gd_L eu34, roG_ok hv⟩) (fun v M9 q _ => ?_) (fun E M9 q _ => (Sum.inr_ne_inl q.1).elim)
  obtain rfl : v = none := Sum.inl.inj q.1
  obtain rfl := q.2.symm
  refine fr_st (S' := [.ref (mN M30), .ref p0a]) rfl ?_
  obtain ⟨M35, eM35, h⟩ := ob h
  try dsimp only at h
  refine fr_sPF cb10 7 (by decide) rfl rfl rfl rfl w_234 dX10_init_78 rfl eM35 ?_
  refine fr_aload_n 0 dX10_init_81 rfl ?_
  refine fr_iconst (v := (-1)) dX10_init_82 (by decide) ?_
  obtain ⟨M36, eM36, h⟩ := ob h
  try dsimp only at h
  refine fr_sI cb10 8 (by decide) rfl rfl w_235 dX10_init_83 eM36 ?_
  refine fr_aload_n 0 dX10_init_86 rfl ?_
  refine fr_iconst (v := (-1)) dX10_init_87 (by decide) ?_
  obtain ⟨M37, eM37, h⟩ := ob h
  try dsimp only at h
  refine fr_sI cb10 9 (by decide) rfl rfl w_236 dX10_init_88 eM37 ?_
  obtain rfl := Option.some.inj h
  exact fr_vret rfl dX10_init_91 ⟨rfl, rfl⟩
def f_X10_save (p0a : Nat) (M : Mem) : Option (Int32 × Mem) := (gP M 10 p0a 1).bind fun p1 => (gP M 10 p0a 0).bind fun p2 => (rc M 9 p1).bind fun _ => (f_X9_copyFrom p1 p2 M).bind fun r3 => (sI r3.2 10 p0a 2 .boolean 1).bind fun M5 => (gP M5 10 p0a 0).bind fun p6 => (gI M5 9 p6 2).bind fun x7 => some (x7, M5)
set_option maxRecDepth 20000 in
theorem ev_X10_save {G : Nat × (Nat → Int32) × Value} {p0a : Nat} {M : Mem} {r : Int32 × Mem} (h : f_X10_save p0a M = some r) : Ev (roG G) false YX10_save 3 0 [.ref p0a] M (fun a b => a = wI r.1 ∧ b = r.2) := by
  refine ev_of cyX10_save.2.2.2.2 (Nat.le_of_ble_eq_true rfl) ?_
  show Fr _ _ _ _ _ _ 0 [(0, .ref p0a)] [] M _
  unfold f_X10_save at h
  refine fr_aload_n 0 dX10_save_0 rfl ?_
  obtain ⟨p1, ep1, h⟩ := ob h
  try dsimp only at h
  refine fr_gP cb10 1 (by decide) rfl w_228 dX10_save_1 ep1 ?_
  refine fr_aload_n 0 dX10_save_4 rfl ?_
  obtain ⟨p2, ep2, h⟩ := ob h
  try dsimp only at h
  refine fr_gP cb10 0 (by decide) rfl w_227 dX10_save_5 ep2 ?_
  obtain ⟨u4, eu4, h⟩ := ob h
  try dsimp only at h
  obtain ⟨r3, er3, h⟩ := ob h
  try dsimp only at h
  refine fr_callV (g1 := false) (k2 := 0) (ev_X9_copyFrom er3) rfl cyX9_copyFrom w_278 w_279 w_280 (rc_ok eu4 rfl (by decide)) (by rfl) (by omega) (by omega) (by rfl) (Nat.le_of_ble_eq_true rfl) dX10_save_8 (Or.inl rfl) (fun v M9 q _ => ?_) (fun E M9 q _ => (Sum.inr_ne_inl q.1).elim)
  obtain rfl : v = none := Sum.inl.inj q.1
  obtain rfl := q.2.symm
  refine fr_st (S' := []) rfl ?_
  refine fr_aload_n 0 dX10_save_11 rfl ?_
  refine fr_iconst (v := 1) dX10_save_12 (by decide) ?_
  obtain ⟨M5, eM5, h⟩ := ob h
  try dsimp only at h
  refine fr_sI cb10 2 (by decide) rfl rfl w_229 dX10_save_13 eM5 ?_
  refine fr_aload_n 0 dX10_save_16 rfl ?_
  obtain ⟨p6, ep6, h⟩ := ob h
  try dsimp only at h
  refine fr_gP cb10 0 (by decide) rfl w_227 dX10_save_17 ep6 ?_
  obtain ⟨x7, ex7, h⟩ := ob h
  try dsimp only at h
  refine fr_gI cb9 2 (by decide) rfl w_127 dX10_save_20 ex7 ?_
  obtain rfl := Option.some.inj h
  exact fr_iret rfl dX10_save_23 ⟨rfl, rfl⟩
def f_X10_undoCount (p0a : Nat) (M : Mem) : Option (Int32) := (gP M 10 p0a 3).bind fun p1 => (gI M 4 p1 2).bind fun x2 => some x2
set_option maxRecDepth 20000 in
theorem ev_X10_undoCount {G : Nat × (Nat → Int32) × Value} {p0a : Nat} {M : Mem} {r : Int32} (h : f_X10_undoCount p0a M = some r) : Ev (roG G) false YX10_undoCount 0 0 [.ref p0a] M (fun a b => a = wI r ∧ b = M) := by
  refine ev_of cyX10_undoCount.2.2.2.2 (Nat.le_of_ble_eq_true rfl) ?_
  show Fr _ _ _ _ _ _ 0 [(0, .ref p0a)] [] M _
  unfold f_X10_undoCount at h
  refine fr_aload_n 0 dX10_undoCount_0 rfl ?_
  obtain ⟨p1, ep1, h⟩ := ob h
  try dsimp only at h
  refine fr_gP cb10 3 (by decide) rfl w_230 dX10_undoCount_1 ep1 ?_
  obtain ⟨x2, ex2, h⟩ := ob h
  try dsimp only at h
  refine fr_gI cb4 2 (by decide) rfl w_159 dX10_undoCount_4 ex2 ?_
  obtain rfl := Option.some.inj h
  exact fr_iret rfl dX10_undoCount_7 ⟨rfl, rfl⟩
