/-! ===== methods, 5: X8_isCreasePossible X8_pullOut X8_slideIn X8_countFrom X8_countByAdding X10_foldings L_foldings X9_sumOfWear X10_meanWear L_meanWear X10_outputChar ===== -/
def lp_X8_isCreasePossible_63 (p_0 : Nat) (p_1 : Nat) (x_2 : Int32) (x_3 : Int32) (M_ : Mem) : Nat → Int32 → Option ((Int32) ⊕ (Int32))
  | 0, _ => none
  | n + 1, x_4 => if x_4 < 0 then (some (.inl x_4)) else ((f_X8_cross p_1 x_2 x_4 M_).bind fun r13 => if r13 = 0 then (lp_X8_isCreasePossible_63 p_0 p_1 x_2 x_3 M_ n (x_4 + (-2))) else (some (.inr 0)))
def f_X8_isCreasePossible (p0a : Nat) (p1a : Nat) (x2a : Int32) (M : Mem) : Option (Int32) := (gP M 7 p0a 1).bind fun p1 => (aI M 101 p1 x2a).bind fun x2 => if x2 = 118 then (if (x2a - x2a / 2 * 2) = 0 then ((aI M 100 p1a (x2a + 1)).bind fun x33 => (aI M 100 p1a x2a).bind fun x34 => if x33 ≤ x34 then (some 0) else ((lp_X8_isCreasePossible_63 p0a p1a x2a 1 M 100 (x2a - 2)).bind fun q38 => match q38 with | .inl q38_4 => (some 1) | .inr q38_r => some q38_r)) else ((aI M 100 p1a (x2a + 1)).bind fun x26 => (aI M 100 p1a x2a).bind fun x27 => if x26 ≤ x27 then ((lp_X8_isCreasePossible_63 p0a p1a x2a 0 M 100 (x2a - 2)).bind fun q30 => match q30 with | .inl q30_4 => (some 1) | .inr q30_r => some q30_r) else (some 0))) else (if (x2a - x2a / 2 * 2) = 0 then ((aI M 100 p1a (x2a + 1)).bind fun x17 => (aI M 100 p1a x2a).bind fun x18 => if x17 ≤ x18 then ((lp_X8_isCreasePossible_63 p0a p1a x2a 0 M 100 (x2a - 2)).bind fun q21 => match q21 with | .inl q21_4 => (some 1) | .inr q21_r => some q21_r) else (some 0)) else ((aI M 100 p1a (x2a + 1)).bind fun x7 => (aI M 100 p1a x2a).bind fun x8 => if x7 ≤ x8 then (some 0) else ((lp_X8_isCreasePossible_63 p0a p1a x2a 1 M 100 (x2a - 2)).bind fun q15 => match q15 with | .inl q15_4 => (some 1) | .inr q15_r => some q15_r)))
set_option maxRecDepth 20000 in
theorem lp_X8_isCreasePossible_63_ok {G : Nat × (Nat → Int32) × Value} {P : Res → Mem → Prop} {n0 d ke : Nat} {p_0 : Nat} {p_1 : Nat} {x_2 : Int32} {x_3 : Int32} {M_ : Mem} (hd : 2 ≤ d) : ∀ (n : Nat) (x_4 : Int32) (res : (Int32) ⊕ (Int32)), lp_X8_isCreasePossible_63 p_0 p_1 x_2 x_3 M_ n x_4 = some res → (∀ (y_4 : Int32), res = .inl y_4 → Fr (roG G) false n0 YX8_isCreasePossible d ke 86 [(0, .ref p_0), (1, .ref p_1), (2, .int x_2), (3, .int x_3), (4, .int y_4)] [] M_ P) → (∀ r : Int32, res = .inr r → P (wI r) M_) → Fr (roG G) false n0 YX8_isCreasePossible d ke 63 [(0, .ref p_0), (1, .ref p_1), (2, .int x_2), (3, .int x_3), (4, .int x_4)] [] M_ P := by
  intro n
  induction n with
  | zero => intro x_4 res h; unfold lp_X8_isCreasePossible_63 at h; cases h
  | succ n ih =>
    intro x_4 res h he hr
    unfold lp_X8_isCreasePossible_63 at h
    refine fr_iload 4 dX8_isCreasePossible_63 rfl ?_
    refine fr_if_lt 86 dX8_isCreasePossible_65 (by decide) (fun c12 => ?_) (fun c12 => ?_)
    · rw [if_pos c12] at h
      obtain rfl := Option.some.inj h
      exact he _ rfl
    · rw [if_neg c12] at h
      refine fr_aload_n 1 dX8_isCreasePossible_68 rfl ?_
      refine fr_iload_n 2 dX8_isCreasePossible_69 rfl ?_
      refine fr_iload 4 dX8_isCreasePossible_70 rfl ?_
      obtain ⟨r13, er13, h⟩ := ob h
      try dsimp only at h
      refine fr_callS (g1 := false) (k2 := ke) (ev_X8_cross er13) rfl cyX8_cross w_1096 w_1097 (by rfl) (by omega) (by omega) (by rfl) (Nat.le_of_ble_eq_true rfl) dX8_isCreasePossible_72 (Or.inl rfl) (fun v M9 q _ => ?_) (fun E M9 q _ => (Sum.inr_ne_inl q.1).elim)
      obtain rfl : v = some (.int r13) := Sum.inl.inj q.1
      obtain rfl := q.2.symm
      refine fr_st (S' := [.int r13]) rfl ?_
      refine fr_if_eq 80 dX8_isCreasePossible_75 (by decide) (fun c14 => ?_) (fun c14 => ?_)
      · rw [if_pos c14] at h
        refine fr_iinc (v := (x_4 + (-2))) (L' := [(0, .ref p_0), (1, .ref p_1), (2, .int x_2), (3, .int x_3), (4, .int (x_4 + (-2)))]) 4 dX8_isCreasePossible_80 rfl rfl (by decide) rfl ?_
        refine fr_goto 63 dX8_isCreasePossible_83 (by decide) ?_
        exact ih _ _ h he hr
      · rw [if_neg c14] at h
        refine fr_iconst (v := 0) dX8_isCreasePossible_78 (by decide) ?_
        obtain rfl := Option.some.inj h
        exact fr_zret (ty := .boolean) rfl rfl dX8_isCreasePossible_79 (hr _ rfl)
set_option maxRecDepth 20000 in
theorem ev_X8_isCreasePossible {G : Nat × (Nat → Int32) × Value} {p0a : Nat} {p1a : Nat} {x2a : Int32} {M : Mem} {r : Int32} (h : f_X8_isCreasePossible p0a p1a x2a M = some r) : Ev (roG G) false YX8_isCreasePossible 2 0 [.ref p0a, .ref p1a, .int x2a] M (fun a b => a = wI r ∧ b = M) := by
  refine ev_of cyX8_isCreasePossible.2.2.2.2 (Nat.le_of_ble_eq_true rfl) ?_
  show Fr _ _ _ _ _ _ 0 [(0, .ref p0a), (1, .ref p1a), (2, .int x2a)] [] M _
  unfold f_X8_isCreasePossible at h
  refine fr_aload_n 0 dX8_isCreasePossible_0 rfl ?_
  obtain ⟨p1, ep1, h⟩ := ob h
  try dsimp only at h
  refine fr_gP cb7 1 (by decide) rfl w_75 dX8_isCreasePossible_1 ep1 ?_
  refine fr_iload_n 2 dX8_isCreasePossible_4 rfl ?_
  obtain ⟨x2, ex2, h⟩ := ob h
  try dsimp only at h
  refine fr_aI1 ex2 dX8_isCreasePossible_5 ?_
  refine fr_bipush (v := 118) dX8_isCreasePossible_6 (by decide) ?_
  refine fr_icmp_ne 15 dX8_isCreasePossible_8 (by decide) (fun c3 => ?_) (fun c3 => ?_)
  · rw [if_neg c3] at h
    refine fr_iconst (v := 0) dX8_isCreasePossible_15 (by decide) ?_
    refine fr_iload_n 2 dX8_isCreasePossible_16 rfl ?_
    refine fr_iconst (v := 2) dX8_isCreasePossible_17 (by decide) ?_
    refine fr_irem dX8_isCreasePossible_18 (by decide) ?_
    refine fr_if_ne 26 dX8_isCreasePossible_19 (by decide) (fun c5 => ?_) (fun c5 => ?_)
    · rw [if_neg c5] at h
      refine fr_iconst (v := 0) dX8_isCreasePossible_26 (by decide) ?_
      refine fr_icmp_ne 34 dX8_isCreasePossible_27 (by decide) (fun c6 => absurd c6 (by decide)) (fun c6 => ?_)
      refine fr_iconst (v := 1) dX8_isCreasePossible_30 (by decide) ?_
      refine fr_goto 35 dX8_isCreasePossible_31 (by decide) ?_
      refine fr_istore_n (L' := [(0, .ref p0a), (1, .ref p1a), (2, .int x2a), (3, .int 1)]) dX8_isCreasePossible_35 (by decide) rfl ?_
      refine fr_aload_n 1 dX8_isCreasePossible_36 rfl ?_
      refine fr_iload_n 2 dX8_isCreasePossible_37 rfl ?_
      refine fr_iconst (v := 1) dX8_isCreasePossible_38 (by decide) ?_
      refine fr_iadd dX8_isCreasePossible_39 ?_
      obtain ⟨x7, ex7, h⟩ := ob h
      try dsimp only at h
      refine fr_aI0 ex7 dX8_isCreasePossible_40 ?_
      refine fr_aload_n 1 dX8_isCreasePossible_41 rfl ?_
      refine fr_iload_n 2 dX8_isCreasePossible_42 rfl ?_
      obtain ⟨x8, ex8, h⟩ := ob h
      try dsimp only at h
      refine fr_aI0 ex8 dX8_isCreasePossible_43 ?_
      refine fr_icmp_le 51 dX8_isCreasePossible_44 (by decide) (fun c9 => ?_) (fun c9 => ?_)
      · rw [if_pos c9] at h
        refine fr_iconst (v := 0) dX8_isCreasePossible_51 (by decide) ?_
        refine fr_iload_n 3 dX8_isCreasePossible_52 rfl ?_
        refine fr_icmp_eq 58 dX8_isCreasePossible_53 (by decide) (fun c10 => absurd c10 (by decide)) (fun c10 => ?_)
        refine fr_iconst (v := 0) dX8_isCreasePossible_56 (by decide) ?_
        obtain rfl := Option.some.inj h
        exact fr_zret (ty := .boolean) rfl rfl dX8_isCreasePossible_57 ⟨rfl, rfl⟩
      · rw [if_neg c9] at h
        refine fr_iconst (v := 1) dX8_isCreasePossible_47 (by decide) ?_
        refine fr_goto 52 dX8_isCreasePossible_48 (by decide) ?_
        refine fr_iload_n 3 dX8_isCreasePossible_52 rfl ?_
        refine fr_icmp_eq 58 dX8_isCreasePossible_53 (by decide) (fun c11 => ?_) (fun c11 => absurd c11 (by decide))
        refine fr_iload_n 2 dX8_isCreasePossible_58 rfl ?_
        refine fr_iconst (v := 2) dX8_isCreasePossible_59 (by decide) ?_
        refine fr_isub dX8_isCreasePossible_60 ?_
        refine fr_istore (L' := [(0, .ref p0a), (1, .ref p1a), (2, .int x2a), (3, .int 1), (4, .int (x2a - 2))]) dX8_isCreasePossible_61 (by decide) rfl ?_
        obtain ⟨q15, eq15, h⟩ := ob h
        try dsimp only at h
        refine lp_X8_isCreasePossible_63_ok (by omega) 100 _ q15 eq15 (fun q15_4 e9 => ?_) (fun q15_r e9 => ?_)
        · subst e9
          try dsimp only at h
          refine fr_iconst (v := 1) dX8_isCreasePossible_86 (by decide) ?_
          obtain rfl := Option.some.inj h
          exact fr_zret (ty := .boolean) rfl rfl dX8_isCreasePossible_87 ⟨rfl, rfl⟩
        · subst e9
          try dsimp only at h
          obtain rfl := Option.some.inj h
          exact ⟨rfl, rfl⟩
    · rw [if_pos c5] at h
      refine fr_iconst (v := 1) dX8_isCreasePossible_22 (by decide) ?_
      refine fr_goto 27 dX8_isCreasePossible_23 (by decide) ?_
      refine fr_icmp_ne 34 dX8_isCreasePossible_27 (by decide) (fun c16 => ?_) (fun c16 => absurd c16 (by decide))
      refine fr_iconst (v := 0) dX8_isCreasePossible_34 (by decide) ?_
      refine fr_istore_n (L' := [(0, .ref p0a), (1, .ref p1a), (2, .int x2a), (3, .int 0)]) dX8_isCreasePossible_35 (by decide) rfl ?_
      refine fr_aload_n 1 dX8_isCreasePossible_36 rfl ?_
      refine fr_iload_n 2 dX8_isCreasePossible_37 rfl ?_
      refine fr_iconst (v := 1) dX8_isCreasePossible_38 (by decide) ?_
      refine fr_iadd dX8_isCreasePossible_39 ?_
      obtain ⟨x17, ex17, h⟩ := ob h
      try dsimp only at h
      refine fr_aI0 ex17 dX8_isCreasePossible_40 ?_
      refine fr_aload_n 1 dX8_isCreasePossible_41 rfl ?_
      refine fr_iload_n 2 dX8_isCreasePossible_42 rfl ?_
      obtain ⟨x18, ex18, h⟩ := ob h
      try dsimp only at h
      refine fr_aI0 ex18 dX8_isCreasePossible_43 ?_
      refine fr_icmp_le 51 dX8_isCreasePossible_44 (by decide) (fun c19 => ?_) (fun c19 => ?_)
      · rw [if_pos c19] at h
        refine fr_iconst (v := 0) dX8_isCreasePossible_51 (by decide) ?_
        refine fr_iload_n 3 dX8_isCreasePossible_52 rfl ?_
        refine fr_icmp_eq 58 dX8_isCreasePossible_53 (by decide) (fun c20 => ?_) (fun c20 => absurd c20 (by decide))
        refine fr_iload_n 2 dX8_isCreasePossible_58 rfl ?_
        refine fr_iconst (v := 2) dX8_isCreasePossible_59 (by decide) ?_
        refine fr_isub dX8_isCreasePossible_60 ?_
        refine fr_istore (L' := [(0, .ref p0a), (1, .ref p1a), (2, .int x2a), (3, .int 0), (4, .int (x2a - 2))]) dX8_isCreasePossible_61 (by decide) rfl ?_
        obtain ⟨q21, eq21, h⟩ := ob h
        try dsimp only at h
        refine lp_X8_isCreasePossible_63_ok (by omega) 100 _ q21 eq21 (fun q21_4 e9 => ?_) (fun q21_r e9 => ?_)
        · subst e9
          try dsimp only at h
          refine fr_iconst (v := 1) dX8_isCreasePossible_86 (by decide) ?_
          obtain rfl := Option.some.inj h
          exact fr_zret (ty := .boolean) rfl rfl dX8_isCreasePossible_87 ⟨rfl, rfl⟩
        · subst e9
          try dsimp only at h
          obtain rfl := Option.some.inj h
          exact ⟨rfl, rfl⟩
      · rw [if_neg c19] at h
        refine fr_iconst (v := 1) dX8_isCreasePossible_47 (by decide) ?_
        refine fr_goto 52 dX8_isCreasePossible_48 (by decide) ?_
        refine fr_iload_n 3 dX8_isCreasePossible_52 rfl ?_
        refine fr_icmp_eq 58 dX8_isCreasePossible_53 (by decide) (fun c22 => absurd c22 (by decide)) (fun c22 => ?_)
        refine fr_iconst (v := 0) dX8_isCreasePossible_56 (by decide) ?_
        obtain rfl := Option.some.inj h
        exact fr_zret (ty := .boolean) rfl rfl dX8_isCreasePossible_57 ⟨rfl, rfl⟩
  · rw [if_pos c3] at h
    refine fr_iconst (v := 1) dX8_isCreasePossible_11 (by decide) ?_
    refine fr_goto 16 dX8_isCreasePossible_12 (by decide) ?_
    refine fr_iload_n 2 dX8_isCreasePossible_16 rfl ?_
    refine fr_iconst (v := 2) dX8_isCreasePossible_17 (by decide) ?_
    refine fr_irem dX8_isCreasePossible_18 (by decide) ?_
    refine fr_if_ne 26 dX8_isCreasePossible_19 (by decide) (fun c24 => ?_) (fun c24 => ?_)
    · rw [if_neg c24] at h
      refine fr_iconst (v := 0) dX8_isCreasePossible_26 (by decide) ?_
      refine fr_icmp_ne 34 dX8_isCreasePossible_27 (by decide) (fun c25 => ?_) (fun c25 => absurd c25 (by decide))
      refine fr_iconst (v := 0) dX8_isCreasePossible_34 (by decide) ?_
      refine fr_istore_n (L' := [(0, .ref p0a), (1, .ref p1a), (2, .int x2a), (3, .int 0)]) dX8_isCreasePossible_35 (by decide) rfl ?_
      refine fr_aload_n 1 dX8_isCreasePossible_36 rfl ?_
      refine fr_iload_n 2 dX8_isCreasePossible_37 rfl ?_
      refine fr_iconst (v := 1) dX8_isCreasePossible_38 (by decide) ?_
      refine fr_iadd dX8_isCreasePossible_39 ?_
      obtain ⟨x26, ex26, h⟩ := ob h
      try dsimp only at h
      refine fr_aI0 ex26 dX8_isCreasePossible_40 ?_
      refine fr_aload_n 1 dX8_isCreasePossible_41 rfl ?_
      refine fr_iload_n 2 dX8_isCreasePossible_42 rfl ?_
      obtain ⟨x27, ex27, h⟩ := ob h
      try dsimp only at h
      refine fr_aI0 ex27 dX8_isCreasePossible_43 ?_
      refine fr_icmp_le 51 dX8_isCreasePossible_44 (by decide) (fun c28 => ?_) (fun c28 => ?_)
      · rw [if_pos c28] at h
        refine fr_iconst (v := 0) dX8_isCreasePossible_51 (by decide) ?_
        refine fr_iload_n 3 dX8_isCreasePossible_52 rfl ?_
        refine fr_icmp_eq 58 dX8_isCreasePossible_53 (by decide) (fun c29 => ?_) (fun c29 => absurd c29 (by decide))
        refine fr_iload_n 2 dX8_isCreasePossible_58 rfl ?_
        refine fr_iconst (v := 2) dX8_isCreasePossible_59 (by decide) ?_
        refine fr_isub dX8_isCreasePossible_60 ?_
        refine fr_istore (L' := [(0, .ref p0a), (1, .ref p1a), (2, .int x2a), (3, .int 0), (4, .int (x2a - 2))]) dX8_isCreasePossible_61 (by decide) rfl ?_
        obtain ⟨q30, eq30, h⟩ := ob h
        try dsimp only at h
        refine lp_X8_isCreasePossible_63_ok (by omega) 100 _ q30 eq30 (fun q30_4 e9 => ?_) (fun q30_r e9 => ?_)
        · subst e9
          try dsimp only at h
          refine fr_iconst (v := 1) dX8_isCreasePossible_86 (by decide) ?_
          obtain rfl := Option.some.inj h
          exact fr_zret (ty := .boolean) rfl rfl dX8_isCreasePossible_87 ⟨rfl, rfl⟩
        · subst e9
          try dsimp only at h
          obtain rfl := Option.some.inj h
          exact ⟨rfl, rfl⟩
      · rw [if_neg c28] at h
        refine fr_iconst (v := 1) dX8_isCreasePossible_47 (by decide) ?_
        refine fr_goto 52 dX8_isCreasePossible_48 (by decide) ?_
        refine fr_iload_n 3 dX8_isCreasePossible_52 rfl ?_
        refine fr_icmp_eq 58 dX8_isCreasePossible_53 (by decide) (fun c31 => absurd c31 (by decide)) (fun c31 => ?_)
        refine fr_iconst (v := 0) dX8_isCreasePossible_56 (by decide) ?_
        obtain rfl := Option.some.inj h
        exact fr_zret (ty := .boolean) rfl rfl dX8_isCreasePossible_57 ⟨rfl, rfl⟩
    · rw [if_pos c24] at h
      refine fr_iconst (v := 1) dX8_isCreasePossible_22 (by decide) ?_
      refine fr_goto 27 dX8_isCreasePossible_23 (by decide) ?_
      refine fr_icmp_ne 34 dX8_isCreasePossible_27 (by decide) (fun c32 => absurd c32 (by decide)) (fun c32 => ?_)
      refine fr_iconst (v := 1) dX8_isCreasePossible_30 (by decide) ?_
      refine fr_goto 35 dX8_isCreasePossible_31 (by decide) ?_
      refine fr_istore_n (L' := [(0, .ref p0a), (1, .ref p1a), (2, .int x2a), (3, .int 1)]) dX8_isCreasePossible_35 (by decide) rfl ?_
      refine fr_aload_n 1 dX8_isCreasePossible_36 rfl ?_
      refine fr_iload_n 2 dX8_isCreasePossible_37 rfl ?_
      refine fr_iconst (v := 1) dX8_isCreasePossible_38 (by decide) ?_
      refine fr_iadd dX8_isCreasePossible_39 ?_
      obtain ⟨x33, ex33, h⟩ := ob h
      try dsimp only at h
      refine fr_aI0 ex33 dX8_isCreasePossible_40 ?_
      refine fr_aload_n 1 dX8_isCreasePossible_41 rfl ?_
      refine fr_iload_n 2 dX8_isCreasePossible_42 rfl ?_
      obtain ⟨x34, ex34, h⟩ := ob h
      try dsimp only at h
      refine fr_aI0 ex34 dX8_isCreasePossible_43 ?_
      refine fr_icmp_le 51 dX8_isCreasePossible_44 (by decide) (fun c35 => ?_) (fun c35 => ?_)
      · rw [if_pos c35] at h
        refine fr_iconst (v := 0) dX8_isCreasePossible_51 (by decide) ?_
        refine fr_iload_n 3 dX8_isCreasePossible_52 rfl ?_
        refine fr_icmp_eq 58 dX8_isCreasePossible_53 (by decide) (fun c36 => absurd c36 (by decide)) (fun c36 => ?_)
        refine fr_iconst (v := 0) dX8_isCreasePossible_56 (by decide) ?_
        obtain rfl := Option.some.inj h
        exact fr_zret (ty := .boolean) rfl rfl dX8_isCreasePossible_57 ⟨rfl, rfl⟩
      · rw [if_neg c35] at h
        refine fr_iconst (v := 1) dX8_isCreasePossible_47 (by decide) ?_
        refine fr_goto 52 dX8_isCreasePossible_48 (by decide) ?_
        refine fr_iload_n 3 dX8_isCreasePossible_52 rfl ?_
        refine fr_icmp_eq 58 dX8_isCreasePossible_53 (by decide) (fun c37 => ?_) (fun c37 => absurd c37 (by decide))
        refine fr_iload_n 2 dX8_isCreasePossible_58 rfl ?_
        refine fr_iconst (v := 2) dX8_isCreasePossible_59 (by decide) ?_
        refine fr_isub dX8_isCreasePossible_60 ?_
        refine fr_istore (L' := [(0, .ref p0a), (1, .ref p1a), (2, .int x2a), (3, .int 1), (4, .int (x2a - 2))]) dX8_isCreasePossible_61 (by decide) rfl ?_
        obtain ⟨q38, eq38, h⟩ := ob h
        try dsimp only at h
        refine lp_X8_isCreasePossible_63_ok (by omega) 100 _ q38 eq38 (fun q38_4 e9 => ?_) (fun q38_r e9 => ?_)
        · subst e9
          try dsimp only at h
          refine fr_iconst (v := 1) dX8_isCreasePossible_86 (by decide) ?_
          obtain rfl := Option.some.inj h
          exact fr_zret (ty := .boolean) rfl rfl dX8_isCreasePossible_87 ⟨rfl, rfl⟩
        · subst e9
          try dsimp only at h
          obtain rfl := Option.some.inj h
          exact ⟨rfl, rfl⟩
def lp_X8_pullOut_2 (p_0 : Nat) (x_1 : Int32) : Nat → Int32 → Mem → Option ((Int32 × Mem) ⊕ (Unit × Mem))
  | 0, _, _ => none
  | n + 1, x_2, M_ => if x_1 ≤ x_2 then (some (.inl (x_2, M_))) else ((aI M_ 100 p_0 x_2).bind fun x2 => (aI M_ 100 p_0 x_1).bind fun x3 => if x2 ≤ x3 then (lp_X8_pullOut_2 p_0 x_1 n (x_2 + 1) M_) else ((aI M_ 100 p_0 x_2).bind fun x5 => (asI M_ 100 p_0 x_2 (x5 - 1)).bind fun M6 => lp_X8_pullOut_2 p_0 x_1 n (x_2 + 1) M6))
def f_X8_pullOut (p0a : Nat) (x1a : Int32) (M : Mem) : Option (Unit × Mem) := ((lp_X8_pullOut_2 p0a x1a 100 0 M).bind fun q7 => match q7 with | .inl (q7_2, q7_M) => (some ((), q7_M)) | .inr q7_r => some q7_r)
set_option maxRecDepth 20000 in
theorem lp_X8_pullOut_2_ok {G : Nat × (Nat → Int32) × Value} {P : Res → Mem → Prop} {n0 d ke : Nat} {p_0 : Nat} {x_1 : Int32} (hd : 0 ≤ d) : ∀ (n : Nat) (x_2 : Int32) (M_ : Mem) (res : (Int32 × Mem) ⊕ (Unit × Mem)), lp_X8_pullOut_2 p_0 x_1 n x_2 M_ = some res → (∀ (y_2 : Int32) (M9 : Mem), res = .inl (y_2, M9) → Fr (roG G) false n0 YX8_pullOut d ke 29 [(0, .ref p_0), (1, .int x_1), (2, .int y_2)] [] M9 P) → (∀ r : Unit × Mem, res = .inr r → P (wU r.1) r.2) → Fr (roG G) false n0 YX8_pullOut d ke 2 [(0, .ref p_0), (1, .int x_1), (2, .int x_2)] [] M_ P := by
  intro n
  induction n with
  | zero => intro x_2 M_ res h; unfold lp_X8_pullOut_2 at h; cases h
  | succ n ih =>
    intro x_2 M_ res h he hr
    unfold lp_X8_pullOut_2 at h
    refine fr_iload_n 2 dX8_pullOut_2 rfl ?_
    refine fr_iload_n 1 dX8_pullOut_3 rfl ?_
    refine fr_icmp_ge 29 dX8_pullOut_4 (by decide) (fun c1 => ?_) (fun c1 => ?_)
    · rw [if_pos c1] at h
      obtain rfl := Option.some.inj h
      exact he _ _ rfl
    · rw [if_neg c1] at h
      refine fr_aload_n 0 dX8_pullOut_7 rfl ?_
      refine fr_iload_n 2 dX8_pullOut_8 rfl ?_
      obtain ⟨x2, ex2, h⟩ := ob h
      try dsimp only at h
      refine fr_aI0 ex2 dX8_pullOut_9 ?_
      refine fr_aload_n 0 dX8_pullOut_10 rfl ?_
      refine fr_iload_n 1 dX8_pullOut_11 rfl ?_
      obtain ⟨x3, ex3, h⟩ := ob h
      try dsimp only at h
      refine fr_aI0 ex3 dX8_pullOut_12 ?_
      refine fr_icmp_le 23 dX8_pullOut_13 (by decide) (fun c4 => ?_) (fun c4 => ?_)
      · rw [if_pos c4] at h
        refine fr_iinc (v := (x_2 + 1)) (L' := [(0, .ref p_0), (1, .int x_1), (2, .int (x_2 + 1))]) 2 dX8_pullOut_23 rfl rfl (by decide) rfl ?_
        refine fr_goto 2 dX8_pullOut_26 (by decide) ?_
        exact ih _ _ _ h he hr
      · rw [if_neg c4] at h
        refine fr_aload_n 0 dX8_pullOut_16 rfl ?_
        refine fr_iload_n 2 dX8_pullOut_17 rfl ?_
        refine fr_dup2 dX8_pullOut_18 rfl rfl ?_
        obtain ⟨x5, ex5, h⟩ := ob h
        try dsimp only at h
        refine fr_aI0 ex5 dX8_pullOut_19 ?_
        refine fr_iconst (v := 1) dX8_pullOut_20 (by decide) ?_
        refine fr_isub dX8_pullOut_21 ?_
        obtain ⟨M6, eM6, h⟩ := ob h
        try dsimp only at h
        refine fr_asI eM6 dX8_pullOut_22 ?_
        refine fr_iinc (v := (x_2 + 1)) (L' := [(0, .ref p_0), (1, .int x_1), (2, .int (x_2 + 1))]) 2 dX8_pullOut_23 rfl rfl (by decide) rfl ?_
        refine fr_goto 2 dX8_pullOut_26 (by decide) ?_
        exact ih _ _ _ h he hr
set_option maxRecDepth 20000 in
theorem ev_X8_pullOut {G : Nat × (Nat → Int32) × Value} {p0a : Nat} {x1a : Int32} {M : Mem} {r : Unit × Mem} (h : f_X8_pullOut p0a x1a M = some r) : Ev (roG G) false YX8_pullOut 0 0 [.ref p0a, .int x1a] M (fun a b => a = wU r.1 ∧ b = r.2) := by
  refine ev_of cyX8_pullOut.2.2.2.2 (Nat.le_of_ble_eq_true rfl) ?_
  show Fr _ _ _ _ _ _ 0 [(0, .ref p0a), (1, .int x1a)] [] M _
  unfold f_X8_pullOut at h
  refine fr_iconst (v := 0) dX8_pullOut_0 (by decide) ?_
  refine fr_istore_n (L' := [(0, .ref p0a), (1, .int x1a), (2, .int 0)]) dX8_pullOut_1 (by decide) rfl ?_
  obtain ⟨q7, eq7, h⟩ := ob h
  try dsimp only at h
  refine lp_X8_pullOut_2_ok (by omega) 100 _ _ q7 eq7 (fun q7_2 q7_M e9 => ?_) (fun q7_r e9 => ?_)
  · subst e9
    try dsimp only at h
    obtain rfl := Option.some.inj h
    exact fr_vret rfl dX8_pullOut_29 ⟨rfl, rfl⟩
  · subst e9
    try dsimp only at h
    obtain rfl := Option.some.inj h
    exact ⟨rfl, rfl⟩
def lp_X8_slideIn_2 (p_0 : Nat) (x_1 : Int32) (x_2 : Int32) : Nat → Int32 → Mem → Option ((Int32 × Mem) ⊕ (Unit × Mem))
  | 0, _, _ => none
  | n + 1, x_3, M_ => if x_1 ≤ x_3 then (some (.inl (x_3, M_))) else ((aI M_ 100 p_0 x_3).bind fun x2 => if x2 < x_2 then (lp_X8_slideIn_2 p_0 x_1 x_2 n (x_3 + 1) M_) else ((aI M_ 100 p_0 x_3).bind fun x4 => (asI M_ 100 p_0 x_3 (x4 + 1)).bind fun M5 => lp_X8_slideIn_2 p_0 x_1 x_2 n (x_3 + 1) M5))
def f_X8_slideIn (p0a : Nat) (x1a : Int32) (x2a : Int32) (M : Mem) : Option (Unit × Mem) := ((lp_X8_slideIn_2 p0a x1a x2a 100 0 M).bind fun q6 => match q6 with | .inl (q6_3, q6_M) => ((asI q6_M 100 p0a x1a x2a).bind fun M7 => some ((), M7)) | .inr q6_r => some q6_r)
set_option maxRecDepth 20000 in
theorem lp_X8_slideIn_2_ok {G : Nat × (Nat → Int32) × Value} {P : Res → Mem → Prop} {n0 d ke : Nat} {p_0 : Nat} {x_1 : Int32} {x_2 : Int32} (hd : 0 ≤ d) : ∀ (n : Nat) (x_3 : Int32) (M_ : Mem) (res : (Int32 × Mem) ⊕ (Unit × Mem)), lp_X8_slideIn_2 p_0 x_1 x_2 n x_3 M_ = some res → (∀ (y_3 : Int32) (M9 : Mem), res = .inl (y_3, M9) → Fr (roG G) false n0 YX8_slideIn d ke 27 [(0, .ref p_0), (1, .int x_1), (2, .int x_2), (3, .int y_3)] [] M9 P) → (∀ r : Unit × Mem, res = .inr r → P (wU r.1) r.2) → Fr (roG G) false n0 YX8_slideIn d ke 2 [(0, .ref p_0), (1, .int x_1), (2, .int x_2), (3, .int x_3)] [] M_ P := by
  intro n
  induction n with
  | zero => intro x_3 M_ res h; unfold lp_X8_slideIn_2 at h; cases h
  | succ n ih =>
    intro x_3 M_ res h he hr
    unfold lp_X8_slideIn_2 at h
    refine fr_iload_n 3 dX8_slideIn_2 rfl ?_
    refine fr_iload_n 1 dX8_slideIn_3 rfl ?_
    refine fr_icmp_ge 27 dX8_slideIn_4 (by decide) (fun c1 => ?_) (fun c1 => ?_)
    · rw [if_pos c1] at h
      obtain rfl := Option.some.inj h
      exact he _ _ rfl
    · rw [if_neg c1] at h
      refine fr_aload_n 0 dX8_slideIn_7 rfl ?_
      refine fr_iload_n 3 dX8_slideIn_8 rfl ?_
      obtain ⟨x2, ex2, h⟩ := ob h
      try dsimp only at h
      refine fr_aI0 ex2 dX8_slideIn_9 ?_
      refine fr_iload_n 2 dX8_slideIn_10 rfl ?_
      refine fr_icmp_lt 21 dX8_slideIn_11 (by decide) (fun c3 => ?_) (fun c3 => ?_)
      · rw [if_pos c3] at h
        refine fr_iinc (v := (x_3 + 1)) (L' := [(0, .ref p_0), (1, .int x_1), (2, .int x_2), (3, .int (x_3 + 1))]) 3 dX8_slideIn_21 rfl rfl (by decide) rfl ?_
        refine fr_goto 2 dX8_slideIn_24 (by decide) ?_
        exact ih _ _ _ h he hr
      · rw [if_neg c3] at h
        refine fr_aload_n 0 dX8_slideIn_14 rfl ?_
        refine fr_iload_n 3 dX8_slideIn_15 rfl ?_
        refine fr_dup2 dX8_slideIn_16 rfl rfl ?_
        obtain ⟨x4, ex4, h⟩ := ob h
        try dsimp only at h
        refine fr_aI0 ex4 dX8_slideIn_17 ?_
        refine fr_iconst (v := 1) dX8_slideIn_18 (by decide) ?_
        refine fr_iadd dX8_slideIn_19 ?_
        obtain ⟨M5, eM5, h⟩ := ob h
        try dsimp only at h
        refine fr_asI eM5 dX8_slideIn_20 ?_
        refine fr_iinc (v := (x_3 + 1)) (L' := [(0, .ref p_0), (1, .int x_1), (2, .int x_2), (3, .int (x_3 + 1))]) 3 dX8_slideIn_21 rfl rfl (by decide) rfl ?_
        refine fr_goto 2 dX8_slideIn_24 (by decide) ?_
        exact ih _ _ _ h he hr
set_option maxRecDepth 20000 in
theorem ev_X8_slideIn {G : Nat × (Nat → Int32) × Value} {p0a : Nat} {x1a : Int32} {x2a : Int32} {M : Mem} {r : Unit × Mem} (h : f_X8_slideIn p0a x1a x2a M = some r) : Ev (roG G) false YX8_slideIn 0 0 [.ref p0a, .int x1a, .int x2a] M (fun a b => a = wU r.1 ∧ b = r.2) := by
  refine ev_of cyX8_slideIn.2.2.2.2 (Nat.le_of_ble_eq_true rfl) ?_
  show Fr _ _ _ _ _ _ 0 [(0, .ref p0a), (1, .int x1a), (2, .int x2a)] [] M _
  unfold f_X8_slideIn at h
  refine fr_iconst (v := 0) dX8_slideIn_0 (by decide) ?_
  refine fr_istore_n (L' := [(0, .ref p0a), (1, .int x1a), (2, .int x2a), (3, .int 0)]) dX8_slideIn_1 (by decide) rfl ?_
  obtain ⟨q6, eq6, h⟩ := ob h
  try dsimp only at h
  refine lp_X8_slideIn_2_ok (by omega) 100 _ _ q6 eq6 (fun q6_3 q6_M e9 => ?_) (fun q6_r e9 => ?_)
  · subst e9
    try dsimp only at h
    refine fr_aload_n 0 dX8_slideIn_27 rfl ?_
    refine fr_iload_n 1 dX8_slideIn_28 rfl ?_
    refine fr_iload_n 2 dX8_slideIn_29 rfl ?_
    obtain ⟨M7, eM7, h⟩ := ob h
    try dsimp only at h
    refine fr_asI eM7 dX8_slideIn_30 ?_
    obtain rfl := Option.some.inj h
    exact fr_vret rfl dX8_slideIn_31 ⟨rfl, rfl⟩
  · subst e9
    try dsimp only at h
    obtain rfl := Option.some.inj h
    exact ⟨rfl, rfl⟩
def lp_X8_countFrom_35 (rec : Nat → Nat → Int32 → Int32 → Mem → Option (Int32 × Mem)) (p_0 : Nat) (p_1 : Nat) (x_2 : Int32) (x_3 : Int32) : Nat → Int32 → Int32 → Mem → Option ((Int32 × Int32 × Mem) ⊕ (Int32 × Mem))
  | 0, _, _, _ => none
  | n + 1, x_4, x_5, M_ => if x_2 < x_5 then (some (.inl (x_4, x_5, M_))) else ((f_X8_slideIn p_1 x_2 x_5 M_).bind fun r4 => if x_2 = 0 then ((rec p_0 p_1 (x_2 + 1) x_3 r4.2).bind fun r6 => (f_X8_pullOut p_1 x_2 r6.2).bind fun r7 => lp_X8_countFrom_35 rec p_0 p_1 x_2 x_3 n (x_4 + r6.1) (x_5 + 1) r7.2) else ((f_X8_isCreasePossible p_0 p_1 (x_2 - 1) r4.2).bind fun r8 => if r8 = 0 then ((f_X8_pullOut p_1 x_2 r4.2).bind fun r10 => lp_X8_countFrom_35 rec p_0 p_1 x_2 x_3 n x_4 (x_5 + 1) r10.2) else ((rec p_0 p_1 (x_2 + 1) x_3 r4.2).bind fun r11 => (f_X8_pullOut p_1 x_2 r11.2).bind fun r12 => lp_X8_countFrom_35 rec p_0 p_1 x_2 x_3 n (x_4 + r11.1) (x_5 + 1) r12.2)))
def f_X8_countFrom : Nat → Nat → Nat → Int32 → Int32 → Mem → Option (Int32 × Mem)
  | 0, _, _, _, _, _ => none
  | n + 1, p0a, p1a, x2a, x3a, M => (gI M 7 p0a 3).bind fun x1 => if x2a ≤ x1 then ((lp_X8_countFrom_35 (f_X8_countFrom n) p0a p1a x2a x3a 100 0 0 M).bind fun q13 => match q13 with | .inl (q13_4, q13_5, q13_M) => (some (q13_4, q13_M)) | .inr q13_r => some q13_r) else (if x3a = (-1) then (some (1, M)) else ((aI M 100 p1a x3a).bind fun x15 => (gI M 7 p0a 3).bind fun x16 => if x15 = x16 then (some (1, M)) else (some (0, M))))
set_option maxRecDepth 20000 in
theorem lp_X8_countFrom_35_ok {G : Nat × (Nat → Int32) × Value} {P : Res → Mem → Prop} {n0 d ke : Nat} {rec : Nat → Nat → Int32 → Int32 → Mem → Option (Int32 × Mem)} {dr : Nat} {p_0 : Nat} {p_1 : Nat} {x_2 : Int32} {x_3 : Int32} (hd : 3 ≤ d) (hdr : dr + 1 ≤ d) (hrec : ∀ (a0 : Nat) (a1 : Nat) (a2 : Int32) (a3 : Int32) (Mr : Mem) (r : Int32 × Mem), rec a0 a1 a2 a3 Mr = some r → Ev (roG G) false YX8_countFrom dr 0 [.ref a0, .ref a1, .int a2, .int a3] Mr (fun a b => a = wI r.1 ∧ b = r.2)) : ∀ (n : Nat) (x_4 : Int32) (x_5 : Int32) (M_ : Mem) (res : (Int32 × Int32 × Mem) ⊕ (Int32 × Mem)), lp_X8_countFrom_35 rec p_0 p_1 x_2 x_3 n x_4 x_5 M_ = some res → (∀ (y_4 : Int32) (y_5 : Int32) (M9 : Mem), res = .inl (y_4, y_5, M9) → Fr (roG G) false n0 YX8_countFrom d ke 88 [(0, .ref p_0), (1, .ref p_1), (2, .int x_2), (3, .int x_3), (4, .int y_4), (5, .int y_5)] [] M9 P) → (∀ r : Int32 × Mem, res = .inr r → P (wI r.1) r.2) → Fr (roG G) false n0 YX8_countFrom d ke 35 [(0, .ref p_0), (1, .ref p_1), (2, .int x_2), (3, .int x_3), (4, .int x_4), (5, .int x_5)] [] M_ P := by
  intro n
  induction n with
  | zero => intro x_4 x_5 M_ res h; unfold lp_X8_countFrom_35 at h; cases h
  | succ n ih =>
    intro x_4 x_5 M_ res h he hr
    unfold lp_X8_countFrom_35 at h
    refine fr_iload 5 dX8_countFrom_35 rfl ?_
    refine fr_iload_n 2 dX8_countFrom_37 rfl ?_
    refine fr_icmp_gt 88 dX8_countFrom_38 (by decide) (fun c3 => ?_) (fun c3 => ?_)
    · rw [if_pos c3] at h
      obtain rfl := Option.some.inj h
      exact he _ _ _ rfl
    · rw [if_neg c3] at h
      refine fr_aload_n 1 dX8_countFrom_41 rfl ?_
      refine fr_iload_n 2 dX8_countFrom_42 rfl ?_
      refine fr_iload 5 dX8_countFrom_43 rfl ?_
      obtain ⟨r4, er4, h⟩ := ob h
      try dsimp only at h
      refine fr_callS (g1 := false) (k2 := ke) (ev_X8_slideIn er4) rfl cyX8_slideIn w_1090 w_1091 (by rfl) (by omega) (by omega) (by rfl) (Nat.le_of_ble_eq_true rfl) dX8_countFrom_45 (Or.inl rfl) (fun v M9 q _ => ?_) (fun E M9 q _ => (Sum.inr_ne_inl q.1).elim)
      obtain rfl : v = none := Sum.inl.inj q.1
      obtain rfl := q.2.symm
      refine fr_st (S' := []) rfl ?_
      refine fr_iload_n 2 dX8_countFrom_48 rfl ?_
      refine fr_if_eq 63 dX8_countFrom_49 (by decide) (fun c5 => ?_) (fun c5 => ?_)
      · rw [if_pos c5] at h
        refine fr_iload 4 dX8_countFrom_63 rfl ?_
        refine fr_aload_n 0 dX8_countFrom_65 rfl ?_
        refine fr_aload_n 1 dX8_countFrom_66 rfl ?_
        refine fr_iload_n 2 dX8_countFrom_67 rfl ?_
        refine fr_iconst (v := 1) dX8_countFrom_68 (by decide) ?_
        refine fr_iadd dX8_countFrom_69 ?_
        refine fr_iload_n 3 dX8_countFrom_70 rfl ?_
        obtain ⟨r6, er6, h⟩ := ob h
        try dsimp only at h
        refine fr_callS (g1 := false) (k2 := ke) (hrec _ _ _ _ _ _ er6) rfl cyX8_countFrom w_1087 w_1088 (by rfl) (by omega) (by omega) (by rfl) (Nat.le_of_ble_eq_true rfl) dX8_countFrom_71 (Or.inl rfl) (fun v M9 q _ => ?_) (fun E M9 q _ => (Sum.inr_ne_inl q.1).elim)
        obtain rfl : v = some (.int r6.1) := Sum.inl.inj q.1
        obtain rfl := q.2.symm
        refine fr_st (S' := [.int r6.1, .int x_4]) rfl ?_
        refine fr_iadd dX8_countFrom_74 ?_
        refine fr_istore (L' := [(0, .ref p_0), (1, .ref p_1), (2, .int x_2), (3, .int x_3), (4, .int (x_4 + r6.1)), (5, .int x_5)]) dX8_countFrom_75 (by decide) rfl ?_
        refine fr_aload_n 1 dX8_countFrom_77 rfl ?_
        refine fr_iload_n 2 dX8_countFrom_78 rfl ?_
        obtain ⟨r7, er7, h⟩ := ob h
        try dsimp only at h
        refine fr_callS (g1 := false) (k2 := ke) (ev_X8_pullOut er7) rfl cyX8_pullOut w_1104 w_1105 (by rfl) (by omega) (by omega) (by rfl) (Nat.le_of_ble_eq_true rfl) dX8_countFrom_79 (Or.inl rfl) (fun v M9 q _ => ?_) (fun E M9 q _ => (Sum.inr_ne_inl q.1).elim)
        obtain rfl : v = none := Sum.inl.inj q.1
        obtain rfl := q.2.symm
        refine fr_st (S' := []) rfl ?_
        refine fr_iinc (v := (x_5 + 1)) (L' := [(0, .ref p_0), (1, .ref p_1), (2, .int x_2), (3, .int x_3), (4, .int (x_4 + r6.1)), (5, .int (x_5 + 1))]) 5 dX8_countFrom_82 rfl rfl (by decide) rfl ?_
        refine fr_goto 35 dX8_countFrom_85 (by decide) ?_
        exact ih _ _ _ _ h he hr
      · rw [if_neg c5] at h
        refine fr_aload_n 0 dX8_countFrom_52 rfl ?_
        refine fr_aload_n 1 dX8_countFrom_53 rfl ?_
        refine fr_iload_n 2 dX8_countFrom_54 rfl ?_
        refine fr_iconst (v := 1) dX8_countFrom_55 (by decide) ?_
        refine fr_isub dX8_countFrom_56 ?_
        obtain ⟨r8, er8, h⟩ := ob h
        try dsimp only at h
        refine fr_callS (g1 := false) (k2 := ke) (ev_X8_isCreasePossible er8) rfl cyX8_isCreasePossible w_1093 w_1094 (by rfl) (by omega) (by omega) (by rfl) (Nat.le_of_ble_eq_true rfl) dX8_countFrom_57 (Or.inl rfl) (fun v M9 q _ => ?_) (fun E M9 q _ => (Sum.inr_ne_inl q.1).elim)
        obtain rfl : v = some (.int r8) := Sum.inl.inj q.1
        obtain rfl := q.2.symm
        refine fr_st (S' := [.int r8]) rfl ?_
        refine fr_if_eq 77 dX8_countFrom_60 (by decide) (fun c9 => ?_) (fun c9 => ?_)
        · rw [if_pos c9] at h
          refine fr_aload_n 1 dX8_countFrom_77 rfl ?_
          refine fr_iload_n 2 dX8_countFrom_78 rfl ?_
          obtain ⟨r10, er10, h⟩ := ob h
          try dsimp only at h
          refine fr_callS (g1 := false) (k2 := ke) (ev_X8_pullOut er10) rfl cyX8_pullOut w_1104 w_1105 (by rfl) (by omega) (by omega) (by rfl) (Nat.le_of_ble_eq_true rfl) dX8_countFrom_79 (Or.inl rfl) (fun v M9 q _ => ?_) (fun E M9 q _ => (Sum.inr_ne_inl q.1).elim)
          obtain rfl : v = none := Sum.inl.inj q.1
          obtain rfl := q.2.symm
          refine fr_st (S' := []) rfl ?_
          refine fr_iinc (v := (x_5 + 1)) (L' := [(0, .ref p_0), (1, .ref p_1), (2, .int x_2), (3, .int x_3), (4, .int x_4), (5, .int (x_5 + 1))]) 5 dX8_countFrom_82 rfl rfl (by decide) rfl ?_
          refine fr_goto 35 dX8_countFrom_85 (by decide) ?_
          exact ih _ _ _ _ h he hr
        · rw [if_neg c9] at h
          refine fr_iload 4 dX8_countFrom_63 rfl ?_
          refine fr_aload_n 0 dX8_countFrom_65 rfl ?_
          refine fr_aload_n 1 dX8_countFrom_66 rfl ?_
          refine fr_iload_n 2 dX8_countFrom_67 rfl ?_
          refine fr_iconst (v := 1) dX8_countFrom_68 (by decide) ?_
          refine fr_iadd dX8_countFrom_69 ?_
          refine fr_iload_n 3 dX8_countFrom_70 rfl ?_
          obtain ⟨r11, er11, h⟩ := ob h
          try dsimp only at h
          refine fr_callS (g1 := false) (k2 := ke) (hrec _ _ _ _ _ _ er11) rfl cyX8_countFrom w_1087 w_1088 (by rfl) (by omega) (by omega) (by rfl) (Nat.le_of_ble_eq_true rfl) dX8_countFrom_71 (Or.inl rfl) (fun v M9 q _ => ?_) (fun E M9 q _ => (Sum.inr_ne_inl q.1).elim)
          obtain rfl : v = some (.int r11.1) := Sum.inl.inj q.1
          obtain rfl := q.2.symm
          refine fr_st (S' := [.int r11.1, .int x_4]) rfl ?_
          refine fr_iadd dX8_countFrom_74 ?_
          refine fr_istore (L' := [(0, .ref p_0), (1, .ref p_1), (2, .int x_2), (3, .int x_3), (4, .int (x_4 + r11.1)), (5, .int x_5)]) dX8_countFrom_75 (by decide) rfl ?_
          refine fr_aload_n 1 dX8_countFrom_77 rfl ?_
          refine fr_iload_n 2 dX8_countFrom_78 rfl ?_
          obtain ⟨r12, er12, h⟩ := ob h
          try dsimp only at h
          refine fr_callS (g1 := false) (k2 := ke) (ev_X8_pullOut er12) rfl cyX8_pullOut w_1104 w_1105 (by rfl) (by omega) (by omega) (by rfl) (Nat.le_of_ble_eq_true rfl) dX8_countFrom_79 (Or.inl rfl) (fun v M9 q _ => ?_) (fun E M9 q _ => (Sum.inr_ne_inl q.1).elim)
          obtain rfl : v = none := Sum.inl.inj q.1
          obtain rfl := q.2.symm
          refine fr_st (S' := []) rfl ?_
          refine fr_iinc (v := (x_5 + 1)) (L' := [(0, .ref p_0), (1, .ref p_1), (2, .int x_2), (3, .int x_3), (4, .int (x_4 + r11.1)), (5, .int (x_5 + 1))]) 5 dX8_countFrom_82 rfl rfl (by decide) rfl ?_
          refine fr_goto 35 dX8_countFrom_85 (by decide) ?_
          exact ih _ _ _ _ h he hr
set_option maxRecDepth 20000 in
theorem ev_X8_countFrom {G : Nat × (Nat → Int32) × Value} : ∀ (n : Nat) (p0a : Nat) (p1a : Nat) (x2a : Int32) (x3a : Int32) (M : Mem) (r : Int32 × Mem), f_X8_countFrom n p0a p1a x2a x3a M = some r → Ev (roG G) false YX8_countFrom (3 + n) 0 [.ref p0a, .ref p1a, .int x2a, .int x3a] M (fun a b => a = wI r.1 ∧ b = r.2) := by
  intro n
  induction n with
  | zero => intro p0a p1a x2a x3a M r h; unfold f_X8_countFrom at h; cases h
  | succ n hrec =>
    intro p0a p1a x2a x3a M r h
    refine ev_of cyX8_countFrom.2.2.2.2 (Nat.le_of_ble_eq_true rfl) ?_
    show Fr _ _ _ _ _ _ 0 [(0, .ref p0a), (1, .ref p1a), (2, .int x2a), (3, .int x3a)] [] M _
    unfold f_X8_countFrom at h
    refine fr_iload_n 2 dX8_countFrom_0 rfl ?_
    refine fr_aload_n 0 dX8_countFrom_1 rfl ?_
    obtain ⟨x1, ex1, h⟩ := ob h
    try dsimp only at h
    refine fr_gI cb7 3 (by decide) rfl w_82 dX8_countFrom_2 ex1 ?_
    refine fr_icmp_le 29 dX8_countFrom_5 (by decide) (fun c2 => ?_) (fun c2 => ?_)
    · rw [if_pos c2] at h
      refine fr_iconst (v := 0) dX8_countFrom_29 (by decide) ?_
      refine fr_istore (L' := [(0, .ref p0a), (1, .ref p1a), (2, .int x2a), (3, .int x3a), (4, .int 0)]) dX8_countFrom_30 (by decide) rfl ?_
      refine fr_iconst (v := 0) dX8_countFrom_32 (by decide) ?_
      refine fr_istore (L' := [(0, .ref p0a), (1, .ref p1a), (2, .int x2a), (3, .int x3a), (4, .int 0), (5, .int 0)]) dX8_countFrom_33 (by decide) rfl ?_
      obtain ⟨q13, eq13, h⟩ := ob h
      try dsimp only at h
      refine lp_X8_countFrom_35_ok (by omega) (by omega) hrec 100 _ _ _ q13 eq13 (fun q13_4 q13_5 q13_M e9 => ?_) (fun q13_r e9 => ?_)
      · subst e9
        try dsimp only at h
        refine fr_iload 4 dX8_countFrom_88 rfl ?_
        obtain rfl := Option.some.inj h
        exact fr_iret rfl dX8_countFrom_90 ⟨rfl, rfl⟩
      · subst e9
        try dsimp only at h
        obtain rfl := Option.some.inj h
        exact ⟨rfl, rfl⟩
    · rw [if_neg c2] at h
      refine fr_iload_n 3 dX8_countFrom_8 rfl ?_
      refine fr_iconst (v := (-1)) dX8_countFrom_9 (by decide) ?_
      refine fr_icmp_eq 23 dX8_countFrom_10 (by decide) (fun c14 => ?_) (fun c14 => ?_)
      · rw [if_pos c14] at h
        refine fr_iconst (v := 1) dX8_countFrom_23 (by decide) ?_
        refine fr_goto 28 dX8_countFrom_24 (by decide) ?_
        obtain rfl := Option.some.inj h
        exact fr_iret rfl dX8_countFrom_28 ⟨rfl, rfl⟩
      · rw [if_neg c14] at h
        refine fr_aload_n 1 dX8_countFrom_13 rfl ?_
        refine fr_iload_n 3 dX8_countFrom_14 rfl ?_
        obtain ⟨x15, ex15, h⟩ := ob h
        try dsimp only at h
        refine fr_aI0 ex15 dX8_countFrom_15 ?_
        refine fr_aload_n 0 dX8_countFrom_16 rfl ?_
        obtain ⟨x16, ex16, h⟩ := ob h
        try dsimp only at h
        refine fr_gI cb7 3 (by decide) rfl w_82 dX8_countFrom_17 ex16 ?_
        refine fr_icmp_ne 27 dX8_countFrom_20 (by decide) (fun c17 => ?_) (fun c17 => ?_)
        · rw [if_neg c17] at h
          refine fr_iconst (v := 0) dX8_countFrom_27 (by decide) ?_
          obtain rfl := Option.some.inj h
          exact fr_iret rfl dX8_countFrom_28 ⟨rfl, rfl⟩
        · rw [if_pos c17] at h
          refine fr_iconst (v := 1) dX8_countFrom_23 (by decide) ?_
          refine fr_goto 28 dX8_countFrom_24 (by decide) ?_
          obtain rfl := Option.some.inj h
          exact fr_iret rfl dX8_countFrom_28 ⟨rfl, rfl⟩
def f_X8_countByAdding (p0a : Nat) (p1a : Nat) (x2a : Int32) (M : Mem) : Option (Int32 × Mem) := (gP M 8 p0a 0).bind fun p1 => (f_X8_countFrom 12 p1a p1 0 x2a M).bind fun r2 => some (r2.1, r2.2)
set_option maxRecDepth 20000 in
theorem ev_X8_countByAdding {G : Nat × (Nat → Int32) × Value} {p0a : Nat} {p1a : Nat} {x2a : Int32} {M : Mem} {r : Int32 × Mem} (h : f_X8_countByAdding p0a p1a x2a M = some r) : Ev (roG G) false YX8_countByAdding 16 0 [.ref p0a, .ref p1a, .int x2a] M (fun a b => a = wI r.1 ∧ b = r.2) := by
  refine ev_of cyX8_countByAdding.2.2.2.2 (Nat.le_of_ble_eq_true rfl) ?_
  show Fr _ _ _ _ _ _ 0 [(0, .ref p0a), (1, .ref p1a), (2, .int x2a)] [] M _
  unfold f_X8_countByAdding at h
  refine fr_aload_n 1 dX8_countByAdding_0 rfl ?_
  refine fr_aload_n 0 dX8_countByAdding_1 rfl ?_
  obtain ⟨p1, ep1, h⟩ := ob h
  try dsimp only at h
  refine fr_gP cb8 0 (by decide) rfl w_183 dX8_countByAdding_2 ep1 ?_
  refine fr_iconst (v := 0) dX8_countByAdding_5 (by decide) ?_
  refine fr_iload_n 2 dX8_countByAdding_6 rfl ?_
  obtain ⟨r2, er2, h⟩ := ob h
  try dsimp only at h
  refine fr_callS (g1 := false) (k2 := 0) (ev_X8_countFrom _ _ _ _ _ _ _ er2) rfl cyX8_countFrom w_1087 w_1088 (by rfl) (by omega) (by omega) (by rfl) (Nat.le_of_ble_eq_true rfl) dX8_countByAdding_7 (Or.inl rfl) (fun v M9 q _ => ?_) (fun E M9 q _ => (Sum.inr_ne_inl q.1).elim)
  obtain rfl : v = some (.int r2.1) := Sum.inl.inj q.1
  obtain rfl := q.2.symm
  refine fr_st (S' := [.int r2.1]) rfl ?_
  obtain rfl := Option.some.inj h
  exact fr_iret rfl dX8_countByAdding_10 ⟨rfl, rfl⟩
def f_X10_foldings (p0a : Nat) (x1a : Int32) (M : Mem) : Option ((Int32 ⊕ String) × Mem) := (gP M 10 p0a 5).bind fun p1 => (rc M 10 p0a).bind fun _ => (f_X10_demandedSheet p0a x1a M).bind fun r2 => (match r2 with | .inl r2v => ((rc M 8 p1).bind fun _ => (f_X8_countByAdding p1 r2v (-1) M).bind fun r4 => some ((.inl r4.1), r4.2)) | .inr r2E => (some ((.inr r2E), M)))
set_option maxRecDepth 20000 in
theorem ev_X10_foldings {G : Nat × (Nat → Int32) × Value} {p0a : Nat} {x1a : Int32} {M : Mem} {r : (Int32 ⊕ String) × Mem} (h : f_X10_foldings p0a x1a M = some r) : Ev (roG G) false YX10_foldings 17 1 [.ref p0a, .int x1a] M (fun a b => a = (wE wI) r.1 ∧ b = r.2) := by
  refine ev_of cyX10_foldings.2.2.2.2 (Nat.le_of_ble_eq_true rfl) ?_
  show Fr _ _ _ _ _ _ 0 [(0, .ref p0a), (1, .int x1a)] [] M _
  unfold f_X10_foldings at h
  refine fr_aload_n 0 dX10_foldings_0 rfl ?_
  obtain ⟨p1, ep1, h⟩ := ob h
  try dsimp only at h
  refine fr_gP cb10 5 (by decide) rfl w_232 dX10_foldings_1 ep1 ?_
  refine fr_aload_n 0 dX10_foldings_4 rfl ?_
  refine fr_iload_n 1 dX10_foldings_5 rfl ?_
  obtain ⟨u3, eu3, h⟩ := ob h
  try dsimp only at h
  obtain ⟨r2, er2, h⟩ := ob h
  try dsimp only at h
  rcases r2 with r2v | r2E
  · try dsimp only at h
    refine fr_callV (g1 := false) (k2 := 0) (ev_X10_demandedSheet er2) rfl cyX10_demandedSheet w_655 w_657 w_2 (rc_ok eu3 rfl (by decide)) (by rfl) (by omega) (by omega) (by rfl) (Nat.le_of_ble_eq_true rfl) dX10_foldings_6 (Or.inl rfl) (fun v M9 q _ => ?_) (fun E M9 q _ => (Sum.inr_ne_inl q.1).elim)
    obtain rfl : v = some (.ref r2v) := Sum.inl.inj q.1
    obtain rfl := q.2.symm
    refine fr_st (S' := [.ref r2v, .ref p1]) rfl ?_
    refine fr_iconst (v := (-1)) dX10_foldings_9 (by decide) ?_
    obtain ⟨u5, eu5, h⟩ := ob h
    try dsimp only at h
    obtain ⟨r4, er4, h⟩ := ob h
    try dsimp only at h
    refine fr_callV (g1 := false) (k2 := 0) (ev_X8_countByAdding er4) rfl cyX8_countByAdding w_1083 w_1084 w_1085 (rc_ok eu5 rfl (by decide)) (by rfl) (by omega) (by omega) (by rfl) (Nat.le_of_ble_eq_true rfl) dX10_foldings_10 (Or.inl rfl) (fun v M9 q _ => ?_) (fun E M9 q _ => (Sum.inr_ne_inl q.1).elim)
    obtain rfl : v = some (.int r4.1) := Sum.inl.inj q.1
    obtain rfl := q.2.symm
    refine fr_st (S' := [.int r4.1]) rfl ?_
    obtain rfl := Option.some.inj h
    exact fr_iret rfl dX10_foldings_13 ⟨rfl, rfl⟩
  · try dsimp only at h
    refine fr_callV (g1 := false) (k2 := 0) (ev_X10_demandedSheet er2) rfl cyX10_demandedSheet w_655 w_657 w_2 (rc_ok eu3 rfl (by decide)) (by rfl) (by omega) (by omega) (by rfl) (Nat.le_of_ble_eq_true rfl) dX10_foldings_6 (Or.inl rfl) (fun v M9 q _ => (Sum.inl_ne_inr q.1).elim) (fun E M9 q _ => ?_)
    obtain rfl : r2E = E := (Sum.inr.inj q.1).symm
    obtain rfl := q.2.symm
    obtain rfl := Option.some.inj h
    exact fx_no rfl ⟨rfl, rfl⟩
def f_L_foldings (p0a : Nat) (x1a : Int32) (M : Mem) : Option (Int32 × Mem) := (rc M 10 p0a).bind fun _ => (f_X10_foldings p0a x1a M).bind fun r1 => (match r1 with | (.inl r1v, r1M) => (some (r1v, r1M)) | (.inr r1E, r1M) => (if r1E = "java/lang/IndexOutOfBoundsException" then (some ((-1001), r1M)) else none))
set_option maxRecDepth 20000 in
theorem ev_L_foldings {G : Nat × (Nat → Int32) × Value} {p0a : Nat} {x1a : Int32} {M : Mem} {r : Int32 × Mem} (h : f_L_foldings p0a x1a M = some r) : Ev (roG G) false YL_foldings 18 1 [.ref p0a, .int x1a] M (fun a b => a = wI r.1 ∧ b = r.2) := by
  refine ev_of cyL_foldings.2.2.2.2 (Nat.le_of_ble_eq_true rfl) ?_
  show Fr _ _ _ _ _ _ 0 [(0, .ref p0a), (1, .int x1a)] [] M _
  unfold f_L_foldings at h
  refine fr_aload_n 0 dL_foldings_0 rfl ?_
  refine fr_iload_n 1 dL_foldings_1 rfl ?_
  obtain ⟨u2, eu2, h⟩ := ob h
  try dsimp only at h
  obtain ⟨r1, er1, h⟩ := ob h
  try dsimp only at h
  obtain ⟨r1v | r1E, r1M⟩ := r1
  · try dsimp only at h
    refine fr_callV (g1 := false) (k2 := 0) (ev_X10_foldings er1) rfl cyX10_foldings w_1079 w_1080 w_1081 (rc_ok eu2 rfl (by decide)) (by rfl) (by omega) (by omega) (by rfl) (Nat.le_of_ble_eq_true rfl) dL_foldings_2 (Or.inl rfl) (fun v M9 q _ => ?_) (fun E M9 q _ => (Sum.inr_ne_inl q.1).elim)
    obtain rfl : v = some (.int r1v) := Sum.inl.inj q.1
    obtain rfl := q.2.symm
    refine fr_st (S' := [.int r1v]) rfl ?_
    obtain rfl := Option.some.inj h
    exact fr_iret rfl dL_foldings_5 ⟨rfl, rfl⟩
  · try dsimp only at h
    refine fr_callV (g1 := false) (k2 := 0) (ev_X10_foldings er1) rfl cyX10_foldings w_1079 w_1080 w_1081 (rc_ok eu2 rfl (by decide)) (by rfl) (by omega) (by omega) (by rfl) (Nat.le_of_ble_eq_true rfl) dL_foldings_2 (Or.inl rfl) (fun v M9 q _ => (Sum.inl_ne_inr q.1).elim) (fun E M9 q _ => ?_)
    obtain rfl : r1E = E := (Sum.inr.inj q.1).symm
    obtain rfl := q.2.symm
    by_cases e3_0 : r1E = "java/lang/IndexOutOfBoundsException"
    · rw [if_pos e3_0] at h
      subst e3_0
      refine fx_catch (E := "java/lang/IndexOutOfBoundsException") (name := "java/lang/IndexOutOfBoundsException") (L' := [(0, .ref p0a), (1, .int x1a)]) [] { startPc := 0, endPc := 5, handlerPc := 6, catchType := 21 } [] rfl ?_ (by decide) (by decide) w_474 (show _ ∈ roC from List.mem_of_getElem? (i := 0) rfl) 2 1 (by decide) (Or.inl ⟨2, rfl, rfl, dL_foldings_6⟩) rfl ?_
      · intro z hz; cases hz
      refine fr_sipush (v := (-1001)) dL_foldings_7 (by decide) ?_
      obtain rfl := Option.some.inj h
      exact fr_iret rfl dL_foldings_10 ⟨rfl, rfl⟩
    rw [if_neg e3_0] at h
    cases h
def lp_X9_sumOfWear_4 (p_0 : Nat) (M_ : Mem) : Nat → Int32 → Int32 → Option ((Int32 × Int32) ⊕ (Int32))
  | 0, _, _ => none
  | n + 1, x_1, x_2 => (gI M_ 9 p_0 2).bind fun x1 => if x1 ≤ x_2 then (some (.inl (x_1, x_2))) else ((gP M_ 9 p_0 0).bind fun p3 => (aP M_ 120 p3 x_2).bind fun p4 => (gI M_ 7 p4 4).bind fun x5 => lp_X9_sumOfWear_4 p_0 M_ n (x_1 + x5) (x_2 + 1))
def f_X9_sumOfWear (p0a : Nat) (M : Mem) : Option (Int32) := ((lp_X9_sumOfWear_4 p0a M 100 0 0).bind fun q6 => match q6 with | .inl (q6_1, q6_2) => (some q6_1) | .inr q6_r => some q6_r)
set_option maxRecDepth 20000 in
theorem lp_X9_sumOfWear_4_ok {G : Nat × (Nat → Int32) × Value} {P : Res → Mem → Prop} {n0 d ke : Nat} {p_0 : Nat} {M_ : Mem} (hd : 0 ≤ d) : ∀ (n : Nat) (x_1 : Int32) (x_2 : Int32) (res : (Int32 × Int32) ⊕ (Int32)), lp_X9_sumOfWear_4 p_0 M_ n x_1 x_2 = some res → (∀ (y_1 : Int32) (y_2 : Int32), res = .inl (y_1, y_2) → Fr (roG G) false n0 YX9_sumOfWear d ke 30 [(0, .ref p_0), (1, .int y_1), (2, .int y_2)] [] M_ P) → (∀ r : Int32, res = .inr r → P (wI r) M_) → Fr (roG G) false n0 YX9_sumOfWear d ke 4 [(0, .ref p_0), (1, .int x_1), (2, .int x_2)] [] M_ P := by
  intro n
  induction n with
  | zero => intro x_1 x_2 res h; unfold lp_X9_sumOfWear_4 at h; cases h
  | succ n ih =>
    intro x_1 x_2 res h he hr
    unfold lp_X9_sumOfWear_4 at h
    refine fr_iload_n 2 dX9_sumOfWear_4 rfl ?_
    refine fr_aload_n 0 dX9_sumOfWear_5 rfl ?_
    obtain ⟨x1, ex1, h⟩ := ob h
    try dsimp only at h
    refine fr_gI cb9 2 (by decide) rfl w_126 dX9_sumOfWear_6 ex1 ?_
    refine fr_icmp_ge 30 dX9_sumOfWear_9 (by decide) (fun c2 => ?_) (fun c2 => ?_)
    · rw [if_pos c2] at h
      obtain rfl := Option.some.inj h
      exact he _ _ rfl
    · rw [if_neg c2] at h
      refine fr_iload_n 1 dX9_sumOfWear_12 rfl ?_
      refine fr_aload_n 0 dX9_sumOfWear_13 rfl ?_
      obtain ⟨p3, ep3, h⟩ := ob h
      try dsimp only at h
      refine fr_gP cb9 0 (by decide) rfl w_121 dX9_sumOfWear_14 ep3 ?_
      refine fr_iload_n 2 dX9_sumOfWear_17 rfl ?_
      obtain ⟨p4, ep4, h⟩ := ob h
      try dsimp only at h
      refine fr_aP (t := 120) (by decide) ep4 dX9_sumOfWear_18 ?_
      obtain ⟨x5, ex5, h⟩ := ob h
      try dsimp only at h
      refine fr_gI cb7 4 (by decide) rfl w_89 dX9_sumOfWear_19 ex5 ?_
      refine fr_iadd dX9_sumOfWear_22 ?_
      refine fr_istore_n (L' := [(0, .ref p_0), (1, .int (x_1 + x5)), (2, .int x_2)]) dX9_sumOfWear_23 (by decide) rfl ?_
      refine fr_iinc (v := (x_2 + 1)) (L' := [(0, .ref p_0), (1, .int (x_1 + x5)), (2, .int (x_2 + 1))]) 2 dX9_sumOfWear_24 rfl rfl (by decide) rfl ?_
      refine fr_goto 4 dX9_sumOfWear_27 (by decide) ?_
      exact ih _ _ _ h he hr
set_option maxRecDepth 20000 in
theorem ev_X9_sumOfWear {G : Nat × (Nat → Int32) × Value} {p0a : Nat} {M : Mem} {r : Int32} (h : f_X9_sumOfWear p0a M = some r) : Ev (roG G) false YX9_sumOfWear 0 0 [.ref p0a] M (fun a b => a = wI r ∧ b = M) := by
  refine ev_of cyX9_sumOfWear.2.2.2.2 (Nat.le_of_ble_eq_true rfl) ?_
  show Fr _ _ _ _ _ _ 0 [(0, .ref p0a)] [] M _
  unfold f_X9_sumOfWear at h
  refine fr_iconst (v := 0) dX9_sumOfWear_0 (by decide) ?_
  refine fr_istore_n (L' := [(0, .ref p0a), (1, .int 0)]) dX9_sumOfWear_1 (by decide) rfl ?_
  refine fr_iconst (v := 0) dX9_sumOfWear_2 (by decide) ?_
  refine fr_istore_n (L' := [(0, .ref p0a), (1, .int 0), (2, .int 0)]) dX9_sumOfWear_3 (by decide) rfl ?_
  obtain ⟨q6, eq6, h⟩ := ob h
  try dsimp only at h
  refine lp_X9_sumOfWear_4_ok (by omega) 100 _ _ q6 eq6 (fun q6_1 q6_2 e9 => ?_) (fun q6_r e9 => ?_)
  · subst e9
    try dsimp only at h
    refine fr_iload_n 1 dX9_sumOfWear_30 rfl ?_
    obtain rfl := Option.some.inj h
    exact fr_iret rfl dX9_sumOfWear_31 ⟨rfl, rfl⟩
  · subst e9
    try dsimp only at h
    obtain rfl := Option.some.inj h
    exact ⟨rfl, rfl⟩
def f_X10_meanWear (p0a : Nat) (M : Mem) : Option ((UInt64 ⊕ String)) := (gP M 10 p0a 0).bind fun p1 => (gI M 9 p1 2).bind fun x2 => if x2 = 0 then (some (.inr "java/lang/ArithmeticException")) else ((gP M 10 p0a 0).bind fun p4 => (rc M 9 p4).bind fun _ => (f_X9_sumOfWear p4 M).bind fun r5 => (gP M 10 p0a 0).bind fun p7 => (gI M 9 p7 2).bind fun x8 => (ddv (FP.i2d r5) (FP.i2d x8)).bind fun d9 => some (.inl d9))
set_option maxRecDepth 20000 in
theorem ev_X10_meanWear {G : Nat × (Nat → Int32) × Value} {p0a : Nat} {M : Mem} {r : (UInt64 ⊕ String)} (h : f_X10_meanWear p0a M = some r) : Ev (roG G) false YX10_meanWear 7 1 [.ref p0a] M (fun a b => a = (wE wD) r ∧ b = M) := by
  refine ev_of cyX10_meanWear.2.2.2.2 (Nat.le_of_ble_eq_true rfl) ?_
  show Fr _ _ _ _ _ _ 0 [(0, .ref p0a)] [] M _
  unfold f_X10_meanWear at h
  refine fr_aload_n 0 dX10_meanWear_0 rfl ?_
  obtain ⟨p1, ep1, h⟩ := ob h
  try dsimp only at h
  refine fr_gP cb10 0 (by decide) rfl w_227 dX10_meanWear_1 ep1 ?_
  obtain ⟨x2, ex2, h⟩ := ob h
  try dsimp only at h
  refine fr_gI cb9 2 (by decide) rfl w_127 dX10_meanWear_4 ex2 ?_
  refine fr_if_ne 21 dX10_meanWear_7 (by decide) (fun c3 => ?_) (fun c3 => ?_)
  · rw [if_neg c3] at h
    refine fr_aload_n 0 dX10_meanWear_21 rfl ?_
    obtain ⟨p4, ep4, h⟩ := ob h
    try dsimp only at h
    refine fr_gP cb10 0 (by decide) rfl w_227 dX10_meanWear_22 ep4 ?_
    obtain ⟨u6, eu6, h⟩ := ob h
    try dsimp only at h
    obtain ⟨r5, er5, h⟩ := ob h
    try dsimp only at h
    refine fr_callV (g1 := false) (k2 := 1) (ev_X9_sumOfWear er5) rfl cyX9_sumOfWear w_908 w_909 w_910 (rc_ok eu6 rfl (by decide)) (by rfl) (by omega) (by omega) (by rfl) (Nat.le_of_ble_eq_true rfl) dX10_meanWear_25 (Or.inl rfl) (fun v M9 q _ => ?_) (fun E M9 q _ => (Sum.inr_ne_inl q.1).elim)
    obtain rfl : v = some (.int r5) := Sum.inl.inj q.1
    obtain rfl := q.2.symm
    refine fr_st (S' := [.int r5]) rfl ?_
    refine fr_i2d dX10_meanWear_28 ?_
    refine fr_aload_n 0 dX10_meanWear_29 rfl ?_
    obtain ⟨p7, ep7, h⟩ := ob h
    try dsimp only at h
    refine fr_gP cb10 0 (by decide) rfl w_227 dX10_meanWear_30 ep7 ?_
    obtain ⟨x8, ex8, h⟩ := ob h
    try dsimp only at h
    refine fr_gI cb9 2 (by decide) rfl w_127 dX10_meanWear_33 ex8 ?_
    refine fr_i2d dX10_meanWear_36 ?_
    obtain ⟨d9, ed9, h⟩ := ob h
    try dsimp only at h
    refine fr_ddiv1 ed9 dX10_meanWear_37 ?_
    obtain rfl := Option.some.inj h
    exact fr_dret rfl dX10_meanWear_38 ⟨rfl, rfl⟩
  · rw [if_pos c3] at h
    obtain rfl := Option.some.inj h
    exact fr_throwW (names := ["java/lang/RuntimeException", "java/lang/Exception"]) rfl thX10_268 w_905 w_40 (sa := ROB + 34) (show _ ∈ roS from List.mem_of_getElem? (i := 14) rfl) dX10_meanWear_10 dX10_meanWear_13 dX10_meanWear_14 dX10_meanWear_17 dX10_meanWear_20 (by omega) (by omega) (Nat.le_of_ble_eq_true rfl) ⟨rfl, rfl⟩
def f_L_meanWear (p0a : Nat) (M : Mem) : Option (UInt64) := (rc M 10 p0a).bind fun _ => (f_X10_meanWear p0a M).bind fun r1 => (match r1 with | .inl r1v => (some r1v) | .inr r1E => (if r1E = "java/lang/ArithmeticException" then (some 13875388141788987392) else none))
set_option maxRecDepth 20000 in
theorem ev_L_meanWear {G : Nat × (Nat → Int32) × Value} {p0a : Nat} {M : Mem} {r : UInt64} (h : f_L_meanWear p0a M = some r) : Ev (roG G) false YL_meanWear 8 1 [.ref p0a] M (fun a b => a = wD r ∧ b = M) := by
  refine ev_of cyL_meanWear.2.2.2.2 (Nat.le_of_ble_eq_true rfl) ?_
  show Fr _ _ _ _ _ _ 0 [(0, .ref p0a)] [] M _
  unfold f_L_meanWear at h
  refine fr_aload_n 0 dL_meanWear_0 rfl ?_
  obtain ⟨u2, eu2, h⟩ := ob h
  try dsimp only at h
  obtain ⟨r1, er1, h⟩ := ob h
  try dsimp only at h
  rcases r1 with r1v | r1E
  · try dsimp only at h
    refine fr_callV (g1 := false) (k2 := 0) (ev_X10_meanWear er1) rfl cyX10_meanWear w_901 w_902 w_903 (rc_ok eu2 rfl (by decide)) (by rfl) (by omega) (by omega) (by rfl) (Nat.le_of_ble_eq_true rfl) dL_meanWear_1 (Or.inl rfl) (fun v M9 q _ => ?_) (fun E M9 q _ => (Sum.inr_ne_inl q.1).elim)
    obtain rfl : v = some (.double r1v) := Sum.inl.inj q.1
    obtain rfl := q.2.symm
    refine fr_st (S' := [.double r1v]) rfl ?_
    obtain rfl := Option.some.inj h
    exact fr_dret rfl dL_meanWear_4 ⟨rfl, rfl⟩
  · try dsimp only at h
    refine fr_callV (g1 := false) (k2 := 0) (ev_X10_meanWear er1) rfl cyX10_meanWear w_901 w_902 w_903 (rc_ok eu2 rfl (by decide)) (by rfl) (by omega) (by omega) (by rfl) (Nat.le_of_ble_eq_true rfl) dL_meanWear_1 (Or.inl rfl) (fun v M9 q _ => (Sum.inl_ne_inr q.1).elim) (fun E M9 q _ => ?_)
    obtain rfl : r1E = E := (Sum.inr.inj q.1).symm
    obtain rfl := q.2.symm
    by_cases e3_0 : r1E = "java/lang/ArithmeticException"
    · rw [if_pos e3_0] at h
      subst e3_0
      refine fx_catch (E := "java/lang/ArithmeticException") (name := "java/lang/ArithmeticException") (L' := [(0, .ref p0a)]) [] { startPc := 0, endPc := 4, handlerPc := 5, catchType := 121 } [] rfl ?_ (by decide) (by decide) w_887 (show _ ∈ roC from List.mem_of_getElem? (i := 6) rfl) 1 1 (by decide) (Or.inl ⟨1, rfl, rfl, dL_meanWear_5⟩) rfl ?_
      · intro z hz; cases hz
      refine fr_ldc2d (v := 13875388141788987392) w_912 dL_meanWear_6 ?_
      obtain rfl := Option.some.inj h
      exact fr_dret rfl dL_meanWear_9 ⟨rfl, rfl⟩
    rw [if_neg e3_0] at h
    cases h
def f_X10_outputChar (p0a : Nat) (x1a : Int32) (M : Mem) : Option ((Int32 ⊕ String)) := if x1a < 0 then (some (.inr "java/lang/IndexOutOfBoundsException")) else ((gP M 10 p0a 7).bind fun p2 => (gI M 5 p2 1).bind fun x3 => if x1a < x3 then ((gP M 10 p0a 7).bind fun p5 => (gP M 5 p5 0).bind fun p6 => (aI M 101 p6 x1a).bind fun x7 => (nr .char x7).bind fun _ => some (.inl x7)) else (some (.inr "java/lang/IndexOutOfBoundsException")))
set_option maxRecDepth 20000 in
theorem ev_X10_outputChar {G : Nat × (Nat → Int32) × Value} {p0a : Nat} {x1a : Int32} {M : Mem} {r : (Int32 ⊕ String)} (h : f_X10_outputChar p0a x1a M = some r) : Ev (roG G) false YX10_outputChar 7 1 [.ref p0a, .int x1a] M (fun a b => a = (wE wI) r ∧ b = M) := by
  refine ev_of cyX10_outputChar.2.2.2.2 (Nat.le_of_ble_eq_true rfl) ?_
  show Fr _ _ _ _ _ _ 0 [(0, .ref p0a), (1, .int x1a)] [] M _
  unfold f_X10_outputChar at h
  refine fr_iload_n 1 dX10_outputChar_0 rfl ?_
  refine fr_if_lt 15 dX10_outputChar_1 (by decide) (fun c1 => ?_) (fun c1 => ?_)
  · rw [if_pos c1] at h
    obtain rfl := Option.some.inj h
    exact fr_throwW (names := ["java/lang/RuntimeException", "java/lang/Exception"]) rfl thX10_135 w_328 w_27 (sa := ROB + 36) (show _ ∈ roS from List.mem_of_getElem? (i := 16) rfl) dX10_outputChar_15 dX10_outputChar_18 dX10_outputChar_19 dX10_outputChar_22 dX10_outputChar_25 (by omega) (by omega) (Nat.le_of_ble_eq_true rfl) ⟨rfl, rfl⟩
  · rw [if_neg c1] at h
    refine fr_iload_n 1 dX10_outputChar_4 rfl ?_
    refine fr_aload_n 0 dX10_outputChar_5 rfl ?_
    obtain ⟨p2, ep2, h⟩ := ob h
    try dsimp only at h
    refine fr_gP cb10 7 (by decide) rfl w_234 dX10_outputChar_6 ep2 ?_
    obtain ⟨x3, ex3, h⟩ := ob h
    try dsimp only at h
    refine fr_gI cb5 1 (by decide) rfl w_221 dX10_outputChar_9 ex3 ?_
    refine fr_icmp_lt 26 dX10_outputChar_12 (by decide) (fun c4 => ?_) (fun c4 => ?_)
    · rw [if_pos c4] at h
      refine fr_aload_n 0 dX10_outputChar_26 rfl ?_
      obtain ⟨p5, ep5, h⟩ := ob h
      try dsimp only at h
      refine fr_gP cb10 7 (by decide) rfl w_234 dX10_outputChar_27 ep5 ?_
      obtain ⟨p6, ep6, h⟩ := ob h
      try dsimp only at h
      refine fr_gP cb5 0 (by decide) rfl w_219 dX10_outputChar_30 ep6 ?_
      refine fr_iload_n 1 dX10_outputChar_33 rfl ?_
      obtain ⟨x7, ex7, h⟩ := ob h
      try dsimp only at h
      refine fr_aI1 ex7 dX10_outputChar_34 ?_
      obtain ⟨u8, eu8, h⟩ := ob h
      try dsimp only at h
      obtain rfl := Option.some.inj h
      exact fr_zret1 (ty := .char) rfl dX10_outputChar_35 eu8 ⟨rfl, rfl⟩
    · rw [if_neg c4] at h
      obtain rfl := Option.some.inj h
      exact fr_throwW (names := ["java/lang/RuntimeException", "java/lang/Exception"]) rfl thX10_135 w_328 w_27 (sa := ROB + 36) (show _ ∈ roS from List.mem_of_getElem? (i := 16) rfl) dX10_outputChar_15 dX10_outputChar_18 dX10_outputChar_19 dX10_outputChar_22 dX10_outputChar_25 (by omega) (by omega) (Nat.le_of_ble_eq_true rfl) ⟨rfl, rfl⟩
