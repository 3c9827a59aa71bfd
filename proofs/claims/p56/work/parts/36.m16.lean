/-! ===== methods, 16: L_makes X3_forget X10_restore L_restore X10_sheetIn L_sheetIn X10_emptyCells X10_matches L_matches ===== -/
def lp_L_makes_104 (G : Nat × (Nat → Int32) × Value) (p_0 : Nat) (p_1 : Nat) (x_2 : Int32) (x_3 : Int32) (x_4 : Int32) (x_5 : Int32) : Nat → Int32 → Mem → Option ((Int32 × Mem) ⊕ (Int32 × Mem))
  | 0, _, _ => none
  | n + 1, x_6, M_ => (f_L_some (x_5 >>> (14 &&& 31)) 4 M_).bind fun r16 => if r16 ≤ x_6 then (some (.inl (x_6, M_))) else (if ((x_5 >>> ((17 + x_6) &&& 31)) &&& 1) = 0 then ((f_L_addCrease p_0 x_4 118 M_).bind fun r21 => if r21.1 = (x_6 + 1) then (lp_L_makes_104 G p_0 p_1 x_2 x_3 x_4 x_5 n (x_6 + 1) r21.2) else none) else ((f_L_addCrease p_0 x_4 109 M_).bind fun r19 => if r19.1 = (x_6 + 1) then (lp_L_makes_104 G p_0 p_1 x_2 x_3 x_4 x_5 n (x_6 + 1) r19.2) else none))
def lp_L_makes_28 (G : Nat × (Nat → Int32) × Value) (p_0 : Nat) (p_1 : Nat) (x_2 : Int32) (x_3 : Int32) : Nat → Int32 → Mem → Option ((Int32 × Mem) ⊕ (Int32 × Mem))
  | 0, _, _ => none
  | n + 1, x_4, M_ => if x_2 ≤ x_4 then (some (.inl (x_4, M_))) else ((f_L_at G p_1 (2 + x_4) M_).bind fun r6 => (f_L_some r6 x_3 M_).bind fun r7 => (f_L_some (r6 >>> (3 &&& 31)) x_3 M_).bind fun r8 => (f_L_some (r6 >>> (6 &&& 31)) x_3 M_).bind fun r9 => (f_L_some (r6 >>> (9 &&& 31)) x_3 M_).bind fun r10 => (f_L_some (r6 >>> (12 &&& 31)) 3 M_).bind fun r11 => (rcS M_ (ROB + 33)).bind fun _ => (f_J0_charAt_5068e (ROB + 33) r11 M_).bind fun r12 => (f_L_addSheet p_0 r7 r8 r9 r10 r12 M_).bind fun r14 => if r14.1 = x_4 then ((lp_L_makes_104 G p_0 p_1 x_2 x_3 x_4 r6 5 0 r14.2).bind fun q23 => match q23 with | .inl (q23_6, q23_M) => (lp_L_makes_28 G p_0 p_1 x_2 x_3 n (x_4 + 1) q23_M) | .inr q23_r => some (.inr q23_r)) else none)
def lp_L_makes_168 (G : Nat × (Nat → Int32) × Value) (p_0 : Nat) (p_1 : Nat) (x_2 : Int32) (x_3 : Int32) : Nat → Int32 → Mem → Option ((Int32 × Mem) ⊕ (Int32 × Mem))
  | 0, _, _ => none
  | n + 1, x_4, M_ => if x_2 ≤ x_4 then (some (.inl (x_4, M_))) else ((f_L_at G p_1 (12 + x_4) M_).bind fun r26 => (f_L_some r26 9 M_).bind fun r27 => (f_L_some (r26 >>> (4 &&& 31)) 4 M_).bind fun r28 => (f_L_put p_0 x_4 r27 r28 M_).bind fun r29 => if 0 ≤ r29.1 then (lp_L_makes_168 G p_0 p_1 x_2 x_3 n (x_4 + 1) r29.2) else (if r29.1 = (-1003) then (lp_L_makes_168 G p_0 p_1 x_2 x_3 n (x_4 + 1) r29.2) else (if r29.1 = (-1004) then (lp_L_makes_168 G p_0 p_1 x_2 x_3 n (x_4 + 1) r29.2) else none)))
def f_L_makes (G : Nat × (Nat → Int32) × Value) (p0a : Nat) (p1a : Nat) (M : Mem) : Option (Int32 × Mem) := (f_L_at G p1a 0 M).bind fun r1 => (f_L_some r1 6 M).bind fun r2 => (f_L_at G p1a 1 M).bind fun r3 => (f_L_some r3 3 M).bind fun r4 => ((lp_L_makes_28 G p0a p1a (4 + r2) (1 + r4) 11 0 M).bind fun q24 => match q24 with | .inl (q24_4, q24_M) => ((lp_L_makes_168 G p0a p1a (4 + r2) (1 + r4) 11 0 q24_M).bind fun q33 => match q33 with | .inl (q33_4, q33_M) => ((f_L_at G p1a 22 q33_M).bind fun r34 => (f_L_some r34 20 q33_M).bind fun r35 => (f_L_addPaste p0a (1 + r35) q33_M).bind fun r36 => if r36.1 ≤ 0 then none else (some (1, r36.2))) | .inr q33_r => some q33_r) | .inr q24_r => some q24_r)
set_option maxRecDepth 20000 in
theorem lp_L_makes_104_ok {G : Nat × (Nat → Int32) × Value} {P : Res → Mem → Prop} {n0 d ke : Nat} {p_0 : Nat} {p_1 : Nat} {x_2 : Int32} {x_3 : Int32} {x_4 : Int32} {x_5 : Int32} (hd : 11 ≤ d) : ∀ (n : Nat) (x_6 : Int32) (M_ : Mem) (res : (Int32 × Mem) ⊕ (Int32 × Mem)), lp_L_makes_104 G p_0 p_1 x_2 x_3 x_4 x_5 n x_6 M_ = some res → (∀ (y_6 : Int32) (M9 : Mem), res = .inl (y_6, M9) → Fr (roG G) false n0 YL_makes d ke 159 [(0, .ref p_0), (1, .ref p_1), (2, .int x_2), (3, .int x_3), (4, .int x_4), (5, .int x_5), (6, .int y_6)] [] M9 P) → (∀ r : Int32 × Mem, res = .inr r → P (wI r.1) r.2) → Fr (roG G) false n0 YL_makes d (1 * n + ke) 104 [(0, .ref p_0), (1, .ref p_1), (2, .int x_2), (3, .int x_3), (4, .int x_4), (5, .int x_5), (6, .int x_6)] [] M_ P := by
  intro n
  induction n with
  | zero => intro x_6 M_ res h; unfold lp_L_makes_104 at h; cases h
  | succ n ih =>
    intro x_6 M_ res h he hr
    unfold lp_L_makes_104 at h
    refine fr_room (Nat.le_refl _) (show (1 * n + 1 + ke) ≤ 1 * (n + 1) + ke by omega) ?_
    refine fr_iload 6 dL_makes_104 rfl ?_
    refine fr_iload 5 dL_makes_106 rfl ?_
    refine fr_bipush (v := 14) dL_makes_108 (by decide) ?_
    refine fr_ishr dL_makes_110 ?_
    refine fr_iconst (v := 4) dL_makes_111 (by decide) ?_
    obtain ⟨r16, er16, h⟩ := ob h
    try dsimp only at h
    refine fr_callS (g1 := false) (k2 := (1 * n + 1 + ke)) (ev_L_some er16) rfl cyL_some w_875 w_876 (by rfl) (by omega) (by omega) (by rfl) (Nat.le_of_ble_eq_true rfl) dL_makes_112 (Or.inl rfl) (fun v M9 q _ => ?_) (fun E M9 q _ => (Sum.inr_ne_inl q.1).elim)
    obtain rfl : v = some (.int r16) := Sum.inl.inj q.1
    obtain rfl := q.2.symm
    refine fr_st (S' := [.int r16, .int x_6]) rfl ?_
    refine fr_icmp_ge 159 dL_makes_115 (by decide) (fun c17 => ?_) (fun c17 => ?_)
    · rw [if_pos c17] at h
      obtain rfl := Option.some.inj h
      refine fr_room (Nat.le_refl _) (show ke ≤ (1 * n + 1 + ke) by omega) ?_
      exact he _ _ rfl
    · rw [if_neg c17] at h
      refine fr_aload_n 0 dL_makes_118 rfl ?_
      refine fr_iload 4 dL_makes_119 rfl ?_
      refine fr_iload 5 dL_makes_121 rfl ?_
      refine fr_bipush (v := 17) dL_makes_123 (by decide) ?_
      refine fr_iload 6 dL_makes_125 rfl ?_
      refine fr_iadd dL_makes_127 ?_
      refine fr_ishr dL_makes_128 ?_
      refine fr_iconst (v := 1) dL_makes_129 (by decide) ?_
      refine fr_iand dL_makes_130 ?_
      refine fr_if_ne 139 dL_makes_131 (by decide) (fun c18 => ?_) (fun c18 => ?_)
      · rw [if_neg c18] at h
        refine fr_bipush (v := 109) dL_makes_139 (by decide) ?_
        obtain ⟨r19, er19, h⟩ := ob h
        try dsimp only at h
        refine fr_callSX (g1 := false) (k2 := (1 * n + 0 + ke)) (ev_L_addCrease er19) rfl cyL_addCrease w_471 w_472 (by rfl) (by omega) (by omega) (by rfl) (Nat.le_of_ble_eq_true rfl) dL_makes_141 (Or.inl rfl) (fun v M9 q _ => ?_) (fun E M9 q _ => (Sum.inr_ne_inl q.1).elim)
        obtain rfl : v = some (.int r19.1) := Sum.inl.inj q.1
        obtain rfl := q.2.symm
        refine fr_st (S' := [.int r19.1]) rfl ?_
        refine fr_iload 6 dL_makes_144 rfl ?_
        refine fr_iconst (v := 1) dL_makes_146 (by decide) ?_
        refine fr_iadd dL_makes_147 ?_
        refine fr_icmp_eq 153 dL_makes_148 (by decide) (fun c20 => ?_) (fun c20 => by rw [if_neg c20] at h; cases h)
        rw [if_pos c20] at h
        refine fr_iinc (v := (x_6 + 1)) (L' := [(0, .ref p_0), (1, .ref p_1), (2, .int x_2), (3, .int x_3), (4, .int x_4), (5, .int x_5), (6, .int (x_6 + 1))]) 6 dL_makes_153 rfl rfl (by decide) rfl ?_
        refine fr_goto 104 dL_makes_156 (by decide) ?_
        exact ih _ _ _ h he hr
      · rw [if_pos c18] at h
        refine fr_bipush (v := 118) dL_makes_134 (by decide) ?_
        refine fr_goto 141 dL_makes_136 (by decide) ?_
        obtain ⟨r21, er21, h⟩ := ob h
        try dsimp only at h
        refine fr_callSX (g1 := false) (k2 := (1 * n + 0 + ke)) (ev_L_addCrease er21) rfl cyL_addCrease w_471 w_472 (by rfl) (by omega) (by omega) (by rfl) (Nat.le_of_ble_eq_true rfl) dL_makes_141 (Or.inl rfl) (fun v M9 q _ => ?_) (fun E M9 q _ => (Sum.inr_ne_inl q.1).elim)
        obtain rfl : v = some (.int r21.1) := Sum.inl.inj q.1
        obtain rfl := q.2.symm
        refine fr_st (S' := [.int r21.1]) rfl ?_
        refine fr_iload 6 dL_makes_144 rfl ?_
        refine fr_iconst (v := 1) dL_makes_146 (by decide) ?_
        refine fr_iadd dL_makes_147 ?_
        refine fr_icmp_eq 153 dL_makes_148 (by decide) (fun c22 => ?_) (fun c22 => by rw [if_neg c22] at h; cases h)
        rw [if_pos c22] at h
        refine fr_iinc (v := (x_6 + 1)) (L' := [(0, .ref p_0), (1, .ref p_1), (2, .int x_2), (3, .int x_3), (4, .int x_4), (5, .int x_5), (6, .int (x_6 + 1))]) 6 dL_makes_153 rfl rfl (by decide) rfl ?_
        refine fr_goto 104 dL_makes_156 (by decide) ?_
        exact ih _ _ _ h he hr
set_option maxRecDepth 20000 in
theorem lp_L_makes_28_ok {G : Nat × (Nat → Int32) × Value} {P : Res → Mem → Prop} {n0 d ke : Nat} {p_0 : Nat} {p_1 : Nat} {x_2 : Int32} {x_3 : Int32} (hd : 11 ≤ d) : ∀ (n : Nat) (x_4 : Int32) (M_ : Mem) (res : (Int32 × Mem) ⊕ (Int32 × Mem)), lp_L_makes_28 G p_0 p_1 x_2 x_3 n x_4 M_ = some res → (∀ (y_4 : Int32) (M9 : Mem), res = .inl (y_4, M9) → Fr (roG G) false n0 YL_makes d ke 165 [(0, .ref p_0), (1, .ref p_1), (2, .int x_2), (3, .int x_3), (4, .int y_4)] [] M9 P) → (∀ r : Int32 × Mem, res = .inr r → P (wI r.1) r.2) → Fr (roG G) false n0 YL_makes d (6 * n + ke) 28 [(0, .ref p_0), (1, .ref p_1), (2, .int x_2), (3, .int x_3), (4, .int x_4)] [] M_ P := by
  intro n
  induction n with
  | zero => intro x_4 M_ res h; unfold lp_L_makes_28 at h; cases h
  | succ n ih =>
    intro x_4 M_ res h he hr
    unfold lp_L_makes_28 at h
    refine fr_room (Nat.le_refl _) (show (6 * n + 6 + ke) ≤ 6 * (n + 1) + ke by omega) ?_
    refine fr_iload 4 dL_makes_28 rfl ?_
    refine fr_iload_n 2 dL_makes_30 rfl ?_
    refine fr_icmp_ge 165 dL_makes_31 (by decide) (fun c5 => ?_) (fun c5 => ?_)
    · rw [if_pos c5] at h
      obtain rfl := Option.some.inj h
      refine fr_room (Nat.le_refl _) (show ke ≤ (6 * n + 6 + ke) by omega) ?_
      exact he _ _ rfl
    · rw [if_neg c5] at h
      refine fr_aload_n 1 dL_makes_34 rfl ?_
      refine fr_iconst (v := 2) dL_makes_35 (by decide) ?_
      refine fr_iload 4 dL_makes_36 rfl ?_
      refine fr_iadd dL_makes_38 ?_
      obtain ⟨r6, er6, h⟩ := ob h
      try dsimp only at h
      refine fr_callS (g1 := false) (k2 := (6 * n + 6 + ke)) (ev_L_at er6) rfl cyL_at w_290 w_291 (by rfl) (by omega) (by omega) (by rfl) (Nat.le_of_ble_eq_true rfl) dL_makes_39 (Or.inl rfl) (fun v M9 q _ => ?_) (fun E M9 q _ => (Sum.inr_ne_inl q.1).elim)
      obtain rfl : v = some (.int r6) := Sum.inl.inj q.1
      obtain rfl := q.2.symm
      refine fr_st (S' := [.int r6]) rfl ?_
      refine fr_istore (L' := [(0, .ref p_0), (1, .ref p_1), (2, .int x_2), (3, .int x_3), (4, .int x_4), (5, .int r6)]) dL_makes_42 (by decide) rfl ?_
      refine fr_aload_n 0 dL_makes_44 rfl ?_
      refine fr_iload 5 dL_makes_45 rfl ?_
      refine fr_iload_n 3 dL_makes_47 rfl ?_
      obtain ⟨r7, er7, h⟩ := ob h
      try dsimp only at h
      refine fr_callS (g1 := false) (k2 := (6 * n + 6 + ke)) (ev_L_some er7) rfl cyL_some w_875 w_876 (by rfl) (by omega) (by omega) (by rfl) (Nat.le_of_ble_eq_true rfl) dL_makes_48 (Or.inl rfl) (fun v M9 q _ => ?_) (fun E M9 q _ => (Sum.inr_ne_inl q.1).elim)
      obtain rfl : v = some (.int r7) := Sum.inl.inj q.1
      obtain rfl := q.2.symm
      refine fr_st (S' := [.int r7, .ref p_0]) rfl ?_
      refine fr_iload 5 dL_makes_51 rfl ?_
      refine fr_iconst (v := 3) dL_makes_53 (by decide) ?_
      refine fr_ishr dL_makes_54 ?_
      refine fr_iload_n 3 dL_makes_55 rfl ?_
      obtain ⟨r8, er8, h⟩ := ob h
      try dsimp only at h
      refine fr_callS (g1 := false) (k2 := (6 * n + 6 + ke)) (ev_L_some er8) rfl cyL_some w_875 w_876 (by rfl) (by omega) (by omega) (by rfl) (Nat.le_of_ble_eq_true rfl) dL_makes_56 (Or.inl rfl) (fun v M9 q _ => ?_) (fun E M9 q _ => (Sum.inr_ne_inl q.1).elim)
      obtain rfl : v = some (.int r8) := Sum.inl.inj q.1
      obtain rfl := q.2.symm
      refine fr_st (S' := [.int r8, .int r7, .ref p_0]) rfl ?_
      refine fr_iload 5 dL_makes_59 rfl ?_
      refine fr_bipush (v := 6) dL_makes_61 (by decide) ?_
      refine fr_ishr dL_makes_63 ?_
      refine fr_iload_n 3 dL_makes_64 rfl ?_
      obtain ⟨r9, er9, h⟩ := ob h
      try dsimp only at h
      refine fr_callS (g1 := false) (k2 := (6 * n + 6 + ke)) (ev_L_some er9) rfl cyL_some w_875 w_876 (by rfl) (by omega) (by omega) (by rfl) (Nat.le_of_ble_eq_true rfl) dL_makes_65 (Or.inl rfl) (fun v M9 q _ => ?_) (fun E M9 q _ => (Sum.inr_ne_inl q.1).elim)
      obtain rfl : v = some (.int r9) := Sum.inl.inj q.1
      obtain rfl := q.2.symm
      refine fr_st (S' := [.int r9, .int r8, .int r7, .ref p_0]) rfl ?_
      refine fr_iload 5 dL_makes_68 rfl ?_
      refine fr_bipush (v := 9) dL_makes_70 (by decide) ?_
      refine fr_ishr dL_makes_72 ?_
      refine fr_iload_n 3 dL_makes_73 rfl ?_
      obtain ⟨r10, er10, h⟩ := ob h
      try dsimp only at h
      refine fr_callS (g1 := false) (k2 := (6 * n + 6 + ke)) (ev_L_some er10) rfl cyL_some w_875 w_876 (by rfl) (by omega) (by omega) (by rfl) (Nat.le_of_ble_eq_true rfl) dL_makes_74 (Or.inl rfl) (fun v M9 q _ => ?_) (fun E M9 q _ => (Sum.inr_ne_inl q.1).elim)
      obtain rfl : v = some (.int r10) := Sum.inl.inj q.1
      obtain rfl := q.2.symm
      refine fr_st (S' := [.int r10, .int r9, .int r8, .int r7, .ref p_0]) rfl ?_
      refine fr_ldcS (q := ROB + 33) (show _ ∈ roS from List.mem_of_getElem? (i := 13) rfl) dL_makes_77 ?_
      refine fr_iload 5 dL_makes_79 rfl ?_
      refine fr_bipush (v := 12) dL_makes_81 (by decide) ?_
      refine fr_ishr dL_makes_83 ?_
      refine fr_iconst (v := 3) dL_makes_84 (by decide) ?_
      obtain ⟨r11, er11, h⟩ := ob h
      try dsimp only at h
      refine fr_callS (g1 := false) (k2 := (6 * n + 6 + ke)) (ev_L_some er11) rfl cyL_some w_875 w_876 (by rfl) (by omega) (by omega) (by rfl) (Nat.le_of_ble_eq_true rfl) dL_makes_85 (Or.inl rfl) (fun v M9 q _ => ?_) (fun E M9 q _ => (Sum.inr_ne_inl q.1).elim)
      obtain rfl : v = some (.int r11) := Sum.inl.inj q.1
      obtain rfl := q.2.symm
      refine fr_st (S' := [.int r11, .ref (ROB + 33), .int r10, .int r9, .int r8, .int r7, .ref p_0]) rfl ?_
      obtain ⟨u13, eu13, h⟩ := ob h
      try dsimp only at h
      obtain ⟨r12, er12, h⟩ := ob h
      try dsimp only at h
      refine fr_callV (g1 := false) (k2 := (6 * n + 6 + ke)) (ev_J0_charAt_5068e er12) rfl cyJ0_charAt_5068e w_879 w_758 w_759 (rcS_ok eu13) (by rfl) (by omega) (by omega) (by rfl) (Nat.le_of_ble_eq_true rfl) dL_makes_88 (Or.inl rfl) (fun v M9 q _ => ?_) (fun E M9 q _ => (Sum.inr_ne_inl q.1).elim)
      obtain rfl : v = some (.int r12) := Sum.inl.inj q.1
      obtain rfl := q.2.symm
      refine fr_st (S' := [.int r12, .int r10, .int r9, .int r8, .int r7, .ref p_0]) rfl ?_
      obtain ⟨r14, er14, h⟩ := ob h
      try dsimp only at h
      refine fr_callSX (g1 := false) (k2 := (6 * n + 5 + ke)) (ev_L_addSheet er14) rfl cyL_addSheet w_293 w_294 (by rfl) (by omega) (by omega) (by rfl) (Nat.le_of_ble_eq_true rfl) dL_makes_91 (Or.inl rfl) (fun v M9 q _ => ?_) (fun E M9 q _ => (Sum.inr_ne_inl q.1).elim)
      obtain rfl : v = some (.int r14.1) := Sum.inl.inj q.1
      obtain rfl := q.2.symm
      refine fr_st (S' := [.int r14.1]) rfl ?_
      refine fr_iload 4 dL_makes_94 rfl ?_
      refine fr_icmp_eq 101 dL_makes_96 (by decide) (fun c15 => ?_) (fun c15 => by rw [if_neg c15] at h; cases h)
      rw [if_pos c15] at h
      refine fr_iconst (v := 0) dL_makes_101 (by decide) ?_
      refine fr_istore (L' := [(0, .ref p_0), (1, .ref p_1), (2, .int x_2), (3, .int x_3), (4, .int x_4), (5, .int r6), (6, .int 0)]) dL_makes_102 (by decide) rfl ?_
      obtain ⟨q23, eq23, h⟩ := ob h
      try dsimp only at h
      refine fr_room (k' := 1 * 5 + (6 * n + 0 + ke)) (Nat.le_refl _) (by omega) ?_
      refine lp_L_makes_104_ok (by omega) 5 _ _ q23 eq23 (fun q23_6 q23_M e9 => ?_) (fun q23_r e9 => ?_)
      · subst e9
        try dsimp only at h
        refine fr_iinc (v := (x_4 + 1)) (L' := [(0, .ref p_0), (1, .ref p_1), (2, .int x_2), (3, .int x_3), (4, .int (x_4 + 1)), (5, .int r6), (6, .int q23_6)]) 4 dL_makes_159 rfl rfl (by decide) rfl ?_
        refine fr_goto 28 dL_makes_162 (by decide) ?_
        refine fr_loc [0, 1, 2, 3, 4] (L' := [(0, .ref p_0), (1, .ref p_1), (2, .int x_2), (3, .int x_3), (4, .int (x_4 + 1))]) rfl ?_
        exact ih _ _ _ h he hr
      · subst e9
        try dsimp only at h
        obtain rfl := Option.some.inj h
        exact hr _ rfl
set_option maxRecDepth 20000 in
theorem lp_L_makes_168_ok {G : Nat × (Nat → Int32) × Value} {P : Res → Mem → Prop} {n0 d ke : Nat} {p_0 : Nat} {p_1 : Nat} {x_2 : Int32} {x_3 : Int32} (hd : 11 ≤ d) : ∀ (n : Nat) (x_4 : Int32) (M_ : Mem) (res : (Int32 × Mem) ⊕ (Int32 × Mem)), lp_L_makes_168 G p_0 p_1 x_2 x_3 n x_4 M_ = some res → (∀ (y_4 : Int32) (M9 : Mem), res = .inl (y_4, M9) → Fr (roG G) false n0 YL_makes d ke 237 [(0, .ref p_0), (1, .ref p_1), (2, .int x_2), (3, .int x_3), (4, .int y_4)] [] M9 P) → (∀ r : Int32 × Mem, res = .inr r → P (wI r.1) r.2) → Fr (roG G) false n0 YL_makes d (1 * n + ke) 168 [(0, .ref p_0), (1, .ref p_1), (2, .int x_2), (3, .int x_3), (4, .int x_4)] [] M_ P := by
  intro n
  induction n with
  | zero => intro x_4 M_ res h; unfold lp_L_makes_168 at h; cases h
  | succ n ih =>
    intro x_4 M_ res h he hr
    unfold lp_L_makes_168 at h
    refine fr_room (Nat.le_refl _) (show (1 * n + 1 + ke) ≤ 1 * (n + 1) + ke by omega) ?_
    refine fr_iload 4 dL_makes_168 rfl ?_
    refine fr_iload_n 2 dL_makes_170 rfl ?_
    refine fr_icmp_ge 237 dL_makes_171 (by decide) (fun c25 => ?_) (fun c25 => ?_)
    · rw [if_pos c25] at h
      obtain rfl := Option.some.inj h
      refine fr_room (Nat.le_refl _) (show ke ≤ (1 * n + 1 + ke) by omega) ?_
      exact he _ _ rfl
    · rw [if_neg c25] at h
      refine fr_aload_n 1 dL_makes_174 rfl ?_
      refine fr_bipush (v := 12) dL_makes_175 (by decide) ?_
      refine fr_iload 4 dL_makes_177 rfl ?_
      refine fr_iadd dL_makes_179 ?_
      obtain ⟨r26, er26, h⟩ := ob h
      try dsimp only at h
      refine fr_callS (g1 := false) (k2 := (1 * n + 1 + ke)) (ev_L_at er26) rfl cyL_at w_290 w_291 (by rfl) (by omega) (by omega) (by rfl) (Nat.le_of_ble_eq_true rfl) dL_makes_180 (Or.inl rfl) (fun v M9 q _ => ?_) (fun E M9 q _ => (Sum.inr_ne_inl q.1).elim)
      obtain rfl : v = some (.int r26) := Sum.inl.inj q.1
      obtain rfl := q.2.symm
      refine fr_st (S' := [.int r26]) rfl ?_
      refine fr_istore (L' := [(0, .ref p_0), (1, .ref p_1), (2, .int x_2), (3, .int x_3), (4, .int x_4), (5, .int r26)]) dL_makes_183 (by decide) rfl ?_
      refine fr_aload_n 0 dL_makes_185 rfl ?_
      refine fr_iload 4 dL_makes_186 rfl ?_
      refine fr_iload 5 dL_makes_188 rfl ?_
      refine fr_bipush (v := 9) dL_makes_190 (by decide) ?_
      obtain ⟨r27, er27, h⟩ := ob h
      try dsimp only at h
      refine fr_callS (g1 := false) (k2 := (1 * n + 1 + ke)) (ev_L_some er27) rfl cyL_some w_875 w_876 (by rfl) (by omega) (by omega) (by rfl) (Nat.le_of_ble_eq_true rfl) dL_makes_192 (Or.inl rfl) (fun v M9 q _ => ?_) (fun E M9 q _ => (Sum.inr_ne_inl q.1).elim)
      obtain rfl : v = some (.int r27) := Sum.inl.inj q.1
      obtain rfl := q.2.symm
      refine fr_st (S' := [.int r27, .int x_4, .ref p_0]) rfl ?_
      refine fr_iload 5 dL_makes_195 rfl ?_
      refine fr_iconst (v := 4) dL_makes_197 (by decide) ?_
      refine fr_ishr dL_makes_198 ?_
      refine fr_iconst (v := 4) dL_makes_199 (by decide) ?_
      obtain ⟨r28, er28, h⟩ := ob h
      try dsimp only at h
      refine fr_callS (g1 := false) (k2 := (1 * n + 1 + ke)) (ev_L_some er28) rfl cyL_some w_875 w_876 (by rfl) (by omega) (by omega) (by rfl) (Nat.le_of_ble_eq_true rfl) dL_makes_200 (Or.inl rfl) (fun v M9 q _ => ?_) (fun E M9 q _ => (Sum.inr_ne_inl q.1).elim)
      obtain rfl : v = some (.int r28) := Sum.inl.inj q.1
      obtain rfl := q.2.symm
      refine fr_st (S' := [.int r28, .int r27, .int x_4, .ref p_0]) rfl ?_
      obtain ⟨r29, er29, h⟩ := ob h
      try dsimp only at h
      refine fr_callSX (g1 := false) (k2 := (1 * n + 0 + ke)) (ev_L_put er29) rfl cyL_put w_553 w_554 (by rfl) (by omega) (by omega) (by rfl) (Nat.le_of_ble_eq_true rfl) dL_makes_203 (Or.inl rfl) (fun v M9 q _ => ?_) (fun E M9 q _ => (Sum.inr_ne_inl q.1).elim)
      obtain rfl : v = some (.int r29.1) := Sum.inl.inj q.1
      obtain rfl := q.2.symm
      refine fr_st (S' := [.int r29.1]) rfl ?_
      refine fr_istore (L' := [(0, .ref p_0), (1, .ref p_1), (2, .int x_2), (3, .int x_3), (4, .int x_4), (5, .int r26), (6, .int r29.1)]) dL_makes_206 (by decide) rfl ?_
      refine fr_iload 6 dL_makes_208 rfl ?_
      refine fr_if_ge 231 dL_makes_210 (by decide) (fun c30 => ?_) (fun c30 => ?_)
      · rw [if_pos c30] at h
        refine fr_iinc (v := (x_4 + 1)) (L' := [(0, .ref p_0), (1, .ref p_1), (2, .int x_2), (3, .int x_3), (4, .int (x_4 + 1)), (5, .int r26), (6, .int r29.1)]) 4 dL_makes_231 rfl rfl (by decide) rfl ?_
        refine fr_goto 168 dL_makes_234 (by decide) ?_
        refine fr_loc [0, 1, 2, 3, 4] (L' := [(0, .ref p_0), (1, .ref p_1), (2, .int x_2), (3, .int x_3), (4, .int (x_4 + 1))]) rfl ?_
        exact ih _ _ _ h he hr
      · rw [if_neg c30] at h
        refine fr_iload 6 dL_makes_213 rfl ?_
        refine fr_sipush (v := (-1003)) dL_makes_215 (by decide) ?_
        refine fr_icmp_eq 231 dL_makes_218 (by decide) (fun c31 => ?_) (fun c31 => ?_)
        · rw [if_pos c31] at h
          refine fr_iinc (v := (x_4 + 1)) (L' := [(0, .ref p_0), (1, .ref p_1), (2, .int x_2), (3, .int x_3), (4, .int (x_4 + 1)), (5, .int r26), (6, .int r29.1)]) 4 dL_makes_231 rfl rfl (by decide) rfl ?_
          refine fr_goto 168 dL_makes_234 (by decide) ?_
          refine fr_loc [0, 1, 2, 3, 4] (L' := [(0, .ref p_0), (1, .ref p_1), (2, .int x_2), (3, .int x_3), (4, .int (x_4 + 1))]) rfl ?_
          exact ih _ _ _ h he hr
        · rw [if_neg c31] at h
          refine fr_iload 6 dL_makes_221 rfl ?_
          refine fr_sipush (v := (-1004)) dL_makes_223 (by decide) ?_
          refine fr_icmp_eq 231 dL_makes_226 (by decide) (fun c32 => ?_) (fun c32 => by rw [if_neg c32] at h; cases h)
          rw [if_pos c32] at h
          refine fr_iinc (v := (x_4 + 1)) (L' := [(0, .ref p_0), (1, .ref p_1), (2, .int x_2), (3, .int x_3), (4, .int (x_4 + 1)), (5, .int r26), (6, .int r29.1)]) 4 dL_makes_231 rfl rfl (by decide) rfl ?_
          refine fr_goto 168 dL_makes_234 (by decide) ?_
          refine fr_loc [0, 1, 2, 3, 4] (L' := [(0, .ref p_0), (1, .ref p_1), (2, .int x_2), (3, .int x_3), (4, .int (x_4 + 1))]) rfl ?_
          exact ih _ _ _ h he hr
set_option maxRecDepth 20000 in
theorem ev_L_makes {G : Nat × (Nat → Int32) × Value} {p0a : Nat} {p1a : Nat} {M : Mem} {r : Int32 × Mem} (h : f_L_makes G p0a p1a M = some r) : Ev (roG G) false YL_makes 11 78 [.ref p0a, .ref p1a] M (fun a b => a = wI r.1 ∧ b = r.2) := by
  refine ev_of cyL_makes.2.2.2.2 (Nat.le_of_ble_eq_true rfl) ?_
  show Fr _ _ _ _ _ _ 0 [(0, .ref p0a), (1, .ref p1a)] [] M _
  unfold f_L_makes at h
  refine fr_iconst (v := 4) dL_makes_0 (by decide) ?_
  refine fr_aload_n 1 dL_makes_1 rfl ?_
  refine fr_iconst (v := 0) dL_makes_2 (by decide) ?_
  obtain ⟨r1, er1, h⟩ := ob h
  try dsimp only at h
  refine fr_callS (g1 := false) (k2 := 78) (ev_L_at er1) rfl cyL_at w_290 w_291 (by rfl) (by omega) (by omega) (by rfl) (Nat.le_of_ble_eq_true rfl) dL_makes_3 (Or.inl rfl) (fun v M9 q _ => ?_) (fun E M9 q _ => (Sum.inr_ne_inl q.1).elim)
  obtain rfl : v = some (.int r1) := Sum.inl.inj q.1
  obtain rfl := q.2.symm
  refine fr_st (S' := [.int r1, .int 4]) rfl ?_
  refine fr_bipush (v := 6) dL_makes_6 (by decide) ?_
  obtain ⟨r2, er2, h⟩ := ob h
  try dsimp only at h
  refine fr_callS (g1 := false) (k2 := 78) (ev_L_some er2) rfl cyL_some w_875 w_876 (by rfl) (by omega) (by omega) (by rfl) (Nat.le_of_ble_eq_true rfl) dL_makes_8 (Or.inl rfl) (fun v M9 q _ => ?_) (fun E M9 q _ => (Sum.inr_ne_inl q.1).elim)
  obtain rfl : v = some (.int r2) := Sum.inl.inj q.1
  obtain rfl := q.2.symm
  refine fr_st (S' := [.int r2, .int 4]) rfl ?_
  refine fr_iadd dL_makes_11 ?_
  refine fr_istore_n (L' := [(0, .ref p0a), (1, .ref p1a), (2, .int (4 + r2))]) dL_makes_12 (by decide) rfl ?_
  refine fr_iconst (v := 1) dL_makes_13 (by decide) ?_
  refine fr_aload_n 1 dL_makes_14 rfl ?_
  refine fr_iconst (v := 1) dL_makes_15 (by decide) ?_
  obtain ⟨r3, er3, h⟩ := ob h
  try dsimp only at h
  refine fr_callS (g1 := false) (k2 := 78) (ev_L_at er3) rfl cyL_at w_290 w_291 (by rfl) (by omega) (by omega) (by rfl) (Nat.le_of_ble_eq_true rfl) dL_makes_16 (Or.inl rfl) (fun v M9 q _ => ?_) (fun E M9 q _ => (Sum.inr_ne_inl q.1).elim)
  obtain rfl : v = some (.int r3) := Sum.inl.inj q.1
  obtain rfl := q.2.symm
  refine fr_st (S' := [.int r3, .int 1]) rfl ?_
  refine fr_iconst (v := 3) dL_makes_19 (by decide) ?_
  obtain ⟨r4, er4, h⟩ := ob h
  try dsimp only at h
  refine fr_callS (g1 := false) (k2 := 78) (ev_L_some er4) rfl cyL_some w_875 w_876 (by rfl) (by omega) (by omega) (by rfl) (Nat.le_of_ble_eq_true rfl) dL_makes_20 (Or.inl rfl) (fun v M9 q _ => ?_) (fun E M9 q _ => (Sum.inr_ne_inl q.1).elim)
  obtain rfl : v = some (.int r4) := Sum.inl.inj q.1
  obtain rfl := q.2.symm
  refine fr_st (S' := [.int r4, .int 1]) rfl ?_
  refine fr_iadd dL_makes_23 ?_
  refine fr_istore_n (L' := [(0, .ref p0a), (1, .ref p1a), (2, .int (4 + r2)), (3, .int (1 + r4))]) dL_makes_24 (by decide) rfl ?_
  refine fr_iconst (v := 0) dL_makes_25 (by decide) ?_
  refine fr_istore (L' := [(0, .ref p0a), (1, .ref p1a), (2, .int (4 + r2)), (3, .int (1 + r4)), (4, .int 0)]) dL_makes_26 (by decide) rfl ?_
  obtain ⟨q24, eq24, h⟩ := ob h
  try dsimp only at h
  refine fr_room (k' := 6 * 11 + 12) (Nat.le_refl _) (by omega) ?_
  refine lp_L_makes_28_ok (by omega) 11 _ _ q24 eq24 (fun q24_4 q24_M e9 => ?_) (fun q24_r e9 => ?_)
  · subst e9
    try dsimp only at h
    refine fr_iconst (v := 0) dL_makes_165 (by decide) ?_
    refine fr_istore (L' := [(0, .ref p0a), (1, .ref p1a), (2, .int (4 + r2)), (3, .int (1 + r4)), (4, .int 0)]) dL_makes_166 (by decide) rfl ?_
    obtain ⟨q33, eq33, h⟩ := ob h
    try dsimp only at h
    refine fr_room (k' := 1 * 11 + 1) (Nat.le_refl _) (by omega) ?_
    refine lp_L_makes_168_ok (by omega) 11 _ _ q33 eq33 (fun q33_4 q33_M e9 => ?_) (fun q33_r e9 => ?_)
    · subst e9
      try dsimp only at h
      refine fr_aload_n 0 dL_makes_237 rfl ?_
      refine fr_iconst (v := 1) dL_makes_238 (by decide) ?_
      refine fr_aload_n 1 dL_makes_239 rfl ?_
      refine fr_bipush (v := 22) dL_makes_240 (by decide) ?_
      obtain ⟨r34, er34, h⟩ := ob h
      try dsimp only at h
      refine fr_callS (g1 := false) (k2 := 1) (ev_L_at er34) rfl cyL_at w_290 w_291 (by rfl) (by omega) (by omega) (by rfl) (Nat.le_of_ble_eq_true rfl) dL_makes_242 (Or.inl rfl) (fun v M9 q _ => ?_) (fun E M9 q _ => (Sum.inr_ne_inl q.1).elim)
      obtain rfl : v = some (.int r34) := Sum.inl.inj q.1
      obtain rfl := q.2.symm
      refine fr_st (S' := [.int r34, .int 1, .ref p0a]) rfl ?_
      refine fr_bipush (v := 20) dL_makes_245 (by decide) ?_
      obtain ⟨r35, er35, h⟩ := ob h
      try dsimp only at h
      refine fr_callS (g1 := false) (k2 := 1) (ev_L_some er35) rfl cyL_some w_875 w_876 (by rfl) (by omega) (by omega) (by rfl) (Nat.le_of_ble_eq_true rfl) dL_makes_247 (Or.inl rfl) (fun v M9 q _ => ?_) (fun E M9 q _ => (Sum.inr_ne_inl q.1).elim)
      obtain rfl : v = some (.int r35) := Sum.inl.inj q.1
      obtain rfl := q.2.symm
      refine fr_st (S' := [.int r35, .int 1, .ref p0a]) rfl ?_
      refine fr_iadd dL_makes_250 ?_
      obtain ⟨r36, er36, h⟩ := ob h
      try dsimp only at h
      refine fr_callSX (g1 := false) (k2 := 0) (ev_L_addPaste er36) rfl cyL_addPaste w_637 w_638 (by rfl) (by omega) (by omega) (by rfl) (Nat.le_of_ble_eq_true rfl) dL_makes_251 (Or.inl rfl) (fun v M9 q _ => ?_) (fun E M9 q _ => (Sum.inr_ne_inl q.1).elim)
      obtain rfl : v = some (.int r36.1) := Sum.inl.inj q.1
      obtain rfl := q.2.symm
      refine fr_st (S' := [.int r36.1]) rfl ?_
      refine fr_if_le 261 dL_makes_254 (by decide) (fun c37 => by rw [if_pos c37] at h; cases h) (fun c37 => ?_)
      rw [if_neg c37] at h
      refine fr_iconst (v := 1) dL_makes_257 (by decide) ?_
      refine fr_goto 262 dL_makes_258 (by decide) ?_
      obtain rfl := Option.some.inj h
      exact fr_zret (ty := .boolean) rfl rfl dL_makes_262 ⟨rfl, rfl⟩
    · subst e9
      try dsimp only at h
      obtain rfl := Option.some.inj h
      exact ⟨rfl, rfl⟩
  · subst e9
    try dsimp only at h
    obtain rfl := Option.some.inj h
    exact ⟨rfl, rfl⟩
def f_X3_forget (p0a : Nat) (M : Mem) : Option (Unit × Mem) := (sI M 4 p0a 2 .int 0).bind fun M1 => some ((), M1)
set_option maxRecDepth 20000 in
theorem ev_X3_forget {G : Nat × (Nat → Int32) × Value} {p0a : Nat} {M : Mem} {r : Unit × Mem} (h : f_X3_forget p0a M = some r) : Ev (roG G) false YX3_forget 0 0 [.ref p0a] M (fun a b => a = wU r.1 ∧ b = r.2) := by
  refine ev_of cyX3_forget.2.2.2.2 (Nat.le_of_ble_eq_true rfl) ?_
  show Fr _ _ _ _ _ _ 0 [(0, .ref p0a)] [] M _
  unfold f_X3_forget at h
  refine fr_aload_n 0 dX3_forget_0 rfl ?_
  refine fr_iconst (v := 0) dX3_forget_1 (by decide) ?_
  obtain ⟨M1, eM1, h⟩ := ob h
  try dsimp only at h
  refine fr_sI cb4 2 (by decide) rfl rfl w_158 dX3_forget_2 eM1 ?_
  obtain rfl := Option.some.inj h
  exact fr_vret rfl dX3_forget_5 ⟨rfl, rfl⟩
def f_X10_restore (p0a : Nat) (M : Mem) : Option ((Int32 ⊕ String) × Mem) := (gI M 10 p0a 2).bind fun x1 => if x1 = 0 then (some ((.inr "java/lang/IllegalStateException"), M)) else ((gP M 10 p0a 0).bind fun p3 => (gP M 10 p0a 1).bind fun p4 => (rc M 9 p3).bind fun _ => (f_X9_copyFrom p3 p4 M).bind fun r5 => (gP r5.2 10 p0a 3).bind fun p7 => (rc r5.2 4 p7).bind fun _ => (f_X3_forget p7 r5.2).bind fun r8 => (gP r8.2 10 p0a 0).bind fun p10 => (gI r8.2 9 p10 2).bind fun x11 => some ((.inl x11), r8.2))
set_option maxRecDepth 20000 in
theorem ev_X10_restore {G : Nat × (Nat → Int32) × Value} {p0a : Nat} {M : Mem} {r : (Int32 ⊕ String) × Mem} (h : f_X10_restore p0a M = some r) : Ev (roG G) false YX10_restore 7 1 [.ref p0a] M (fun a b => a = (wE wI) r.1 ∧ b = r.2) := by
  refine ev_of cyX10_restore.2.2.2.2 (Nat.le_of_ble_eq_true rfl) ?_
  show Fr _ _ _ _ _ _ 0 [(0, .ref p0a)] [] M _
  unfold f_X10_restore at h
  refine fr_aload_n 0 dX10_restore_0 rfl ?_
  obtain ⟨x1, ex1, h⟩ := ob h
  try dsimp only at h
  refine fr_gI cb10 2 (by decide) rfl w_229 dX10_restore_1 ex1 ?_
  refine fr_if_ne 18 dX10_restore_4 (by decide) (fun c2 => ?_) (fun c2 => ?_)
  · rw [if_neg c2] at h
    refine fr_aload_n 0 dX10_restore_18 rfl ?_
    obtain ⟨p3, ep3, h⟩ := ob h
    try dsimp only at h
    refine fr_gP cb10 0 (by decide) rfl w_227 dX10_restore_19 ep3 ?_
    refine fr_aload_n 0 dX10_restore_22 rfl ?_
    obtain ⟨p4, ep4, h⟩ := ob h
    try dsimp only at h
    refine fr_gP cb10 1 (by decide) rfl w_228 dX10_restore_23 ep4 ?_
    obtain ⟨u6, eu6, h⟩ := ob h
    try dsimp only at h
    obtain ⟨r5, er5, h⟩ := ob h
    try dsimp only at h
    refine fr_callV (g1 := false) (k2 := 1) (ev_X9_copyFrom er5) rfl cyX9_copyFrom w_278 w_279 w_280 (rc_ok eu6 rfl (by decide)) (by rfl) (by omega) (by omega) (by rfl) (Nat.le_of_ble_eq_true rfl) dX10_restore_26 (Or.inl rfl) (fun v M9 q _ => ?_) (fun E M9 q _ => (Sum.inr_ne_inl q.1).elim)
    obtain rfl : v = none := Sum.inl.inj q.1
    obtain rfl := q.2.symm
    refine fr_st (S' := []) rfl ?_
    refine fr_aload_n 0 dX10_restore_29 rfl ?_
    obtain ⟨p7, ep7, h⟩ := ob h
    try dsimp only at h
    refine fr_gP cb10 3 (by decide) rfl w_230 dX10_restore_30 ep7 ?_
    obtain ⟨u9, eu9, h⟩ := ob h
    try dsimp only at h
    obtain ⟨r8, er8, h⟩ := ob h
    try dsimp only at h
    refine fr_callV (g1 := false) (k2 := 1) (ev_X3_forget er8) rfl cyX3_forget w_868 w_869 w_870 (rc_ok eu9 rfl (by decide)) (by rfl) (by omega) (by omega) (by rfl) (Nat.le_of_ble_eq_true rfl) dX10_restore_33 (Or.inl rfl) (fun v M9 q _ => ?_) (fun E M9 q _ => (Sum.inr_ne_inl q.1).elim)
    obtain rfl : v = none := Sum.inl.inj q.1
    obtain rfl := q.2.symm
    refine fr_st (S' := []) rfl ?_
    refine fr_aload_n 0 dX10_restore_36 rfl ?_
    obtain ⟨p10, ep10, h⟩ := ob h
    try dsimp only at h
    refine fr_gP cb10 0 (by decide) rfl w_227 dX10_restore_37 ep10 ?_
    obtain ⟨x11, ex11, h⟩ := ob h
    try dsimp only at h
    refine fr_gI cb9 2 (by decide) rfl w_127 dX10_restore_40 ex11 ?_
    obtain rfl := Option.some.inj h
    exact fr_iret rfl dX10_restore_43 ⟨rfl, rfl⟩
  · rw [if_pos c2] at h
    obtain rfl := Option.some.inj h
    exact fr_throwW (names := ["java/lang/RuntimeException", "java/lang/Exception"]) rfl thX10_195 w_416 w_25 (sa := ROB + 32) (show _ ∈ roS from List.mem_of_getElem? (i := 12) rfl) dX10_restore_7 dX10_restore_10 dX10_restore_11 dX10_restore_14 dX10_restore_17 (by omega) (by omega) (Nat.le_of_ble_eq_true rfl) ⟨rfl, rfl⟩
def f_L_restore (p0a : Nat) (M : Mem) : Option (Int32 × Mem) := (rc M 10 p0a).bind fun _ => (f_X10_restore p0a M).bind fun r1 => (match r1 with | (.inl r1v, r1M) => (some (r1v, r1M)) | (.inr r1E, r1M) => (if r1E = "java/lang/IllegalStateException" then (some ((-1001), r1M)) else none))
set_option maxRecDepth 20000 in
theorem ev_L_restore {G : Nat × (Nat → Int32) × Value} {p0a : Nat} {M : Mem} {r : Int32 × Mem} (h : f_L_restore p0a M = some r) : Ev (roG G) false YL_restore 8 1 [.ref p0a] M (fun a b => a = wI r.1 ∧ b = r.2) := by
  refine ev_of cyL_restore.2.2.2.2 (Nat.le_of_ble_eq_true rfl) ?_
  show Fr _ _ _ _ _ _ 0 [(0, .ref p0a)] [] M _
  unfold f_L_restore at h
  refine fr_aload_n 0 dL_restore_0 rfl ?_
  obtain ⟨u2, eu2, h⟩ := ob h
  try dsimp only at h
  obtain ⟨r1, er1, h⟩ := ob h
  try dsimp only at h
  obtain ⟨r1v | r1E, r1M⟩ := r1
  · try dsimp only at h
    refine fr_callV (g1 := false) (k2 := 0) (ev_X10_restore er1) rfl cyX10_restore w_863 w_864 w_865 (rc_ok eu2 rfl (by decide)) (by rfl) (by omega) (by omega) (by rfl) (Nat.le_of_ble_eq_true rfl) dL_restore_1 (Or.inl rfl) (fun v M9 q _ => ?_) (fun E M9 q _ => (Sum.inr_ne_inl q.1).elim)
    obtain rfl : v = some (.int r1v) := Sum.inl.inj q.1
    obtain rfl := q.2.symm
    refine fr_st (S' := [.int r1v]) rfl ?_
    obtain rfl := Option.some.inj h
    exact fr_iret rfl dL_restore_4 ⟨rfl, rfl⟩
  · try dsimp only at h
    refine fr_callV (g1 := false) (k2 := 0) (ev_X10_restore er1) rfl cyX10_restore w_863 w_864 w_865 (rc_ok eu2 rfl (by decide)) (by rfl) (by omega) (by omega) (by rfl) (Nat.le_of_ble_eq_true rfl) dL_restore_1 (Or.inl rfl) (fun v M9 q _ => (Sum.inl_ne_inr q.1).elim) (fun E M9 q _ => ?_)
    obtain rfl : r1E = E := (Sum.inr.inj q.1).symm
    obtain rfl := q.2.symm
    by_cases e3_0 : r1E = "java/lang/IllegalStateException"
    · rw [if_pos e3_0] at h
      subst e3_0
      refine fx_catch (E := "java/lang/IllegalStateException") (name := "java/lang/IllegalStateException") (L' := [(0, .ref p0a)]) [] { startPc := 0, endPc := 4, handlerPc := 5, catchType := 15 } [] rfl ?_ (by decide) (by decide) w_297 (show _ ∈ roC from List.mem_of_getElem? (i := 2) rfl) 1 1 (by decide) (Or.inl ⟨1, rfl, rfl, dL_restore_5⟩) rfl ?_
      · intro z hz; cases hz
      refine fr_sipush (v := (-1001)) dL_restore_6 (by decide) ?_
      obtain rfl := Option.some.inj h
      exact fr_iret rfl dL_restore_9 ⟨rfl, rfl⟩
    rw [if_neg e3_0] at h
    cases h
def f_X10_sheetIn (p0a : Nat) (x1a : Int32) (M : Mem) : Option ((Int32 ⊕ String)) := (f_X10_demandCell x1a M).bind fun r1 => (match r1 with | .inl r1v => ((rc M 10 p0a).bind fun _ => (f_X10_demandOccupied p0a x1a M).bind fun r2 => (match r2 with | .inl r2v => ((gP M 10 p0a 0).bind fun p4 => (gP M 9 p4 1).bind fun p5 => (aI M 100 p5 x1a).bind fun x6 => some (.inl x6)) | .inr r2E => (some (.inr r2E)))) | .inr r1E => (some (.inr r1E)))
set_option maxRecDepth 20000 in
theorem ev_X10_sheetIn {G : Nat × (Nat → Int32) × Value} {p0a : Nat} {x1a : Int32} {M : Mem} {r : (Int32 ⊕ String)} (h : f_X10_sheetIn p0a x1a M = some r) : Ev (roG G) false YX10_sheetIn 8 2 [.ref p0a, .int x1a] M (fun a b => a = (wE wI) r ∧ b = M) := by
  refine ev_of cyX10_sheetIn.2.2.2.2 (Nat.le_of_ble_eq_true rfl) ?_
  show Fr _ _ _ _ _ _ 0 [(0, .ref p0a), (1, .int x1a)] [] M _
  unfold f_X10_sheetIn at h
  refine fr_iload_n 1 dX10_sheetIn_0 rfl ?_
  obtain ⟨r1, er1, h⟩ := ob h
  try dsimp only at h
  rcases r1 with r1v | r1E
  · try dsimp only at h
    refine fr_callS (g1 := false) (k2 := 1) (ev_X10_demandCell er1) rfl cyX10_demandCell w_682 w_683 (by rfl) (by omega) (by omega) (by rfl) (Nat.le_of_ble_eq_true rfl) dX10_sheetIn_1 (Or.inl rfl) (fun v M9 q _ => ?_) (fun E M9 q _ => (Sum.inr_ne_inl q.1).elim)
    obtain rfl : v = none := Sum.inl.inj q.1
    obtain rfl := q.2.symm
    refine fr_st (S' := []) rfl ?_
    refine fr_aload_n 0 dX10_sheetIn_4 rfl ?_
    refine fr_iload_n 1 dX10_sheetIn_5 rfl ?_
    obtain ⟨u3, eu3, h⟩ := ob h
    try dsimp only at h
    obtain ⟨r2, er2, h⟩ := ob h
    try dsimp only at h
    rcases r2 with r2v | r2E
    · try dsimp only at h
      refine fr_callV (g1 := false) (k2 := 0) (ev_X10_demandOccupied er2) rfl cyX10_demandOccupied w_687 w_689 w_3 (rc_ok eu3 rfl (by decide)) (by rfl) (by omega) (by omega) (by rfl) (Nat.le_of_ble_eq_true rfl) dX10_sheetIn_6 (Or.inl rfl) (fun v M9 q _ => ?_) (fun E M9 q _ => (Sum.inr_ne_inl q.1).elim)
      obtain rfl : v = none := Sum.inl.inj q.1
      obtain rfl := q.2.symm
      refine fr_st (S' := []) rfl ?_
      refine fr_aload_n 0 dX10_sheetIn_9 rfl ?_
      obtain ⟨p4, ep4, h⟩ := ob h
      try dsimp only at h
      refine fr_gP cb10 0 (by decide) rfl w_227 dX10_sheetIn_10 ep4 ?_
      obtain ⟨p5, ep5, h⟩ := ob h
      try dsimp only at h
      refine fr_gP cb9 1 (by decide) rfl w_125 dX10_sheetIn_13 ep5 ?_
      refine fr_iload_n 1 dX10_sheetIn_16 rfl ?_
      obtain ⟨x6, ex6, h⟩ := ob h
      try dsimp only at h
      refine fr_aI0 ex6 dX10_sheetIn_17 ?_
      obtain rfl := Option.some.inj h
      exact fr_iret rfl dX10_sheetIn_18 ⟨rfl, rfl⟩
    · try dsimp only at h
      refine fr_callV (g1 := false) (k2 := 0) (ev_X10_demandOccupied er2) rfl cyX10_demandOccupied w_687 w_689 w_3 (rc_ok eu3 rfl (by decide)) (by rfl) (by omega) (by omega) (by rfl) (Nat.le_of_ble_eq_true rfl) dX10_sheetIn_6 (Or.inl rfl) (fun v M9 q _ => (Sum.inl_ne_inr q.1).elim) (fun E M9 q _ => ?_)
      obtain rfl : r2E = E := (Sum.inr.inj q.1).symm
      obtain rfl := q.2.symm
      obtain rfl := Option.some.inj h
      exact fx_no rfl ⟨rfl, rfl⟩
  · try dsimp only at h
    refine fr_callS (g1 := false) (k2 := 1) (ev_X10_demandCell er1) rfl cyX10_demandCell w_682 w_683 (by rfl) (by omega) (by omega) (by rfl) (Nat.le_of_ble_eq_true rfl) dX10_sheetIn_1 (Or.inl rfl) (fun v M9 q _ => (Sum.inl_ne_inr q.1).elim) (fun E M9 q _ => ?_)
    obtain rfl : r1E = E := (Sum.inr.inj q.1).symm
    obtain rfl := q.2.symm
    obtain rfl := Option.some.inj h
    exact fx_no rfl ⟨rfl, rfl⟩
def f_L_sheetIn (p0a : Nat) (x1a : Int32) (M : Mem) : Option (Int32) := (rc M 10 p0a).bind fun _ => (f_X10_sheetIn p0a x1a M).bind fun r1 => (match r1 with | .inl r1v => (some r1v) | .inr r1E => (if r1E = "java/lang/IndexOutOfBoundsException" then (some (-1001)) else (if r1E = "java/util/NoSuchElementException" then (some (-1002)) else none)))
set_option maxRecDepth 20000 in
theorem ev_L_sheetIn {G : Nat × (Nat → Int32) × Value} {p0a : Nat} {x1a : Int32} {M : Mem} {r : Int32} (h : f_L_sheetIn p0a x1a M = some r) : Ev (roG G) false YL_sheetIn 9 2 [.ref p0a, .int x1a] M (fun a b => a = wI r ∧ b = M) := by
  refine ev_of cyL_sheetIn.2.2.2.2 (Nat.le_of_ble_eq_true rfl) ?_
  show Fr _ _ _ _ _ _ 0 [(0, .ref p0a), (1, .int x1a)] [] M _
  unfold f_L_sheetIn at h
  refine fr_aload_n 0 dL_sheetIn_0 rfl ?_
  refine fr_iload_n 1 dL_sheetIn_1 rfl ?_
  obtain ⟨u2, eu2, h⟩ := ob h
  try dsimp only at h
  obtain ⟨r1, er1, h⟩ := ob h
  try dsimp only at h
  rcases r1 with r1v | r1E
  · try dsimp only at h
    refine fr_callV (g1 := false) (k2 := 0) (ev_X10_sheetIn er1) rfl cyX10_sheetIn w_678 w_679 w_680 (rc_ok eu2 rfl (by decide)) (by rfl) (by omega) (by omega) (by rfl) (Nat.le_of_ble_eq_true rfl) dL_sheetIn_2 (Or.inl rfl) (fun v M9 q _ => ?_) (fun E M9 q _ => (Sum.inr_ne_inl q.1).elim)
    obtain rfl : v = some (.int r1v) := Sum.inl.inj q.1
    obtain rfl := q.2.symm
    refine fr_st (S' := [.int r1v]) rfl ?_
    obtain rfl := Option.some.inj h
    exact fr_iret rfl dL_sheetIn_5 ⟨rfl, rfl⟩
  · try dsimp only at h
    refine fr_callV (g1 := false) (k2 := 0) (ev_X10_sheetIn er1) rfl cyX10_sheetIn w_678 w_679 w_680 (rc_ok eu2 rfl (by decide)) (by rfl) (by omega) (by omega) (by rfl) (Nat.le_of_ble_eq_true rfl) dL_sheetIn_2 (Or.inl rfl) (fun v M9 q _ => (Sum.inl_ne_inr q.1).elim) (fun E M9 q _ => ?_)
    obtain rfl : r1E = E := (Sum.inr.inj q.1).symm
    obtain rfl := q.2.symm
    by_cases e3_0 : r1E = "java/lang/IndexOutOfBoundsException"
    · rw [if_pos e3_0] at h
      subst e3_0
      refine fx_catch (E := "java/lang/IndexOutOfBoundsException") (name := "java/lang/IndexOutOfBoundsException") (L' := [(0, .ref p0a), (1, .int x1a)]) [] { startPc := 0, endPc := 5, handlerPc := 6, catchType := 21 } [{ startPc := 0, endPc := 5, handlerPc := 11, catchType := 42 }] rfl ?_ (by decide) (by decide) w_474 (show _ ∈ roC from List.mem_of_getElem? (i := 0) rfl) 2 1 (by decide) (Or.inl ⟨2, rfl, rfl, dL_sheetIn_6⟩) rfl ?_
      · intro z hz; cases hz
      refine fr_sipush (v := (-1001)) dL_sheetIn_7 (by decide) ?_
      obtain rfl := Option.some.inj h
      exact fr_iret rfl dL_sheetIn_10 ⟨rfl, rfl⟩
    rw [if_neg e3_0] at h
    by_cases e3_1 : r1E = "java/util/NoSuchElementException"
    · rw [if_pos e3_1] at h
      subst e3_1
      refine fx_catch (E := "java/util/NoSuchElementException") (name := "java/util/NoSuchElementException") (L' := [(0, .ref p0a), (1, .int x1a)]) [{ startPc := 0, endPc := 5, handlerPc := 6, catchType := 21 }] { startPc := 0, endPc := 5, handlerPc := 11, catchType := 42 } [] rfl ?_ (by decide) (by decide) w_624 (show _ ∈ roC from List.mem_of_getElem? (i := 4) rfl) 2 1 (by decide) (Or.inl ⟨2, rfl, rfl, dL_sheetIn_11⟩) rfl ?_
      · intro z hz
        simp only [List.mem_cons, List.not_mem_nil, or_false] at hz
        subst hz
        exact Or.inr ⟨by decide, "java/lang/IndexOutOfBoundsException", w_474, show _ ∈ roN from List.mem_of_getElem? (i := 45) rfl⟩
      refine fr_sipush (v := (-1002)) dL_sheetIn_12 (by decide) ?_
      obtain rfl := Option.some.inj h
      exact fr_iret rfl dL_sheetIn_15 ⟨rfl, rfl⟩
    rw [if_neg e3_1] at h
    cases h
def f_X10_emptyCells (p0a : Nat) (M : Mem) : Option (Int32) := (gP M 10 p0a 0).bind fun p1 => (rc M 9 p1).bind fun _ => (f_X9_countEmpty p1 M).bind fun r2 => some r2
set_option maxRecDepth 20000 in
theorem ev_X10_emptyCells {G : Nat × (Nat → Int32) × Value} {p0a : Nat} {M : Mem} {r : Int32} (h : f_X10_emptyCells p0a M = some r) : Ev (roG G) false YX10_emptyCells 2 0 [.ref p0a] M (fun a b => a = wI r ∧ b = M) := by
  refine ev_of cyX10_emptyCells.2.2.2.2 (Nat.le_of_ble_eq_true rfl) ?_
  show Fr _ _ _ _ _ _ 0 [(0, .ref p0a)] [] M _
  unfold f_X10_emptyCells at h
  refine fr_aload_n 0 dX10_emptyCells_0 rfl ?_
  obtain ⟨p1, ep1, h⟩ := ob h
  try dsimp only at h
  refine fr_gP cb10 0 (by decide) rfl w_227 dX10_emptyCells_1 ep1 ?_
  obtain ⟨u3, eu3, h⟩ := ob h
  try dsimp only at h
  obtain ⟨r2, er2, h⟩ := ob h
  try dsimp only at h
  refine fr_callV (g1 := false) (k2 := 0) (ev_X9_countEmpty er2) rfl cyX9_countEmpty w_927 w_928 w_929 (rc_ok eu3 rfl (by decide)) (by rfl) (by omega) (by omega) (by rfl) (Nat.le_of_ble_eq_true rfl) dX10_emptyCells_4 (Or.inl rfl) (fun v M9 q _ => ?_) (fun E M9 q _ => (Sum.inr_ne_inl q.1).elim)
  obtain rfl : v = some (.int r2) := Sum.inl.inj q.1
  obtain rfl := q.2.symm
  refine fr_st (S' := [.int r2]) rfl ?_
  obtain rfl := Option.some.inj h
  exact fr_iret rfl dX10_emptyCells_7 ⟨rfl, rfl⟩
def f_X10_matches (p0a : Nat) (x1a : Int32) (x2a : Int32) (x3a : Int32) (M : Mem) : Option ((Int32 ⊕ String)) := (rc M 10 p0a).bind fun _ => (f_X10_demandedSheet p0a x1a M).bind fun r1 => (match r1 with | .inl r1v => ((f_X10_demandCell x2a M).bind fun r3 => (match r3 with | .inl r3v => ((f_X10_isTurns x3a M).bind fun r4 => if r4 = 0 then (some (.inr "java/lang/IllegalArgumentException")) else ((gP M 10 p0a 0).bind fun p6 => (rc M 9 p6).bind fun _ => (f_X9_isOccupied p6 x2a M).bind fun r7 => if r7 = 0 then ((rc M 7 r1v).bind fun _ => (f_X7_onTable r1v M).bind fun r10 => if r10 = 0 then ((gP M 10 p0a 0).bind fun p13 => (rc M 9 p13).bind fun _ => (f_X9_fits p13 r1v x2a x3a M).bind fun r14 => (nr .boolean r14).bind fun _ => some (.inl r14)) else (some (.inr "java/lang/IllegalStateException"))) else (some (.inr "java/lang/IllegalStateException")))) | .inr r3E => (some (.inr r3E)))) | .inr r1E => (some (.inr r1E)))
set_option maxRecDepth 20000 in
theorem ev_X10_matches {G : Nat × (Nat → Int32) × Value} {p0a : Nat} {x1a : Int32} {x2a : Int32} {x3a : Int32} {M : Mem} {r : (Int32 ⊕ String)} (h : f_X10_matches p0a x1a x2a x3a M = some r) : Ev (roG G) false YX10_matches 8 3 [.ref p0a, .int x1a, .int x2a, .int x3a] M (fun a b => a = (wE wI) r ∧ b = M) := by
  refine ev_of cyX10_matches.2.2.2.2 (Nat.le_of_ble_eq_true rfl) ?_
  show Fr _ _ _ _ _ _ 0 [(0, .ref p0a), (1, .int x1a), (2, .int x2a), (3, .int x3a)] [] M _
  unfold f_X10_matches at h
  refine fr_aload_n 0 dX10_matches_0 rfl ?_
  refine fr_iload_n 1 dX10_matches_1 rfl ?_
  obtain ⟨u2, eu2, h⟩ := ob h
  try dsimp only at h
  obtain ⟨r1, er1, h⟩ := ob h
  try dsimp only at h
  rcases r1 with r1v | r1E
  · try dsimp only at h
    refine fr_callV (g1 := false) (k2 := 2) (ev_X10_demandedSheet er1) rfl cyX10_demandedSheet w_655 w_657 w_2 (rc_ok eu2 rfl (by decide)) (by rfl) (by omega) (by omega) (by rfl) (Nat.le_of_ble_eq_true rfl) dX10_matches_2 (Or.inl rfl) (fun v M9 q _ => ?_) (fun E M9 q _ => (Sum.inr_ne_inl q.1).elim)
    obtain rfl : v = some (.ref r1v) := Sum.inl.inj q.1
    obtain rfl := q.2.symm
    refine fr_st (S' := [.ref r1v]) rfl ?_
    refine fr_astore (L' := [(0, .ref p0a), (1, .int x1a), (2, .int x2a), (3, .int x3a), (4, .ref r1v)]) dX10_matches_5 (by decide) rfl ?_
    refine fr_iload_n 2 dX10_matches_7 rfl ?_
    obtain ⟨r3, er3, h⟩ := ob h
    try dsimp only at h
    rcases r3 with r3v | r3E
    · try dsimp only at h
      refine fr_callS (g1 := false) (k2 := 1) (ev_X10_demandCell er3) rfl cyX10_demandCell w_682 w_683 (by rfl) (by omega) (by omega) (by rfl) (Nat.le_of_ble_eq_true rfl) dX10_matches_8 (Or.inl rfl) (fun v M9 q _ => ?_) (fun E M9 q _ => (Sum.inr_ne_inl q.1).elim)
      obtain rfl : v = none := Sum.inl.inj q.1
      obtain rfl := q.2.symm
      refine fr_st (S' := []) rfl ?_
      refine fr_iload_n 3 dX10_matches_11 rfl ?_
      obtain ⟨r4, er4, h⟩ := ob h
      try dsimp only at h
      refine fr_callS (g1 := false) (k2 := 1) (ev_X10_isTurns er4) rfl cyX10_isTurns w_1360 w_568 (by rfl) (by omega) (by omega) (by rfl) (Nat.le_of_ble_eq_true rfl) dX10_matches_12 (Or.inl rfl) (fun v M9 q _ => ?_) (fun E M9 q _ => (Sum.inr_ne_inl q.1).elim)
      obtain rfl : v = some (.int r4) := Sum.inl.inj q.1
      obtain rfl := q.2.symm
      refine fr_st (S' := [.int r4]) rfl ?_
      refine fr_if_ne 28 dX10_matches_15 (by decide) (fun c5 => ?_) (fun c5 => ?_)
      · rw [if_neg c5] at h
        refine fr_aload_n 0 dX10_matches_28 rfl ?_
        obtain ⟨p6, ep6, h⟩ := ob h
        try dsimp only at h
        refine fr_gP cb10 0 (by decide) rfl w_227 dX10_matches_29 ep6 ?_
        refine fr_iload_n 2 dX10_matches_32 rfl ?_
        obtain ⟨u8, eu8, h⟩ := ob h
        try dsimp only at h
        obtain ⟨r7, er7, h⟩ := ob h
        try dsimp only at h
        refine fr_callV (g1 := false) (k2 := 1) (ev_X9_isOccupied er7) rfl cyX9_isOccupied w_691 w_580 w_581 (rc_ok eu8 rfl (by decide)) (by rfl) (by omega) (by omega) (by rfl) (Nat.le_of_ble_eq_true rfl) dX10_matches_33 (Or.inl rfl) (fun v M9 q _ => ?_) (fun E M9 q _ => (Sum.inr_ne_inl q.1).elim)
        obtain rfl : v = some (.int r7) := Sum.inl.inj q.1
        obtain rfl := q.2.symm
        refine fr_st (S' := [.int r7]) rfl ?_
        refine fr_if_ne 47 dX10_matches_36 (by decide) (fun c9 => ?_) (fun c9 => ?_)
        · rw [if_neg c9] at h
          obtain rfl := Option.some.inj h
          exact fr_throwS (names := ["java/lang/RuntimeException", "java/lang/Exception"]) rfl thX10_195 w_416 w_25 (sa := ROB + 46) (show _ ∈ roS from List.mem_of_getElem? (i := 26) rfl) dX10_matches_47 dX10_matches_50 dX10_matches_51 dX10_matches_53 dX10_matches_56 (by omega) (by omega) (Nat.le_of_ble_eq_true rfl) ⟨rfl, rfl⟩
        · rw [if_pos c9] at h
          refine fr_aload 4 dX10_matches_39 rfl ?_
          obtain ⟨u11, eu11, h⟩ := ob h
          try dsimp only at h
          obtain ⟨r10, er10, h⟩ := ob h
          try dsimp only at h
          refine fr_callV (g1 := false) (k2 := 1) (ev_X7_onTable er10) rfl cyX7_onTable w_1351 w_522 w_523 (rc_ok eu11 rfl (by decide)) (by rfl) (by omega) (by omega) (by rfl) (Nat.le_of_ble_eq_true rfl) dX10_matches_41 (Or.inl rfl) (fun v M9 q _ => ?_) (fun E M9 q _ => (Sum.inr_ne_inl q.1).elim)
          obtain rfl : v = some (.int r10) := Sum.inl.inj q.1
          obtain rfl := q.2.symm
          refine fr_st (S' := [.int r10]) rfl ?_
          refine fr_if_eq 57 dX10_matches_44 (by decide) (fun c12 => ?_) (fun c12 => ?_)
          · rw [if_pos c12] at h
            refine fr_aload_n 0 dX10_matches_57 rfl ?_
            obtain ⟨p13, ep13, h⟩ := ob h
            try dsimp only at h
            refine fr_gP cb10 0 (by decide) rfl w_227 dX10_matches_58 ep13 ?_
            refine fr_aload 4 dX10_matches_61 rfl ?_
            refine fr_iload_n 2 dX10_matches_63 rfl ?_
            refine fr_iload_n 3 dX10_matches_64 rfl ?_
            obtain ⟨u15, eu15, h⟩ := ob h
            try dsimp only at h
            obtain ⟨r14, er14, h⟩ := ob h
            try dsimp only at h
            refine fr_callV (g1 := false) (k2 := 1) (ev_X9_fits er14) rfl cyX9_fits w_1012 w_584 w_585 (rc_ok eu15 rfl (by decide)) (by rfl) (by omega) (by omega) (by rfl) (Nat.le_of_ble_eq_true rfl) dX10_matches_65 (Or.inl rfl) (fun v M9 q _ => ?_) (fun E M9 q _ => (Sum.inr_ne_inl q.1).elim)
            obtain rfl : v = some (.int r14) := Sum.inl.inj q.1
            obtain rfl := q.2.symm
            refine fr_st (S' := [.int r14]) rfl ?_
            obtain ⟨u16, eu16, h⟩ := ob h
            try dsimp only at h
            obtain rfl := Option.some.inj h
            exact fr_zret1 (ty := .boolean) rfl dX10_matches_68 eu16 ⟨rfl, rfl⟩
          · rw [if_neg c12] at h
            obtain rfl := Option.some.inj h
            exact fr_throwS (names := ["java/lang/RuntimeException", "java/lang/Exception"]) rfl thX10_195 w_416 w_25 (sa := ROB + 46) (show _ ∈ roS from List.mem_of_getElem? (i := 26) rfl) dX10_matches_47 dX10_matches_50 dX10_matches_51 dX10_matches_53 dX10_matches_56 (by omega) (by omega) (Nat.le_of_ble_eq_true rfl) ⟨rfl, rfl⟩
      · rw [if_pos c5] at h
        obtain rfl := Option.some.inj h
        exact fr_throwS (names := ["java/lang/RuntimeException", "java/lang/Exception"]) rfl thX10_187 w_400 w_28 (sa := ROB + 45) (show _ ∈ roS from List.mem_of_getElem? (i := 25) rfl) dX10_matches_18 dX10_matches_21 dX10_matches_22 dX10_matches_24 dX10_matches_27 (by omega) (by omega) (Nat.le_of_ble_eq_true rfl) ⟨rfl, rfl⟩
    · try dsimp only at h
      refine fr_callS (g1 := false) (k2 := 1) (ev_X10_demandCell er3) rfl cyX10_demandCell w_682 w_683 (by rfl) (by omega) (by omega) (by rfl) (Nat.le_of_ble_eq_true rfl) dX10_matches_8 (Or.inl rfl) (fun v M9 q _ => (Sum.inl_ne_inr q.1).elim) (fun E M9 q _ => ?_)
      obtain rfl : r3E = E := (Sum.inr.inj q.1).symm
      obtain rfl := q.2.symm
      obtain rfl := Option.some.inj h
      exact fx_no rfl ⟨rfl, rfl⟩
  · try dsimp only at h
    refine fr_callV (g1 := false) (k2 := 2) (ev_X10_demandedSheet er1) rfl cyX10_demandedSheet w_655 w_657 w_2 (rc_ok eu2 rfl (by decide)) (by rfl) (by omega) (by omega) (by rfl) (Nat.le_of_ble_eq_true rfl) dX10_matches_2 (Or.inl rfl) (fun v M9 q _ => (Sum.inl_ne_inr q.1).elim) (fun E M9 q _ => ?_)
    obtain rfl : r1E = E := (Sum.inr.inj q.1).symm
    obtain rfl := q.2.symm
    obtain rfl := Option.some.inj h
    exact fx_no rfl ⟨rfl, rfl⟩
def f_L_matches (p0a : Nat) (x1a : Int32) (x2a : Int32) (x3a : Int32) (M : Mem) : Option (Int32) := (rc M 10 p0a).bind fun _ => (f_X10_matches p0a x1a x2a x3a M).bind fun r1 => (match r1 with | .inl r1v => (if r1v = 0 then (some 0) else (some 1)) | .inr r1E => (if r1E = "java/lang/IndexOutOfBoundsException" then (some (-1001)) else (if r1E = "java/lang/IllegalArgumentException" then (some (-1002)) else (if r1E = "java/lang/IllegalStateException" then (some (-1003)) else none))))
set_option maxRecDepth 20000 in
theorem ev_L_matches {G : Nat × (Nat → Int32) × Value} {p0a : Nat} {x1a : Int32} {x2a : Int32} {x3a : Int32} {M : Mem} {r : Int32} (h : f_L_matches p0a x1a x2a x3a M = some r) : Ev (roG G) false YL_matches 9 3 [.ref p0a, .int x1a, .int x2a, .int x3a] M (fun a b => a = wI r ∧ b = M) := by
  refine ev_of cyL_matches.2.2.2.2 (Nat.le_of_ble_eq_true rfl) ?_
  show Fr _ _ _ _ _ _ 0 [(0, .ref p0a), (1, .int x1a), (2, .int x2a), (3, .int x3a)] [] M _
  unfold f_L_matches at h
  refine fr_aload_n 0 dL_matches_0 rfl ?_
  refine fr_iload_n 1 dL_matches_1 rfl ?_
  refine fr_iload_n 2 dL_matches_2 rfl ?_
  refine fr_iload_n 3 dL_matches_3 rfl ?_
  obtain ⟨u2, eu2, h⟩ := ob h
  try dsimp only at h
  obtain ⟨r1, er1, h⟩ := ob h
  try dsimp only at h
  rcases r1 with r1v | r1E
  · try dsimp only at h
    refine fr_callV (g1 := false) (k2 := 0) (ev_X10_matches er1) rfl cyX10_matches w_1356 w_1357 w_1358 (rc_ok eu2 rfl (by decide)) (by rfl) (by omega) (by omega) (by rfl) (Nat.le_of_ble_eq_true rfl) dL_matches_4 (Or.inl rfl) (fun v M9 q _ => ?_) (fun E M9 q _ => (Sum.inr_ne_inl q.1).elim)
    obtain rfl : v = some (.int r1v) := Sum.inl.inj q.1
    obtain rfl := q.2.symm
    refine fr_st (S' := [.int r1v]) rfl ?_
    refine fr_if_eq 14 dL_matches_7 (by decide) (fun c3 => ?_) (fun c3 => ?_)
    · rw [if_pos c3] at h
      refine fr_iconst (v := 0) dL_matches_14 (by decide) ?_
      obtain rfl := Option.some.inj h
      exact fr_iret rfl dL_matches_15 ⟨rfl, rfl⟩
    · rw [if_neg c3] at h
      refine fr_iconst (v := 1) dL_matches_10 (by decide) ?_
      refine fr_goto 15 dL_matches_11 (by decide) ?_
      obtain rfl := Option.some.inj h
      exact fr_iret rfl dL_matches_15 ⟨rfl, rfl⟩
  · try dsimp only at h
    refine fr_callV (g1 := false) (k2 := 0) (ev_X10_matches er1) rfl cyX10_matches w_1356 w_1357 w_1358 (rc_ok eu2 rfl (by decide)) (by rfl) (by omega) (by omega) (by rfl) (Nat.le_of_ble_eq_true rfl) dL_matches_4 (Or.inl rfl) (fun v M9 q _ => (Sum.inl_ne_inr q.1).elim) (fun E M9 q _ => ?_)
    obtain rfl : r1E = E := (Sum.inr.inj q.1).symm
    obtain rfl := q.2.symm
    by_cases e4_0 : r1E = "java/lang/IndexOutOfBoundsException"
    · rw [if_pos e4_0] at h
      subst e4_0
      refine fx_catch (E := "java/lang/IndexOutOfBoundsException") (name := "java/lang/IndexOutOfBoundsException") (L' := [(0, .ref p0a), (1, .int x1a), (2, .int x2a), (3, .int x3a)]) [] { startPc := 0, endPc := 15, handlerPc := 16, catchType := 21 } [{ startPc := 0, endPc := 15, handlerPc := 22, catchType := 13 }, { startPc := 0, endPc := 15, handlerPc := 28, catchType := 15 }] rfl ?_ (by decide) (by decide) w_474 (show _ ∈ roC from List.mem_of_getElem? (i := 0) rfl) 4 2 (by decide) (Or.inr ⟨rfl, dL_matches_16⟩) rfl ?_
      · intro z hz; cases hz
      refine fr_sipush (v := (-1001)) dL_matches_18 (by decide) ?_
      obtain rfl := Option.some.inj h
      exact fr_iret rfl dL_matches_21 ⟨rfl, rfl⟩
    rw [if_neg e4_0] at h
    by_cases e4_1 : r1E = "java/lang/IllegalArgumentException"
    · rw [if_pos e4_1] at h
      subst e4_1
      refine fx_catch (E := "java/lang/IllegalArgumentException") (name := "java/lang/IllegalArgumentException") (L' := [(0, .ref p0a), (1, .int x1a), (2, .int x2a), (3, .int x3a)]) [{ startPc := 0, endPc := 15, handlerPc := 16, catchType := 21 }] { startPc := 0, endPc := 15, handlerPc := 22, catchType := 13 } [{ startPc := 0, endPc := 15, handlerPc := 28, catchType := 15 }] rfl ?_ (by decide) (by decide) w_296 (show _ ∈ roC from List.mem_of_getElem? (i := 1) rfl) 4 2 (by decide) (Or.inr ⟨rfl, dL_matches_22⟩) rfl ?_
      · intro z hz
        simp only [List.mem_cons, List.not_mem_nil, or_false] at hz
        subst hz
        exact Or.inr ⟨by decide, "java/lang/IndexOutOfBoundsException", w_474, show _ ∈ roN from List.mem_of_getElem? (i := 43) rfl⟩
      refine fr_sipush (v := (-1002)) dL_matches_24 (by decide) ?_
      obtain rfl := Option.some.inj h
      exact fr_iret rfl dL_matches_27 ⟨rfl, rfl⟩
    rw [if_neg e4_1] at h
    by_cases e4_2 : r1E = "java/lang/IllegalStateException"
    · rw [if_pos e4_2] at h
      subst e4_2
      refine fx_catch (E := "java/lang/IllegalStateException") (name := "java/lang/IllegalStateException") (L' := [(0, .ref p0a), (1, .int x1a), (2, .int x2a), (3, .int x3a)]) [{ startPc := 0, endPc := 15, handlerPc := 16, catchType := 21 }, { startPc := 0, endPc := 15, handlerPc := 22, catchType := 13 }] { startPc := 0, endPc := 15, handlerPc := 28, catchType := 15 } [] rfl ?_ (by decide) (by decide) w_297 (show _ ∈ roC from List.mem_of_getElem? (i := 2) rfl) 4 2 (by decide) (Or.inr ⟨rfl, dL_matches_28⟩) rfl ?_
      · intro z hz
        simp only [List.mem_cons, List.not_mem_nil, or_false] at hz
        rcases hz with rfl | rfl
        · exact Or.inr ⟨by decide, "java/lang/IndexOutOfBoundsException", w_474, show _ ∈ roN from List.mem_of_getElem? (i := 42) rfl⟩
        · exact Or.inr ⟨by decide, "java/lang/IllegalArgumentException", w_296, show _ ∈ roN from List.mem_of_getElem? (i := 8) rfl⟩
      refine fr_sipush (v := (-1003)) dL_matches_30 (by decide) ?_
      obtain rfl := Option.some.inj h
      exact fr_iret rfl dL_matches_33 ⟨rfl, rfl⟩
    rw [if_neg e4_2] at h
    cases h
