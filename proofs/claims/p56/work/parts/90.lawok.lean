/-! ===== pure: the law answers 1 ===== -/
section LW
variable {G : Nat × (Nat → Int32) × Value}
theorem law_ok (hG : G.1 ≤ 260) : ∃ M', f_L_law G ROB eM = some (1, M') := by
  have n0 : mN eM = 0 := rfl
  have g0 : gd eM [(0, .ref ROB)] [] = some () := gd_ok (by rw [n0]; decide) (by simp [clLS, clo])
  have w0 : Nw 10 0 0 (mNew eM 10 0) := Nw.mk n0
  have g1 : gd (mNew eM 10 0) [(0, .ref ROB)] [.ref 0] = some () := gd_ok (by rw [w0.1]; decide) (by rw [w0.1]; simp [clLS, clo])
  obtain ⟨M1, f1, H1, n1, -⟩ := x_i10 w0 (by decide)
  obtain ⟨h2, M2, f2, H2, u2, o2⟩ := r_8 (G := G) H1
  obtain ⟨h3, M3, f3, H3, u3, o3⟩ := r_138 (G := G) H2 u2.1
  obtain ⟨h4, M4, f4, H4, o4⟩ := r_335 (G := G) H3 u3
  have n4 : mN M4 = 343 := by rw [o4.1.N, o3.1.N, o2.1.N, n1]
  have g2 : gd M4 [(0, .ref ROB), (1, .ref 0)] [] = some () := gd_ok (by rw [n4]; decide) (by rw [n4]; simp [clLS, clo])
  have w4 : Nw 10 0 343 (mNew M4 10 0) := Nw.mk n4
  have g3 : gd (mNew M4 10 0) [(0, .ref ROB), (1, .ref 0)] [.ref 343] = some () := gd_ok (by rw [w4.1]; decide) (by rw [w4.1]; simp [clLS, clo])
  obtain ⟨M5, f5, H5, n5, -⟩ := x_i10 w4 (by decide)
  obtain ⟨M6, f6, ⟨h6, H6, w6, ⟨m, hm, e6⟩, t6⟩, o6⟩ := k_makes (b := 343) G hG M5 ⟨h00, H5, w_h00, ⟨rfl, rfl, fun i _ _ => ⟨by show V0 _ _ = _; rw [v0_3]; rfl, by show V0 _ _ = _; rw [v0_3]; rfl⟩⟩, rfl⟩
  obtain ⟨a, hA⟩ := l_asks 343 w6.1 hm e6
  obtain ⟨M7, f7, H7, o7⟩ := hA h6 M6 H6 rfl
  obtain ⟨M8, f8, H8, o8⟩ := hA h6 M7 H7 rfl
  obtain ⟨M9, f9, ⟨h9, H9, w9, c9, k9, t9⟩, o9⟩ := t_thrown (b := 343) w6.1 hm e6 (hK h6) M8 ⟨h6, H8, w6, rfl, rfl, t6⟩
  obtain ⟨M10, f10, H10, o10⟩ := x_save H9 w9
  have w10 := w_save w9
  have f11 := x_count H10.hc
  have c10 : hC (saveH h9) = hC h6 := c9
  rw [c9] at f10
  rw [c10] at f11
  obtain ⟨M12, f12, H12, o12⟩ := hA (saveH h9) M10 H10 c10
  obtain ⟨M13, f13, H13, o13⟩ := l_restore H12 w10 rfl
  have w13 := w_rest w10
  have v10 : hV (saveH h9) = hC h6 := c9
  rw [v10] at f13
  have f14 := x_undos H13
  have k13 : ni (hK (restH (saveH h9))) = 0 := rfl
  rw [k13] at f14
  have n13 : mN M13 = 686 := by rw [o13.1.N, o12.1.N, o10.1.N, o9.1.N, o8.1.N, o7.1.N, o6.1.N, n5]
  have g4 : gd M13 [(0, .ref ROB), (1, .ref 0), (2, .ref 343), (3, .long a), (5, .int (hC h6 0 2))] [] = some () := gd_ok (by rw [n13]; decide) (by rw [n13]; simp [clLS, clo])
  have H14 : Hall 343 (restH (saveH h9)) (mNew M13 110 9) := H13.lo (Lo.new M13 110 9) (by rw [n13]; decide) (by rw [mN_new]; omega)
  have I14 : Inv 343 686 (hC h6) 0 (mNew M13 110 9) := ⟨restH (saveH h9), H14, w13, ⟨m, hm, by show hC h9 0 2 = _; rw [c9]; exact e6⟩, t9, rfl, v10, rfl, by decide, by rw [mS_new, if_pos n13.symm], by rw [mN_new, n13]; decide, by decide, fun s hs => absurd hs (Nat.not_lt_zero s)⟩
  obtain ⟨T, M15, hT, f15, I15⟩ := h_639 G hG 0 a (hC h6 0 2) 8 (by decide) 9 (by decide) 0 (mNew M13 110 9) (by decide) I14 (by rw [mN_new, n13]; decide) (by rw [mN_new, n13]; decide)
  have f15' : lp_L_law_639 G ROB 0 343 a (hC h6 0 2) 686 9 0 0 (mNew M13 110 9) = some (.inl (ni T, ni 8, M15)) := f15
  obtain ⟨M16, f16, I16, -⟩ := h_720 G ROB 0 a (hC h6 0 2) (b := 343) (p6 := 686) (sv := hC h6) hT T (Nat.le_refl _) 10 (by omega) M15 I15
  rw [Nat.sub_self] at f16
  have f16' : lp_L_law_720 G ROB 0 343 a (hC h6 0 2) 686 (ni T) 10 1 M15 = some (.inl (ni (T + 1), M16)) := f16
  obtain ⟨h16, H16, w16, -, t16, b16, v16, k16, -⟩ := I16
  have f17 := l_undo_no H16 k16
  obtain ⟨M18, f18, H18, o18⟩ := l_restore H16 w16 b16
  rw [v16] at f18
  obtain ⟨M19, f19, H19, o19⟩ := hA (restH h16) M18 H18 v16
  have f20 := l_undo_no H19 (show hK (restH h16) = 0 from rfl)
  refine ⟨M19, ?_⟩
  have lc : lg_cmp a a = 0 := lg_self a
  rw [f_L_law, g0, Option.bind_some, Option.bind_some, n0, g1, Option.bind_some, f1, Option.bind_some, f2, Option.bind_some]
  dsimp only
  rw [f3, Option.bind_some]
  dsimp only
  rw [f4, Option.bind_some]
  dsimp only
  rw [g2, Option.bind_some, Option.bind_some, n4, g3, Option.bind_some, f5, Option.bind_some, f6, Option.bind_some, if_neg (show ¬ (1 : Int32) = 0 by decide), f7, Option.bind_some, f8, Option.bind_some, if_pos lc, f9, Option.bind_some, if_neg (show ¬ (1 : Int32) = 0 by decide), H9.1.rc10, Option.bind_some, f10, Option.bind_some, H10.1.rc10, Option.bind_some, f11, Option.bind_some, if_pos rfl, f12, Option.bind_some, if_pos lc, f13, Option.bind_some, if_pos rfl, H13.1.rc10, Option.bind_some, f14, Option.bind_some, if_pos rfl, g4, Option.bind_some, na4.2.2.2.1, Option.bind_some, Option.bind_some, tn4.2.2.2.1, n13, f15', Option.bind_some]
  dsimp only
  rw [f16', Option.bind_some]
  dsimp only
  rw [f17, Option.bind_some, if_pos rfl, f18, Option.bind_some, if_pos rfl, f19, Option.bind_some, if_pos lc, f20, Option.bind_some, if_pos rfl]
end LW
