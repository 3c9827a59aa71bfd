/-! ===== pure: the first hall: the way back ===== -/
section H3
variable {G : Nat × (Nat → Int32) × Value}
/-- j steps back -/
def UJ (j : Nat) (h : Hs) : Prop := US (SQ (12 - j)) (fun s => SQ (11 - j - s)) (8 - j) (8 - j) h
theorem UJ.back {j : Nat} (hj : j < 8) {h : Hs} {M : Mem} (H : Hall 0 h M) (u : UJ j h) : ∃ h' M', f_L_undo 0 M = some (ni (7 - j), M') ∧ Hall 0 h' M' ∧ UJ (j + 1) h' ∧ Fo 0 343 M M' := by
  have hk : hK h = 8 - j := u.2.2.1
  obtain ⟨M1, f1, H1, o1⟩ := l_undo H u.1 (by omega)
  rw [hk, show 8 - j - 1 = 7 - j by omega] at f1
  refine ⟨_, M1, f1, H1, ?_, o1⟩
  have u' : US (SQ (12 - j)) (fun s => SQ (11 - j - s)) (7 - j + 1) (7 - j + 1) h := by
    rw [show 7 - j + 1 = 8 - j by omega]
    exact u
  have u2 := u'.undo
  unfold UJ
  rw [show 12 - (j + 1) = 11 - j - 0 by omega, show 8 - (j + 1) = 7 - j by omega, show (fun s => SQ (11 - (j + 1) - s)) = (fun s => SQ (11 - j - (s + 1))) from funext fun s => by rw [show 11 - (j + 1) - s = 11 - j - (s + 1) by omega]]
  exact u2
theorem q11 : (if isL 4 then (if SQ 11 2 (sx 4) = -1 then -1002 else SQ 11 2 (sx 4)) else -1001) = (8 : Int32) ∧ (if isL 4 then (if SQ 11 2 (sx 4) = -1 then -1002 else SQ 11 (3 + 3 * sx (SQ 11 2 (sx 4))) 7) else -1001) = (3 : Int32) := by decide +kernel
theorem q10 : (if isL 8 then (if SQ 10 2 (sx 8) = -1 then -1002 else SQ 10 2 (sx 8)) else -1001) = (-1002 : Int32) := by decide +kernel
theorem q9 : (if isL 4 then (if SQ 9 2 (sx 4) = -1 then -1002 else SQ 9 2 (sx 4)) else -1001) = (-1002 : Int32) := by decide +kernel
theorem q8 : (if hasS (SQ 8) 8 then SQ 8 (3 + 3 * sx 8) 4 else -1001) = (6 : Int32) ∧ SQ 8 0 3 = 20 := by decide +kernel
theorem q7 : (if hasS (SQ 7) 8 then SQ 7 (3 + 3 * sx 8) 5 else -1001) = (1 : Int32) := by decide +kernel
theorem q6 : SQ 6 0 5 = 0 := by decide +kernel
theorem q5 : (if hasS (SQ 5) 8 then SQ 5 (3 + 3 * sx 8) 3 else -1001) = (5 : Int32) := by decide +kernel
theorem q4 : (if hasS (SQ 4) 8 then SQ 4 (3 + 3 * sx 8) 3 else -1001) = (4 : Int32) := by decide +kernel
theorem r_335 {h : Hs} {M : Mem} (H : Hall 0 h M) (u : UH8 12 h) : ∃ h' M', rg_L_law_335 G ROB 0 M = some (.inl M') ∧ Hall 0 h' M' ∧ Fo 0 343 M M' := by
  obtain ⟨h1, M1, f1, H1, u1, o1⟩ := UJ.back (j := 0) (by decide) H u
  have e1 : hC h1 = SQ 11 := u1.2.1
  have w1 := u1.1.1
  have a1 := l_sheetIn H1.hc 4
  have a2 := l_turnsIn H1.hc w1 4
  rw [e1, q11.1] at a1
  rw [e1, q11.2] at a2
  obtain ⟨h2, M2, f2, H2, u2, o2⟩ := UJ.back (j := 1) (by decide) H1 u1
  have e2 : hC h2 = SQ 10 := u2.2.1
  have b1 := l_sheetIn H2.hc 8
  rw [e2, q10] at b1
  obtain ⟨h3, M3, f3, H3, u3, o3⟩ := UJ.back (j := 2) (by decide) H2 u2
  have e3 : hC h3 = SQ 9 := u3.2.1
  have c1 := l_sheetIn H3.hc 4
  rw [e3, q9] at c1
  obtain ⟨h4, M4, f4, H4, u4, o4⟩ := UJ.back (j := 3) (by decide) H3 u3
  have e4 : hC h4 = SQ 8 := u4.2.1
  have d1 := l_wear H4.hc u4.1.1 8
  have d2 := x_paste H4.hc
  rw [e4, q8.1] at d1
  rw [e4, q8.2] at d2
  obtain ⟨h5, M5, f5, H5, u5, o5⟩ := UJ.back (j := 4) (by decide) H4 u4
  have e5 : hC h5 = SQ 7 := u5.2.1
  have g1 := l_isFolded H5.hc u5.1.1 8
  rw [e5, q7] at g1
  obtain ⟨h6, M6, f6, H6, u6, o6⟩ := UJ.back (j := 5) (by decide) H5 u5
  have e6 : hC h6 = SQ 6 := u6.2.1
  have k1 := x_folds H6.hc
  rw [e6, q6] at k1
  obtain ⟨h7, M7, f7, H7, u7, o7⟩ := UJ.back (j := 6) (by decide) H6 u6
  have e7 : hC h7 = SQ 5 := u7.2.1
  have m1 := l_creaseCount H7.hc u7.1.1 8
  rw [e7, q5] at m1
  obtain ⟨h8, M8, f8, H8, u8, o8⟩ := UJ.back (j := 7) (by decide) H7 u7
  have e8 : hC h8 = SQ 4 := u8.2.1
  have n1 := l_creaseCount H8.hc u8.1.1 8
  rw [e8, q4] at n1
  have f9 := l_undo_no H8 u8.2.2.1
  obtain ⟨M10, f10, H10, o10⟩ := l_restore H8 u8.1 u8.2.2.2.1
  have ev : hV h8 = V0 := u8.2.2.2.2.1
  rw [ev, v0_0] at f10
  have ec : hC (restH h8) = V0 := ev
  have s1 := x_count H10.hc
  have s2 := x_paste H10.hc
  rw [ec, v0_0] at s1 s2
  have f11 := l_undo_no H10 (show hK (restH h8) = 0 from rfl)
  refine ⟨_, M10, ?_, H10, (((((((o1.tr o2).tr o3).tr o4).tr o5).tr o6).tr o7).tr o8).tr o10⟩
  have x1 : ni (7 - 0) = 7 ∧ ni (7 - 1) = 6 ∧ ni (7 - 2) = 5 ∧ ni (7 - 3) = 4 ∧ ni (7 - 4) = 3 ∧ ni (7 - 5) = 2 ∧ ni (7 - 6) = 1 ∧ ni (7 - 7) = 0 := ⟨rfl, rfl, rfl, rfl, rfl, rfl, rfl, rfl⟩
  rw [x1.1] at f1
  rw [x1.2.1] at f2
  rw [x1.2.2.1] at f3
  rw [x1.2.2.2.1] at f4
  rw [x1.2.2.2.2.1] at f5
  rw [x1.2.2.2.2.2.1] at f6
  rw [x1.2.2.2.2.2.2.1] at f7
  rw [x1.2.2.2.2.2.2.2] at f8
  rw [rg_L_law_335, f1, Option.bind_some, if_pos rfl, a1, Option.bind_some, if_pos rfl, a2, Option.bind_some, if_pos rfl, f2, Option.bind_some, if_pos rfl, b1, Option.bind_some, if_pos rfl, f3, Option.bind_some, if_pos rfl, c1, Option.bind_some, if_pos rfl, f4, Option.bind_some, if_pos rfl, d1, Option.bind_some, if_pos rfl, H4.1.rc10, Option.bind_some, d2, Option.bind_some, if_pos rfl, f5, Option.bind_some, if_pos rfl, g1, Option.bind_some, if_pos rfl, f6, Option.bind_some, if_pos rfl, H6.1.rc10, Option.bind_some, k1, Option.bind_some, if_pos rfl, f7, Option.bind_some, if_pos rfl, m1, Option.bind_some, if_pos rfl, f8, Option.bind_some, if_pos rfl, n1, Option.bind_some, if_pos rfl, f9, Option.bind_some, if_pos rfl, f10, Option.bind_some, if_pos rfl, H10.1.rc10, Option.bind_some, s1, Option.bind_some, if_pos rfl, Option.bind_some, s2, Option.bind_some, if_pos rfl, f11, Option.bind_some, if_pos rfl]
end H3
