/-! ===== pure: the String made of it ===== -/
/-- a String at N, its row behind it -/
def St9 (N : Nat) (c : List Int32) (M : Mem) : Prop := N + 2 ≤ mN M ∧ N + 2 ≤ ROB ∧ mS M N = (0, 0) ∧ mP M N 0 = .ref (N + 1) ∧ mI M N 1 = 0 ∧ mS M (N + 1) = (102, c.length) ∧ ∀ i, i < c.length → mI M (N + 1) i = c.getD i 0
def okT (c : List Int32) : Prop := c.length < 16 ∧ ∀ i, i < c.length → (((c.getD i 0) &&& 255).toUInt32 % 65536).toInt32 = c.getD i 0 ∧ nr .char (c.getD i 0) = some () ∧ fits .byte (.int (c.getD i 0)) = true
section SB3
variable {N : Nat} {c : List Int32} {M : Mem}
theorem St9.fo {b : Nat} {M' : Mem} (h : St9 N c M) (o : Fo b 343 M M') (hb : b + 343 ≤ N) : St9 N c M' := by
  obtain ⟨q1, q2, q3, q4, q5, q6, q7⟩ := h
  exact ⟨by rw [o.1.N]; exact q1, q2, by rw [o.1.S]; exact q3, by rw [o.1.P]; exact q4, by rw [o.2 _ _ (by omega)]; exact q5, by rw [o.1.S]; exact q6, fun i hi => by rw [o.2 _ _ (by omega)]; exact q7 i hi⟩
theorem St9.txt (h : St9 N c M) (k : okT c) : Txt N c M := by
  obtain ⟨q1, q2, q3, q4, q5, q6, q7⟩ := h
  have r : rcS M N = some () := by
    unfold rcS
    exact if_pos (Or.inr ⟨by rw [q3], by omega⟩)
  have v : sV M N = some (N + 1) := by
    unfold sV gP
    rw [if_neg (by omega), q3, if_pos ⟨rfl, by omega⟩, q4]
  have co : sC M N = some 0 := by
    unfold sC gI
    rw [if_neg (by omega), q3, if_pos ⟨rfl, by omega⟩, q5]
  have le : bL M (N + 1) = some (ni c.length) := by
    unfold bL aLn
    rw [if_neg (by omega), q6, if_pos ⟨rfl, by omega⟩]
  have hl := k.1
  refine ⟨r, ?_, fun i hi => ?_⟩
  · unfold f_J0_length_8abf5 f_J0_coder_7d493
    simp only [v, le, r, co, Option.bind_some, show nr .byte 0 = some () from rfl, shr0 c.length (by omega)]
  · have g : bG M (N + 1) (ni i) = some (c.getD i 0) := by
      unfold bG aI
      rw [if_neg (by omega), if_neg (by omega), q6, if_pos ⟨rfl, by omega, inr_ni (by omega) hi⟩, ni_nat i (by omega), q7 i hi]
    obtain ⟨k1, k2, -⟩ := k.2 i hi
    unfold f_J0_charAt_5068e f_J0_isLatin1_aae02 f_J1_charAt_3b067 f_J0_checkIndex_df160 f_J3_checkIndex_8e157
    simp only [r, co, v, le, g, Option.bind_some, if_true, if_neg (show ¬ (1 : Int32) = 0 by decide), if_neg (ni_pos i (by omega)), if_pos ((ni_lt (by omega) (by omega)).mpr hi : ni i < ni c.length), k1, k2]
theorem n16 : ∀ k, k < 16 → ¬ ni k = Int32.ofNat 16 ∧ ni k - 0 = ni k ∧ (0 : Int32) ≤ ni k ∧ na (ni k) = some () ∧ ni k < Int32.ofNat 16 - 0 ∧ (ni k).toNatClampNeg = k := by decide +kernel
/-- the end of it -/
theorem sb_end (h : SBt N c M) (hN : mN M = N + 2) (hR : N + 50 < ROB) (k : okT c) : ∃ M', f_J4_toString_0e30d N M = some (N + 2, M') ∧ St9 (N + 2) c M' ∧ mN M' = N + 4 ∧ Lo N M M' := by
  obtain ⟨q1, q2, q3, q4, q5, q6, q7, q8⟩ := id h
  have z := n16 c.length k.1
  have nS : mN (mNew M 0 0) = N + 3 := by rw [mN_new, hN]
  have h2 : SBt N c (mNew M 0 0) := ⟨by omega, q2, by rw [mS_new, if_neg (by omega)]; exact q3, by rw [mP_new, if_neg (by omega)]; exact q4, by rw [mI_new, if_neg (by omega)]; exact q5, by rw [mI_new, if_neg (by omega)]; exact q6, by rw [mS_new, if_neg (by omega)]; exact q7, fun i hi => by rw [mI_new, if_neg (by omega)]; exact q8 i hi⟩
  have s2 : mS (mNew M 0 0) (N + 2) = (0, 0) := by rw [mS_new, if_pos hN.symm]
  have l2 : Lo N M (mNew M 0 0) := (Lo.new M 0 0).mo (by omega)
  generalize hM2 : mNew M 0 0 = M2 at nS h2 s2 l2
  have e8 : sI M2 0 (N + 2) 1 .byte 0 = some (mUI M2 (N + 2) 1 0) := by
    unfold sI
    exact if_pos ⟨by rw [s2], by omega, rfl, rfl⟩
  have n8 : mN (mUI M2 (N + 2) 1 0) = N + 3 := nS
  have h8 : SBt N c (mUI M2 (N + 2) 1 0) := by
    obtain ⟨p1, p2, p3, p4, p5, p6, p7, p8⟩ := h2
    exact ⟨by omega, p2, p3, p4, by rw [mI_UI, if_neg (by omega)]; exact p5, by rw [mI_UI, if_neg (by omega)]; exact p6, p7, fun i hi => by rw [mI_UI, if_neg (by omega)]; exact p8 i hi⟩
  have s8 : mS (mUI M2 (N + 2) 1 0) (N + 2) = (0, 0) := s2
  have i8 : mI (mUI M2 (N + 2) 1 0) (N + 2) 1 = 0 := by rw [mI_UI, if_pos ⟨rfl, rfl⟩]
  have l8 : Lo N M2 (mUI M2 (N + 2) 1 0) := Lo.fo (n := 3) (Fo.up _ _ _ (by omega))
  generalize hM8 : mUI M2 (N + 2) 1 0 = M8 at e8 n8 h8 s8 i8 l8
  have n3 : mN (mNew M8 102 c.length) = N + 4 := by rw [mN_new, n8]
  have h3 : SBt N c (mNew M8 102 c.length) := by
    obtain ⟨p1, p2, p3, p4, p5, p6, p7, p8⟩ := h8
    exact ⟨by omega, p2, by rw [mS_new, if_neg (by omega)]; exact p3, by rw [mP_new, if_neg (by omega)]; exact p4, by rw [mI_new, if_neg (by omega)]; exact p5, by rw [mI_new, if_neg (by omega)]; exact p6, by rw [mS_new, if_neg (by omega)]; exact p7, fun i hi => by rw [mI_new, if_neg (by omega)]; exact p8 i hi⟩
  have s3 : mS (mNew M8 102 c.length) (N + 3) = (102, c.length) := by rw [mS_new, if_pos n8.symm]
  have s3' : mS (mNew M8 102 c.length) (N + 2) = (0, 0) := by rw [mS_new, if_neg (by omega)]; exact s8
  have i3 : mI (mNew M8 102 c.length) (N + 2) 1 = 0 := by rw [mI_new, if_neg (by omega)]; exact i8
  have l3 : Lo N M8 (mNew M8 102 c.length) := (Lo.new M8 102 c.length).mo (by omega)
  generalize hM3 : mNew M8 102 c.length = M3 at n3 h3 s3 s3' i3 l3
  have cp : cpB M3 (N + 1) (N + 3) 0 0 (ni c.length) = some (mCpy M3 (N + 1) (N + 3) 0 0 c.length) := by
    obtain ⟨p1, p2, p3, p4, p5, p6, p7, p8⟩ := h3
    have hl := k.1
    unfold cpB cpy
    rw [if_neg (by omega), z.2.2.2.2.2, p7, s3]
    refine if_pos ⟨rfl, rfl, by omega, by omega, by decide, by decide, ni_pos _ (by omega), by show 0 + c.length ≤ 16; omega, by show 0 + c.length ≤ c.length; omega, ?_⟩
    rw [List.all_eq_true]
    intro i hi
    have hi' := List.mem_range.mp hi
    rw [show (0 : Int32).toNatClampNeg + i = i by show 0 + i = i; omega, p8 i hi']
    exact (k.2 i hi').2.2
  have o6 : Fo (N + 3) 1 M3 (mCpy M3 (N + 1) (N + 3) 0 0 c.length) := ⟨Sh.cpy _ _ _ _ _ _, fun a j hk => by rw [mI_cpy, if_neg (by omega)]⟩
  have c6 : ∀ i, i < c.length → mI (mCpy M3 (N + 1) (N + 3) 0 0 c.length) (N + 3) i = c.getD i 0 := fun i hi => by
    rw [mI_cpy, if_pos ⟨rfl, hi⟩]
    exact h3.2.2.2.2.2.2.2 i hi
  generalize hM6 : mCpy M3 (N + 1) (N + 3) 0 0 c.length = M6 at cp o6 c6
  have n6 : mN M6 = N + 4 := by rw [o6.1.N]; exact n3
  have e11 : sP M6 0 (N + 2) 0 (N + 3) = some (mUP M6 (N + 2) 0 (.ref (N + 3))) := by
    unfold sP
    exact if_pos ⟨by rw [o6.1.S, s3'], by omega, by rw [n6]; simp [clo]⟩
  refine ⟨mUP M6 (N + 2) 0 (.ref (N + 3)), ?_, ⟨by show N + 2 + 2 ≤ mN M6; omega, by omega, by show mS M6 (N + 2) = _; rw [o6.1.S]; exact s3', by rw [mP_UP, if_pos ⟨rfl, rfl⟩], by show mI M6 (N + 2) 1 = _; rw [o6.2 _ _ (by omega)]; exact i3, by show mS M6 (N + 3) = _; rw [o6.1.S]; exact s3, c6⟩, n6, (((l2.tr l8).tr l3).tr ((Lo.fo o6).mo (by omega))).tr (Lo.p _ _ (by omega))⟩
  have f2 := h2.f
  have f8 := h8.f
  have f3 := h3.f
  have l6 : mI M2 N 3 = ni c.length := h2.2.2.2.2.2.1
  have l5 : mI M2 N 1 = 0 := h2.2.2.2.2.1
  unfold f_J4_toString_0e30d f_J0_init_81219 f_J0_init_db425 f_J5_getValue_6d5f1 f_J4_length_8abf5 f_J5_length_8abf5 f_J5_isLatin1_aae02 f_J7_copyOfRange_39247 f_J7_copyOfRangeByte_39247 f_J7_checkLength_df160 f_J9_min_7cf53
  rw [hM2, hN]
  rw [gd_ok (by omega) (by rw [hN]; simp [clLS, clo])]
  simp only [Option.bind_some]
  rw [gd_ok (M := M2) (L := [(0, .ref N)]) (by omega) (by rw [nS]; simp [clLS, clo])]
  simp only [Option.bind_some]
  rw [gd_ok (M := M2) (L := [(0, .ref (N + 2)), (1, .ref N)]) (by omega) (by rw [nS]; simp [clLS, clo])]
  simp only [Option.bind_some, f2.1, f2.2.1, f2.2.2.1, l6, l5, if_true, if_neg (show ¬ (1 : Int32) = 0 by decide), e8]
  rw [gd_ok (M := M8) (by omega) (by rw [n8]; simp [clLS, clo])]
  simp only [Option.bind_some, f8.2.2.2.1, if_neg z.1, z.2.1]
  rw [gd_ok (M := M8) (L := [(0, .ref (N + 1)), (1, .int 0), (2, .int (ni c.length))]) (by omega) (by rw [n8]; simp [clLS, clo])]
  simp only [Option.bind_some, if_pos z.2.2.1]
  rw [gd_ok (M := M8) (by omega) (by rw [n8]; simp [clLS, clo])]
  simp only [Option.bind_some, z.2.2.2.1, z.2.2.2.2.2, hM3, f3.2.2.2.1, if_pos z.2.2.2.2.1, n8, cp, e11]
end SB3
