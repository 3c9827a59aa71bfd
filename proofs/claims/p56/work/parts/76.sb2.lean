/-! ===== pure: a text begun and ended ===== -/
/-- cells below N stay -/
def Lo (N : Nat) (M M' : Mem) : Prop := ∀ k, k < N → mS M' k = mS M k ∧ ∀ j, mI M' k j = mI M k j ∧ mL M' k j = mL M k j ∧ mP M' k j = mP M k j
theorem Lo.tr {N : Nat} {M M' M'' : Mem} (h : Lo N M M') (k : Lo N M' M'') : Lo N M M'' := fun a ha => ⟨(k a ha).1.trans (h a ha).1, fun j => ⟨((k a ha).2 j).1.trans ((h a ha).2 j).1, ((k a ha).2 j).2.1.trans ((h a ha).2 j).2.1, ((k a ha).2 j).2.2.trans ((h a ha).2 j).2.2⟩⟩
theorem Lo.fo {N n : Nat} {M M' : Mem} (o : Fo N n M M') : Lo N M M' := fun k hk => ⟨o.1.S k, fun j => ⟨o.2 k j (Or.inl hk), o.1.L k j, o.1.P k j⟩⟩
theorem Lo.new (M : Mem) (t n : Nat) : Lo (mN M) M (mNew M t n) := fun k hk => ⟨if_neg (by omega), fun j => ⟨if_neg (by omega), if_neg (by omega), if_neg (by omega)⟩⟩
theorem Lo.mo {N N' : Nat} {M M' : Mem} (h : Lo N M M') (hn : N' ≤ N) : Lo N' M M' := fun k hk => h k (by omega)
theorem Lo.p {N a j : Nat} (M : Mem) (x : Value) (ha : N ≤ a) : Lo N M (mUP M a j x) := fun k hk => ⟨rfl, fun i => ⟨rfl, rfl, if_neg (by omega)⟩⟩
theorem mI_new (M : Mem) (t n k j : Nat) : mI (mNew M t n) k j = if k = mN M then 0 else mI M k j := rfl
theorem mS_new (M : Mem) (t n k : Nat) : mS (mNew M t n) k = if k = mN M then (t, n) else mS M k := rfl
theorem mN_new (M : Mem) (t n : Nat) : mN (mNew M t n) = mN M + 1 := rfl
theorem mP_new (M : Mem) (t n k j : Nat) : mP (mNew M t n) k j = if k = mN M then .null else mP M k j := rfl
theorem mP_UP (M : Mem) (k j a b : Nat) (x : Value) : mP (mUP M k j x) a b = if a = k ∧ b = j then x else mP M a b := rfl
theorem gd_ok {M : Mem} {L : List (Nat × Value)} {S : List Value} (h : mN M < ROB) (h2 : clLS (mN M) L S = true) : gd M L S = some () := if_pos ⟨h, h2⟩
section SB2
variable {N : Nat} {M : Mem}
/-- a new one -/
theorem sb_new (hN : mN M = N) (hR : N + 50 < ROB) : ∃ M', f_J4_init_da8c8 N (mNew M 1 0) = some ((), M') ∧ SBt N [] M' ∧ mN M' = N + 2 ∧ Lo N M M' := by
  have n1 : mN (mNew M 1 0) = N + 1 := by rw [mN_new, hN]
  have n2 : mN (mNew (mNew M 1 0) 102 16) = N + 2 := by rw [mN_new, n1]
  have g1 : gd (mNew M 1 0) [(0, .ref N)] [] = some () := gd_ok (by omega) (by rw [n1]; simp [clLS, clo])
  have g2 : gd (mNew M 1 0) [(0, .ref N), (1, .int 16)] [.ref N] = some () := gd_ok (by omega) (by rw [n1]; simp [clLS, clo])
  have s1 : mS (mNew (mNew M 1 0) 102 16) N = (1, 0) := by rw [mS_new, if_neg (by omega), mS_new, if_pos hN.symm]
  have p1 : sP (mNew (mNew M 1 0) 102 16) 1 N 0 (N + 1) = some (mUP (mNew (mNew M 1 0) 102 16) N 0 (.ref (N + 1))) := by
    unfold sP
    exact if_pos ⟨by rw [s1], by omega, by rw [n2]; simp [clo]⟩
  have p2 : sI (mUP (mNew (mNew M 1 0) 102 16) N 0 (.ref (N + 1))) 1 N 1 .byte 0 = some (mUI (mUP (mNew (mNew M 1 0) 102 16) N 0 (.ref (N + 1))) N 1 0) := by
    unfold sI
    exact if_pos ⟨by show (mS (mNew (mNew M 1 0) 102 16) N).1 = 1; rw [s1], by show N < mN (mNew (mNew M 1 0) 102 16); omega, rfl, rfl⟩
  refine ⟨mUI (mUP (mNew (mNew M 1 0) 102 16) N 0 (.ref (N + 1))) N 1 0, ?_, ⟨?_, by omega, s1, ?_, ?_, ?_, ?_, fun i hi => absurd hi (Nat.not_lt_zero i)⟩, n2, ?_⟩
  · unfold f_J4_init_da8c8 f_J5_init_d00df
    rw [g1, Option.bind_some, g2, Option.bind_some, show na 16 = some () by decide, Option.bind_some, Option.bind_some, n1, show (16 : Int32).toNatClampNeg = 16 by decide, p1, Option.bind_some, p2]
    rfl
  · show N + 2 ≤ mN (mNew (mNew M 1 0) 102 16)
    omega
  · show mP (mUP (mNew (mNew M 1 0) 102 16) N 0 (.ref (N + 1))) N 0 = _
    rw [mP_UP, if_pos ⟨rfl, rfl⟩]
  · rw [mI_UI, if_pos ⟨rfl, rfl⟩]
  · rw [mI_UI, if_neg (by omega)]
    show mI (mNew (mNew M 1 0) 102 16) N 3 = _
    rw [mI_new, if_neg (by omega), mI_new, if_pos hN.symm]
    rfl
  · show mS (mNew (mNew M 1 0) 102 16) (N + 1) = _
    rw [mS_new, if_pos n1.symm]
  · have l1 : Lo N M (mNew M 1 0) := hN ▸ Lo.new M 1 0
    have l2 : Lo N (mNew M 1 0) (mNew (mNew M 1 0) 102 16) := (Lo.new (mNew M 1 0) 102 16).mo (by omega)
    exact ((l1.tr l2).tr (Lo.p _ _ (Nat.le_refl N))).tr (Lo.fo (n := 1) (Fo.up _ _ _ (by omega)))
end SB2
