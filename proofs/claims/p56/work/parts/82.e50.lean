/-! ===== pure: sixty signs fed ===== -/
def lt9 (n : Nat) : List Int32 := (List.range n).map fun i => ni (65 + i)
theorem lt9_len (n : Nat) : (lt9 n).length = n := by simp [lt9]
theorem lt9_s (n : Nat) : lt9 n ++ [ni (65 + n)] = lt9 (n + 1) := by simp [lt9, List.range_succ]
theorem r_60 : mRead (lt9 60) = some (0, []) := by decide +kernel
theorem r_m : mRead [109] = some (1, []) := by decide +kernel
theorem c_65 : ∀ i, i < 60 → (((65 + ni i).toUInt32 % 65536).toInt32) = ni (65 + i) ∧ vp_nar .char (ni (65 + i)) = ni (65 + i) := by decide +kernel
theorem e_50 (G : Nat × (Nat → Int32) × Value) (p0 : Nat) {b : Nat} {h : Hs} : ∀ k, k ≤ 60 → ∀ n, k < n → ∀ M, Hall b (txH h (lt9 (60 - k))) M → ∃ M', lp_L_law_50 G p0 b n (ni (60 - k)) M = some (.inl (60, M')) ∧ Hall b (txH h (lt9 60)) M' ∧ Fo b 343 M M' := by
  intro k
  induction k with
  | zero =>
    intro _ n hn M H
    obtain ⟨n, rfl⟩ : ∃ z, n = z + 1 := ⟨n - 1, by omega⟩
    refine ⟨M, ?_, H, Fo.rf _ _ _⟩
    rw [lp_L_law_50]
    exact if_pos (by decide)
  | succ k ih =>
    intro hk n hn M H
    obtain ⟨n, rfl⟩ : ∃ z, n = z + 1 := ⟨n - 1, by omega⟩
    have hi : 60 - (k + 1) < 60 := by omega
    obtain ⟨c1, c2⟩ := c_65 _ hi
    have hlen : (hT (txH h (lt9 (60 - (k + 1))))).length = 60 - (k + 1) := lt9_len _
    obtain ⟨M1, f1, H1, o1⟩ := l_feed H c2 (by rw [hlen]; exact hi)
    rw [hlen] at f1
    have H2 : Hall b (txH h (lt9 (60 - k))) M1 := by
      rw [show 60 - k = 60 - (k + 1) + 1 by omega, ← lt9_s]
      exact H1
    obtain ⟨M2, f2, H3, o2⟩ := ih (by omega) n (by omega) M1 H2
    refine ⟨M2, ?_, H3, o1.tr o2⟩
    have hneg : ¬ (60 : Int32) ≤ ni (60 - (k + 1)) := fun z => by
      have := (ni_le (i := 60) (by omega) (by omega)).mp z
      omega
    rw [lp_L_law_50, if_neg hneg, c1, f1, Option.bind_some, ni_s, if_pos rfl, show 60 - (k + 1) + 1 = 60 - k by omega]
    exact f2
