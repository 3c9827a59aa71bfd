/-! ===== pure: the law's history ===== -/
theorem sl_a : ∀ n, n < 9 → ∀ t, t ≤ 8 → ∀ s, s < t → (n + 9 - t + s) % 9 ≠ n := by decide +kernel
theorem sl_b : ∀ n, n < 9 → ∀ t, t < 8 → ∀ s, s ≤ t → ((n + 1) % 9 + 9 - (t + 1) + s) % 9 = (n + 9 - t + s) % 9 := by decide +kernel
theorem sl_c : ∀ n, n < 9 → ∀ t, t ≤ 8 → (n + 9 - t + t) % 9 = n := by decide +kernel
theorem sl_d : ∀ n, n < 9 → ∀ t, t < 8 → (n + 8) % 9 = (n + 9 - (t + 1) + t) % 9 := by decide +kernel
theorem sl_e : ∀ n, n < 9 → ∀ t, t < 8 → ∀ s, s < t → ((n + 8) % 9 + 9 - t + s) % 9 = (n + 9 - (t + 1) + s) % 9 := by decide +kernel
/-- the digest of a state -/
def AskV (b : Nat) (V : St) (a : Int64) : Prop := ∀ h M, Hall b h M → hC h = V → ∃ M', f_L_asks b M = some (a, M') ∧ Hall b h M' ∧ Fo b 343 M M'
/-- t kept changes: the ring's slots and the row of digests name the states before each -/
def Inv (b p6 : Nat) (sv : St) (t : Nat) (M : Mem) : Prop := ∃ h, Hall b h M ∧ WH h ∧ Cn (hC h) ∧ hT h = [] ∧ hB h = true ∧ hV h = sv ∧ hK h = t ∧ t ≤ 8 ∧ mS M p6 = (110, 9) ∧ p6 < mN M ∧ b + 343 ≤ p6 ∧ ∀ s, s < t → Cn (hL h ((hN h + 9 - t + s) % 9)) ∧ AskV b (hL h ((hN h + 9 - t + s) % 9)) (mL M p6 s)
theorem Inv.asks {b p6 t : Nat} {sv : St} {M : Mem} (I : Inv b p6 sv t M) : ∃ a M', f_L_asks b M = some (a, M') ∧ Inv b p6 sv t M' ∧ mN M' = mN M ∧ ∀ j, mL M' p6 j = mL M p6 j := by
  obtain ⟨h, H, w, cn, h0, hb, hv, hk, ht, q1, q2, q3, q4⟩ := I
  obtain ⟨n, hn, e⟩ := id cn
  obtain ⟨a, hA⟩ := l_asks b w.1 hn e
  obtain ⟨M', f1, H1, o1⟩ := hA h M H rfl
  refine ⟨a, M', f1, ⟨h, H1, w, cn, h0, hb, hv, hk, ht, by rw [o1.1.S]; exact q1, by rw [o1.1.N]; exact q2, q3, fun s hs => ⟨(q4 s hs).1, ?_⟩⟩, o1.1.N, fun j => o1.1.L p6 j⟩
  rw [o1.1.L]
  exact (q4 s hs).2
/-- one step back -/
theorem Inv.undo {b p6 t : Nat} {sv : St} {M : Mem} (I : Inv b p6 sv (t + 1) M) : ∃ M', f_L_undo b M = some (ni t, M') ∧ Inv b p6 sv t M' ∧ mN M' = mN M ∧ (∀ j, mL M' p6 j = mL M p6 j) ∧ ∃ h, Hall b h M' ∧ AskV b (hC h) (mL M p6 t) := by
  obtain ⟨h, H, w, cn, h0, hb, hv, hk, ht, q1, q2, q3, q4⟩ := I
  obtain ⟨M', f1, H1, o1⟩ := l_undo H w (by omega)
  have hn := w.2.2.2.1
  have eC : hC (undoH h) = hL h ((hN h + 9 - (t + 1) + t) % 9) := by
    show hL h ((hN h + 8) % 9) = _
    rw [sl_d _ hn t (by omega)]
  refine ⟨M', ?_, ⟨undoH h, H1, w_undo w, ?_, h0, hb, hv, ?_, by omega, by rw [o1.1.S]; exact q1, by rw [o1.1.N]; exact q2, q3, fun s hs => ?_⟩, o1.1.N, fun j => o1.1.L p6 j, ⟨undoH h, H1, ?_⟩⟩
  · rw [f1, hk]
    rfl
  · rw [eC]
    exact (q4 t (by omega)).1
  · show hK h - 1 = t
    omega
  · have e : hL (undoH h) ((hN (undoH h) + 9 - t + s) % 9) = hL h ((hN h + 9 - (t + 1) + s) % 9) := by
      show hL h (((hN h + 8) % 9 + 9 - t + s) % 9) = _
      rw [sl_e _ hn t (by omega) s hs]
    rw [e, o1.1.L]
    exact q4 s (by omega)
  · rw [eC]
    exact (q4 t (by omega)).2
theorem sl_f : ∀ T, T < 9 → ∀ t, t < T → ni T - ni (T - (t + 1) + 1) = ni t := by decide +kernel
theorem h_720 (G : Nat × (Nat → Int32) × Value) (p0 p1 : Nat) (l3 : Int64) (x5 : Int32) {b p6 T : Nat} {sv : St} (hT : T ≤ 8) : ∀ t, t ≤ T → ∀ n, t < n → ∀ M, Inv b p6 sv t M → ∃ M', lp_L_law_720 G p0 p1 b l3 x5 p6 (ni T) n (ni (T - t + 1)) M = some (.inl (ni (T + 1), M')) ∧ Inv b p6 sv 0 M' ∧ mN M' = mN M := by
  intro t
  induction t with
  | zero =>
    intro _ n hn M I
    obtain ⟨n, rfl⟩ : ∃ z, n = z + 1 := ⟨n - 1, by omega⟩
    refine ⟨M, ?_, I, rfl⟩
    rw [lp_L_law_720]
    exact if_pos ((ni_lt (by omega) (by omega)).mpr (by omega))
  | succ t ih =>
    intro ht n hn M I
    obtain ⟨n, rfl⟩ : ∃ z, n = z + 1 := ⟨n - 1, by omega⟩
    obtain ⟨M1, f1, I1, n1, m1, h, H1, A1⟩ := I.undo
    obtain ⟨a, M2, f2, I2, n2, m2⟩ := I1.asks
    obtain ⟨M3, f3, -, -⟩ := A1 h M1 H1 rfl
    have ea : a = mL M p6 t := by
      rw [f2] at f3
      simp only [Option.some.injEq, Prod.mk.injEq] at f3
      exact f3.1
    obtain ⟨M4, f4, I4, n4⟩ := ih (by omega) n (by omega) M2 I2
    refine ⟨M4, ?_, I4, (n4.trans n2).trans n1⟩
    have al : aL M2 p6 (ni t) = some (mL M p6 t) := by
      obtain ⟨_, -, -, -, -, -, -, -, -, q1, q2, -, -⟩ := I2
      unfold aL
      rw [q1, if_pos ⟨rfl, q2, inr_ni (by omega) (by omega)⟩, ni_nat t (by omega), m2, m1]
    rw [lp_L_law_720, if_neg (fun z => by have := (ni_lt (by omega) (by omega)).mp z; omega), f1, Option.bind_some, sl_f T (by omega) t (by omega), if_pos rfl, f2, Option.bind_some, al, Option.bind_some, ea, if_pos (lg_self _), ni_s, show T - (t + 1) + 1 + 1 = T - t + 1 by omega]
    exact f4
