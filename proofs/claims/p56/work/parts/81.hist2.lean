/-! ===== pure: the loop of changes ===== -/
theorem h_639 (G : Nat × (Nat → Int32) × Value) (hG : G.1 ≤ 260) (p1 : Nat) (l3 : Int64) (x5 : Int32) {b p6 : Nat} {sv : St} : ∀ k, k ≤ 8 → ∀ n, k < n → ∀ t M, t ≤ 8 - k → Inv b p6 sv t M → mN M + 4 * k + 200 < ROB → p1 < mN M → ∃ T M', T ≤ 8 ∧ lp_L_law_639 G ROB p1 b l3 x5 p6 n (ni t) (ni (8 - k)) M = some (.inl (ni T, ni 8, M')) ∧ Inv b p6 sv T M' := by
  intro k
  induction k with
  | zero =>
    intro _ n hn t M ht I _ _
    obtain ⟨n, rfl⟩ : ∃ z, n = z + 1 := ⟨n - 1, by omega⟩
    refine ⟨t, M, ht, ?_, I⟩
    rw [lp_L_law_639]
    exact if_pos (by decide)
  | succ k ih =>
    intro hk8 n hn t M ht I hR hp
    obtain ⟨n, rfl⟩ : ∃ z, n = z + 1 := ⟨n - 1, by omega⟩
    obtain ⟨h, H, w, cn, h0, hb, hv, hk, ht8, q1, q2, q3, q4⟩ := I
    obtain ⟨m, hm, e⟩ := id cn
    obtain ⟨a, hA⟩ := l_asks b w.1 hm e
    obtain ⟨M1, f1, H1, o1⟩ := hA h M H rfl
    have n1 : mN M1 = mN M := o1.1.N
    obtain ⟨r, h', M2, f2, H2, w2, cn2, cd, fg⟩ := t_changes (b := b) (atV G (20 + (8 - (k + 1))) ^^^ (ni (8 - (k + 1)) * 977)) h M1 H1 w cn h0 (by omega)
    obtain ⟨g1, g2, g3⟩ := fg
    obtain ⟨c1, c2, c3, c4, c5⟩ := cd
    have s2 : mS M2 p6 = (110, 9) := by rw [(g3 p6 (by omega)).1, o1.1.S]; exact q1
    have l2 : ∀ j, mL M2 p6 j = mL M p6 j := fun j => by rw [(g3 p6 (by omega)).2.1, o1.1.L]
    have hn := w.2.2.2.1
    have x8 : ni (8 - (k + 1)) + 1 = ni (8 - k) := by rw [ni_s, show 8 - (k + 1) + 1 = 8 - k by omega]
    have hneg : ¬ (8 : Int32) ≤ ni (8 - (k + 1)) := fun z => by
      have := (ni_le (i := 8) (by omega) (by omega)).mp z
      omega
    have hgd : gd M1 [(0, .ref ROB), (1, .ref p1), (2, .ref b), (3, .long l3), (5, .int x5), (6, .ref p6), (7, .int (ni t)), (8, .int (ni (8 - (k + 1)))), (9, .long a)] [] = some () := by
      have z1 : p1 < mN M1 := by omega
      have z2 : b < mN M1 := by omega
      have z3 : p6 < mN M1 := by omega
      refine gd_ok (by omega) ?_
      simp [clLS, clo, z1, z2, z3]
    rcases c5 with ⟨rfl, d1, d2, d3⟩ | ⟨rfl, d2, d3⟩
    · obtain ⟨M3, f3, H3, o3⟩ := hA h' M2 H2 d1
      have I3 : Inv b p6 sv t M3 := by
        refine ⟨h', H3, w2, cn2, c3, c2.trans hb, c1.trans hv, d3.trans hk, ht8, by rw [o3.1.S]; exact s2, by rw [o3.1.N]; omega, q3, fun s hs => ?_⟩
        have ne := sl_a _ hn t ht8 s hs
        have e9 : hL h' ((hN h' + 9 - t + s) % 9) = hL h ((hN h + 9 - t + s) % 9) := by
          rw [d2, c4]
          exact if_neg ne
        rw [e9, o3.1.L, l2]
        exact q4 s hs
      have n3 : mN M3 = mN M2 := o3.1.N
      obtain ⟨T, M4, hT, f4, I4⟩ := ih (by omega) n (by omega) t M3 (by omega) I3 (by omega) (by omega)
      refine ⟨T, M4, hT, ?_, I4⟩
      rw [lp_L_law_639, if_neg hneg, f1, Option.bind_some, show (20 : Int32) + ni (8 - (k + 1)) = ni (20 + (8 - (k + 1))) from ni_add 20 _, l_at G hG (by omega), Option.bind_some, hgd, Option.bind_some, f2, Option.bind_some, if_pos rfl, f3, Option.bind_some, if_pos (lg_self a), H3.rc10, Option.bind_some, x_undos H3, Option.bind_some, d3, hk, if_pos rfl, x8]
      exact f4
    · have hlo : Lo (b + 343) M2 (mUL M2 p6 t a) := fun j hj => ⟨rfl, fun i => ⟨rfl, if_neg (by omega), rfl⟩⟩
      have H3 : Hall b h' (mUL M2 p6 t a) := H2.lo hlo (Nat.le_refl _) H2.1.1
      have as : asL M2 p6 (ni t) a = some (mUL M2 p6 t a) := by
        unfold asL
        rw [s2, if_pos ⟨rfl, by omega, inr_ni (by omega) (by omega)⟩, ni_nat t (by omega)]
      have kk : hK h' = t + 1 := by rw [d3, hk]; omega
      have I3 : Inv b p6 sv (t + 1) (mUL M2 p6 t a) := by
        refine ⟨h', H3, w2, cn2, c3, c2.trans hb, c1.trans hv, kk, by omega, s2, by show p6 < mN M2; omega, q3, fun s hs => ?_⟩
        have e9 : (hN h' + 9 - (t + 1) + s) % 9 = (hN h + 9 - t + s) % 9 := by
          rw [d2]
          exact sl_b _ hn t (by omega) s (by omega)
        rw [e9, c4]
        by_cases es : s = t
        · subst es
          rw [sl_c _ hn s ht8]
          have e10 : upL (hL h) (hN h) (hC h) (hN h) = hC h := if_pos rfl
          have e11 : mL (mUL M2 p6 s a) p6 s = a := if_pos ⟨rfl, rfl⟩
          rw [e10, e11]
          exact ⟨cn, hA⟩
        · have ne := sl_a _ hn t ht8 s (by omega)
          have e10 : upL (hL h) (hN h) (hC h) ((hN h + 9 - t + s) % 9) = hL h ((hN h + 9 - t + s) % 9) := if_neg ne
          have e11 : mL (mUL M2 p6 t a) p6 s = mL M2 p6 s := if_neg (fun z => es z.2)
          rw [e10, e11, l2]
          exact q4 s (by omega)
      have n3 : mN (mUL M2 p6 t a) = mN M2 := rfl
      obtain ⟨T, M4, hT, f4, I4⟩ := ih (by omega) n (by omega) (t + 1) _ (by omega) I3 (by omega) (by omega)
      refine ⟨T, M4, hT, ?_, I4⟩
      rw [lp_L_law_639, if_neg hneg, f1, Option.bind_some, show (20 : Int32) + ni (8 - (k + 1)) = ni (20 + (8 - (k + 1))) from ni_add 20 _, l_at G hG (by omega), Option.bind_some, hgd, Option.bind_some, f2, Option.bind_some, if_neg (show ¬ (1 : Int32) = 0 by decide), as, Option.bind_some, H3.rc10, Option.bind_some, x_undos H3, Option.bind_some, kk, ni_s, if_pos rfl, x8]
      exact f4
