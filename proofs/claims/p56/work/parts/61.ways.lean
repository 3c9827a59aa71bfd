/-! ===== pure: the ways to complete the table; the state comes back ===== -/
/-- one answer for a state's numbers, and the state as it was -/
def UW (B : Nat) (V : St) {α : Type} (f : Mem → Option (α × Mem)) : Prop := ∃ r, ∀ M, At B V M → ∃ M', f M = some (r, M') ∧ At B V M' ∧ Fo B 30 M M'
theorem At.back {B : Nat} {V : St} {M : Mem} {i c t : Nat} (h : At B (liftV (layV V i c t) i c) M) (h1 : V 2 c = -1) (h2 : V (3 + 3 * i) 6 = -1) : At B V M := by
  have e : ∀ a j, ¬ (a = 3 + 3 * i ∧ j = 7) → liftV (layV V i c t) i c a j = V a j := fun a j z => by
    unfold liftV layV upS
    by_cases e2 : a = 2 ∧ j = c
    · rw [if_pos e2, e2.1, e2.2, h1]
    · rw [if_neg e2]
      by_cases e6 : a = 3 + 3 * i ∧ j = 6
      · rw [if_pos e6, e6.1, e6.2, h2]
      · rw [if_neg e6, if_neg z, if_neg e6, if_neg e2]
  refine ⟨h.1, fun j p q => ?_, fun c' hc => ?_, fun i' hi' => ⟨fun j p q => ?_, fun z => ?_, fun j hj => ?_, fun j hj => ?_⟩⟩
  · rw [← e 0 j (by omega)]; exact h.2.1 j p q
  · rw [← e 2 c' (by omega)]; exact h.2.2.1 c' hc
  · rw [← e _ j (by omega)]; exact (h.2.2.2 i' hi').1 j p q
  · have hne : i' ≠ i := fun y => by rw [y] at z; exact z h2
    rw [← e _ 7 (by omega)]
    exact (h.2.2.2 i' hi').2.1 (by rw [e _ 6 (by omega)]; exact z)
  · rw [← e _ j (by omega)]; exact (h.2.2.2 i' hi').2.2.1 j hj
  · rw [← e _ j (by omega)]; exact (h.2.2.2 i' hi').2.2.2 j hj
section WY
variable {B : Nat} {rec : Nat → Int32 → Int32 → Mem → Option (Int32 × Mem)} {p : Nat}
theorem y_in {V : St} (hW : WF V) (hrec : ∀ V', WF V' → UW B V' (fun M => rec B (ni p + 1) 0 M)) {i c : Nat} (hc : c < 9) (hi : i < 9) (hlt : ni i < V 0 2) (ho : V 2 c = -1) : ∀ k, k ≤ 4 → ∀ n, k < n → ∀ x4, ∃ r, ∀ M, At B V M → ∃ M', lp_X10_waysFrom_65 rec B (ni p) 0 (ni c) (ni i) (B + 3 + 3 * i) n x4 (ni (4 - k)) M = some (.inl (r, ni 4, M')) ∧ At B V M' ∧ Fo B 30 M M' := by
  intro k
  induction k with
  | zero =>
    intro _ n hn x4
    obtain ⟨n, rfl⟩ : ∃ m, n = m + 1 := ⟨n - 1, by omega⟩
    refine ⟨x4, fun M h => ⟨M, ?_, h, Fo.rf _ _ _⟩⟩
    simp only [lp_X10_waysFrom_65]
    exact if_pos (show (4 : Int32) ≤ ni (4 - 0) by decide)
  | succ k ih =>
    intro hk n hn x4
    obtain ⟨n, rfl⟩ : ∃ m, n = m + 1 := ⟨n - 1, by omega⟩
    have ht : 4 - (k + 1) < 4 := by omega
    by_cases hb : cblV V i = true
    · by_cases hf : fitsV B V i c (4 - (k + 1)) = 0
      · obtain ⟨r, h2⟩ := ih (by omega) n (by omega) x4
        refine ⟨r, fun M h => ?_⟩
        simp only [lp_X10_waysFrom_65, if_neg (up4a k (by omega)), up4b k (by omega), h.rc7 hi, x_cbl h hi, if_pos hb, h.rc9, x_fits hW h hi hc ht, Option.bind_some, show ¬ (1 : Int32) = 0 by decide, if_false, if_pos hf]
        exact h2 M h
      · have h6 := cblV_6 hb
        have w1 := hW.lay hi hc ht ho h6 hlt
        obtain ⟨r1, h1⟩ := hrec _ w1
        obtain ⟨r, h2⟩ := ih (by omega) n (by omega) (x4 + r1)
        refine ⟨r, fun M h => ?_⟩
        obtain ⟨M1, f1, a1, o1⟩ := x_lay (t := 4 - (k + 1)) h hi hc h6
        obtain ⟨M2, f2, a2, o2⟩ := h1 M1 a1
        have e2 : layV V i c (4 - (k + 1)) 2 c = ni i := by
          unfold layV
          rw [upS_n (by omega), upS_n (by omega), upS_e]
        obtain ⟨M3, f3, a3, o3⟩ := x_lift a2 hi hc e2
        obtain ⟨M4, f4, a4, o4⟩ := h2 M3 (a3.back ho h6)
        refine ⟨M4, ?_, a4, ((o1.tr o2).tr o3).tr o4⟩
        simp only [lp_X10_waysFrom_65, if_neg (up4a k (by omega)), up4b k (by omega), h.rc7 hi, x_cbl h hi, if_pos hb, h.rc9, x_fits hW h hi hc ht, Option.bind_some, show ¬ (1 : Int32) = 0 by decide, if_false, if_neg hf, f1, f2, a2.rc9, f3]
        exact f4
    · obtain ⟨r, h2⟩ := ih (by omega) n (by omega) x4
      refine ⟨r, fun M h => ?_⟩
      simp only [lp_X10_waysFrom_65, if_neg (up4a k (by omega)), up4b k (by omega), h.rc7 hi, x_cbl h hi, if_neg hb, Option.bind_some, if_true]
      exact h2 M h
theorem y_lp {V : St} (hW : WF V) (hrec : ∀ V', WF V' → UW B V' (fun M => rec B (ni p + 1) 0 M)) {c m : Nat} (hc : c < 9) (hm : m ≤ 9) (hV : V 0 2 = ni m) (ho : V 2 c = -1) : ∀ k, k ≤ m → ∀ n, k < n → ∀ x4, ∃ r, ∀ M, At B V M → ∃ M', lp_X10_waysFrom_44 rec B (ni p) 0 (ni c) n x4 (ni (m - k)) M = some (.inl (r, ni m, M')) ∧ At B V M' ∧ Fo B 30 M M' := by
  intro k
  induction k with
  | zero =>
    intro _ n hn x4
    obtain ⟨n, rfl⟩ : ∃ z, n = z + 1 := ⟨n - 1, by omega⟩
    refine ⟨x4, fun M h => ⟨M, ?_, h, Fo.rf _ _ _⟩⟩
    simp only [lp_X10_waysFrom_44, h.g9 (j := 2) (by decide) (by decide), hV, Option.bind_some]
    exact if_pos (show ni m ≤ ni (m - 0) from (ni_le (by omega) (by omega)).mpr (by omega))
  | succ k ih =>
    intro hk n hn x4
    obtain ⟨n, rfl⟩ : ∃ z, n = z + 1 := ⟨n - 1, by omega⟩
    have hi : m - (k + 1) < 9 := by omega
    obtain ⟨r1, h1⟩ := y_in hW hrec hc hi (by rw [hV]; exact (ni_lt (by omega) (by omega)).mpr (by omega)) ho 4 (by decide) 100 (by decide) x4
    obtain ⟨r, h2⟩ := ih (by omega) n (by omega) r1
    refine ⟨r, fun M h => ?_⟩
    obtain ⟨M1, f1, a1, o1⟩ := h1 M h
    obtain ⟨M2, f2, a2, o2⟩ := h2 M1 a1
    refine ⟨M2, ?_, a2, o1.tr o2⟩
    rw [show ni (4 - 4) = 0 from rfl] at f1
    simp only [lp_X10_waysFrom_44, h.g9 (j := 2) (by decide) (by decide), hV, Option.bind_some, if_neg (up_n hm (show k < m by omega)), h.p90, h.sh hi, f1, up_m (show k < m by omega)]
    exact f2
end WY
theorem y_ways (B : Nat) : ∀ k, k ≤ 9 → ∀ n, k < n → ∀ V, WF V → UW B V (fun M => f_X10_waysFrom n B (ni (9 - k)) 0 M) := by
  intro k
  induction k with
  | zero =>
    intro _ n hn V hW
    obtain ⟨n, rfl⟩ : ∃ z, n = z + 1 := ⟨n - 1, by omega⟩
    refine ⟨1, fun M h => ⟨M, ?_, h, Fo.rf _ _ _⟩⟩
    simp only [f_X10_waysFrom]
    exact if_neg (show ¬ ni (9 - 0) < 9 by decide)
  | succ k ih =>
    intro hk n hn V hW
    obtain ⟨n, rfl⟩ : ∃ z, n = z + 1 := ⟨n - 1, by omega⟩
    have hc : 9 - (k + 1) < 9 := by omega
    have hlt : ni (9 - (k + 1)) < 9 := (ni_lt (j := 9) (by omega) (by omega)).mpr hc
    have hrec : ∀ V', WF V' → UW B V' (fun M => f_X10_waysFrom n B (ni (9 - (k + 1)) + 1) 0 M) := fun V' w => by
      rw [up9b k (by omega)]
      exact ih (by omega) n (by omega) V' w
    by_cases ho : V 2 (9 - (k + 1)) = -1
    · obtain ⟨m, hm, hV⟩ := hW.n
      obtain ⟨r, h1⟩ := y_lp hW hrec hc hm hV ho m (Nat.le_refl _) 100 (by omega) 0
      rw [Nat.sub_self] at h1
      refine ⟨r, fun M h => ?_⟩
      obtain ⟨M1, f1, a1, o1⟩ := h1 M h
      refine ⟨M1, ?_, a1, o1⟩
      rw [show ni 0 = 0 from rfl] at f1
      simp only [f_X10_waysFrom, if_pos hlt, if_true, h.rc9, x_isOcc h hc, if_pos ho, Option.bind_some, f1]
    · obtain ⟨r, h1⟩ := hrec V hW
      refine ⟨r, fun M h => ?_⟩
      obtain ⟨M1, f1, a1, o1⟩ := h1 M h
      refine ⟨M1, ?_, a1, o1⟩
      simp only [f_X10_waysFrom, if_pos hlt, if_true, h.rc9, x_isOcc h hc, if_neg ho, Option.bind_some, show ¬ (1 : Int32) = 0 by decide, if_false, f1]
/-- completions, as the law asks -/
theorem l_compl (b : Nat) {V : St} (hW : WF V) : ∃ r, ∀ h M, Hall b h M → hC h = V → ∃ M', f_L_completions b M = some (r, M') ∧ Hall b h M' ∧ Fo b 343 M M' := by
  by_cases he : emV (b + 1) V ≤ 3
  · obtain ⟨r, h1⟩ := y_ways (b + 1) 9 (by decide) 12 (by decide) V hW
    refine ⟨r, fun h M H e => ?_⟩
    subst e
    obtain ⟨M1, f1, a1, o1⟩ := h1 M H.2.1
    rw [show ni (9 - 9) = 0 from rfl] at f1
    refine ⟨M1, ?_, H.cur o1 a1, o1.mono (by omega)⟩
    unfold f_L_completions f_X10_completions
    simp only [H.1.rc10, x_few H.hc, if_pos he, Option.bind_some, H.1.p.1, f1]
  · refine ⟨-1001, fun h M H e => ?_⟩
    subst e
    exact ⟨M, l_compl_no H.hc he, H, Fo.rf _ _ _⟩
