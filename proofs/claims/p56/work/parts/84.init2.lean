/-! ===== pure: a state made ===== -/
/-- a state just made, whose first k cells are marked empty -/
def Vk (k : Nat) : St := fun a j => if a = 2 then (if j < k then -1 else 0) else if 3 ≤ a ∧ a % 3 = 0 then (if j = 2 then 115 else if j = 6 then -1 else 0) else 0
def V0 : St := Vk 9
theorem vk_2 (k c : Nat) : Vk k 2 c = if c < k then -1 else 0 := if_pos rfl
theorem vk_3 (k i j : Nat) : Vk k (3 + 3 * i) j = if j = 2 then 115 else if j = 6 then -1 else 0 := by
  unfold Vk
  rw [if_neg (show ¬ 3 + 3 * i = 2 by omega), if_pos (show 3 ≤ 3 + 3 * i ∧ (3 + 3 * i) % 3 = 0 from ⟨by omega, by omega⟩)]
theorem vk_4 (k i j : Nat) : Vk k (4 + 3 * i) j = 0 := by
  unfold Vk
  rw [if_neg (show ¬ 4 + 3 * i = 2 by omega), if_neg (show ¬ (3 ≤ 4 + 3 * i ∧ (4 + 3 * i) % 3 = 0) by omega)]
theorem vk_5 (k i j : Nat) : Vk k (5 + 3 * i) j = 0 := by
  unfold Vk
  rw [if_neg (show ¬ 5 + 3 * i = 2 by omega), if_neg (show ¬ (3 ≤ 5 + 3 * i ∧ (5 + 3 * i) % 3 = 0) by omega)]
/-- the state under way: k sheets -/
def Sk (B k : Nat) (M : Mem) : Prop := mN M = B + 3 + 3 * k ∧ mS M B = (9, 0) ∧ mP M B 0 = .ref (B + 1) ∧ mP M B 1 = .ref (B + 2) ∧ mS M (B + 1) = (120, 9) ∧ mS M (B + 2) = (100, 9) ∧ (∀ j, mI M B j = 0) ∧ (∀ j, mI M (B + 2) j = 0) ∧ ∀ i, i < k → mP M (B + 1) i = .ref (B + 3 + 3 * i) ∧ Sn (B + 3 + 3 * i) M
theorem Sk.at {B : Nat} {M : Mem} (h : Sk B 9 M) : At B (Vk 0) M := by
  obtain ⟨q1, q2, q3, q4, q5, q6, q7, q8, q9⟩ := h
  refine ⟨⟨by omega, q2, q3, q4, q5, q6, fun i hi => ?_⟩, fun j _ _ => ?_, fun c _ => ?_, fun i hi => ?_⟩
  · obtain ⟨p, s1, s2, s3, s4, s5, -⟩ := q9 i hi
    exact ⟨p, s1, by rw [s2, show B + 3 + 3 * i + 1 = B + 4 + 3 * i by omega], by rw [s3, show B + 3 + 3 * i + 2 = B + 5 + 3 * i by omega], by rw [show B + 4 + 3 * i = B + 3 + 3 * i + 1 by omega]; exact s4, by rw [show B + 5 + 3 * i = B + 3 + 3 * i + 2 by omega]; exact s5⟩
  · rw [q7]
    rfl
  · rw [q8, vk_2, if_neg (Nat.not_lt_zero c)]
  · obtain ⟨p, s1, s2, s3, s4, s5, s6, s7, s8⟩ := q9 i hi
    refine ⟨fun j _ _ => ?_, fun _ => ?_, fun j _ => ?_, fun j _ => ?_⟩
    · rw [s6, vk_3]
    · rw [s6, vk_3]
    · rw [show B + 4 + 3 * i = B + 3 + 3 * i + 1 by omega, s7, vk_4]
    · rw [show B + 5 + 3 * i = B + 3 + 3 * i + 2 by omega, s8, vk_5]
theorem asP_ok {M : Mem} {t ci a n i v : Nat} (h1 : mS M a = (t, n)) (h2 : a < mN M) (h3 : i < n) (h4 : i < 100) (h5 : (mS M v).1 = ci) (h6 : v < mN M) : asP M t ci a (ni i) v = some (mUP M a i (.ref v)) := by
  unfold asP
  rw [if_pos ⟨by rw [h1], h2, by rw [h1]; exact inr_ni (by omega) h3, h5, h6⟩, ni_nat i (by omega)]
theorem gP_ok {M : Mem} {ci a j v : Nat} (h1 : (mS M a).1 = ci) (h2 : a < mN M) (h3 : mP M a j = .ref v) : gP M ci a j = some v := by
  unfold gP
  rw [if_pos ⟨h1, h2⟩, h3]
theorem i9_23 {B : Nat} (hR : B + 500 < ROB) : ∀ k, k ≤ 9 → ∀ n, k < n → ∀ M, Sk B (9 - k) M → ∃ M', lp_X9_init_23 B n (ni (9 - k)) M = some (.inl (9, M')) ∧ Sk B 9 M' ∧ Lo B M M' := by
  intro k
  induction k with
  | zero =>
    intro _ n hn M h
    obtain ⟨n, rfl⟩ : ∃ z, n = z + 1 := ⟨n - 1, by omega⟩
    refine ⟨M, ?_, h, fun _ _ => ⟨rfl, fun _ => ⟨rfl, rfl, rfl⟩⟩⟩
    rw [lp_X9_init_23]
    exact if_pos (by decide)
  | succ k ih =>
    intro hk n hn M h
    obtain ⟨n, rfl⟩ : ∃ z, n = z + 1 := ⟨n - 1, by omega⟩
    obtain ⟨q1, q2, q3, q4, q5, q6, q7, q8, q9⟩ := h
    obtain ⟨M1, f1, s1, n1, l1⟩ := x_i7 (Nw.mk (t := 7) (n := 0) q1) (by omega)
    have l0 := (Lo.new M 7 0).mo (show B + 3 + 3 * (9 - (k + 1)) ≤ mN M by omega)
    have l2 := l0.tr l1
    have r2 : Rg B (B + 3 + 3 * (9 - (k + 1))) M M1 := Rg.lo l2 (Nat.le_refl _)
    have e5 : mS M1 (B + 1) = (120, 9) := by rw [(r2 (B + 1) (by omega) (by omega)).1]; exact q5
    obtain ⟨M2, f2, s2, l3⟩ := ih (by omega) n (by omega) (mUP M1 (B + 1) (9 - (k + 1)) (.ref (B + 3 + 3 * (9 - (k + 1))))) (by
      refine ⟨by rw [mN_UP]; omega, ?_, ?_, ?_, e5, ?_, fun j => ?_, fun j => ?_, fun i hi => ⟨?_, ?_⟩⟩
      · rw [mS_UP, (r2 B (by omega) (by omega)).1]; exact q2
      · rw [mP_UP, if_neg (by omega), ((r2 B (by omega) (by omega)).2 _).2]; exact q3
      · rw [mP_UP, if_neg (by omega), ((r2 B (by omega) (by omega)).2 _).2]; exact q4
      · rw [mS_UP, (r2 (B + 2) (by omega) (by omega)).1]; exact q6
      · rw [mI_UP, ((r2 B (by omega) (by omega)).2 _).1]; exact q7 j
      · rw [mI_UP, ((r2 (B + 2) (by omega) (by omega)).2 _).1]; exact q8 j
      · rw [mP_UP]
        by_cases e : i = 9 - (k + 1)
        · rw [if_pos ⟨rfl, e⟩, e]
        · rw [if_neg (fun z => e z.2), ((r2 (B + 1) (by omega) (by omega)).2 _).2]
          exact (q9 i (by omega)).1
      · by_cases e : i = 9 - (k + 1)
        · rw [e]
          exact s1.rg (Rg.p (Or.inl (by omega)))
        · exact ((q9 i (by omega)).2.rg (r2.mo (by omega))).rg (Rg.p (Or.inl (by omega))))
    refine ⟨M2, ?_, s2, ((l2.mo (by omega)).tr (Lo.p _ _ (by omega))).tr l3⟩
    have hneg : ¬ (9 : Int32) ≤ ni (9 - (k + 1)) := up9a k (by omega)
    rw [lp_X9_init_23, if_neg hneg, gP_ok (by rw [q2]) (by omega) q3, Option.bind_some, gd3 (by omega) (by omega) (by omega), Option.bind_some, Option.bind_some, gd4 (by rw [mN_new]; omega) (by rw [mN_new]; omega) (by rw [mN_new]; omega) (by rw [mN_new]; omega), Option.bind_some, q1, f1, Option.bind_some]
    dsimp only
    rw [asP_ok e5 (by omega) (by omega) (by omega) (by rw [s1.1]) (by omega), Option.bind_some, up9b k (by omega)]
    exact f2
theorem i9_50 {B : Nat} : ∀ k, k ≤ 9 → ∀ n, k < n → ∀ M, At B (Vk (9 - k)) M → ∃ M', lp_X9_init_50 B n (ni (9 - k)) M = some (.inl (9, M')) ∧ At B V0 M' ∧ Fo B 30 M M' := by
  intro k
  induction k with
  | zero =>
    intro _ n hn M h
    obtain ⟨n, rfl⟩ : ∃ z, n = z + 1 := ⟨n - 1, by omega⟩
    refine ⟨M, ?_, h, Fo.rf _ _ _⟩
    rw [lp_X9_init_50]
    exact if_pos (by decide)
  | succ k ih =>
    intro hk n hn M h
    obtain ⟨n, rfl⟩ : ∃ z, n = z + 1 := ⟨n - 1, by omega⟩
    have h1 := h.up2 (9 - (k + 1)) (-1)
    have e : upS (Vk (9 - (k + 1))) 2 (9 - (k + 1)) (-1) = Vk (9 - k) := by
      funext a j
      unfold upS Vk
      by_cases ha : a = 2
      · by_cases hj : j = 9 - (k + 1)
        · rw [if_pos ⟨ha, hj⟩, if_pos ha, if_pos (by omega)]
        · rw [if_neg (fun z => hj z.2), if_pos ha, if_pos ha]
          by_cases hlt : j < 9 - (k + 1)
          · rw [if_pos hlt, if_pos (by omega)]
          · rw [if_neg hlt, if_neg (by omega)]
      · rw [if_neg (fun z => ha z.1), if_neg ha, if_neg ha]
    rw [e] at h1
    obtain ⟨M2, f2, a2, o2⟩ := ih (by omega) n (by omega) _ h1
    refine ⟨M2, ?_, a2, (Fo.up M _ _ (by omega)).tr o2⟩
    rw [lp_X9_init_50, if_neg (up9a k (by omega)), h.p91, Option.bind_some, h.so (by omega), Option.bind_some, up9b k (by omega)]
    exact f2
theorem x_i9 {B : Nat} {M : Mem} (h : Nw 9 0 B M) (hR : B + 500 < ROB) : ∃ M', f_X9_init B M = some ((), M') ∧ At B V0 M' ∧ mN M' = B + 30 ∧ Lo B M M' := by
  obtain ⟨h1, h2, h3⟩ := h
  obtain ⟨e1, e2, e3, e4, e5, e6, e7, e8, -⟩ := x_row (t := 120) (n := 9) (ci := 9) (a := B) (j := 0) h1 (by omega) (by rw [h2])
  have l1 : Lo B M (mUP (mNew M 120 9) B 0 (.ref (B + 1))) := (Lo.row h1).resolve_right (by omega)
  generalize mUP (mNew M 120 9) B 0 (.ref (B + 1)) = M1 at e1 e2 e3 e4 e5 e6 e7 e8 l1
  obtain ⟨g1, g2, g3, g4, g5, g6, g7, g8, -⟩ := x_row (t := 100) (n := 9) (ci := 9) (a := B) (j := 1) e2 (by omega) (by rw [e6 B (by omega), h2])
  have l2 : Lo B M1 (mUP (mNew M1 100 9) B 1 (.ref (B + 1 + 1))) := (Lo.row e2).resolve_right (by omega)
  generalize mUP (mNew M1 100 9) B 1 (.ref (B + 1 + 1)) = M2 at g1 g2 g3 g4 g5 g6 g7 g8 l2
  obtain ⟨M3, f3, k3, l3⟩ := i9_23 (B := B) hR 9 (Nat.le_refl _) 100 (by decide) M2 ⟨by omega, by rw [g6 B (by omega), e6 B (by omega), h2], by rw [g8 B 0 (by omega) (Or.inr (by decide)), e5], g5, by rw [g6 (B + 1) (by omega), e3], g3, fun j => by rw [g7 B j (by omega), e7 B j (by omega), h3], fun j => g4 j, fun i hi => absurd hi (Nat.not_lt_zero i)⟩
  obtain ⟨M4, f4, a4, o4⟩ := i9_50 (B := B) 9 (Nat.le_refl _) 100 (by decide) M3 k3.at
  have f3' : lp_X9_init_23 B 100 0 M2 = some (.inl (9, M3)) := f3
  have f4' : lp_X9_init_50 B 100 0 M3 = some (.inl (9, M4)) := f4
  refine ⟨M4, ?_, a4, by rw [o4.1.N, k3.1], ((l1.tr l2).tr l3).tr (Lo.fo o4)⟩
  unfold f_X9_init
  rw [gd1 (by omega) (by omega), Option.bind_some, na4.2.2.2.1, Option.bind_some, Option.bind_some, tn4.2.2.2.1, e1, Option.bind_some, gd1 (by omega) (by omega), Option.bind_some, Option.bind_some, Option.bind_some, g1, Option.bind_some, f3', Option.bind_some]
  dsimp only
  rw [f4', Option.bind_some]
