/-! ===== pure: the orders of the panels; only the row of places is written ===== -/
/-- a hall's state, and the first places of the row -/
def KP (b : Nat) (V : St) (m : Nat) (pl : Nat → Int32) (M : Mem) : Prop := HC b V M ∧ ∀ j, j < m → mI M (b + 336) j = pl j
section KPS
variable {b : Nat} {V : St} {m : Nat} {pl : Nat → Int32} {M : Mem}
theorem KP.g (K : KP b V m pl M) {j : Nat} (hj : j < m) (h7 : j < 7) : aI M 100 (b + 336) (ni j) = some (pl j) := by
  obtain ⟨⟨⟨q1, -, -, -, -, -, -, -, -, -, -, -, -, -, q15, -⟩, -⟩, r⟩ := K
  unfold aI
  rw [q15, if_pos ⟨rfl, by omega, inr_ni (by omega) h7⟩, ni_nat j (by omega), r j hj]
theorem KP.s (K : KP b V m pl M) {j : Nat} (h7 : j < 7) (x : Int32) : asI M 100 (b + 336) (ni j) x = some (mUI M (b + 336) j x) := by
  obtain ⟨⟨⟨q1, -, -, -, -, -, -, -, -, -, -, -, -, -, q15, -⟩, -⟩, r⟩ := K
  unfold asI
  rw [q15, if_pos ⟨rfl, by omega, inr_ni (by omega) h7⟩, ni_nat j (by omega)]
def upP (pl : Nat → Int32) (j : Nat) (x : Int32) : Nat → Int32 := fun k => if k = j then x else pl k
theorem KP.up (K : KP b V m pl M) {j : Nat} (x : Int32) {m' : Nat} (hm : m' ≤ m ∨ (m' = m + 1 ∧ j = m)) : KP b V m' (upP pl j x) (mUI M (b + 336) j x) := by
  refine ⟨⟨K.1.1.sh (Sh.UI _ _ _ _), K.1.2.ui (by omega)⟩, fun k hk => ?_⟩
  rw [mI_UI]
  unfold upP
  by_cases e : k = j
  · rw [if_pos ⟨rfl, e⟩, if_pos e]
  · rw [if_neg (fun z => e z.2), if_neg e]
    exact K.2 k (by omega)
theorem KP.less (K : KP b V m pl M) {m' : Nat} (h : m' ≤ m) : KP b V m' pl M := ⟨K.1, fun j hj => K.2 j (by omega)⟩
/-- from the first m places to the first m' places: one answer, one row behind it -/
def UQ (b : Nat) (V : St) (m : Nat) (pl : Nat → Int32) (m' : Nat) {α : Type} (f : Mem → Option (α × Mem)) : Prop := ∃ r pl', ∀ M, KP b V m pl M → ∃ M', f M = some (r, M') ∧ KP b V m' pl' M' ∧ Fo (b + 336) 1 M M'
theorem z_slide_lp {x : Int32} (hm : m < 7) : ∀ k, k ≤ m → ∀ n, k < n → ∀ pl : Nat → Int32, ∃ pl', ∀ M, KP b V m pl M → ∃ M', lp_X8_slideIn_2 (b + 336) (ni m) x n (ni (m - k)) M = some (.inl (ni m, M')) ∧ KP b V m pl' M' ∧ Fo (b + 336) 1 M M' := by
  intro k
  induction k with
  | zero =>
    intro _ n hn pl
    obtain ⟨n, rfl⟩ : ∃ z, n = z + 1 := ⟨n - 1, by omega⟩
    refine ⟨pl, fun M K => ⟨M, ?_, K, Fo.rf _ _ _⟩⟩
    simp only [lp_X8_slideIn_2]
    exact if_pos (show ni m ≤ ni (m - 0) from (ni_le (by omega) (by omega)).mpr (by omega))
  | succ k ih =>
    intro hk n hn pl
    obtain ⟨n, rfl⟩ : ∃ z, n = z + 1 := ⟨n - 1, by omega⟩
    have hj : m - (k + 1) < m := by omega
    have hu : ¬ ni m ≤ ni (m - (k + 1)) := up_n (by omega) (by omega)
    by_cases hx : pl (m - (k + 1)) < x
    · obtain ⟨pl', h1⟩ := ih (by omega) n (by omega) pl
      refine ⟨pl', fun M K => ?_⟩
      simp only [lp_X8_slideIn_2, if_neg hu, K.g hj (by omega), Option.bind_some, if_pos hx, up_m (show k < m by omega)]
      exact h1 M K
    · obtain ⟨pl', h1⟩ := ih (by omega) n (by omega) (upP pl (m - (k + 1)) (pl (m - (k + 1)) + 1))
      refine ⟨pl', fun M K => ?_⟩
      obtain ⟨M1, f1, K1, o1⟩ := h1 _ (K.up (j := m - (k + 1)) (pl (m - (k + 1)) + 1) (Or.inl (Nat.le_refl m)))
      refine ⟨M1, ?_, K1, (Fo.up M _ _ (by omega)).tr o1⟩
      simp only [lp_X8_slideIn_2, if_neg hu, K.g hj (by omega), Option.bind_some, if_neg hx, up_m (show k < m by omega), K.s (show m - (k + 1) < 7 by omega)]
      exact f1
theorem z_slide (x : Int32) (hm : m < 7) : UQ b V m pl (m + 1) (f_X8_slideIn (b + 336) (ni m) x) := by
  obtain ⟨pl', h1⟩ := z_slide_lp (b := b) (V := V) (x := x) hm m (Nat.le_refl _) 100 (by omega) pl
  rw [Nat.sub_self] at h1
  refine ⟨(), upP pl' m x, fun M K => ?_⟩
  obtain ⟨M1, f1, K1, o1⟩ := h1 M K
  refine ⟨_, ?_, K1.up (j := m) x (Or.inr ⟨rfl, rfl⟩), o1.tr (Fo.up M1 _ _ (by omega))⟩
  unfold f_X8_slideIn
  rw [show (0 : Int32) = ni 0 from rfl, f1]
  simp only [Option.bind_some, K1.s hm]
theorem z_pull_lp (hm : m < 7) : ∀ k, k ≤ m → ∀ n, k < n → ∀ pl : Nat → Int32, ∃ pl', ∀ M, KP b V (m + 1) pl M → ∃ M', lp_X8_pullOut_2 (b + 336) (ni m) n (ni (m - k)) M = some (.inl (ni m, M')) ∧ KP b V (m + 1) pl' M' ∧ Fo (b + 336) 1 M M' := by
  intro k
  induction k with
  | zero =>
    intro _ n hn pl
    obtain ⟨n, rfl⟩ : ∃ z, n = z + 1 := ⟨n - 1, by omega⟩
    refine ⟨pl, fun M K => ⟨M, ?_, K, Fo.rf _ _ _⟩⟩
    simp only [lp_X8_pullOut_2]
    exact if_pos (show ni m ≤ ni (m - 0) from (ni_le (by omega) (by omega)).mpr (by omega))
  | succ k ih =>
    intro hk n hn pl
    obtain ⟨n, rfl⟩ : ∃ z, n = z + 1 := ⟨n - 1, by omega⟩
    have hj : m - (k + 1) < m := by omega
    have hu : ¬ ni m ≤ ni (m - (k + 1)) := up_n (by omega) (by omega)
    by_cases hx : pl (m - (k + 1)) ≤ pl m
    · obtain ⟨pl', h1⟩ := ih (by omega) n (by omega) pl
      refine ⟨pl', fun M K => ?_⟩
      simp only [lp_X8_pullOut_2, if_neg hu, K.g (show m - (k + 1) < m + 1 by omega) (by omega), K.g (show m < m + 1 by omega) hm, Option.bind_some, if_pos hx, up_m (show k < m by omega)]
      exact h1 M K
    · obtain ⟨pl', h1⟩ := ih (by omega) n (by omega) (upP pl (m - (k + 1)) (pl (m - (k + 1)) - 1))
      refine ⟨pl', fun M K => ?_⟩
      obtain ⟨M1, f1, K1, o1⟩ := h1 _ (K.up (j := m - (k + 1)) (pl (m - (k + 1)) - 1) (Or.inl (Nat.le_refl (m + 1))))
      refine ⟨M1, ?_, K1, (Fo.up M _ _ (by omega)).tr o1⟩
      simp only [lp_X8_pullOut_2, if_neg hu, K.g (show m - (k + 1) < m + 1 by omega) (by omega), K.g (show m < m + 1 by omega) hm, Option.bind_some, if_neg hx, up_m (show k < m by omega), K.s (show m - (k + 1) < 7 by omega)]
      exact f1
theorem z_pull (hm : m < 7) : UQ b V (m + 1) pl m (f_X8_pullOut (b + 336) (ni m)) := by
  obtain ⟨pl', h1⟩ := z_pull_lp (b := b) (V := V) hm m (Nat.le_refl _) 100 (by omega) pl
  rw [Nat.sub_self] at h1
  refine ⟨(), pl', fun M K => ?_⟩
  obtain ⟨M1, f1, K1, o1⟩ := h1 M K
  refine ⟨M1, ?_, K1.less (by omega), o1⟩
  unfold f_X8_pullOut
  rw [show (0 : Int32) = ni 0 from rfl, f1]
  rfl
theorem x_max (x y : Int32) (M : Mem) : f_J9_max_7cf53 x y M = some (if x < y then y else x) := by
  unfold f_J9_max_7cf53
  split <;> rfl
theorem z_cross {c e : Nat} (hc : c + 1 < m) (he : e + 1 < m) (hm : m ≤ 7) : UP (KP b V m pl) (f_X8_cross (b + 336) (ni c) (ni e)) (fun _ => True) := by
  have g : ∀ j, j < m → ∀ M, KP b V m pl M → aI M 100 (b + 336) (ni j) = some (pl j) := fun j hj M K => K.g hj (by omega)
  refine UP.k (g c (by omega)) ?_
  rw [ni_s, ni_s]
  refine UP.k (g (c + 1) hc) ?_
  refine UP.k (fun M _ => x_min _ _ M) ?_
  refine UP.k (g c (by omega)) ?_
  refine UP.k (g (c + 1) hc) ?_
  refine UP.k (fun M _ => x_max _ _ M) ?_
  refine UP.k (g e (by omega)) ?_
  refine UP.b (f := fun M => f_X8_isBetween _ _ _ M) (Q1 := fun _ => True) (UP.i (fun _ => UP.p trivial) (fun _ => UP.i (fun _ => UP.p trivial) (fun _ => UP.p trivial))) (fun r _ => ?_)
  refine UP.k (g (e + 1) he) ?_
  refine UP.b (f := fun M => f_X8_isBetween _ _ _ M) (Q1 := fun _ => True) (UP.i (fun _ => UP.p trivial) (fun _ => UP.i (fun _ => UP.p trivial) (fun _ => UP.p trivial))) (fun r _ => ?_)
  exact UP.i (fun _ => UP.p trivial) (fun _ => UP.p trivial)
theorem neg2 : ∀ e, e < 2 → ni e + (-2) < 0 := by decide +kernel
theorem pos2 : ∀ e, e < 8 → ni (e + 2) + (-2) = ni e := by decide +kernel
theorem z_early {s : Nat} {c : Nat} (u : Int32) (hc : c + 1 < m) (hm : m ≤ 7) : ∀ e, e + 1 < m → ∀ n, e + 1 < n → UP (KP b V m pl) (fun M => lp_X8_isCreasePossible_63 s (b + 336) (ni c) u M n (ni e)) (fun _ => True) := by
  intro e
  induction e using Nat.strongRecOn with
  | _ e ih =>
    intro he n hn
    obtain ⟨n, rfl⟩ : ∃ z, n = z + 1 := ⟨n - 1, by omega⟩
    simp only [lp_X8_isCreasePossible_63, if_neg (ni_pos e (by omega))]
    refine UP.b (z_cross hc he hm) (fun r _ => ?_)
    refine UP.i (fun _ => ?_) (fun _ => UP.p trivial)
    by_cases h2 : e < 2
    · obtain ⟨n, rfl⟩ : ∃ z, n = z + 1 := ⟨n - 1, by omega⟩
      simp only [lp_X8_isCreasePossible_63, if_pos (neg2 e h2)]
      exact UP.p trivial
    · obtain ⟨e', rfl⟩ : ∃ e', e = e' + 2 := ⟨e - 2, by omega⟩
      rw [pos2 e' (by omega)]
      exact ih e' (by omega) (by omega) n (by omega)
theorem z_start {s : Nat} {c : Nat} (u : Int32) (hc : c + 1 < m) (hm : m ≤ 7) : UP (KP b V m pl) (fun M => lp_X8_isCreasePossible_63 s (b + 336) (ni c) u M 100 (ni c - 2)) (fun _ => True) := by
  rw [Int32.sub_eq_add_neg]
  by_cases h2 : c < 2
  · have h9 : ∀ n, UP (KP b V m pl) (fun M => lp_X8_isCreasePossible_63 s (b + 336) (ni c) u M (n + 1) (ni c + -2)) (fun _ => True) := fun n => by
      simp only [lp_X8_isCreasePossible_63]
      exact UP.pos (neg2 c h2) (UP.p trivial)
    exact h9 99
  · obtain ⟨e, rfl⟩ : ∃ e', c = e' + 2 := ⟨c - 2, by omega⟩
    rw [show ni (e + 2) + (-2) = ni e from pos2 e (by omega)]
    exact z_early u hc hm e (by omega) 100 (by omega)
theorem z_poss {i c : Nat} (hi : i < 9) (hc6 : c < 6) (hc : c + 1 < m) (hm : m ≤ 7) : UP (KP b V m pl) (f_X8_isCreasePossible (b + 1 + 3 + 3 * i) (b + 336) (ni c)) (fun _ => True) := by
  have g : ∀ j, j < m → ∀ M, KP b V m pl M → aI M 100 (b + 336) (ni j) = some (pl j) := fun j hj M K => K.g hj (by omega)
  have t : ∀ u, UP (KP b V m pl) (fun M => (lp_X8_isCreasePossible_63 (b + 1 + 3 + 3 * i) (b + 336) (ni c) u M 100 (ni c - 2)).bind fun q => match q with
      | .inl _ => some 1
      | .inr r => some r) (fun _ => True) := fun u => by
    refine UP.b (z_start u hc hm) (fun q _ => ?_)
    rcases q with a | a
    · exact UP.p trivial
    · exact UP.p trivial
  refine UP.k (fun M K => K.1.2.p71 hi) ?_
  refine UP.k (fun M K => K.1.2.cr hi hc6) ?_
  rw [ni_s]
  refine UP.i (fun _ => UP.i (fun _ => ?_) (fun _ => ?_)) (fun _ => UP.i (fun _ => ?_) (fun _ => ?_))
  · refine UP.k (g (c + 1) hc) ?_
    refine UP.k (g c (by omega)) ?_
    exact UP.i (fun _ => UP.p trivial) (fun _ => t 1)
  · refine UP.k (g (c + 1) hc) ?_
    refine UP.k (g c (by omega)) ?_
    exact UP.i (fun _ => t 0) (fun _ => UP.p trivial)
  · refine UP.k (g (c + 1) hc) ?_
    refine UP.k (g c (by omega)) ?_
    exact UP.i (fun _ => t 0) (fun _ => UP.p trivial)
  · refine UP.k (g (c + 1) hc) ?_
    refine UP.k (g c (by omega)) ?_
    exact UP.i (fun _ => UP.p trivial) (fun _ => t 1)
theorem z_lp {rec : Nat → Nat → Int32 → Int32 → Mem → Option (Int32 × Mem)} {i : Nat} (hi : i < 9) (hm : m < 7) (hrec : ∀ pl, UQ b V (m + 1) pl (m + 1) (fun M => rec (b + 1 + 3 + 3 * i) (b + 336) (ni m + 1) (-1) M)) : ∀ k, k ≤ m + 1 → ∀ n, k < n → ∀ x4 (pl : Nat → Int32), ∃ r pl', ∀ M, KP b V m pl M → ∃ M', lp_X8_countFrom_35 rec (b + 1 + 3 + 3 * i) (b + 336) (ni m) (-1) n x4 (ni (m + 1 - k)) M = some (.inl (r, ni (m + 1), M')) ∧ KP b V m pl' M' ∧ Fo (b + 336) 1 M M' := by
  intro k
  induction k with
  | zero =>
    intro _ n hn x4 pl
    obtain ⟨n, rfl⟩ : ∃ z, n = z + 1 := ⟨n - 1, by omega⟩
    refine ⟨x4, pl, fun M K => ⟨M, ?_, K, Fo.rf _ _ _⟩⟩
    simp only [lp_X8_countFrom_35]
    exact if_pos (show ni m < ni (m + 1 - 0) from (ni_lt (by omega) (by omega)).mpr (by omega))
  | succ k ih =>
    intro hk n hn x4 pl
    obtain ⟨n, rfl⟩ : ∃ z, n = z + 1 := ⟨n - 1, by omega⟩
    have hu : ¬ ni m < ni (m + 1 - (k + 1)) := fun z => by have := (ni_lt (by omega) (by omega)).mp z; omega
    have hs : ni (m + 1 - (k + 1)) + 1 = ni (m + 1 - k) := by
      rw [ni_s]
      congr 1
      omega
    obtain ⟨r1, p1, h1⟩ := z_slide (b := b) (V := V) (pl := pl) (ni (m + 1 - (k + 1))) hm
    by_cases h0 : m = 0
    · obtain ⟨r2, p2, h2⟩ := hrec p1
      obtain ⟨r3, p3, h3⟩ := z_pull (b := b) (V := V) (pl := p2) hm
      obtain ⟨r4, p4, h4⟩ := ih (by omega) n (by omega) (x4 + r2) p3
      refine ⟨r4, p4, fun M K => ?_⟩
      obtain ⟨M1, f1, K1, o1⟩ := h1 M K
      obtain ⟨M2, f2, K2, o2⟩ := h2 M1 K1
      obtain ⟨M3, f3, K3, o3⟩ := h3 M2 K2
      obtain ⟨M4, f4, K4, o4⟩ := h4 M3 K3
      refine ⟨M4, ?_, K4, ((o1.tr o2).tr o3).tr o4⟩
      have z0 : ni m = 0 := by rw [h0]; rfl
      simp only [lp_X8_countFrom_35, if_neg hu, f1, Option.bind_some, if_pos z0, f2, f3, hs]
      exact f4
    · have hne : ¬ ni m = 0 := fun z => h0 ((ni_eq (j := 0) (by omega) (by omega)).mp z)
      have hm1 : ni m - 1 = ni (m - 1) := sub1 m (by omega) (by omega)
      obtain ⟨rp, -, hp⟩ := z_poss (b := b) (V := V) (pl := p1) (c := m - 1) (m := m + 1) hi (by omega) (by omega) (by omega)
      by_cases hz : rp = 0
      · obtain ⟨r3, p3, h3⟩ := z_pull (b := b) (V := V) (pl := p1) hm
        obtain ⟨r4, p4, h4⟩ := ih (by omega) n (by omega) x4 p3
        refine ⟨r4, p4, fun M K => ?_⟩
        obtain ⟨M1, f1, K1, o1⟩ := h1 M K
        obtain ⟨M3, f3, K3, o3⟩ := h3 M1 K1
        obtain ⟨M4, f4, K4, o4⟩ := h4 M3 K3
        refine ⟨M4, ?_, K4, (o1.tr o3).tr o4⟩
        simp only [lp_X8_countFrom_35, if_neg hu, f1, Option.bind_some, if_neg hne, hm1, hp M1 K1, if_pos hz, f3, hs]
        exact f4
      · obtain ⟨r2, p2, h2⟩ := hrec p1
        obtain ⟨r3, p3, h3⟩ := z_pull (b := b) (V := V) (pl := p2) hm
        obtain ⟨r4, p4, h4⟩ := ih (by omega) n (by omega) (x4 + r2) p3
        refine ⟨r4, p4, fun M K => ?_⟩
        obtain ⟨M1, f1, K1, o1⟩ := h1 M K
        obtain ⟨M2, f2, K2, o2⟩ := h2 M1 K1
        obtain ⟨M3, f3, K3, o3⟩ := h3 M2 K2
        obtain ⟨M4, f4, K4, o4⟩ := h4 M3 K3
        refine ⟨M4, ?_, K4, ((o1.tr o2).tr o3).tr o4⟩
        simp only [lp_X8_countFrom_35, if_neg hu, f1, Option.bind_some, if_neg hne, hm1, hp M1 K1, if_neg hz, f2, f3, hs]
        exact f4
theorem z_from {i ct : Nat} (hi : i < 9) (hct : ct ≤ 6) (hV : V (3 + 3 * i) 3 = ni ct) : ∀ k, k ≤ ct + 1 → ∀ n, k < n → ∀ pl, UQ b V (ct + 1 - k) pl (ct + 1 - k) (fun M => f_X8_countFrom n (b + 1 + 3 + 3 * i) (b + 336) (ni (ct + 1 - k)) (-1) M) := by
  intro k
  induction k with
  | zero =>
    intro _ n hn pl
    obtain ⟨n, rfl⟩ : ∃ z, n = z + 1 := ⟨n - 1, by omega⟩
    refine ⟨1, pl, fun M K => ⟨M, ?_, K, Fo.rf _ _ _⟩⟩
    simp only [f_X8_countFrom, K.1.2.g7 hi (j := 3) (by decide) (by decide), hV, Option.bind_some]
    rw [if_neg (fun z => by have := (ni_le (by omega) (by omega)).mp z; omega)]
    simp
  | succ k ih =>
    intro hk n hn pl
    obtain ⟨n, rfl⟩ : ∃ z, n = z + 1 := ⟨n - 1, by omega⟩
    have hm : ct + 1 - (k + 1) < 7 := by omega
    have e1 : ct + 1 - (k + 1) + 1 = ct + 1 - k := by omega
    have hrec : ∀ pl, UQ b V (ct + 1 - (k + 1) + 1) pl (ct + 1 - (k + 1) + 1) (fun M => f_X8_countFrom n (b + 1 + 3 + 3 * i) (b + 336) (ni (ct + 1 - (k + 1)) + 1) (-1) M) := fun pl => by
      rw [ni_s, e1]
      exact ih (by omega) n (by omega) pl
    obtain ⟨r, pl', h1⟩ := z_lp hi hm hrec (ct + 1 - (k + 1) + 1) (Nat.le_refl _) 100 (by omega) 0 pl
    rw [Nat.sub_self] at h1
    refine ⟨r, pl', fun M K => ?_⟩
    obtain ⟨M1, f1, K1, o1⟩ := h1 M K
    refine ⟨M1, ?_, K1, o1⟩
    rw [show ni 0 = 0 from rfl] at f1
    have hle : ni (ct + 1 - (k + 1)) ≤ ni ct := (ni_le (by omega) (by omega)).mpr (by omega)
    simp only [f_X8_countFrom, K.1.2.g7 hi (j := 3) (by decide) (by decide), hV, Option.bind_some, if_pos hle, f1]
end KPS
/-- something changed in the row of places alone -/
theorem Hall.row {b : Nat} {h : Hs} {M M' : Mem} (H : Hall b h M) (o : Fo (b + 336) 1 M M') : Hall b h M' := by
  obtain ⟨q1, q2, q3, q4, q5, q6, q7, q8, q9, q10, q11, n12, z12, e12⟩ := H
  refine ⟨q1.sh o.1, q2.dj o (by omega), q3.dj o (by omega), fun i hi => (q4 i hi).dj o (by omega), ?_, ?_, ?_, ?_, ?_, ?_, fun i hi => ?_, n12, z12, ?_⟩
  · rw [o.2 _ _ (by omega)]; exact q5
  · rw [o.2 _ _ (by omega)]; exact q6
  · rw [o.2 _ _ (by omega)]; exact q7
  · rw [o.2 _ _ (by omega)]; exact q8
  · rw [o.2 _ _ (by omega)]; exact q9
  · rw [o.2 _ _ (by omega)]; exact q10
  · rw [o.2 _ _ (by omega)]; exact q11 i hi
  · rw [o.2 _ _ (by omega)]; exact e12
theorem l_foldings (b : Nat) {V : St} (hW : WF V) {i : Nat} (hi9 : i < 9) (hs : hasS V (ni i) = true) : ∃ r, ∀ h M, Hall b h M → hC h = V → ∃ M', f_L_foldings b (ni i) M = some (r, M') ∧ Hall b h M' ∧ Fo b 343 M M' := by
  obtain ⟨ct, hct, hV⟩ := (hW.2.2.2 i hi9).2.1
  obtain ⟨r, pl', h1⟩ := z_from (b := b) hi9 hct hV (ct + 1) (Nat.le_refl _) 12 (by omega) (fun _ => 0)
  rw [Nat.sub_self] at h1
  refine ⟨r, fun h M H e => ?_⟩
  subst e
  obtain ⟨M1, f1, K1, o1⟩ := h1 M ⟨H.hc, fun j hj => absurd hj (Nat.not_lt_zero j)⟩
  refine ⟨M1, ?_, H.row o1, o1.mono (by omega)⟩
  rw [show ni 0 = 0 from rfl] at f1
  have L := H.1
  have g8 : rc M 8 (b + 335) = some () ∧ gP M 8 (b + 335) 0 = some (b + 336) := by
    obtain ⟨q1, -, -, -, -, -, -, -, -, -, -, -, q13, q14, -⟩ := L
    unfold rc gP
    rw [q13, if_pos ⟨rfl, by omega⟩, if_pos ⟨rfl, by omega⟩, q14]
    exact ⟨rfl, rfl⟩
  unfold f_L_foldings f_X10_foldings f_X8_countByAdding
  simp only [H.1.rc10, H.1.p.2.2.2.1, x_dem H.hc hW, if_pos hs, Option.bind_some, sx_ni (show i < 200 by omega), g8.1, g8.2, f1]
