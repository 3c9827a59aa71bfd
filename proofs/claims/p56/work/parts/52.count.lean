/-! ===== pure: what is counted over a state ===== -/
section CQ
variable {B : Nat} {V : St}
abbrev cUP {α : Type} (B : Nat) (V : St) (f : Mem → Option α) : Prop := UP (At B V) f (fun _ => True)
/-! how many cells are empty -/
theorem q_empty_lp (B : Nat) (V : St) : ∀ k, k ≤ 9 → ∀ n, k < n → ∀ e, e + k ≤ 9 → UP (At B V) (fun M => lp_X9_countEmpty_4 B M n (ni e) (ni (9 - k))) (fun r => ∃ e' x, e' ≤ 9 ∧ r = .inl (ni e', x)) := by
  intro k
  induction k with
  | zero =>
    intro _ n hn e he
    obtain ⟨n, rfl⟩ : ∃ m, n = m + 1 := ⟨n - 1, by omega⟩
    refine ⟨.inl (ni e, ni 9), ⟨e, _, by omega, rfl⟩, fun M h => ?_⟩
    simp only [lp_X9_countEmpty_4]
    exact if_pos (show (9 : Int32) ≤ ni (9 - 0) by decide)
  | succ k ih =>
    intro hk n hn e he
    obtain ⟨n, rfl⟩ : ∃ m, n = m + 1 := ⟨n - 1, by omega⟩
    simp only [lp_X9_countEmpty_4, if_neg (up9a k (by omega)), up9b k (by omega)]
    refine UP.k (fun M h => h.rc9) ?_
    refine UP.k (fun M h => x_isOcc h (show 9 - (k + 1) < 9 by omega)) ?_
    refine UP.i (fun _ => ?_) (fun _ => ?_)
    · rw [ni_s]
      exact ih (by omega) n (by omega) (e + 1) (by omega)
    · exact ih (by omega) n (by omega) e (by omega)
theorem q_empty (B : Nat) (V : St) : UP (At B V) (f_X9_countEmpty B) (fun r => ∃ e, e ≤ 9 ∧ r = ni e) := by
  refine UP.b (q_empty_lp B V 9 (by decide) 100 (by decide) 0 (by decide)) (fun q hq => ?_)
  obtain ⟨e, x, he, rfl⟩ := hq
  exact UP.p ⟨e, he, rfl⟩
/-! beside a cell -/
theorem q_beside_lp (B : Nat) (V : St) {c : Nat} (hc : c < 9) : ∀ k, k ≤ 4 → ∀ n, k < n → ∀ e, e + k ≤ 4 → UP (At B V) (fun M => lp_X9_countBeside_4 B (ni c) M n (ni e) (ni (4 - k))) (fun r => ∃ e' x, e' ≤ 4 ∧ r = .inl (ni e', x)) := by
  intro k
  induction k with
  | zero =>
    intro _ n hn e he
    obtain ⟨n, rfl⟩ : ∃ m, n = m + 1 := ⟨n - 1, by omega⟩
    refine ⟨.inl (ni e, ni 4), ⟨e, _, by omega, rfl⟩, fun M h => ?_⟩
    simp only [lp_X9_countBeside_4]
    exact if_pos (show (4 : Int32) ≤ ni (4 - 0) by decide)
  | succ k ih =>
    intro hk n hn e he
    obtain ⟨n, rfl⟩ : ∃ m, n = m + 1 := ⟨n - 1, by omega⟩
    simp only [lp_X9_countBeside_4, if_neg (up4a k (by omega)), up4b k (by omega)]
    refine UP.k (fun M h => h.rc9) ?_
    refine UP.k (fun M h => x_isOccB h hc (show 4 - (k + 1) < 4 by omega)) ?_
    refine UP.i (fun _ => ?_) (fun _ => ?_)
    · exact ih (by omega) n (by omega) e (by omega)
    · rw [ni_s]
      exact ih (by omega) n (by omega) (e + 1) (by omega)
theorem q_beside (B : Nat) (V : St) {c : Nat} (hc : c < 9) : UP (At B V) (f_X9_countBeside B (ni c)) (fun r => ∃ e, e ≤ 4 ∧ r = ni e) := by
  refine UP.b (q_beside_lp B V hc 4 (by decide) 100 (by decide) 0 (by decide)) (fun q hq => ?_)
  obtain ⟨e, x, he, rfl⟩ := hq
  exact UP.p ⟨e, he, rfl⟩
theorem q_kind_lp (hW : WF V) {c : Nat} (hc : c < 9) (t : Int32) : ∀ k, k ≤ 4 → ∀ n, k < n → ∀ e, UP (At B V) (fun M => lp_X9_countKindBeside_5 B (ni c) t M n e (ni (4 - k))) (fun r => ∃ z, r = .inl z) := by
  intro k
  induction k with
  | zero =>
    intro _ n hn e
    obtain ⟨n, rfl⟩ : ∃ m, n = m + 1 := ⟨n - 1, by omega⟩
    refine ⟨.inl (e, ni 4), ⟨_, rfl⟩, fun M h => ?_⟩
    simp only [lp_X9_countKindBeside_5]
    exact if_pos (show (4 : Int32) ≤ ni (4 - 0) by decide)
  | succ k ih =>
    intro hk n hn e
    obtain ⟨n, rfl⟩ : ∃ m, n = m + 1 := ⟨n - 1, by omega⟩
    have hs : 4 - (k + 1) < 4 := by omega
    simp only [lp_X9_countKindBeside_5, if_neg (up4a k (by omega)), up4b k (by omega)]
    refine UP.k (fun M h => h.rc9) ?_
    refine UP.k (fun M h => x_isOccB h hc hs) ?_
    refine UP.i (fun _ => ?_) (fun ho => ?_)
    · exact ih (by omega) n (by omega) e
    · obtain ⟨d, hd, hd2⟩ := obV_1 ho
      have hd9 := nb_lt c hc _ hs d hd
      obtain ⟨q, u, hq, hu, e1, e2, e3⟩ := hW.laid hd9 hd2
      refine UP.k (fun M h => nb_eq hc hs M) ?_
      refine UP.k (fun M h => h.rc9) ?_
      rw [nbI_some hd]
      refine UP.k (fun M h => x_laid h hd9 hq e1) ?_
      refine UP.k (fun M h => h.g7 hq (j := 2) (by decide) (by decide)) ?_
      exact UP.i (fun _ => ih (by omega) n (by omega) _) (fun _ => ih (by omega) n (by omega) _)
theorem q_kind (hW : WF V) {c : Nat} (hc : c < 9) (t : Int32) : cUP B V (f_X9_countKindBeside B (ni c) t) := by
  refine UP.b (q_kind_lp hW hc t 4 (by decide) 100 (by decide) 0) (fun q hq => ?_)
  obtain ⟨⟨a, b⟩, rfl⟩ := hq
  exact UP.p trivial
/-! neighbours on the table -/
theorem up2a : ∀ k, k < 2 → ¬ (2 : Int32) < ni (3 - (k + 1)) := by decide +kernel
theorem up2b : ∀ k, k < 2 → ni (3 - (k + 1)) + 1 = ni (3 - k) := by decide +kernel
theorem q_pairs_in (B : Nat) (V : St) {c : Nat} (hc : c < 9) : ∀ k, k ≤ 2 → ∀ n, k < n → ∀ e, UP (At B V) (fun M => lp_X9_countNeighbourPairs_12 B (ni c) M n e (ni (3 - k))) (fun r => ∃ z, r = .inl z) := by
  intro k
  induction k with
  | zero =>
    intro _ n hn e
    obtain ⟨n, rfl⟩ : ∃ m, n = m + 1 := ⟨n - 1, by omega⟩
    refine ⟨.inl (e, ni 3), ⟨_, rfl⟩, fun M h => ?_⟩
    simp only [lp_X9_countNeighbourPairs_12]
    exact if_pos (show (2 : Int32) < ni (3 - 0) by decide)
  | succ k ih =>
    intro hk n hn e
    obtain ⟨n, rfl⟩ : ∃ m, n = m + 1 := ⟨n - 1, by omega⟩
    have hs : 3 - (k + 1) < 4 := by omega
    simp only [lp_X9_countNeighbourPairs_12, if_neg (up2a k (by omega)), up2b k (by omega)]
    refine UP.k (fun M h => h.rc9) ?_
    refine UP.k (fun M h => x_isOcc h hc) ?_
    refine UP.i (fun _ => ih (by omega) n (by omega) e) (fun _ => ?_)
    refine UP.k (fun M h => h.rc9) ?_
    refine UP.k (fun M h => x_isOccB h hc hs) ?_
    exact UP.i (fun _ => ih (by omega) n (by omega) _) (fun _ => ih (by omega) n (by omega) _)
theorem q_pairs_lp (B : Nat) (V : St) : ∀ k, k ≤ 9 → ∀ n, k < n → ∀ e, UP (At B V) (fun M => lp_X9_countNeighbourPairs_4 B M n e (ni (9 - k))) (fun r => ∃ z, r = .inl z) := by
  intro k
  induction k with
  | zero =>
    intro _ n hn e
    obtain ⟨n, rfl⟩ : ∃ m, n = m + 1 := ⟨n - 1, by omega⟩
    refine ⟨.inl (e, ni 9), ⟨_, rfl⟩, fun M h => ?_⟩
    simp only [lp_X9_countNeighbourPairs_4]
    exact if_pos (show (9 : Int32) ≤ ni (9 - 0) by decide)
  | succ k ih =>
    intro hk n hn e
    obtain ⟨n, rfl⟩ : ∃ m, n = m + 1 := ⟨n - 1, by omega⟩
    simp only [lp_X9_countNeighbourPairs_4, if_neg (up9a k (by omega)), up9b k (by omega)]
    refine UP.b (q_pairs_in B V (show 9 - (k + 1) < 9 by omega) 2 (by decide) 100 (by decide) e) (fun q hq => ?_)
    obtain ⟨⟨a, b⟩, rfl⟩ := hq
    exact ih (by omega) n (by omega) a
theorem q_pairs (B : Nat) (V : St) : cUP B V (f_X9_countNeighbourPairs B) := by
  refine UP.b (q_pairs_lp B V 9 (by decide) 100 (by decide) 0) (fun q hq => ?_)
  obtain ⟨⟨a, b⟩, rfl⟩ := hq
  exact UP.p trivial
/-! over the sheets -/
theorem up_n {n k : Nat} (hn : n ≤ 9) (hk : k < n) : ¬ ni n ≤ ni (n - (k + 1)) := fun h => by
  have := (ni_le (by omega) (by omega)).mp h
  omega
theorem up_m {n k : Nat} (hk : k < n) : ni (n - (k + 1)) + 1 = ni (n - k) := by
  rw [ni_s]
  congr 1
  omega
theorem q_wear_lp (hW : WF V) {m : Nat} (hm : m ≤ 9) (hV : V 0 2 = ni m) : ∀ k, k ≤ m → ∀ n, k < n → ∀ e, e + 9 * k ≤ 81 → UP (At B V) (fun M => lp_X9_sumOfWear_4 B M n (ni e) (ni (m - k))) (fun r => ∃ e' x, e' ≤ 81 ∧ r = .inl (ni e', x)) := by
  intro k
  induction k with
  | zero =>
    intro _ n hn e he
    obtain ⟨n, rfl⟩ : ∃ z, n = z + 1 := ⟨n - 1, by omega⟩
    simp only [lp_X9_sumOfWear_4]
    refine UP.k (fun M h => h.g9 (j := 2) (by decide) (by decide)) ?_
    rw [hV]
    refine UP.pos (show ni m ≤ ni (m - 0) from (ni_le (by omega) (by omega)).mpr (by omega)) ?_
    exact UP.p ⟨e, _, by omega, rfl⟩
  | succ k ih =>
    intro hk n hn e he
    obtain ⟨n, rfl⟩ : ∃ z, n = z + 1 := ⟨n - 1, by omega⟩
    have hi : m - (k + 1) < 9 := by omega
    obtain ⟨w, hw, ew⟩ := (hW.2.2.2 _ hi).2.2.1
    simp only [lp_X9_sumOfWear_4]
    refine UP.k (fun M h => h.g9 (j := 2) (by decide) (by decide)) ?_
    rw [hV]
    refine UP.neg (up_n hm (show k < m by omega)) ?_
    refine UP.k (fun M h => h.p90) ?_
    refine UP.k (fun M h => h.sh hi) ?_
    refine UP.k (fun M h => h.g7 hi (j := 4) (by decide) (by decide)) ?_
    rw [ew, ni_add, up_m (by omega)]
    exact ih (by omega) n (by omega) (e + w) (by omega)
theorem q_wear (hW : WF V) : UP (At B V) (f_X9_sumOfWear B) (fun r => ∃ e, e ≤ 81 ∧ r = ni e) := by
  obtain ⟨m, hm, hV⟩ := hW.n
  have h0 := q_wear_lp (B := B) hW hm hV m (Nat.le_refl _) 100 (by omega) 0 (by omega)
  rw [Nat.sub_self] at h0
  refine UP.b h0 (fun q hq => ?_)
  obtain ⟨e, x, he, rfl⟩ := hq
  exact UP.p ⟨e, he, rfl⟩
theorem q_flat_lp {m : Nat} (hm : m ≤ 9) (hV : V 0 2 = ni m) : ∀ k, k ≤ m → ∀ n, k < n → ∀ e, e + k ≤ 9 → UP (At B V) (fun M => lp_X9_countFlat_4 B M n (ni e) (ni (m - k))) (fun r => ∃ e' x, e' ≤ 9 ∧ r = .inl (ni e', x)) := by
  intro k
  induction k with
  | zero =>
    intro _ n hn e he
    obtain ⟨n, rfl⟩ : ∃ z, n = z + 1 := ⟨n - 1, by omega⟩
    simp only [lp_X9_countFlat_4]
    refine UP.k (fun M h => h.g9 (j := 2) (by decide) (by decide)) ?_
    rw [hV]
    refine UP.pos (show ni m ≤ ni (m - 0) from (ni_le (by omega) (by omega)).mpr (by omega)) ?_
    exact UP.p ⟨e, _, by omega, rfl⟩
  | succ k ih =>
    intro hk n hn e he
    obtain ⟨n, rfl⟩ : ∃ z, n = z + 1 := ⟨n - 1, by omega⟩
    have hi : m - (k + 1) < 9 := by omega
    simp only [lp_X9_countFlat_4]
    refine UP.k (fun M h => h.g9 (j := 2) (by decide) (by decide)) ?_
    rw [hV]
    refine UP.neg (up_n hm (show k < m by omega)) ?_
    refine UP.k (fun M h => h.p90) ?_
    refine UP.k (fun M h => h.sh hi) ?_
    refine UP.k (fun M h => h.g7 hi (j := 5) (by decide) (by decide)) ?_
    rw [up_m (show k < m by omega)]
    refine UP.i (fun _ => ?_) (fun _ => ih (by omega) n (by omega) e (by omega))
    rw [ni_s]
    exact ih (by omega) n (by omega) (e + 1) (by omega)
theorem q_flat (hW : WF V) : UP (At B V) (f_X9_countFlat B) (fun r => ∃ e, e ≤ 9 ∧ r = ni e) := by
  obtain ⟨m, hm, hV⟩ := hW.n
  have h0 := q_flat_lp (B := B) hm hV m (Nat.le_refl _) 100 (by omega) 0 (by omega)
  rw [Nat.sub_self] at h0
  refine UP.b h0 (fun q hq => ?_)
  obtain ⟨e, x, he, rfl⟩ := hq
  exact UP.p ⟨e, he, rfl⟩
theorem q_comes (B : Nat) (V : St) {i j : Nat} (hi : i < 9) (hj : j < 9) : cUP B V (f_X9_comesBefore B (ni i) (ni j)) := by
  refine UP.k (fun M h => h.p90) ?_
  refine UP.k (fun M h => h.sh hi) ?_
  refine UP.k (fun M h => h.p90) ?_
  refine UP.k (fun M h => h.sh hj) ?_
  refine UP.k (fun M h => h.g7 hi (j := 4) (by decide) (by decide)) ?_
  refine UP.k (fun M h => h.g7 hj (j := 4) (by decide) (by decide)) ?_
  refine UP.i (fun _ => ?_) (fun _ => ?_)
  · refine UP.k (fun M h => h.g7 hi (j := 3) (by decide) (by decide)) ?_
    refine UP.k (fun M h => h.g7 hj (j := 3) (by decide) (by decide)) ?_
    refine UP.i (fun _ => ?_) (fun _ => ?_)
    · exact UP.i (fun _ => UP.p trivial) (fun _ => UP.p trivial)
    · refine UP.k (fun M h => h.g7 hi (j := 3) (by decide) (by decide)) ?_
      refine UP.k (fun M h => h.g7 hj (j := 3) (by decide) (by decide)) ?_
      exact UP.i (fun _ => UP.p trivial) (fun _ => UP.p trivial)
  · refine UP.k (fun M h => h.g7 hi (j := 4) (by decide) (by decide)) ?_
    refine UP.k (fun M h => h.g7 hj (j := 4) (by decide) (by decide)) ?_
    exact UP.i (fun _ => UP.p trivial) (fun _ => UP.p trivial)
theorem q_before_lp {m i : Nat} (hi0 : i < 9) (hm : m ≤ 9) (hV : V 0 2 = ni m) : ∀ k, k ≤ m → ∀ n, k < n → ∀ e, UP (At B V) (fun M => lp_X9_countBefore_4 B (ni i) M n e (ni (m - k))) (fun r => ∃ z, r = .inl z) := by
  intro k
  induction k with
  | zero =>
    intro _ n hn e
    obtain ⟨n, rfl⟩ : ∃ z, n = z + 1 := ⟨n - 1, by omega⟩
    simp only [lp_X9_countBefore_4]
    refine UP.k (fun M h => h.g9 (j := 2) (by decide) (by decide)) ?_
    rw [hV]
    refine UP.pos (show ni m ≤ ni (m - 0) from (ni_le (by omega) (by omega)).mpr (by omega)) ?_
    exact UP.p ⟨_, rfl⟩
  | succ k ih =>
    intro hk n hn e
    obtain ⟨n, rfl⟩ : ∃ z, n = z + 1 := ⟨n - 1, by omega⟩
    have hi : m - (k + 1) < 9 := by omega
    simp only [lp_X9_countBefore_4]
    refine UP.k (fun M h => h.g9 (j := 2) (by decide) (by decide)) ?_
    rw [hV, up_m (show k < m by omega)]
    refine UP.neg (up_n hm (show k < m by omega)) ?_
    refine UP.k (fun M h => h.rc9) ?_
    refine UP.b (q_comes B V hi hi0) (fun r _ => ?_)
    exact UP.i (fun _ => ih (by omega) n (by omega) _) (fun _ => ih (by omega) n (by omega) _)
theorem q_before (hW : WF V) {i : Nat} (hi : i < 9) : cUP B V (f_X9_countBefore B (ni i)) := by
  obtain ⟨m, hm, hV⟩ := hW.n
  have h0 := q_before_lp (B := B) hi hm hV m (Nat.le_refl _) 100 (by omega) 0
  rw [Nat.sub_self] at h0
  refine UP.b h0 (fun q hq => ?_)
  obtain ⟨⟨a, b⟩, rfl⟩ := hq
  exact UP.p trivial
theorem q_rank_lp (hW : WF V) {m : Nat} (x : Int32) (hm : m ≤ 9) (hV : V 0 2 = ni m) : ∀ k, k ≤ m → ∀ n, k < n → UP (At B V) (fun M => lp_X9_sheetAtRank_2 B x M n (ni (m - k))) (fun _ => True) := by
  intro k
  induction k with
  | zero =>
    intro _ n hn
    obtain ⟨n, rfl⟩ : ∃ z, n = z + 1 := ⟨n - 1, by omega⟩
    simp only [lp_X9_sheetAtRank_2]
    refine UP.k (fun M h => h.g9 (j := 2) (by decide) (by decide)) ?_
    rw [hV]
    refine UP.pos (show ni m ≤ ni (m - 0) from (ni_le (by omega) (by omega)).mpr (by omega)) ?_
    exact UP.p trivial
  | succ k ih =>
    intro hk n hn
    obtain ⟨n, rfl⟩ : ∃ z, n = z + 1 := ⟨n - 1, by omega⟩
    have hi : m - (k + 1) < 9 := by omega
    simp only [lp_X9_sheetAtRank_2]
    refine UP.k (fun M h => h.g9 (j := 2) (by decide) (by decide)) ?_
    rw [hV, up_m (show k < m by omega)]
    refine UP.neg (up_n hm (show k < m by omega)) ?_
    refine UP.k (fun M h => h.rc9) ?_
    refine UP.b (q_before hW hi) (fun r _ => ?_)
    exact UP.i (fun _ => UP.p trivial) (fun _ => ih (by omega) n (by omega))
theorem q_rank (hW : WF V) (x : Int32) : cUP B V (f_X9_sheetAtRank B x) := by
  obtain ⟨m, hm, hV⟩ := hW.n
  have h0 := q_rank_lp (B := B) hW x hm hV m (Nat.le_refl _) 100 (by omega)
  rw [Nat.sub_self] at h0
  refine UP.b h0 (fun q _ => ?_)
  rcases q with a | a
  · exact UP.p trivial
  · exact UP.p trivial
/-! places for a sheet -/
theorem q_places_in (hW : WF V) {i c : Nat} (hi : i < 9) (hc : c < 9) : ∀ k, k ≤ 4 → ∀ n, k < n → ∀ e, UP (At B V) (fun M => lp_X9_countPlaces_13 B (B + 3 + 3 * i) (ni c) M n e (ni (4 - k))) (fun r => ∃ z, r = .inl z) := by
  intro k
  induction k with
  | zero =>
    intro _ n hn e
    obtain ⟨n, rfl⟩ : ∃ m, n = m + 1 := ⟨n - 1, by omega⟩
    refine ⟨.inl (e, ni 4), ⟨_, rfl⟩, fun M h => ?_⟩
    simp only [lp_X9_countPlaces_13]
    exact if_pos (show (4 : Int32) ≤ ni (4 - 0) by decide)
  | succ k ih =>
    intro hk n hn e
    obtain ⟨n, rfl⟩ : ∃ m, n = m + 1 := ⟨n - 1, by omega⟩
    have hs : 4 - (k + 1) < 4 := by omega
    simp only [lp_X9_countPlaces_13, if_neg (up4a k (by omega)), up4b k (by omega)]
    refine UP.k (fun M h => h.rc9) ?_
    refine UP.k (fun M h => x_isOcc h hc) ?_
    refine UP.i (fun _ => ?_) (fun _ => ih (by omega) n (by omega) e)
    refine UP.k (fun M h => h.rc9) ?_
    refine UP.b (q_fits hW hi hc hs) (fun r _ => ?_)
    exact UP.i (fun _ => ih (by omega) n (by omega) _) (fun _ => ih (by omega) n (by omega) _)
theorem q_places_lp (hW : WF V) {i : Nat} (hi : i < 9) : ∀ k, k ≤ 9 → ∀ n, k < n → ∀ e, UP (At B V) (fun M => lp_X9_countPlaces_4 B (B + 3 + 3 * i) M n e (ni (9 - k))) (fun r => ∃ z, r = .inl z) := by
  intro k
  induction k with
  | zero =>
    intro _ n hn e
    obtain ⟨n, rfl⟩ : ∃ m, n = m + 1 := ⟨n - 1, by omega⟩
    refine ⟨.inl (e, ni 9), ⟨_, rfl⟩, fun M h => ?_⟩
    simp only [lp_X9_countPlaces_4]
    exact if_pos (show (9 : Int32) ≤ ni (9 - 0) by decide)
  | succ k ih =>
    intro hk n hn e
    obtain ⟨n, rfl⟩ : ∃ m, n = m + 1 := ⟨n - 1, by omega⟩
    simp only [lp_X9_countPlaces_4, if_neg (up9a k (by omega)), up9b k (by omega)]
    refine UP.b (q_places_in hW hi (show 9 - (k + 1) < 9 by omega) 4 (by decide) 100 (by decide) e) (fun q hq => ?_)
    obtain ⟨⟨a, b⟩, rfl⟩ := hq
    exact ih (by omega) n (by omega) a
theorem q_places (hW : WF V) {i : Nat} (hi : i < 9) : cUP B V (f_X9_countPlaces B (B + 3 + 3 * i)) := by
  refine UP.b (q_places_lp hW hi 9 (by decide) 100 (by decide) 0) (fun q hq => ?_)
  obtain ⟨⟨a, b⟩, rfl⟩ := hq
  exact UP.p trivial
/-! points -/
theorem q_city (hW : WF V) {c : Nat} (hc : c < 9) : cUP B V (f_X5_ofCity B (ni c)) := by
  refine UP.k (fun M h => h.rc9) ?_
  refine UP.b (q_kind hW hc 99) (fun r _ => ?_)
  refine UP.b (f := fun M => f_J9_max_7cf53 0 (6 - (2 * r)) M) (Q1 := fun _ => True) ?_ (fun r _ => UP.p trivial)
  exact UP.i (fun _ => UP.p trivial) (fun _ => UP.p trivial)
theorem q_inCell (hW : WF V) {c : Nat} (hc : c < 9) (ho : V 2 c ≠ -1) : cUP B V (f_X5_inCell B (ni c)) := by
  obtain ⟨q, u, hq, hu, e1, e2, e3⟩ := hW.laid hc ho
  refine UP.k (fun M h => h.rc9) ?_
  refine UP.k (fun M h => x_laid h hc hq e1) ?_
  refine UP.k (fun M h => h.g7 hq (j := 2) (by decide) (by decide)) ?_
  refine UP.i (fun _ => ?_) (fun _ => UP.i (fun _ => ?_) (fun _ => ?_))
  · refine UP.k (fun M h => h.rc9) ?_
    exact UP.b (q_kind hW hc 115) (fun r _ => UP.p trivial)
  · refine UP.k (fun M h => h.rc9) ?_
    refine UP.b (q_beside B V hc) (fun r _ => ?_)
    refine UP.k (fun M h => h.rc9) ?_
    exact UP.b (q_kind hW hc 108) (fun r _ => UP.p trivial)
  · exact UP.b (q_city hW hc) (fun r _ => UP.p trivial)
theorem q_points_lp (hW : WF V) : ∀ k, k ≤ 9 → ∀ n, k < n → ∀ e, UP (At B V) (fun M => lp_X5_sheetBySheet_4 B M n e (ni (9 - k))) (fun r => ∃ z, r = .inl z) := by
  intro k
  induction k with
  | zero =>
    intro _ n hn e
    obtain ⟨n, rfl⟩ : ∃ m, n = m + 1 := ⟨n - 1, by omega⟩
    refine ⟨.inl (e, ni 9), ⟨_, rfl⟩, fun M h => ?_⟩
    simp only [lp_X5_sheetBySheet_4]
    exact if_pos (show (9 : Int32) ≤ ni (9 - 0) by decide)
  | succ k ih =>
    intro hk n hn e
    obtain ⟨n, rfl⟩ : ∃ m, n = m + 1 := ⟨n - 1, by omega⟩
    have hc : 9 - (k + 1) < 9 := by omega
    simp only [lp_X5_sheetBySheet_4, if_neg (up9a k (by omega)), up9b k (by omega)]
    refine UP.k (fun M h => h.rc9) ?_
    refine UP.k (fun M h => x_isOcc h hc) ?_
    refine UP.i (fun _ => ih (by omega) n (by omega) e) (fun ho => ?_)
    refine UP.b (q_inCell hW hc (fun z => ho (if_pos z))) (fun r _ => ?_)
    exact ih (by omega) n (by omega) _
theorem q_points (hW : WF V) : cUP B V (f_X5_sheetBySheet B) := by
  refine UP.b (q_points_lp hW 9 (by decide) 100 (by decide) 0) (fun q hq => ?_)
  obtain ⟨⟨a, b⟩, rfl⟩ := hq
  exact UP.p trivial
/-! groups -/
theorem q_contains (x y : Int32) : cUP B V (f_X2_contains x y) := UP.i (fun _ => UP.p trivial) (fun _ => UP.p trivial)
theorem q_with_in (B : Nat) (V : St) {c : Nat} (hc : c < 9) (x : Int32) : ∀ k, k ≤ 4 → ∀ n, k < n → ∀ e, UP (At B V) (fun M => lp_X2_withNeighbours_13 B x (ni c) M n e (ni (4 - k))) (fun r => ∃ z, r = .inl z) := by
  intro k
  induction k with
  | zero =>
    intro _ n hn e
    obtain ⟨n, rfl⟩ : ∃ m, n = m + 1 := ⟨n - 1, by omega⟩
    refine ⟨.inl (e, ni 4), ⟨_, rfl⟩, fun M h => ?_⟩
    simp only [lp_X2_withNeighbours_13]
    exact if_pos (show (4 : Int32) ≤ ni (4 - 0) by decide)
  | succ k ih =>
    intro hk n hn e
    obtain ⟨n, rfl⟩ : ∃ m, n = m + 1 := ⟨n - 1, by omega⟩
    have hs : 4 - (k + 1) < 4 := by omega
    simp only [lp_X2_withNeighbours_13, if_neg (up4a k (by omega)), up4b k (by omega)]
    refine UP.b (q_contains x (ni c)) (fun r _ => ?_)
    refine UP.i (fun _ => ih (by omega) n (by omega) e) (fun _ => ?_)
    refine UP.k (fun M h => h.rc9) ?_
    refine UP.k (fun M h => x_isOccB h hc hs) ?_
    refine UP.i (fun _ => ih (by omega) n (by omega) e) (fun _ => ?_)
    refine UP.k (fun M h => nb_eq hc hs M) ?_
    exact ih (by omega) n (by omega) _
theorem q_with_lp (B : Nat) (V : St) (x : Int32) : ∀ k, k ≤ 9 → ∀ n, k < n → ∀ e, UP (At B V) (fun M => lp_X2_withNeighbours_4 B x M n e (ni (9 - k))) (fun r => ∃ z, r = .inl z) := by
  intro k
  induction k with
  | zero =>
    intro _ n hn e
    obtain ⟨n, rfl⟩ : ∃ m, n = m + 1 := ⟨n - 1, by omega⟩
    refine ⟨.inl (e, ni 9), ⟨_, rfl⟩, fun M h => ?_⟩
    simp only [lp_X2_withNeighbours_4]
    exact if_pos (show (9 : Int32) ≤ ni (9 - 0) by decide)
  | succ k ih =>
    intro hk n hn e
    obtain ⟨n, rfl⟩ : ∃ m, n = m + 1 := ⟨n - 1, by omega⟩
    simp only [lp_X2_withNeighbours_4, if_neg (up9a k (by omega)), up9b k (by omega)]
    refine UP.b (q_with_in B V (show 9 - (k + 1) < 9 by omega) x 4 (by decide) 100 (by decide) e) (fun q hq => ?_)
    obtain ⟨⟨a, b⟩, rfl⟩ := hq
    exact ih (by omega) n (by omega) a
theorem q_with (B : Nat) (V : St) (x : Int32) : cUP B V (f_X2_withNeighbours B x) := by
  refine UP.b (q_with_lp B V x 9 (by decide) 100 (by decide) x) (fun q hq => ?_)
  obtain ⟨⟨a, b⟩, rfl⟩ := hq
  exact UP.p trivial
theorem up8a : ∀ k, k < 8 → ¬ (9 : Int32) ≤ ni (9 - (k + 1)) := by decide +kernel
theorem q_conn_lp (B : Nat) (V : St) (x : Int32) : ∀ k, k ≤ 8 → ∀ n, k < n → ∀ e, UP (At B V) (fun M => lp_X2_cellsConnectedTo_6 B x M n e (ni (9 - k))) (fun r => ∃ z, r = .inl z) := by
  intro k
  induction k with
  | zero =>
    intro _ n hn e
    obtain ⟨n, rfl⟩ : ∃ m, n = m + 1 := ⟨n - 1, by omega⟩
    refine ⟨.inl (e, ni 9), ⟨_, rfl⟩, fun M h => ?_⟩
    simp only [lp_X2_cellsConnectedTo_6]
    exact if_pos (show (9 : Int32) ≤ ni (9 - 0) by decide)
  | succ k ih =>
    intro hk n hn e
    obtain ⟨n, rfl⟩ : ∃ m, n = m + 1 := ⟨n - 1, by omega⟩
    simp only [lp_X2_cellsConnectedTo_6, if_neg (up8a k (by omega)), up9b k (by omega)]
    refine UP.b (q_with B V e) (fun r _ => ?_)
    exact ih (by omega) n (by omega) r
theorem q_conn (B : Nat) (V : St) (x : Int32) : cUP B V (f_X2_cellsConnectedTo B x) := by
  refine UP.b (q_conn_lp B V x 8 (by decide) 100 (by decide) _) (fun q hq => ?_)
  obtain ⟨⟨a, b⟩, rfl⟩ := hq
  exact UP.p trivial
theorem q_groups_lp (B : Nat) (V : St) : ∀ k, k ≤ 9 → ∀ n, k < n → ∀ e f, UP (At B V) (fun M => lp_X2_countByFilling_6 B M n e f (ni (9 - k))) (fun r => ∃ z, r = .inl z) := by
  intro k
  induction k with
  | zero =>
    intro _ n hn e f
    obtain ⟨n, rfl⟩ : ∃ m, n = m + 1 := ⟨n - 1, by omega⟩
    refine ⟨.inl (e, f, ni 9), ⟨_, rfl⟩, fun M h => ?_⟩
    simp only [lp_X2_countByFilling_6]
    exact if_pos (show (9 : Int32) ≤ ni (9 - 0) by decide)
  | succ k ih =>
    intro hk n hn e f
    obtain ⟨n, rfl⟩ : ∃ m, n = m + 1 := ⟨n - 1, by omega⟩
    simp only [lp_X2_countByFilling_6, if_neg (up9a k (by omega)), up9b k (by omega)]
    refine UP.k (fun M h => h.rc9) ?_
    refine UP.k (fun M h => x_isOcc h (show 9 - (k + 1) < 9 by omega)) ?_
    refine UP.i (fun _ => ih (by omega) n (by omega) e f) (fun _ => ?_)
    refine UP.b (q_contains e (ni (9 - (k + 1)))) (fun r _ => ?_)
    refine UP.i (fun _ => ?_) (fun _ => ih (by omega) n (by omega) e f)
    exact UP.b (q_conn B V (ni (9 - (k + 1)))) (fun r _ => ih (by omega) n (by omega) _ _)
theorem q_groups (B : Nat) (V : St) : cUP B V (f_X2_countByFilling B) := by
  refine UP.b (q_groups_lp B V 9 (by decide) 100 (by decide) 0 0) (fun q hq => ?_)
  obtain ⟨⟨a, b, c⟩, rfl⟩ := hq
  exact UP.p trivial
end CQ
