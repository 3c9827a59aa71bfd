/-! ===== pure: what a state answers ===== -/
abbrev M00 : Mem := canon 0 (fun _ _ => 0)
def nb (c s : Nat) : Option Nat := if s = 0 then (if 3 ≤ c then some (c - 3) else none) else if s = 1 then (if c % 3 < 2 then some (c + 1) else none) else if s = 2 then (if c < 6 then some (c + 3) else none) else (if 0 < c % 3 then some (c - 1) else none)
def nbI (c s : Nat) : Int32 := match nb c s with
  | some d => ni d
  | none => -1
theorem nb_lt : ∀ c, c < 9 → ∀ s, s < 4 → ∀ d, nb c s = some d → d < 9 := by
  have h : ∀ c, c < 9 → ∀ s, s < 4 → (match nb c s with | some d => decide (d < 9) | none => true) = true := by decide +kernel
  intro c hc s hs d hd
  have := h c hc s hs
  rw [hd] at this
  exact of_decide_eq_true this
theorem nb_eq {c s : Nat} (hc : c < 9) (hs : s < 4) (M : Mem) : f_X10_neighbour (ni c) (ni s) M = some (nbI c s) := by
  have h : ∀ c, c < 9 → ∀ s, s < 4 → f_X10_neighbour (ni c) (ni s) M00 = some (nbI c s) := by decide +kernel
  exact h c hc s hs
theorem op_eq {s : Nat} (hs : s < 4) (M : Mem) : f_X10_opposite (ni s) M = some (ni ((s + 2) % 4)) := by
  have h : ∀ s, s < 4 → f_X10_opposite (ni s) M00 = some (ni ((s + 2) % 4)) := by decide +kernel
  exact h s hs
theorem fm_eq {s t : Nat} (hs : s < 4) (ht : t < 4) (M : Mem) : f_J9_floorMod_7cf53 (ni s - ni t) 4 M = some (ni ((s + 4 - t) % 4)) := by
  have h : ∀ s, s < 4 → ∀ t, t < 4 → f_J9_floorMod_7cf53 (ni s - ni t) 4 M00 = some (ni ((s + 4 - t) % 4)) := by decide +kernel
  exact h s hs t ht
theorem up9a : ∀ k, k < 9 → ¬ (9 : Int32) ≤ ni (9 - (k + 1)) := by decide +kernel
theorem up9b : ∀ k, k < 9 → ni (9 - (k + 1)) + 1 = ni (9 - k) := by decide +kernel
theorem up4a : ∀ k, k < 4 → ¬ (4 : Int32) ≤ ni (4 - (k + 1)) := by decide +kernel
theorem up4b : ∀ k, k < 4 → ni (4 - (k + 1)) + 1 = ni (4 - k) := by decide +kernel
section RQ
variable {B : Nat} {V : St}
theorem x_isOcc {M : Mem} (h : At B V M) {c : Nat} (hc : c < 9) : f_X9_isOccupied B (ni c) M = some (if V 2 c = -1 then 0 else 1) := by
  unfold f_X9_isOccupied
  simp only [h.p91, Option.bind_some, h.oc hc]
  split <;> rfl
def obV (V : St) (c s : Nat) : Int32 := match nb c s with
  | some d => if V 2 d = -1 then 0 else 1
  | none => 0
theorem x_isOccB {M : Mem} (h : At B V M) {c s : Nat} (hc : c < 9) (hs : s < 4) : f_X9_isOccupiedBeside B (ni c) (ni s) M = some (obV V c s) := by
  unfold f_X9_isOccupiedBeside
  simp only [nb_eq hc hs, Option.bind_some, h.rc9]
  unfold nbI obV
  cases e : nb c s with
  | none => rfl
  | some d =>
    have hd := nb_lt c hc s hs d e
    simp only [x_isOcc h hd, Option.bind_some]
    rw [if_neg (ni_ne d (by omega))]
    by_cases h2 : V 2 d = -1
    · rw [if_pos h2, if_pos rfl]
    · rw [if_neg h2, if_neg (by decide)]
theorem x_laid {M : Mem} (h : At B V M) {c i : Nat} (hc : c < 9) (hi : i < 9) (ho : V 2 c = ni i) : f_X9_sheetLaidIn B (ni c) M = some (B + 3 + 3 * i) := by
  unfold f_X9_sheetLaidIn
  simp only [h.p90, h.p91, Option.bind_some, h.oc hc, ho, h.sh hi]
theorem x_bwt {M : Mem} (h : At B V M) {i s t : Nat} (hi : i < 9) (hs : s < 4) (ht : t < 4) : f_X7_borderWhenTurned (B + 3 + 3 * i) (ni s) (ni t) M = some (V (4 + 3 * i) ((s + 4 - t) % 4)) := by
  unfold f_X7_borderWhenTurned
  simp only [h.p70 hi, Option.bind_some, fm_eq hs ht, h.bd hi (Nat.mod_lt _ (by decide))]
theorem x_bal {M : Mem} (h : At B V M) {i s t : Nat} (hi : i < 9) (hs : s < 4) (hc : V (3 + 3 * i) 6 ≠ -1) (ht : t < 4) (hT : V (3 + 3 * i) 7 = ni t) : f_X7_borderAsLaid (B + 3 + 3 * i) (ni s) M = some (V (4 + 3 * i) ((s + 4 - t) % 4)) := by
  unfold f_X7_borderAsLaid
  simp only [h.g77 hi hc, h.rc7 hi, Option.bind_some, hT, x_bwt h hi hs ht]
theorem x_onT {M : Mem} (h : At B V M) {i : Nat} (hi : i < 9) : f_X7_onTable (B + 3 + 3 * i) M = some (if V (3 + 3 * i) 6 = -1 then 0 else 1) := by
  unfold f_X7_onTable
  simp only [h.g7 hi (j := 6) (by decide) (by decide), Option.bind_some]
  split <;> rfl
theorem x_torn {M : Mem} (h : At B V M) {i : Nat} (hi : i < 9) : f_X7_torn (B + 3 + 3 * i) M = some (if V (3 + 3 * i) 4 < 5 then 0 else 1) := by
  unfold f_X7_torn
  simp only [h.g7 hi (j := 4) (by decide) (by decide), Option.bind_some]
  split <;> rfl
def cblV (V : St) (i : Nat) : Bool := decide (V (3 + 3 * i) 5 = 0) && decide (V (3 + 3 * i) 4 < 5) && decide (V (3 + 3 * i) 6 = -1)
theorem x_cbl {M : Mem} (h : At B V M) {i : Nat} (hi : i < 9) : f_X7_canBeLaid (B + 3 + 3 * i) M = some (if cblV V i then 1 else 0) := by
  unfold f_X7_canBeLaid cblV
  simp only [h.g7 hi (j := 5) (by decide) (by decide), h.rc7 hi, x_torn h hi, x_onT h hi, Option.bind_some]
  by_cases h1 : V (3 + 3 * i) 5 = 0 <;> by_cases h2 : V (3 + 3 * i) 4 < 5 <;> by_cases h3 : V (3 + 3 * i) 6 = -1 <;> simp [h1, h2, h3]
theorem WF.n {V : St} (h : WF V) : ∃ n, n ≤ 9 ∧ V 0 2 = ni n := h.1
theorem WF.occ {V : St} (h : WF V) {c : Nat} (hc : c < 9) (ho : V 2 c ≠ -1) : ∃ i, i < 9 ∧ V 2 c = ni i ∧ ni i < V 0 2 ∧ V (3 + 3 * i) 6 = ni c := (h.2.2.1 c hc).resolve_left ho
theorem WF.laid {V : St} (h : WF V) {c : Nat} (hc : c < 9) (ho : V 2 c ≠ -1) : ∃ i t, i < 9 ∧ t < 4 ∧ V 2 c = ni i ∧ V (3 + 3 * i) 6 ≠ -1 ∧ V (3 + 3 * i) 7 = ni t := by
  obtain ⟨i, hi, h1, -, h2⟩ := h.occ hc ho
  have h3 : V (3 + 3 * i) 6 ≠ -1 := by rw [h2]; exact ni_ne c (by omega)
  obtain ⟨c', -, -, -, t, ht, h4⟩ := ((h.2.2.2 i hi).2.2.2.2.1).resolve_left h3
  exact ⟨i, t, hi, ht, h1, h3, h4⟩
theorem obV_1 {V : St} {c s : Nat} (h : obV V c s ≠ 0) : ∃ d, nb c s = some d ∧ V 2 d ≠ -1 := by
  unfold obV at h
  cases e : nb c s with
  | none => rw [e] at h; exact (h rfl).elim
  | some d =>
    rw [e] at h
    exact ⟨d, rfl, fun z => h (by simp only [z, if_true])⟩
theorem nbI_some {c s d : Nat} (h : nb c s = some d) : nbI c s = ni d := by unfold nbI; rw [h]
/-- a sheet fits -/
theorem q_fits_lp (hW : WF V) {i c t : Nat} (hi : i < 9) (hc : c < 9) (ht : t < 4) : ∀ k, k ≤ 4 → ∀ n, k < n → UP (At B V) (fun M => lp_X9_fits_3 B (B + 3 + 3 * i) (ni c) (ni t) M n (ni (4 - k))) (fun r => (∃ x, r = .inl x) ∨ r = .inr 0) := by
  intro k
  induction k with
  | zero =>
    intro _ n hn
    obtain ⟨n, rfl⟩ : ∃ m, n = m + 1 := ⟨n - 1, by omega⟩
    refine ⟨.inl (ni 4), Or.inl ⟨_, rfl⟩, fun M h => ?_⟩
    unfold lp_X9_fits_3
    dsimp only
    exact if_pos (show (4 : Int32) ≤ ni (4 - 0) by decide)
  | succ k ih =>
    intro hk n hn
    obtain ⟨n, rfl⟩ : ∃ m, n = m + 1 := ⟨n - 1, by omega⟩
    obtain ⟨r, h1, h2⟩ := ih (by omega) n (by omega)
    have hs : 4 - (k + 1) < 4 := by omega
    by_cases ho : obV V c (4 - (k + 1)) = 0
    · refine ⟨r, h1, fun M h => ?_⟩
      unfold lp_X9_fits_3
      simp only [if_neg (up4a k (by omega)), h.rc9, x_isOccB h hc hs, Option.bind_some, if_pos ho, up4b k (by omega)]
      exact h2 M h
    · obtain ⟨d, hd, hd2⟩ := obV_1 ho
      have hd9 := nb_lt c hc _ hs d hd
      obtain ⟨q, u, hq, hu, e1, e2, e3⟩ := hW.laid hd9 hd2
      by_cases e : V (4 + 3 * i) ((4 - (k + 1) + 4 - t) % 4) = V (4 + 3 * q) (((4 - (k + 1) + 2) % 4 + 4 - u) % 4)
      · refine ⟨r, h1, fun M h => ?_⟩
        unfold lp_X9_fits_3
        simp only [if_neg (up4a k (by omega)), h.rc9, x_isOccB h hc hs, Option.bind_some, if_neg ho, nb_eq hc hs, nbI_some hd, x_laid h hd9 hq e1, h.rc7 hi, h.rc7 hq, x_bwt h hi hs ht, op_eq hs, x_bal h hq (Nat.mod_lt _ (by decide) : (4 - (k + 1) + 2) % 4 < 4) e2 hu e3, if_pos e, up4b k (by omega)]
        exact h2 M h
      · refine ⟨.inr 0, Or.inr rfl, fun M h => ?_⟩
        unfold lp_X9_fits_3
        simp only [if_neg (up4a k (by omega)), h.rc9, x_isOccB h hc hs, Option.bind_some, if_neg ho, nb_eq hc hs, nbI_some hd, x_laid h hd9 hq e1, h.rc7 hi, h.rc7 hq, x_bwt h hi hs ht, op_eq hs, x_bal h hq (Nat.mod_lt _ (by decide) : (4 - (k + 1) + 2) % 4 < 4) e2 hu e3, if_neg e]
theorem q_fits (hW : WF V) {i c t : Nat} (hi : i < 9) (hc : c < 9) (ht : t < 4) : UP (At B V) (f_X9_fits B (B + 3 + 3 * i) (ni c) (ni t)) (fun r => r = 0 ∨ r = 1) := by
  refine UP.b (q_fits_lp (B := B) hW hi hc ht 4 (by decide) 100 (by decide)) (fun q hq => ?_)
  rcases hq with ⟨x, rfl⟩ | rfl
  · exact UP.p (Or.inr rfl)
  · exact UP.p (Or.inl rfl)
end RQ
theorem UP.k {α β : Type} {C : Mem → Prop} {Q : β → Prop} {f : Mem → Option α} {g : α → Mem → Option β} {r : α} (h : ∀ M, C M → f M = some r) (k : UP C (g r) Q) : UP C (fun M => (f M).bind fun r => g r M) Q := by
  obtain ⟨x, h3, h4⟩ := k
  exact ⟨x, h3, fun M hM => by show (f M).bind _ = _; rw [h M hM]; exact h4 M hM⟩
theorem UP.pos {β : Type} {C : Mem → Prop} {Q : β → Prop} {c : Prop} [Decidable c] {f g : Mem → Option β} (hc : c) (h : UP C f Q) : UP C (fun M => if c then f M else g M) Q := UP.i (fun _ => h) (fun z => absurd hc z)
theorem UP.neg {β : Type} {C : Mem → Prop} {Q : β → Prop} {c : Prop} [Decidable c] {f g : Mem → Option β} (hc : ¬ c) (h : UP C g Q) : UP C (fun M => if c then f M else g M) Q := UP.i (fun z => absurd z hc) (fun _ => h)
