/-! ===== pure: the changes of a state, second; what is kept of every state is kept ===== -/
theorem UP.val {α : Type} {C : Mem → Prop} {f : Mem → Option α} {Q : α → Prop} (h : UP C f Q) {M0 : Mem} (h0 : C M0) (d : α) : Q ((f M0).getD d) ∧ ∀ M, C M → f M = some ((f M0).getD d) := by
  obtain ⟨r, h1, h2⟩ := h
  rw [h2 M0 h0]
  exact ⟨h1, h2⟩
def layV (V : St) (i c t : Nat) : St := upS (upS (upS V 2 c (ni i)) (3 + 3 * i) 6 (ni c)) (3 + 3 * i) 7 (ni t)
def liftV (V : St) (i c : Nat) : St := upS (upS V (3 + 3 * i) 6 (-1)) 2 c (-1)
def fitsV (B : Nat) (V : St) (i c t : Nat) : Int32 := (f_X9_fits B (B + 3 + 3 * i) (ni c) (ni t) (canon B V)).getD 0
def besV (B : Nat) (V : St) (c : Nat) : Int32 := (f_X9_countBeside B (ni c) (canon B V)).getD 0
def flatV (B : Nat) (V : St) : Int32 := (f_X9_countFlat B (canon B V)).getD 0
section OP2
variable {B : Nat} {V : St}
theorem x_fits (hW : WF V) {M : Mem} (h : At B V M) {i c t : Nat} (hi : i < 9) (hc : c < 9) (ht : t < 4) : f_X9_fits B (B + 3 + 3 * i) (ni c) (ni t) M = some (fitsV B V i c t) := ((q_fits hW hi hc ht).val (canon_at B V) 0).2 M h
theorem x_bes {M : Mem} (h : At B V M) {c : Nat} (hc : c < 9) : f_X9_countBeside B (ni c) M = some (besV B V c) := ((q_beside B V hc).val (canon_at B V) 0).2 M h
theorem besV_r (B : Nat) (V : St) {c : Nat} (hc : c < 9) : ∃ e, e ≤ 4 ∧ besV B V c = ni e := ((q_beside B V hc).val (canon_at B V) 0).1
theorem x_flat (hW : WF V) {M : Mem} (h : At B V M) : f_X9_countFlat B M = some (flatV B V) := ((q_flat hW).val (canon_at B V) 0).2 M h
theorem flatV_r (B : Nat) (hW : WF V) : ∃ e, e ≤ 9 ∧ flatV B V = ni e := ((q_flat hW).val (canon_at B V) 0).1
/-! what is kept -/
theorem WF.up7 (hW : WF V) {i : Nat} (hi : i < 9) {j : Nat} {x : Int32} (hx : (j = 2 ∧ (x = 115 ∨ x = 108 ∨ x = 99)) ∨ (j = 3 ∧ ∃ k, k ≤ 6 ∧ x = ni k) ∨ (j = 4 ∧ ∃ k, k ≤ 9 ∧ x = ni k) ∨ (j = 5 ∧ (x = 0 ∨ x = 1))) : WF (upS V (3 + 3 * i) j x) := by
  have hj : j < 6 := by omega
  refine ⟨by rw [upS_n (by omega)]; exact hW.1, by rw [upS_n (by omega)]; exact hW.2.1, fun c hc => ?_, fun i' hi' => ?_⟩
  · rw [upS_n (by omega)]
    rcases hW.2.2.1 c hc with z | ⟨q, a, b, c', d⟩
    · exact Or.inl z
    · exact Or.inr ⟨q, a, b, by rw [upS_n (by omega)]; exact c', by rw [upS_n (by omega)]; exact d⟩
  · obtain ⟨a, b, c, d, e, f, g⟩ := hW.2.2.2 i' hi'
    refine ⟨?_, ?_, ?_, ?_, ?_, fun j' hj' => ?_, fun j' hj' => ?_⟩
    · by_cases z : i' = i ∧ j = 2
      · obtain ⟨rfl, rfl⟩ := z
        rw [upS_e]
        rcases hx with ⟨-, h⟩ | ⟨h, -⟩ | ⟨h, -⟩ | ⟨h, -⟩
        · exact h
        all_goals omega
      · rw [upS_n (by omega)]
        exact a
    · by_cases z : i' = i ∧ j = 3
      · obtain ⟨rfl, rfl⟩ := z
        rw [upS_e]
        rcases hx with ⟨h, -⟩ | ⟨-, h⟩ | ⟨h, -⟩ | ⟨h, -⟩
        · omega
        · exact h
        all_goals omega
      · rw [upS_n (by omega)]
        exact b
    · by_cases z : i' = i ∧ j = 4
      · obtain ⟨rfl, rfl⟩ := z
        rw [upS_e]
        rcases hx with ⟨h, -⟩ | ⟨h, -⟩ | ⟨-, h⟩ | ⟨h, -⟩
        · omega
        · omega
        · exact h
        · omega
      · rw [upS_n (by omega)]
        exact c
    · by_cases z : i' = i ∧ j = 5
      · obtain ⟨rfl, rfl⟩ := z
        rw [upS_e]
        rcases hx with ⟨h, -⟩ | ⟨h, -⟩ | ⟨h, -⟩ | ⟨-, h⟩
        · omega
        · omega
        · omega
        · exact h
      · rw [upS_n (by omega)]
        exact d
    · rw [upS_n (by omega), upS_n (by omega)]
      rcases e with e | ⟨c', h1, h2, h3, t, h4, h5⟩
      · exact Or.inl e
      · exact Or.inr ⟨c', h1, h2, by rw [upS_n (by omega)]; exact h3, t, h4, h5⟩
    · rw [upS_n (by omega)]
      exact f j' hj'
    · rw [upS_n (by omega)]
      exact g j' hj'
/-- a change of borders, creases, or of the object's own numbers 3 to 5 -/
theorem WF.upo (hW : WF V) {a j : Nat} {x : Int32} (ha : (∃ i, i < 9 ∧ a = 4 + 3 * i ∧ ∃ d, d ≤ 9 ∧ x = ni d) ∨ (∃ i, i < 9 ∧ a = 5 + 3 * i ∧ (x = 118 ∨ x = 109 ∨ x = 0)) ∨ (a = 0 ∧ (j = 4 ∨ j = 5)) ∨ (a = 0 ∧ j = 3 ∧ ∃ p, p ≤ 50 ∧ x = ni p)) : WF (upS V a j x) := by
  have e3 : ∀ i j', upS V a j x (3 + 3 * i) j' = V (3 + 3 * i) j' := fun i j' => upS_n (by rcases ha with ⟨q, _, e, _⟩ | ⟨q, _, e, _⟩ | ⟨e, _⟩ | ⟨e, _⟩ <;> omega)
  have e2 : ∀ c, upS V a j x 2 c = V 2 c := fun c => upS_n (by rcases ha with ⟨q, _, e, _⟩ | ⟨q, _, e, _⟩ | ⟨e, _⟩ | ⟨e, _⟩ <;> omega)
  have e0 : upS V a j x 0 2 = V 0 2 := upS_n (by rcases ha with ⟨q, _, e, _⟩ | ⟨q, _, e, _⟩ | ⟨e, e', _⟩ | ⟨e, e', _⟩ <;> omega)
  refine ⟨by rw [e0]; exact hW.1, ?_, fun c hc => by rw [e2, e0]; simp only [e3]; exact hW.2.2.1 c hc, fun i hi => ?_⟩
  · by_cases z : a = 0 ∧ j = 3
    · obtain ⟨rfl, rfl⟩ := z
      rw [upS_e]
      rcases ha with ⟨q, _, e, _⟩ | ⟨q, _, e, _⟩ | ⟨e, e'⟩ | ⟨e, e', h⟩
      · omega
      · omega
      · omega
      · exact h
    · rw [upS_n (by omega)]
      exact hW.2.1
  · obtain ⟨q1, q2, q3, q4, q5, f, g⟩ := hW.2.2.2 i hi
    simp only [e3, e2]
    refine ⟨q1, q2, q3, q4, q5, fun j' hj' => ?_, fun j' hj' => ?_⟩
    · by_cases z : 4 + 3 * i = a ∧ j' = j
      · obtain ⟨rfl, rfl⟩ := z
        rw [upS_e]
        rcases ha with ⟨q, _, e, h⟩ | ⟨q, _, e, _⟩ | ⟨e, e'⟩ | ⟨e, e', h⟩
        · exact h
        all_goals omega
      · rw [upS_n (by omega)]
        exact f j' hj'
    · by_cases z : 5 + 3 * i = a ∧ j' = j
      · obtain ⟨rfl, rfl⟩ := z
        rw [upS_e]
        rcases ha with ⟨q, _, e, h⟩ | ⟨q, _, e, h⟩ | ⟨e, e'⟩ | ⟨e, e', h⟩
        · omega
        · exact h
        all_goals omega
      · rw [upS_n (by omega)]
        exact g j' hj'
theorem WF.more (hW : WF V) {n : Nat} (hn : n < 9) (e : V 0 2 = ni n) : WF (upS V 0 2 (V 0 2 + 1)) := by
  have e3 : ∀ i j', upS V 0 2 (V 0 2 + 1) (3 + 3 * i) j' = V (3 + 3 * i) j' := fun i j' => upS_n (by omega)
  have e4 : ∀ i j', upS V 0 2 (V 0 2 + 1) (4 + 3 * i) j' = V (4 + 3 * i) j' := fun i j' => upS_n (by omega)
  have e5 : ∀ i j', upS V 0 2 (V 0 2 + 1) (5 + 3 * i) j' = V (5 + 3 * i) j' := fun i j' => upS_n (by omega)
  have e2 : ∀ c, upS V 0 2 (V 0 2 + 1) 2 c = V 2 c := fun c => upS_n (by omega)
  refine ⟨by rw [upS_e, e, ni_s]; exact ⟨n + 1, by omega, rfl⟩, by rw [upS_n (by omega)]; exact hW.2.1, fun c hc => ?_, fun i hi => ?_⟩
  · rw [e2, upS_e]
    simp only [e3]
    rcases hW.2.2.1 c hc with z | ⟨q, a, b, c', d⟩
    · exact Or.inl z
    · refine Or.inr ⟨q, a, b, ?_, d⟩
      rw [e] at c' ⊢
      rw [ni_s]
      have := (ni_lt (by omega) (by omega)).mp c'
      exact (ni_lt (by omega) (by omega)).mpr (by omega)
  · simp only [e2, e3, e4, e5]
    exact hW.2.2.2 i hi
theorem WF.lay (hW : WF V) {i c t : Nat} (hi : i < 9) (hc : c < 9) (ht : t < 4) (h1 : V 2 c = -1) (h2 : V (3 + 3 * i) 6 = -1) (h3 : ni i < V 0 2) : WF (layV V i c t) := by
  have e3 : ∀ i' j', (i' ≠ i ∨ j' < 6) → layV V i c t (3 + 3 * i') j' = V (3 + 3 * i') j' := fun i' j' z => by
    unfold layV
    rw [upS_n (by omega), upS_n (by omega), upS_n (by omega)]
  have e4 : ∀ i' j', layV V i c t (4 + 3 * i') j' = V (4 + 3 * i') j' := fun i' j' => by
    unfold layV
    rw [upS_n (by omega), upS_n (by omega), upS_n (by omega)]
  have e5 : ∀ i' j', layV V i c t (5 + 3 * i') j' = V (5 + 3 * i') j' := fun i' j' => by
    unfold layV
    rw [upS_n (by omega), upS_n (by omega), upS_n (by omega)]
  have e0 : ∀ j', layV V i c t 0 j' = V 0 j' := fun j' => by
    unfold layV
    rw [upS_n (by omega), upS_n (by omega), upS_n (by omega)]
  have e2 : ∀ c', c' ≠ c → layV V i c t 2 c' = V 2 c' := fun c' z => by
    unfold layV
    rw [upS_n (by omega), upS_n (by omega), upS_n (by omega)]
  have f2 : layV V i c t 2 c = ni i := by
    unfold layV
    rw [upS_n (by omega), upS_n (by omega), upS_e]
  have f6 : layV V i c t (3 + 3 * i) 6 = ni c := by
    unfold layV
    rw [upS_n (by omega), upS_e]
  have f7 : layV V i c t (3 + 3 * i) 7 = ni t := by
    unfold layV
    rw [upS_e]
  refine ⟨by rw [e0]; exact hW.1, by rw [e0]; exact hW.2.1, fun c' hc' => ?_, fun i' hi' => ?_⟩
  · by_cases z : c' = c
    · subst z
      exact Or.inr ⟨i, hi, f2, by rw [e0]; exact h3, f6⟩
    · rw [e2 c' z, e0]
      rcases hW.2.2.1 c' hc' with y | ⟨q, a, b, d, e⟩
      · exact Or.inl y
      · refine Or.inr ⟨q, a, b, d, ?_⟩
        rw [e3 q 6 (Or.inl (fun y => by rw [y, h2] at e; exact ni_ne c' (by omega) e.symm))]
        exact e
  · obtain ⟨q1, q2, q3, q4, q5, f, g⟩ := hW.2.2.2 i' hi'
    rw [e3 i' 2 (Or.inr (by decide)), e3 i' 3 (Or.inr (by decide)), e3 i' 4 (Or.inr (by decide)), e3 i' 5 (Or.inr (by decide))]
    simp only [e4, e5]
    refine ⟨q1, q2, q3, q4, ?_, f, g⟩
    by_cases z : i' = i
    · subst z
      exact Or.inr ⟨c, hc, f6, f2, t, ht, f7⟩
    · rw [e3 i' 6 (Or.inl z), e3 i' 7 (Or.inl z)]
      rcases q5 with q5 | ⟨c', a, b, d, t', h4, h5⟩
      · exact Or.inl q5
      · refine Or.inr ⟨c', a, b, ?_, t', h4, h5⟩
        rw [e2 c' (fun y => by rw [y, h1] at d; exact ni_ne i' (by omega) d.symm)]
        exact d
theorem WF.lift (hW : WF V) {i c : Nat} (hi : i < 9) (hc : c < 9) (h1 : V 2 c = ni i) : WF (liftV V i c) := by
  have h6 : V (3 + 3 * i) 6 = ni c := by
    obtain ⟨q, a, b, d, e⟩ := hW.occ hc (by rw [h1]; exact ni_ne i (by omega))
    rw [h1] at b
    obtain rfl := (ni_eq (by omega) (by omega)).mp b
    exact e
  have e3 : ∀ i' j', (i' ≠ i ∨ j' ≠ 6) → liftV V i c (3 + 3 * i') j' = V (3 + 3 * i') j' := fun i' j' z => by
    unfold liftV
    rw [upS_n (by omega), upS_n (by omega)]
  have e4 : ∀ i' j', liftV V i c (4 + 3 * i') j' = V (4 + 3 * i') j' := fun i' j' => by
    unfold liftV
    rw [upS_n (by omega), upS_n (by omega)]
  have e5 : ∀ i' j', liftV V i c (5 + 3 * i') j' = V (5 + 3 * i') j' := fun i' j' => by
    unfold liftV
    rw [upS_n (by omega), upS_n (by omega)]
  have e0 : ∀ j', liftV V i c 0 j' = V 0 j' := fun j' => by
    unfold liftV
    rw [upS_n (by omega), upS_n (by omega)]
  have e2 : ∀ c', c' ≠ c → liftV V i c 2 c' = V 2 c' := fun c' z => by
    unfold liftV
    rw [upS_n (by omega), upS_n (by omega)]
  have f2 : liftV V i c 2 c = -1 := by
    unfold liftV
    rw [upS_e]
  have f6 : liftV V i c (3 + 3 * i) 6 = -1 := by
    unfold liftV
    rw [upS_n (by omega), upS_e]
  refine ⟨by rw [e0]; exact hW.1, by rw [e0]; exact hW.2.1, fun c' hc' => ?_, fun i' hi' => ?_⟩
  · by_cases z : c' = c
    · subst z
      exact Or.inl f2
    · rw [e2 c' z, e0]
      rcases hW.2.2.1 c' hc' with y | ⟨q, a, b, d, e⟩
      · exact Or.inl y
      · refine Or.inr ⟨q, a, b, d, ?_⟩
        rw [e3 q 6 (Or.inl (fun y => by
          rw [y, h6] at e
          exact z ((ni_eq (by omega) (by omega)).mp e).symm))]
        exact e
  · obtain ⟨q1, q2, q3, q4, q5, f, g⟩ := hW.2.2.2 i' hi'
    rw [e3 i' 2 (Or.inr (by decide)), e3 i' 3 (Or.inr (by decide)), e3 i' 4 (Or.inr (by decide)), e3 i' 5 (Or.inr (by decide)), e3 i' 7 (Or.inr (by decide))]
    simp only [e4, e5]
    refine ⟨q1, q2, q3, q4, ?_, f, g⟩
    by_cases z : i' = i
    · subst z
      exact Or.inl f6
    · rw [e3 i' 6 (Or.inl z)]
      rcases q5 with q5 | ⟨c', a, b, d, t', h4, h5⟩
      · exact Or.inl q5
      · refine Or.inr ⟨c', a, b, ?_, t', h4, h5⟩
        rw [e2 c' (fun y => by
          rw [y, h1] at d
          exact z ((ni_eq (by omega) (by omega)).mp d).symm)]
        exact d
/-! unfolding -/
def mUnfold (B : Nat) (V : St) (x : Int32) : Int32 × St := if hasS V x then (if V (3 + 3 * sx x) 5 = 0 then (-3, V) else (flatV B (upS V (3 + 3 * sx x) 5 0), upS V (3 + 3 * sx x) 5 0)) else (-1, V)
theorem o_unfold (hW : WF V) (x : Int32) : Op B V (f_X9_tryUnfold B x) (mUnfold B V x) := by
  intro M h
  unfold f_X9_tryUnfold mUnfold
  simp only [h.rc9, x_hasS h, Option.bind_some, b01_ne]
  by_cases h1 : hasS V x = true
  · obtain ⟨i, hi, rfl, hlt⟩ := hasS_d hW h1
    rw [sx_ni (by omega)]
    simp only [h1, if_true, Bool.true_eq_false, if_false, h.p90, h.sh hi, h.g7 hi (j := 5) (by decide) (by decide), Option.bind_some]
    by_cases h3 : V (3 + 3 * i) 5 = 0
    · simp only [if_pos h3]
      exact ⟨M, rfl, h, Fo.rf _ _ _⟩
    · simp only [if_neg h3]
      have q1 := h.up7 i 5 0 (fun e => by cases e)
      have w1 : WF (upS V (3 + 3 * i) 5 0) := hW.up7 hi (Or.inr (Or.inr (Or.inr ⟨rfl, Or.inl rfl⟩)))
      rw [h.s7 hi 5 .boolean 0 rfl rfl]
      simp only [Option.bind_some, q1.rc9, x_flat w1 q1]
      exact ⟨_, rfl, q1, Fo.up M _ _ (by omega)⟩
  · simp only [Bool.not_eq_true] at h1
    simp only [h1, if_true, Bool.false_eq_true, if_false]
    exact ⟨M, rfl, h, Fo.rf _ _ _⟩
/-! laying and lifting -/
theorem At.mask {M : Mem} (h : At B V M) {i : Nat} (hi : i < 9) (h6 : V (3 + 3 * i) 6 = -1) (y : Int32) : At B (upS V (3 + 3 * i) 7 y) M := by
  refine ⟨h.1, fun j' h1 h2 => ?_, fun c hc => ?_, fun i' hi' => ⟨fun j' h1 h2 => ?_, fun z => ?_, fun j' hj => ?_, fun j' hj => ?_⟩⟩
  · rw [upS_n (by omega)]; exact h.2.1 j' h1 h2
  · rw [upS_n (by omega)]; exact h.2.2.1 c hc
  · rw [upS_n (by omega)]; exact (h.2.2.2 i' hi').1 j' h1 h2
  · rw [upS_n (by omega)] at z
    by_cases e : i' = i
    · subst e
      exact (z h6).elim
    · rw [upS_n (by omega)]
      exact (h.2.2.2 i' hi').2.1 z
  · rw [upS_n (by omega)]; exact (h.2.2.2 i' hi').2.2.1 j' hj
  · rw [upS_n (by omega)]; exact (h.2.2.2 i' hi').2.2.2 j' hj
theorem At.up6 {M : Mem} (h : At B V M) {i : Nat} (hi : i < 9) (x : Int32) (h7 : mI M (B + 3 + 3 * i) 7 = V (3 + 3 * i) 7) : At B (upS V (3 + 3 * i) 6 x) (mUI M (B + 3 + 3 * i) 6 x) := by
  rw [show B + 3 + 3 * i = B + (3 + 3 * i) by omega]
  refine ⟨h.1.sh (Sh.UI M _ _ x), fun j' h1 h2 => ?_, fun c hc => ?_, fun i' hi' => ⟨fun j' h1 h2 => ?_, fun h6 => ?_, fun j' hj => ?_, fun j' hj => ?_⟩⟩
  · exact ui_at (a' := 0) (h.2.1 j' h1 h2)
  · exact ui_at (a' := 2) (h.2.2.1 c hc)
  · rw [show B + 3 + 3 * i' = B + (3 + 3 * i') by omega]
    exact ui_at (by rw [show B + (3 + 3 * i') = B + 3 + 3 * i' by omega]; exact (h.2.2.2 i' hi').1 j' h1 h2)
  · rw [show B + 3 + 3 * i' = B + (3 + 3 * i') by omega]
    refine ui_at ?_
    rw [show B + (3 + 3 * i') = B + 3 + 3 * i' by omega]
    by_cases e : i' = i
    · subst e
      exact h7
    · rw [upS_n (by omega)] at h6
      exact (h.2.2.2 i' hi').2.1 h6
  · rw [show B + 4 + 3 * i' = B + (4 + 3 * i') by omega]
    exact ui_at (by rw [show B + (4 + 3 * i') = B + 4 + 3 * i' by omega]; exact (h.2.2.2 i' hi').2.2.1 j' hj)
  · rw [show B + 5 + 3 * i' = B + (5 + 3 * i') by omega]
    exact ui_at (by rw [show B + (5 + 3 * i') = B + 5 + 3 * i' by omega]; exact (h.2.2.2 i' hi').2.2.2 j' hj)
theorem layV_mask (V : St) (i c t : Nat) (y : Int32) : layV (upS V (3 + 3 * i) 7 y) i c t = layV V i c t := by
  funext a j
  unfold layV upS
  by_cases e : a = 3 + 3 * i ∧ j = 7
  · rw [if_pos e, if_pos e]
  · simp only [if_neg e]
theorem x_lay {M : Mem} (h : At B V M) {i c t : Nat} (hi : i < 9) (hc : c < 9) (h6 : V (3 + 3 * i) 6 = -1) : ∃ M', f_X9_lay B (ni i) (ni c) (ni t) M = some ((), M') ∧ At B (layV V i c t) M' ∧ Fo B 30 M M' := by
  have q0 := h.mask hi h6 (mI M (B + 3 + 3 * i) 7)
  have q1 := q0.up2 c (ni i)
  have q2 := q1.up6 hi (ni c) (by
    rw [upS_n (by omega), upS_e, mI_UI, if_neg (by omega)])
  have q3 := q2.up7 i 7 (ni t) (fun e => by cases e)
  have e9 := layV_mask V i c t (mI M (B + 3 + 3 * i) 7)
  unfold layV at e9
  rw [e9] at q3
  refine ⟨_, ?_, q3, ((Fo.up M _ _ (by omega)).tr (Fo.up _ _ _ (by omega))).tr (Fo.up _ _ _ (by omega))⟩
  unfold f_X9_lay
  simp only [h.p91, Option.bind_some, h.so hc, q1.p90, q1.sh hi, q1.s7 hi 6 .int (ni c) rfl rfl, q2.p90, q2.sh hi, q2.s7 hi 7 .int (ni t) rfl rfl]
theorem x_lift {M : Mem} (h : At B V M) {i c : Nat} (hi : i < 9) (hc : c < 9) (h2 : V 2 c = ni i) : ∃ M', f_X9_lift B (ni c) M = some ((), M') ∧ At B (liftV V i c) M' ∧ Fo B 30 M M' := by
  have q1 := h.up7 i 6 (-1) (fun _ _ => Or.inl rfl)
  have q2 := q1.up2 c (-1)
  refine ⟨_, ?_, q2, (Fo.up M _ _ (by omega)).tr (Fo.up _ _ _ (by omega))⟩
  unfold f_X9_lift
  simp only [h.rc9, Option.bind_some, x_laid h hc hi h2, h.s7 hi 6 .int (-1) rfl rfl, q1.p91, q1.so hc]
/-! put and take -/
def mPut (B : Nat) (V : St) (x c t : Int32) : Int32 × St := if hasS V x then (if isL c then (if isT t then (if cblV V (sx x) then (if V 2 (sx c) = -1 then (if fitsV B V (sx x) (sx c) (sx t) = 0 then (-4, V) else (besV B (layV V (sx x) (sx c) (sx t)) (sx c), layV V (sx x) (sx c) (sx t))) else (-3, V)) else (-3, V)) else (-2, V)) else (-1, V)) else (-1, V)
theorem cblV_6 {i : Nat} (h : cblV V i = true) : V (3 + 3 * i) 6 = -1 := by
  unfold cblV at h
  simp only [Bool.and_eq_true, decide_eq_true_eq] at h
  exact h.2
theorem o_put (hW : WF V) (x c t : Int32) : Op B V (f_X9_tryPut B x c t) (mPut B V x c t) := by
  intro M h
  unfold f_X9_tryPut mPut
  simp only [h.rc9, x_hasS h, x_isL, x_isT, Option.bind_some, b01_ne]
  by_cases h1 : hasS V x = true
  · obtain ⟨i, hi, rfl, hlt⟩ := hasS_d hW h1
    rw [sx_ni (by omega)]
    by_cases h2 : isL c = true
    · obtain ⟨c, hc, rfl⟩ := isL_d h2
      rw [sx_ni (by omega)]
      by_cases h3 : isT t = true
      · obtain ⟨t, ht, rfl⟩ := isT_d h3
        rw [sx_ni (by omega)]
        simp only [h1, h2, h3, if_true, Bool.true_eq_false, if_false, h.p90, h.sh hi, h.rc7 hi, x_cbl h hi, x_isOcc h hc, Option.bind_some]
        by_cases h4 : cblV V i = true
        · simp only [if_pos h4, show ¬ (1 : Int32) = 0 by decide, if_false]
          by_cases h5 : V 2 c = -1
          · simp only [if_pos h5, if_true, x_fits hW h hi hc ht, Option.bind_some]
            by_cases h6 : fitsV B V i c t = 0
            · simp only [if_pos h6]
              exact ⟨M, rfl, h, Fo.rf _ _ _⟩
            · obtain ⟨M1, f1, a1, o1⟩ := x_lay (t := t) h hi hc (cblV_6 h4)
              simp only [if_neg h6, f1, Option.bind_some, a1.rc9, x_bes a1 hc]
              exact ⟨_, rfl, a1, o1⟩
          · simp only [if_neg h5, show ¬ (1 : Int32) = 0 by decide, if_false]
            exact ⟨M, rfl, h, Fo.rf _ _ _⟩
        · simp only [if_neg h4, if_true]
          exact ⟨M, rfl, h, Fo.rf _ _ _⟩
      · simp only [Bool.not_eq_true] at h3
        simp only [h1, h2, h3, if_true, Bool.true_eq_false, Bool.false_eq_true, if_false]
        exact ⟨M, rfl, h, Fo.rf _ _ _⟩
    · simp only [Bool.not_eq_true] at h2
      simp only [h1, h2, if_true, Bool.true_eq_false, Bool.false_eq_true, if_false]
      exact ⟨M, rfl, h, Fo.rf _ _ _⟩
  · simp only [Bool.not_eq_true] at h1
    simp only [h1, if_true, Bool.false_eq_true, if_false]
    exact ⟨M, rfl, h, Fo.rf _ _ _⟩
def mTake (V : St) (c : Int32) : Int32 × St := if isL c then (if V 2 (sx c) = -1 then (-5, V) else (V 2 (sx c), liftV V (sx (V 2 (sx c))) (sx c))) else (-1, V)
theorem o_take (hW : WF V) (c : Int32) : Op B V (f_X9_tryTake B c) (mTake V c) := by
  intro M h
  unfold f_X9_tryTake mTake
  simp only [h.rc9, x_isL, Option.bind_some, b01_ne]
  by_cases h2 : isL c = true
  · obtain ⟨c, hc, rfl⟩ := isL_d h2
    rw [sx_ni (by omega)]
    simp only [h2, if_true, Bool.true_eq_false, if_false, x_isOcc h hc, Option.bind_some, h.p91, h.oc hc]
    by_cases h5 : V 2 c = -1
    · simp only [if_pos h5, if_true]
      exact ⟨M, rfl, h, Fo.rf _ _ _⟩
    · obtain ⟨i, hi, e1, e2, e3⟩ := hW.occ hc h5
      obtain ⟨M1, f1, a1, o1⟩ := x_lift h hi hc e1
      simp only [if_neg h5, show ¬ (1 : Int32) = 0 by decide, if_false, f1, Option.bind_some]
      rw [e1, sx_ni (by omega)]
      exact ⟨_, rfl, a1, o1⟩
  · simp only [Bool.not_eq_true] at h2
    simp only [h2, if_true, Bool.false_eq_true, if_false]
    exact ⟨M, rfl, h, Fo.rf _ _ _⟩
/-! every change keeps it -/
theorem w_paste (hW : WF V) (x : Int32) : WF (mPaste V x).2 := by
  unfold mPaste
  by_cases h1 : x < 1
  · rw [if_pos h1]; exact hW
  · rw [if_neg h1]
    by_cases h2 : x ≤ 20
    · rw [if_pos h2]
      by_cases h3 : V 0 3 + x ≤ 50
      · rw [if_pos h3]
        obtain ⟨p, hp, e⟩ := hW.2.1
        have h1' : (0 : Int32) ≤ x := Int32.le_trans (by decide : (0 : Int32) ≤ 1) (nlt h1)
        obtain ⟨d, hd, rfl⟩ := rg (n := 20) (by decide) h1' h2
        refine hW.upo (Or.inr (Or.inr (Or.inr ⟨rfl, rfl, p + d, ?_, ?_⟩)))
        · rw [e, ni_add] at h3
          exact (ni_le (j := 50) (by omega) (by omega)).mp h3
        · rw [e, ni_add]
      · rw [if_neg h3]; exact hW
    · rw [if_neg h2]; exact hW
theorem w_crease (hW : WF V) (x s : Int32) : WF (mCrease V x s).2 := by
  unfold mCrease
  by_cases h1 : hasS V x = true
  · rw [if_pos h1]
    obtain ⟨i, hi, rfl, hlt⟩ := hasS_d hW h1
    rw [sx_ni (by omega)]
    by_cases h2 : isV s = true
    · rw [if_pos h2]
      obtain ⟨k, hk, ek⟩ := (hW.2.2.2 i hi).2.1
      by_cases h3 : (6 : Int32) ≤ V (3 + 3 * i) 3
      · rw [if_pos h3]; exact hW
      · rw [if_neg h3]
        by_cases h4 : V (3 + 3 * i) 5 = 0
        · rw [if_pos h4]
          rw [ek] at h3 ⊢
          have hk6 : k < 6 := by
            rcases Nat.lt_or_ge k 6 with z | z
            · exact z
            · exact (h3 ((ni_le (i := 6) (by omega) (by omega)).mpr z)).elim
          refine WF.up7 (hW.upo (Or.inr (Or.inl ⟨i, hi, rfl, ?_⟩))) hi (Or.inr (Or.inl ⟨rfl, k + 1, by omega, ni_s k⟩))
          unfold isV at h2
          simp only [Bool.or_eq_true, decide_eq_true_eq] at h2
          rcases h2 with h2 | h2
          · exact Or.inl h2
          · exact Or.inr (Or.inl h2)
        · rw [if_neg h4]; exact hW
    · rw [if_neg h2]; exact hW
  · rw [if_neg h1]; exact hW
theorem w_sheet (hW : WF V) (n e s w k : Int32) : WF (mSheet V n e s w k).2 := by
  unfold mSheet
  by_cases h1 : (isC n && isC e && isC s && isC w && isK k) = true
  · rw [if_pos h1]
    simp only [Bool.and_eq_true] at h1
    obtain ⟨⟨⟨⟨h1, h2⟩, h3⟩, h4⟩, h5⟩ := h1
    obtain ⟨m, hm, em⟩ := hW.n
    by_cases h6 : V 0 2 < 9
    · rw [if_pos h6]
      have hm9 : m < 9 := by
        rw [em] at h6
        exact (ni_lt (j := 9) (by omega) (by omega)).mp h6
      rw [em, sx_ni (by omega)]
      have hk : k = 115 ∨ k = 108 ∨ k = 99 := by
        unfold isK at h5
        simp only [Bool.or_eq_true, decide_eq_true_eq] at h5
        rcases h5 with (h5 | h5) | h5
        · exact Or.inl h5
        · exact Or.inr (Or.inl h5)
        · exact Or.inr (Or.inr h5)
      have w1 : WF (upS (upS (upS (upS (upS V (4 + 3 * m) 0 n) (4 + 3 * m) 1 e) (4 + 3 * m) 2 s) (4 + 3 * m) 3 w) (3 + 3 * m) 2 k) := WF.up7 (WF.upo (WF.upo (WF.upo (WF.upo hW (Or.inl ⟨m, hm9, rfl, isC_d h1⟩)) (Or.inl ⟨m, hm9, rfl, isC_d h2⟩)) (Or.inl ⟨m, hm9, rfl, isC_d h3⟩)) (Or.inl ⟨m, hm9, rfl, isC_d h4⟩)) hm9 (Or.inl ⟨rfl, hk⟩)
      have e0 : upS (upS (upS (upS (upS V (4 + 3 * m) 0 n) (4 + 3 * m) 1 e) (4 + 3 * m) 2 s) (4 + 3 * m) 3 w) (3 + 3 * m) 2 k 0 2 = ni m := by
        rw [upS_n (by omega), upS_n (by omega), upS_n (by omega), upS_n (by omega), upS_n (by omega), em]
      have w2 := w1.more hm9 e0
      rw [e0] at w2
      exact w2
    · rw [if_neg h6]; exact hW
  · rw [if_neg h1]; exact hW
theorem w_fold (hW : WF V) (x : Int32) : WF (mFold V x).2 := by
  unfold mFold
  by_cases h1 : hasS V x = true
  · rw [if_pos h1]
    obtain ⟨i, hi, rfl, hlt⟩ := hasS_d hW h1
    rw [sx_ni (by omega)]
    by_cases h3 : V (3 + 3 * i) 5 = 0
    · rw [if_pos h3]
      by_cases h4 : V (3 + 3 * i) 3 = 0
      · rw [if_pos h4]; exact hW
      · rw [if_neg h4]
        by_cases h5 : V (3 + 3 * i) 6 = -1
        · rw [if_pos h5]
          obtain ⟨k, hk, ek⟩ := (hW.2.2.2 i hi).2.1
          obtain ⟨w, hw, ew⟩ := (hW.2.2.2 i hi).2.2.1
          refine WF.upo (WF.up7 (WF.up7 hW hi (Or.inr (Or.inr (Or.inr ⟨rfl, Or.inr rfl⟩)))) hi (Or.inr (Or.inr (Or.inl ⟨rfl, ?_⟩)))) (Or.inr (Or.inr (Or.inl ⟨rfl, Or.inr rfl⟩)))
          rw [ek, ew, ni_add]
          by_cases h6 : ni (w + k) < 9
          · rw [if_pos h6]
            have := (ni_lt (j := 9) (by omega) (by omega)).mp h6
            exact ⟨w + k, by omega, rfl⟩
          · rw [if_neg h6]
            exact ⟨9, by omega, rfl⟩
        · rw [if_neg h5]; exact hW
    · rw [if_neg h3]; exact hW
  · rw [if_neg h1]; exact hW
theorem w_unfold (hW : WF V) (x : Int32) : WF (mUnfold B V x).2 := by
  unfold mUnfold
  by_cases h1 : hasS V x = true
  · rw [if_pos h1]
    obtain ⟨i, hi, rfl, hlt⟩ := hasS_d hW h1
    rw [sx_ni (by omega)]
    by_cases h3 : V (3 + 3 * i) 5 = 0
    · rw [if_pos h3]; exact hW
    · rw [if_neg h3]
      exact hW.up7 hi (Or.inr (Or.inr (Or.inr ⟨rfl, Or.inl rfl⟩)))
  · rw [if_neg h1]; exact hW
theorem w_mend (hW : WF V) (x : Int32) : WF (mMend V x).2 := by
  unfold mMend
  by_cases h1 : hasS V x = true
  · rw [if_pos h1]
    obtain ⟨i, hi, rfl, hlt⟩ := hasS_d hW h1
    rw [sx_ni (by omega)]
    by_cases h3 : V (3 + 3 * i) 4 = 0
    · rw [if_pos h3]; exact hW
    · rw [if_neg h3]
      by_cases h4 : V (3 + 3 * i) 5 = 0
      · rw [if_pos h4]
        by_cases h5 : V (3 + 3 * i) 4 ≤ V 0 3
        · rw [if_pos h5]
          obtain ⟨p, hp, ep⟩ := hW.2.1
          obtain ⟨w, hw, ew⟩ := (hW.2.2.2 i hi).2.2.1
          refine WF.up7 (WF.upo (WF.upo hW (Or.inr (Or.inr (Or.inr ⟨rfl, rfl, p - w, by omega, ?_⟩)))) (Or.inr (Or.inr (Or.inl ⟨rfl, Or.inl rfl⟩)))) hi (Or.inr (Or.inr (Or.inl ⟨rfl, 0, by omega, rfl⟩)))
          rw [ep, ew] at h5 ⊢
          have hwp := (ni_le (by omega) (by omega)).mp h5
          have hs : ∀ p, p < 51 → ∀ w, w < 10 → w ≤ p → ni p - ni w = ni (p - w) := by decide +kernel
          exact hs p (by omega) w (by omega) hwp
        · rw [if_neg h5]; exact hW
      · rw [if_neg h4]; exact hW
  · rw [if_neg h1]; exact hW
theorem w_put (hW : WF V) (x c t : Int32) : WF (mPut B V x c t).2 := by
  unfold mPut
  by_cases h1 : hasS V x = true
  · rw [if_pos h1]
    by_cases h2 : isL c = true
    · rw [if_pos h2]
      by_cases h3 : isT t = true
      · rw [if_pos h3]
        obtain ⟨i, hi, rfl, hlt⟩ := hasS_d hW h1
        obtain ⟨c, hc, rfl⟩ := isL_d h2
        obtain ⟨t, ht, rfl⟩ := isT_d h3
        rw [sx_ni (by omega), sx_ni (by omega), sx_ni (by omega)]
        by_cases h4 : cblV V i = true
        · rw [if_pos h4]
          by_cases h5 : V 2 c = -1
          · rw [if_pos h5]
            by_cases h6 : fitsV B V i c t = 0
            · rw [if_pos h6]; exact hW
            · rw [if_neg h6]
              exact hW.lay hi hc ht h5 (cblV_6 h4) hlt
          · rw [if_neg h5]; exact hW
        · rw [if_neg h4]; exact hW
      · rw [if_neg h3]; exact hW
    · rw [if_neg h2]; exact hW
  · rw [if_neg h1]; exact hW
theorem w_take (hW : WF V) (c : Int32) : WF (mTake V c).2 := by
  unfold mTake
  by_cases h2 : isL c = true
  · rw [if_pos h2]
    obtain ⟨c, hc, rfl⟩ := isL_d h2
    rw [sx_ni (by omega)]
    by_cases h5 : V 2 c = -1
    · rw [if_pos h5]; exact hW
    · rw [if_neg h5]
      obtain ⟨i, hi, e1, e2, e3⟩ := hW.occ hc h5
      rw [e1, sx_ni (by omega)]
      exact hW.lift hi hc e1
  · rw [if_neg h2]; exact hW
end OP2
