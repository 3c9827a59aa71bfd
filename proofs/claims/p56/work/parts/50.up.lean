/-! ===== pure: what is the same for every memory of a class ===== -/
abbrev ni (i : Nat) : Int32 := Int32.ofNat i
/-- defined, with one answer, of which Q holds, for all memories of the class C -/
def UP {α : Type} (C : Mem → Prop) (f : Mem → Option α) (Q : α → Prop) : Prop := ∃ r, Q r ∧ ∀ M, C M → f M = some r
section UPS
variable {α β : Type} {C : Mem → Prop} {Q : β → Prop}
theorem UP.b {f : Mem → Option α} {g : α → Mem → Option β} {Q1 : α → Prop} (h : UP C f Q1) (k : ∀ r, Q1 r → UP C (g r) Q) : UP C (fun M => (f M).bind fun r => g r M) Q := by
  obtain ⟨r, h1, h2⟩ := h
  obtain ⟨x, h3, h4⟩ := k r h1
  exact ⟨x, h3, fun M hM => by show (f M).bind _ = _; rw [h2 M hM]; exact h4 M hM⟩
theorem UP.p {r : β} (h : Q r) : UP C (fun _ => some r) Q := ⟨r, h, fun _ _ => rfl⟩
theorem UP.i {c : Prop} [Decidable c] {f g : Mem → Option β} (h1 : c → UP C f Q) (h2 : ¬ c → UP C g Q) : UP C (fun M => if c then f M else g M) Q := by
  by_cases h : c
  · obtain ⟨r, a, b⟩ := h1 h
    exact ⟨r, a, fun M hM => by show (if c then _ else _) = _; rw [if_pos h]; exact b M hM⟩
  · obtain ⟨r, a, b⟩ := h2 h
    exact ⟨r, a, fun M hM => by show (if c then _ else _) = _; rw [if_neg h]; exact b M hM⟩
theorem UP.m {f : Mem → Option β} {Q1 : β → Prop} (h : UP C f Q1) (k : ∀ r, Q1 r → Q r) : UP C f Q := by
  obtain ⟨r, h1, h2⟩ := h
  exact ⟨r, k r h1, h2⟩
theorem UP.c {C' : Mem → Prop} {f : Mem → Option β} (h : UP C f Q) (k : ∀ M, C' M → C M) : UP C' f Q := by
  obtain ⟨r, h1, h2⟩ := h
  exact ⟨r, h1, fun M hM => h2 M (k M hM)⟩
theorem UP.e {r : β} {f : Mem → Option β} (h : ∀ M, C M → f M = some r) : UP C f (fun x => x = r) := ⟨r, rfl, h⟩
end UPS
theorem ni_nat : ∀ i, i < 200 → (ni i).toNatClampNeg = i := by decide +kernel
theorem ni_pos : ∀ i, i < 200 → ¬ (ni i) < 0 := by decide +kernel
theorem ni_le' : ∀ i, i < 110 → ∀ j, j < 110 → (decide (ni i ≤ ni j) = decide (i ≤ j)) := by decide +kernel
theorem ni_lt' : ∀ i, i < 110 → ∀ j, j < 110 → (decide (ni i < ni j) = decide (i < j)) := by decide +kernel
theorem ni_eq' : ∀ i, i < 110 → ∀ j, j < 110 → (decide (ni i = ni j) = decide (i = j)) := by decide +kernel
theorem ni_le {i j : Nat} (hi : i < 110) (hj : j < 110) : ni i ≤ ni j ↔ i ≤ j := decide_eq_decide.mp (ni_le' i hi j hj)
theorem ni_lt {i j : Nat} (hi : i < 110) (hj : j < 110) : ni i < ni j ↔ i < j := decide_eq_decide.mp (ni_lt' i hi j hj)
theorem ni_eq {i j : Nat} (hi : i < 110) (hj : j < 110) : ni i = ni j ↔ i = j := decide_eq_decide.mp (ni_eq' i hi j hj)
theorem ni_add (i j : Nat) : ni i + ni j = ni (i + j) := (Int32.ofNat_add i j).symm
theorem ni_s (i : Nat) : ni i + 1 = ni (i + 1) := ni_add i 1
theorem ni_ne : ∀ i, i < 200 → ni i ≠ -1 := by decide +kernel
theorem inr_ni {i n : Nat} (hi : i < 200) (h : i < n) : ¬ (ni i < 0 ∨ n ≤ (ni i).toNatClampNeg) := by
  rw [ni_nat i hi]
  rintro (h1 | h1)
  · exact ni_pos i hi h1
  · omega
/-- a state's numbers, by the place of the cell in the state and the place in the cell -/
abbrev St : Type := Nat → Nat → Int32
/-- how a state lies: object, row of sheets, row of cells, nine times sheet, borders, creases -/
def LSt (B : Nat) (M : Mem) : Prop := B + 30 ≤ mN M ∧ mS M B = (9, 0) ∧ mP M B 0 = .ref (B + 1) ∧ mP M B 1 = .ref (B + 2) ∧ mS M (B + 1) = (120, 9) ∧ mS M (B + 2) = (100, 9) ∧ ∀ i, i < 9 → mP M (B + 1) i = .ref (B + 3 + 3 * i) ∧ mS M (B + 3 + 3 * i) = (7, 0) ∧ mP M (B + 3 + 3 * i) 0 = .ref (B + 4 + 3 * i) ∧ mP M (B + 3 + 3 * i) 1 = .ref (B + 5 + 3 * i) ∧ mS M (B + 4 + 3 * i) = (100, 4) ∧ mS M (B + 5 + 3 * i) = (101, 6)
/-- its numbers; the quarters of a sheet that isn't on the table don't count -/
def RS (B : Nat) (V : St) (M : Mem) : Prop := (∀ j, 2 ≤ j → j < 6 → mI M B j = V 0 j) ∧ (∀ c, c < 9 → mI M (B + 2) c = V 2 c) ∧ ∀ i, i < 9 → (∀ j, 2 ≤ j → j < 7 → mI M (B + 3 + 3 * i) j = V (3 + 3 * i) j) ∧ (V (3 + 3 * i) 6 ≠ -1 → mI M (B + 3 + 3 * i) 7 = V (3 + 3 * i) 7) ∧ (∀ j, j < 4 → mI M (B + 4 + 3 * i) j = V (4 + 3 * i) j) ∧ (∀ j, j < 6 → mI M (B + 5 + 3 * i) j = V (5 + 3 * i) j)
def At (B : Nat) (V : St) (M : Mem) : Prop := LSt B M ∧ RS B V M
/-- the same shape: kinds, lengths, references, long numbers -/
def Sh (M M' : Mem) : Prop := M'.1 = M.1 ∧ M'.2.1 = M.2.1 ∧ M'.2.2.2 = M.2.2.2
theorem Sh.rf (M : Mem) : Sh M M := ⟨rfl, rfl, rfl⟩
theorem Sh.tr {M M' M'' : Mem} (h : Sh M M') (k : Sh M' M'') : Sh M M'' := ⟨k.1.trans h.1, k.2.1.trans h.2.1, k.2.2.trans h.2.2⟩
theorem Sh.N {M M' : Mem} (h : Sh M M') : mN M' = mN M := h.1
theorem Sh.S {M M' : Mem} (h : Sh M M') (k : Nat) : mS M' k = mS M k := congrFun h.2.1 k
theorem Sh.P {M M' : Mem} (h : Sh M M') (k j : Nat) : mP M' k j = mP M k j := by
  show M'.2.2.2.2 k j = M.2.2.2.2 k j
  rw [h.2.2]
theorem Sh.L {M M' : Mem} (h : Sh M M') (k j : Nat) : mL M' k j = mL M k j := by
  show M'.2.2.2.1 k j = M.2.2.2.1 k j
  rw [h.2.2]
theorem LSt.sh {B : Nat} {M M' : Mem} (h : LSt B M) (k : Sh M M') : LSt B M' := by
  unfold LSt
  simp only [k.N, k.S, k.P]
  exact h
theorem Sh.UI (M : Mem) (k j : Nat) (x : Int32) : Sh M (mUI M k j x) := ⟨rfl, rfl, rfl⟩
theorem Sh.cpy (M : Mem) (a b sp dp n : Nat) : Sh M (mCpy M a b sp dp n) := ⟨rfl, rfl, rfl⟩
theorem mI_UI (M : Mem) (k j a b : Nat) (x : Int32) : mI (mUI M k j x) a b = if a = k ∧ b = j then x else mI M a b := rfl
section RD
variable {B : Nat} {V : St} {M : Mem}
theorem At.rc9 (h : At B V M) : rc M 9 B = some () := by
  obtain ⟨⟨h1, h2, -⟩, -⟩ := h
  unfold rc
  rw [h2, if_pos ⟨rfl, by omega⟩]
theorem At.g9 (h : At B V M) {j : Nat} (h1 : 2 ≤ j) (h2 : j < 6) : gI M 9 B j = some (V 0 j) := by
  obtain ⟨⟨q1, q2, -⟩, r1, -⟩ := h
  unfold gI
  rw [q2, if_pos ⟨rfl, by omega⟩, r1 j h1 h2]
theorem At.p90 (h : At B V M) : gP M 9 B 0 = some (B + 1) := by
  obtain ⟨⟨q1, q2, q3, -⟩, -⟩ := h
  unfold gP
  rw [q2, if_pos ⟨rfl, by omega⟩, q3]
theorem At.p91 (h : At B V M) : gP M 9 B 1 = some (B + 2) := by
  obtain ⟨⟨q1, q2, -, q4, -⟩, -⟩ := h
  unfold gP
  rw [q2, if_pos ⟨rfl, by omega⟩, q4]
theorem At.sh (h : At B V M) {i : Nat} (hi : i < 9) : aP M 120 (B + 1) (ni i) = some (B + 3 + 3 * i) := by
  obtain ⟨⟨q1, q2, -, -, q5, -, q7⟩, -⟩ := h
  unfold aP
  rw [q5, if_pos ⟨rfl, by omega, inr_ni (by omega) hi⟩, ni_nat i (by omega), (q7 i hi).1]
theorem At.oc (h : At B V M) {c : Nat} (hc : c < 9) : aI M 100 (B + 2) (ni c) = some (V 2 c) := by
  obtain ⟨⟨q1, q2, -, -, -, q6, q7⟩, -, r2, -⟩ := h
  unfold aI
  rw [q6, if_pos ⟨rfl, by omega, inr_ni (by omega) hc⟩, ni_nat c (by omega), r2 c hc]
theorem At.rc7 (h : At B V M) {i : Nat} (hi : i < 9) : rc M 7 (B + 3 + 3 * i) = some () := by
  obtain ⟨⟨q1, -, -, -, -, -, q7⟩, -⟩ := h
  unfold rc
  rw [(q7 i hi).2.1, if_pos ⟨rfl, by omega⟩]
theorem At.g7 (h : At B V M) {i j : Nat} (hi : i < 9) (h1 : 2 ≤ j) (h2 : j < 7) : gI M 7 (B + 3 + 3 * i) j = some (V (3 + 3 * i) j) := by
  obtain ⟨⟨q1, -, -, -, -, -, q7⟩, -, -, r3⟩ := h
  unfold gI
  rw [(q7 i hi).2.1, if_pos ⟨rfl, by omega⟩, (r3 i hi).1 j h1 h2]
theorem At.g77 (h : At B V M) {i : Nat} (hi : i < 9) (hc : V (3 + 3 * i) 6 ≠ -1) : gI M 7 (B + 3 + 3 * i) 7 = some (V (3 + 3 * i) 7) := by
  obtain ⟨⟨q1, -, -, -, -, -, q7⟩, -, -, r3⟩ := h
  unfold gI
  rw [(q7 i hi).2.1, if_pos ⟨rfl, by omega⟩, (r3 i hi).2.1 hc]
theorem At.p70 (h : At B V M) {i : Nat} (hi : i < 9) : gP M 7 (B + 3 + 3 * i) 0 = some (B + 4 + 3 * i) := by
  obtain ⟨⟨q1, -, -, -, -, -, q7⟩, -⟩ := h
  unfold gP
  rw [(q7 i hi).2.1, if_pos ⟨rfl, by omega⟩, (q7 i hi).2.2.1]
theorem At.p71 (h : At B V M) {i : Nat} (hi : i < 9) : gP M 7 (B + 3 + 3 * i) 1 = some (B + 5 + 3 * i) := by
  obtain ⟨⟨q1, -, -, -, -, -, q7⟩, -⟩ := h
  unfold gP
  rw [(q7 i hi).2.1, if_pos ⟨rfl, by omega⟩, (q7 i hi).2.2.2.1]
theorem At.bd (h : At B V M) {i j : Nat} (hi : i < 9) (hj : j < 4) : aI M 100 (B + 4 + 3 * i) (ni j) = some (V (4 + 3 * i) j) := by
  obtain ⟨⟨q1, -, -, -, -, -, q7⟩, -, -, r3⟩ := h
  unfold aI
  rw [(q7 i hi).2.2.2.2.1, if_pos ⟨rfl, by omega, inr_ni (by omega) hj⟩, ni_nat j (by omega), (r3 i hi).2.2.1 j hj]
theorem At.cr (h : At B V M) {i j : Nat} (hi : i < 9) (hj : j < 6) : aI M 101 (B + 5 + 3 * i) (ni j) = some (V (5 + 3 * i) j) := by
  obtain ⟨⟨q1, -, -, -, -, -, q7⟩, -, -, r3⟩ := h
  unfold aI
  rw [(q7 i hi).2.2.2.2.2, if_pos ⟨rfl, by omega, inr_ni (by omega) hj⟩, ni_nat j (by omega), (r3 i hi).2.2.2 j hj]
end RD
/-- a memory that holds one state -/
def canon (B : Nat) (V : St) : Mem := (B + 30, (fun k => if k = B then (9, 0) else if k = B + 1 then (120, 9) else if k = B + 2 then (100, 9) else if (k - (B + 3)) % 3 = 0 then (7, 0) else if (k - (B + 3)) % 3 = 1 then (100, 4) else (101, 6)), (fun k j => V (k - B) j), (fun _ _ => 0), fun k j => if k = B then (if j = 0 then .ref (B + 1) else .ref (B + 2)) else if k = B + 1 then .ref (B + 3 + 3 * j) else (if j = 0 then .ref (k + 1) else .ref (k + 2)))
theorem canon_at (B : Nat) (V : St) : At B V (canon B V) := by
  refine ⟨⟨Nat.le_refl _, ?_, ?_, ?_, ?_, ?_, fun i hi => ⟨?_, ?_, ?_, ?_, ?_, ?_⟩⟩, fun j _ _ => ?_, fun c _ => ?_, fun i _ => ⟨fun j _ _ => ?_, fun _ => ?_, fun j _ => ?_, fun j _ => ?_⟩⟩
  · simp [mS, canon]
  · simp [mP, canon]
  · simp [mP, canon]
  · simp [mS, canon]
  · simp [mS, canon]
  · simp [mP, canon]
  · show (if B + 3 + 3 * i = B then _ else _) = _
    rw [if_neg (by omega), if_neg (by omega), if_neg (by omega), if_pos (by omega)]
  · show (if B + 3 + 3 * i = B then _ else _) = _
    rw [if_neg (by omega), if_neg (by omega), if_pos rfl, show B + 3 + 3 * i + 1 = B + 4 + 3 * i by omega]
  · show (if B + 3 + 3 * i = B then _ else _) = _
    rw [if_neg (by omega), if_neg (by omega), if_neg (by decide), show B + 3 + 3 * i + 2 = B + 5 + 3 * i by omega]
  · show (if B + 4 + 3 * i = B then _ else _) = _
    rw [if_neg (by omega), if_neg (by omega), if_neg (by omega), if_neg (by omega), if_pos (by omega)]
  · show (if B + 5 + 3 * i = B then _ else _) = _
    rw [if_neg (by omega), if_neg (by omega), if_neg (by omega), if_neg (by omega), if_neg (by omega)]
  · show V (B - B) j = _
    rw [Nat.sub_self]
  · show V (B + 2 - B) c = _
    rw [show B + 2 - B = 2 by omega]
  · show V (B + 3 + 3 * i - B) j = _
    rw [show B + 3 + 3 * i - B = 3 + 3 * i by omega]
  · show V (B + 3 + 3 * i - B) 7 = _
    rw [show B + 3 + 3 * i - B = 3 + 3 * i by omega]
  · show V (B + 4 + 3 * i - B) j = _
    rw [show B + 4 + 3 * i - B = 4 + 3 * i by omega]
  · show V (B + 5 + 3 * i - B) j = _
    rw [show B + 5 + 3 * i - B = 5 + 3 * i by omega]
/-- what is kept of every state: numbers in their ranges; cells and sheets name each other -/
def nS (V : St) : Nat := (V 0 2).toNatClampNeg
def WF (V : St) : Prop := (∃ n, n ≤ 9 ∧ V 0 2 = ni n) ∧ (∃ p, p ≤ 50 ∧ V 0 3 = ni p) ∧
  (∀ c, c < 9 → V 2 c = -1 ∨ ∃ i, i < 9 ∧ V 2 c = ni i ∧ ni i < V 0 2 ∧ V (3 + 3 * i) 6 = ni c) ∧
  ∀ i, i < 9 → (V (3 + 3 * i) 2 = 115 ∨ V (3 + 3 * i) 2 = 108 ∨ V (3 + 3 * i) 2 = 99) ∧ (∃ k, k ≤ 6 ∧ V (3 + 3 * i) 3 = ni k) ∧ (∃ w, w ≤ 9 ∧ V (3 + 3 * i) 4 = ni w) ∧ (V (3 + 3 * i) 5 = 0 ∨ V (3 + 3 * i) 5 = 1) ∧
    (V (3 + 3 * i) 6 = -1 ∨ ∃ c, c < 9 ∧ V (3 + 3 * i) 6 = ni c ∧ V 2 c = ni i ∧ ∃ t, t < 4 ∧ V (3 + 3 * i) 7 = ni t) ∧ (∀ j, j < 4 → ∃ d, d ≤ 9 ∧ V (4 + 3 * i) j = ni d) ∧ (∀ j, j < 6 → V (5 + 3 * i) j = 118 ∨ V (5 + 3 * i) j = 109 ∨ V (5 + 3 * i) j = 0)
