/-! ===== pure: numbers drawn, a hall made ===== -/
theorem some_int (x a : Int32) (h0 : 0 < a.toInt) (h1 : a.toInt ≤ 1000) : (x - x / a * a).toInt = x.toInt.tmod a.toInt := by
  have e : (x - x / a * a).toInt = (x.toInt - x.toInt.tdiv a.toInt * a.toInt).bmod (2^32) := by
    rw [Int32.toInt_sub, Int32.toInt_mul, Int32.toInt_div]
    simp [Int.sub_bmod_bmod, Int.bmod_mul_bmod]
  rw [e]
  have t : x.toInt - x.toInt.tdiv a.toInt * a.toInt = x.toInt.tmod a.toInt := by
    rw [Int.tmod_def, Int.mul_comm]
  rw [t]
  have u1 := Int.tmod_lt_of_pos x.toInt h0
  have u2 := Int.tmod_lt_of_pos (-x.toInt) h0
  rw [Int.neg_tmod] at u2
  apply Int.bmod_eq_of_le <;> omega
theorem some_ni {a : Nat} (h0 : 0 < a) (h1 : a ≤ 100) (x : Int32) : ∃ r, r < a ∧ (if 0 ≤ x - x / ni a * ni a then x - x / ni a * ni a else x - x / ni a * ni a + ni a) = ni r := by
  have ea : (ni a).toInt = a := Int32.toInt_ofNat_of_lt (by omega)
  have e := some_int x (ni a) (by omega) (by omega)
  rw [ea] at e
  have u1 := Int.tmod_lt_of_pos x.toInt (show (0 : Int) < a by omega)
  have u2 := Int.tmod_lt_of_pos (-x.toInt) (show (0 : Int) < a by omega)
  rw [Int.neg_tmod] at u2
  by_cases h : 0 ≤ x - x / ni a * ni a
  · rw [if_pos h]
    have h' : 0 ≤ (x - x / ni a * ni a).toInt := Int32.le_iff_toInt_le.mp h
    rw [e] at h'
    refine ⟨(x.toInt.tmod a).toNat, by omega, ?_⟩
    apply Int32.toInt_inj.mp
    rw [e]
    show _ = (Int32.ofNat _).toInt
    rw [Int32.toInt_ofNat_of_lt (by omega)]
    omega
  · rw [if_neg h]
    have h' : ¬ 0 ≤ (x - x / ni a * ni a).toInt := fun z => h (Int32.le_iff_toInt_le.mpr z)
    rw [e] at h'
    refine ⟨(x.toInt.tmod a + a).toNat, by omega, ?_⟩
    apply Int32.toInt_inj.mp
    rw [Int32.toInt_add, e, ea]
    show _ = (Int32.ofNat _).toInt
    rw [Int32.toInt_ofNat_of_lt (by omega), Int.bmod_eq_of_le (by omega) (by omega)]
    omega
/-- a number drawn: below a, the same for every memory -/
theorem l_some (x : Int32) {a : Nat} (h0 : 0 < a) (h1 : a ≤ 100) : ∃ r, r < a ∧ ∀ M, f_L_some x (ni a) M = some (ni r) := by
  obtain ⟨r, hr, e⟩ := some_ni h0 h1 x
  refine ⟨r, hr, fun M => ?_⟩
  have hz : ¬ ni a = 0 := fun z => by
    have := (ni_eq (j := 0) (by omega) (by omega)).mp z
    omega
  unfold f_L_some nz
  rw [if_neg hz, Option.bind_some, ← e]
  split <;> rfl
/-- a number of the script: the same for every memory -/
def atV (G : Nat × (Nat → Int32) × Value) (i : Nat) : Int32 := if G.1 ≤ i then 0 else G.2.1 i
theorem l_at (G : Nat × (Nat → Int32) × Value) (hG : G.1 ≤ 260) {i : Nat} (hi : i < 100) (M : Mem) : f_L_at G ROB (ni i) M = some (atV G i) := by
  unfold f_L_at atV iL iG
  rw [if_pos rfl, if_pos rfl, Option.bind_some]
  have le_i : (Int32.ofNat G.1 ≤ ni i) ↔ G.1 ≤ i := by
    rw [Int32.le_iff_toInt_le, Int32.toInt_ofNat_of_lt (by omega), show (ni i).toInt = i from Int32.toInt_ofNat_of_lt (by omega)]
    omega
  by_cases h : G.1 ≤ i
  · rw [if_pos (le_i.mpr h), if_pos h]
  · rw [if_neg (fun z => h (le_i.mp z)), if_neg h, if_pos (inr_b (by omega) (by omega)), ni_nat i (by omega)]
    rfl
section MK
variable {b : Nat}
/-- a hall under way: its state has just n sheets, all off the table, flat, with no wear -/
def Fr0 (V : St) (n : Nat) : Prop := V 0 2 = ni n
theorem x_kinds : ∀ r, r < 3 → ∃ c, isK c = true ∧ ∀ M, f_J0_charAt_5068e (ROB + 33) (ni r) M = some c := by
  intro r hr
  have h : ∀ r, r < 3 → ∃ c, isK c = true ∧ f_J0_charAt_5068e (ROB + 33) (ni r) eM = some c := by
    intro r hr
    match r, hr with
    | 0, _ => exact ⟨115, by decide +kernel, by decide +kernel⟩
    | 1, _ => exact ⟨108, by decide +kernel, by decide +kernel⟩
    | 2, _ => exact ⟨99, by decide +kernel, by decide +kernel⟩
  obtain ⟨c, h1, h2⟩ := h r hr
  exact ⟨c, h1, fun M => (ro_chr M _ (by omega)).trans h2⟩
theorem isC_lt {r : Nat} (h : r < 10) : isC (ni r) = true := by
  have : ∀ r, r < 10 → isC (ni r) = true := by decide +kernel
  exact this r h
end MK
