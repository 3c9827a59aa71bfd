/-! ===== pure: a state changed ===== -/
def upS (V : St) (a j : Nat) (x : Int32) : St := fun a' j' => if a' = a ∧ j' = j then x else V a' j'
theorem upS_e (V : St) (a j : Nat) (x : Int32) : upS V a j x a j = x := if_pos ⟨rfl, rfl⟩
theorem upS_n {V : St} {a j a' j' : Nat} {x : Int32} (h : a' ≠ a ∨ j' ≠ j) : upS V a j x a' j' = V a' j' := if_neg (fun z => h.elim (fun k => k z.1) (fun k => k z.2))
/-- outside of a state's cells nothing changes -/
def Fo (B n : Nat) (M M' : Mem) : Prop := Sh M M' ∧ ∀ k j, k < B ∨ B + n ≤ k → mI M' k j = mI M k j
theorem Fo.rf (B n : Nat) (M : Mem) : Fo B n M M := ⟨Sh.rf M, fun _ _ _ => rfl⟩
theorem Fo.tr {B n : Nat} {M M' M'' : Mem} (h : Fo B n M M') (k : Fo B n M' M'') : Fo B n M M'' := ⟨h.1.tr k.1, fun a j q => (k.2 a j q).trans (h.2 a j q)⟩
theorem Fo.up {B n a : Nat} (M : Mem) (j : Nat) (x : Int32) (ha : B ≤ a ∧ a < B + n) : Fo B n M (mUI M a j x) := ⟨Sh.UI M a j x, fun k i q => if_neg (fun z => by omega)⟩
theorem Fo.mono {B n B' n' : Nat} {M M' : Mem} (h : Fo B n M M') (k : B' ≤ B ∧ B + n ≤ B' + n') : Fo B' n' M M' := ⟨h.1, fun a j q => h.2 a j (by omega)⟩
section UPD
variable {B : Nat} {V : St} {M : Mem}
theorem ui_at {a j a' j' : Nat} {x : Int32} (h : mI M (B + a') j' = V a' j') : mI (mUI M (B + a) j x) (B + a') j' = upS V a j x a' j' := by
  rw [mI_UI]
  unfold upS
  by_cases e : a' = a ∧ j' = j
  · rw [if_pos e, if_pos ⟨by omega, e.2⟩]
  · rw [if_neg e, if_neg (fun z => e ⟨by omega, z.2⟩), h]
theorem At.up (h : At B V M) (a j : Nat) (x : Int32) (hx : j = 6 → ∀ i, i < 9 → a = 3 + 3 * i → x = -1 ∨ V a 6 ≠ -1) : At B (upS V a j x) (mUI M (B + a) j x) := by
  refine ⟨h.1.sh (Sh.UI M _ j x), fun j' h1 h2 => ?_, fun c hc => ?_, fun i hi => ⟨fun j' h1 h2 => ?_, fun h6 => ?_, fun j' hj => ?_, fun j' hj => ?_⟩⟩
  · exact ui_at (a' := 0) (h.2.1 j' h1 h2)
  · exact ui_at (a' := 2) (h.2.2.1 c hc)
  · rw [show B + 3 + 3 * i = B + (3 + 3 * i) by omega]
    exact ui_at (by rw [show B + (3 + 3 * i) = B + 3 + 3 * i by omega]; exact (h.2.2.2 i hi).1 j' h1 h2)
  · rw [show B + 3 + 3 * i = B + (3 + 3 * i) by omega]
    by_cases e : 3 + 3 * i = a ∧ (7 : Nat) = j
    · rw [mI_UI, if_pos ⟨by omega, e.2⟩]
      unfold upS
      rw [if_pos e]
    · rw [mI_UI, if_neg (fun z => e ⟨by omega, z.2⟩), upS_n (by omega)]
      have h7 : V (3 + 3 * i) 6 ≠ -1 := by
        intro z
        by_cases e6 : 3 + 3 * i = a ∧ (6 : Nat) = j
        · obtain ⟨e6, e7⟩ := e6
          subst e6
          subst e7
          rw [upS_e] at h6
          exact (hx rfl i hi rfl).elim h6 (fun q => q z)
        · rw [upS_n (by omega)] at h6
          exact h6 z
      rw [show B + (3 + 3 * i) = B + 3 + 3 * i by omega]
      exact (h.2.2.2 i hi).2.1 h7
  · rw [show B + 4 + 3 * i = B + (4 + 3 * i) by omega]
    exact ui_at (by rw [show B + (4 + 3 * i) = B + 4 + 3 * i by omega]; exact (h.2.2.2 i hi).2.2.1 j' hj)
  · rw [show B + 5 + 3 * i = B + (5 + 3 * i) by omega]
    exact ui_at (by rw [show B + (5 + 3 * i) = B + 5 + 3 * i by omega]; exact (h.2.2.2 i hi).2.2.2 j' hj)
theorem At.s9 (h : At B V M) (j : Nat) (x : Int32) : sI M 9 B j .int x = some (mUI M B j x) := by
  obtain ⟨⟨q1, q2, -⟩, -⟩ := h
  unfold sI
  rw [q2]
  exact if_pos ⟨rfl, by omega, rfl, rfl⟩
theorem At.s7 (h : At B V M) {i : Nat} (hi : i < 9) (j : Nat) (ty : FieldType) (x : Int32) (h1 : narrow ty (.int x) = .int x) (h2 : fits ty (.int x) = true) : sI M 7 (B + 3 + 3 * i) j ty x = some (mUI M (B + 3 + 3 * i) j x) := by
  obtain ⟨⟨q1, -, -, -, -, -, q7⟩, -⟩ := h
  unfold sI
  rw [(q7 i hi).2.1]
  exact if_pos ⟨rfl, by omega, h1, h2⟩
theorem At.sb (h : At B V M) {i j : Nat} (hi : i < 9) (hj : j < 4) (x : Int32) : asI M 100 (B + 4 + 3 * i) (ni j) x = some (mUI M (B + 4 + 3 * i) j x) := by
  obtain ⟨⟨q1, -, -, -, -, -, q7⟩, -⟩ := h
  unfold asI
  rw [(q7 i hi).2.2.2.2.1, if_pos ⟨rfl, by omega, inr_ni (by omega) hj⟩, ni_nat j (by omega)]
theorem At.sc (h : At B V M) {i j : Nat} (hi : i < 9) (hj : j < 6) (x : Int32) : asC M (B + 5 + 3 * i) (ni j) x = some (mUI M (B + 5 + 3 * i) j (vp_nar .char x)) := by
  obtain ⟨⟨q1, -, -, -, -, -, q7⟩, -⟩ := h
  unfold asC asI
  rw [(q7 i hi).2.2.2.2.2, if_pos ⟨rfl, by omega, inr_ni (by omega) hj⟩, ni_nat j (by omega)]
theorem At.so (h : At B V M) {c : Nat} (hc : c < 9) (x : Int32) : asI M 100 (B + 2) (ni c) x = some (mUI M (B + 2) c x) := by
  obtain ⟨⟨q1, q2, -, -, -, q6, q7⟩, -⟩ := h
  unfold asI
  rw [q6, if_pos ⟨rfl, by omega, inr_ni (by omega) hc⟩, ni_nat c (by omega)]
theorem At.up7 (h : At B V M) (i j : Nat) (x : Int32) (hx : j = 6 → i < 9 → x = -1 ∨ V (3 + 3 * i) 6 ≠ -1) : At B (upS V (3 + 3 * i) j x) (mUI M (B + 3 + 3 * i) j x) := by
  have := h.up (3 + 3 * i) j x (fun e i' hi' e' => by obtain rfl : i = i' := by omega
                                                      exact hx e hi')
  rwa [show B + (3 + 3 * i) = B + 3 + 3 * i by omega] at this
theorem At.up4 (h : At B V M) (i j : Nat) (x : Int32) : At B (upS V (4 + 3 * i) j x) (mUI M (B + 4 + 3 * i) j x) := by
  have := h.up (4 + 3 * i) j x (fun e i' hi' e' => by omega)
  rwa [show B + (4 + 3 * i) = B + 4 + 3 * i by omega] at this
theorem At.up5 (h : At B V M) (i j : Nat) (x : Int32) : At B (upS V (5 + 3 * i) j x) (mUI M (B + 5 + 3 * i) j x) := by
  have := h.up (5 + 3 * i) j x (fun e i' hi' e' => by omega)
  rwa [show B + (5 + 3 * i) = B + 5 + 3 * i by omega] at this
theorem At.up0 (h : At B V M) (j : Nat) (x : Int32) : At B (upS V 0 j x) (mUI M B j x) := h.up 0 j x (fun e i' hi' e' => by omega)
theorem At.up2 (h : At B V M) (c : Nat) (x : Int32) : At B (upS V 2 c x) (mUI M (B + 2) c x) := h.up 2 c x (fun e i' hi' e' => by omega)
end UPD
/-- a number between two -/
theorem rg {x : Int32} {n : Nat} (hn : n < 100) (h0 : 0 ≤ x) (h1 : x ≤ ni n) : ∃ d, d ≤ n ∧ x = ni d := by
  have e0 : (0 : Int) ≤ x.toInt := by simpa using Int32.le_iff_toInt_le.mp h0
  have e1 : x.toInt ≤ (ni n).toInt := Int32.le_iff_toInt_le.mp h1
  have e2 : (ni n).toInt = (n : Int) := by
    have h : ∀ n, n < 100 → (ni n).toInt = (n : Int) := by decide +kernel
    exact h n hn
  refine ⟨x.toInt.toNat, by omega, ?_⟩
  apply Int32.toInt_inj.mp
  have h : ∀ n, n < 101 → (ni n).toInt = (n : Int) := by decide +kernel
  rw [h _ (by omega)]
  omega
theorem rgl {x : Int32} {n : Nat} (hn : n < 100) (h0 : 0 ≤ x) (h1 : x < ni n) : ∃ d, d < n ∧ x = ni d := by
  obtain ⟨d, hd, rfl⟩ := rg hn h0 (Int32.le_of_lt h1)
  exact ⟨d, (ni_lt (by omega) (by omega)).mp h1, rfl⟩
theorem nlt {a b : Int32} (h : ¬ a < b) : b ≤ a := Int32.not_lt.mp h
theorem nle {a b : Int32} (h : ¬ a ≤ b) : b < a := Int32.not_le.mp h
