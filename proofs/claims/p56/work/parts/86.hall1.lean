/-! ===== pure: the first hall: its states ===== -/
theorem v0_0 (j : Nat) : V0 0 j = 0 := rfl
theorem v0_2 {c : Nat} (hc : c < 9) : V0 2 c = -1 := if_pos hc
theorem v0_3 (i j : Nat) : V0 (3 + 3 * i) j = if j = 2 then 115 else if j = 6 then -1 else 0 := vk_3 9 i j
theorem v0_4 (i j : Nat) : V0 (4 + 3 * i) j = 0 := vk_4 9 i j
theorem v0_5 (i j : Nat) : V0 (5 + 3 * i) j = 0 := vk_5 9 i j
theorem w_V0 : WF V0 := by
  refine ⟨⟨0, by decide, rfl⟩, ⟨0, by decide, rfl⟩, fun c hc => Or.inl (v0_2 hc), fun i _ => ⟨Or.inl ?_, ⟨0, by decide, ?_⟩, ⟨0, by decide, ?_⟩, Or.inl ?_, Or.inl ?_, fun j _ => ⟨0, by decide, ?_⟩, fun j _ => Or.inr (Or.inr ?_)⟩⟩
  · rw [v0_3]; rfl
  · rw [v0_3]; rfl
  · rw [v0_3]; rfl
  · rw [v0_3]; rfl
  · rw [v0_3]; rfl
  · rw [v0_4]; rfl
  · rw [v0_5]
theorem w_h00 : WH h00 := ⟨w_V0, w_V0, fun _ _ => w_V0, by decide, by decide, by decide⟩
def c20 : St := upS V0 0 3 20
def shV : Nat → St
  | 0 => c20
  | k + 1 => upS (upS (upS (upS (upS (upS (shV k) (4 + 3 * k) 0 (ni k)) (4 + 3 * k) 1 (ni k)) (4 + 3 * k) 2 (ni k)) (4 + 3 * k) 3 (ni k)) (3 + 3 * k) 2 99) 0 2 (ni (k + 1))
def crV : Nat → St
  | 0 => shV 9
  | k + 1 => upS (upS (crV k) (5 + 3 * 8) k 118) (3 + 3 * 8) 3 (ni (k + 1))
def fV : St := upS (upS (upS (crV 6) (3 + 3 * 8) 5 1) (3 + 3 * 8) 4 6) 0 5 1
def uV : St := upS fV (3 + 3 * 8) 5 0
def nV : St := upS (upS (upS uV 0 3 14) 0 4 6) (3 + 3 * 8) 4 0
def pV : St := layV nV 8 4 3
def qV : St := layV pV 7 8 2
def tV : St := liftV qV 8 4
theorem sx_l : sx (8 : Int32) = 8 ∧ sx (7 : Int32) = 7 ∧ sx (4 : Int32) = 4 ∧ sx (5 : Int32) = 5 ∧ sx (3 : Int32) = 3 ∧ sx (2 : Int32) = 2 ∧ sx (0 : Int32) = 0 := by decide +kernel
theorem e_paste : mPaste V0 20 = (20, c20) := by
  unfold mPaste
  rw [if_neg (by decide), if_pos (by decide), v0_0, if_pos (by decide)]
  rfl
theorem sh_n (k : Nat) : shV k 0 2 = ni k := by
  cases k with
  | zero => rfl
  | succ k => exact upS_e _ _ _ _
theorem e_shc : ∀ k, k < 9 → (isC (ni k) && isC (ni k) && isC (ni k) && isC (ni k) && isK 99) = true ∧ ni k < 9 := by decide +kernel
theorem e_sheet {k : Nat} (hk : k < 9) : mSheet (shV k) (ni k) (ni k) (ni k) (ni k) 99 = (ni k, shV (k + 1)) := by
  obtain ⟨h1, h2⟩ := e_shc k hk
  unfold mSheet
  rw [if_pos h1, sh_n, if_pos h2, sx_ni (by omega), ni_s]
  rfl
theorem e_sheet9 : mSheet (shV 9) 0 0 0 0 99 = (-3, shV 9) := by
  unfold mSheet
  rw [if_pos (by decide), sh_n, if_neg (by decide)]
theorem cr_f : ∀ i, i < 7 → hasS (crV i) 8 = true ∧ crV i (3 + 3 * 8) 3 = ni i ∧ crV i (3 + 3 * 8) 5 = 0 := by decide +kernel
theorem cr_6 : ∀ i, i < 6 → ¬ (6 : Int32) ≤ ni i := by decide +kernel
theorem e_crease {i : Nat} (hi : i < 6) : mCrease (crV i) 8 118 = (ni (i + 1), crV (i + 1)) := by
  obtain ⟨h1, h2, h3⟩ := cr_f i (by omega)
  unfold mCrease
  rw [if_pos h1, if_pos (by decide), sx_l.1, h2, if_neg (cr_6 i hi), if_pos h3, sx_ni (by omega), ni_s]
  rfl
theorem e_crease6 : mCrease (crV 6) 8 109 = (-3, crV 6) := by
  obtain ⟨h1, h2, h3⟩ := cr_f 6 (by omega)
  unfold mCrease
  rw [if_pos h1, if_pos (by decide), sx_l.1, h2, if_pos (by decide)]
theorem fo_f : crV 6 (3 + 3 * 8) 6 = -1 ∧ crV 6 (3 + 3 * 8) 4 = 0 ∧ crV 6 0 5 = 0 := by decide +kernel
theorem e_fold : mFold (crV 6) 8 = (6, fV) := by
  obtain ⟨h1, h2, h3⟩ := cr_f 6 (by omega)
  obtain ⟨h4, h5, h6⟩ := fo_f
  unfold mFold
  rw [if_pos h1, sx_l.1, if_pos h3, h2, if_neg (by decide), if_pos h4, h5, h6, if_pos (by decide)]
  rfl
theorem un_f : hasS fV 8 = true ∧ ¬ fV (3 + 3 * 8) 5 = 0 ∧ flatV (0 + 1) (upS fV (3 + 3 * 8) 5 0) = 9 := by decide +kernel
theorem e_unfold : mUnfold (0 + 1) fV 8 = (9, uV) := by
  obtain ⟨h1, h2, h3⟩ := un_f
  unfold mUnfold
  rw [if_pos h1, sx_l.1, if_neg h2, h3]
  rfl
theorem me_f : hasS uV 8 = true ∧ uV (3 + 3 * 8) 4 = 6 ∧ uV (3 + 3 * 8) 5 = 0 ∧ uV 0 3 = 20 ∧ uV 0 4 = 0 := by decide +kernel
theorem e_mend : mMend uV 8 = (14, nV) := by
  obtain ⟨h1, h2, h3, h4, h5⟩ := me_f
  unfold mMend
  rw [if_pos h1, sx_l.1, h2, if_neg (by decide), if_pos h3, h4, if_pos (by decide), h5]
  rfl
theorem p1_f : hasS nV 8 = true ∧ cblV nV 8 = true ∧ nV 2 4 = -1 ∧ ¬ fitsV (0 + 1) nV 8 4 3 = 0 ∧ besV (0 + 1) (layV nV 8 4 3) 4 = 0 := by decide +kernel
theorem e_put1 : mPut (0 + 1) nV 8 4 3 = (0, pV) := by
  obtain ⟨h1, h2, h3, h4, h5⟩ := p1_f
  unfold mPut
  rw [if_pos h1, if_pos (by decide), if_pos (by decide), sx_l.1, sx_l.2.2.1, sx_l.2.2.2.2.1, if_pos h2, if_pos h3, if_neg h4, h5]
  rfl
theorem p2_f : hasS pV 7 = true ∧ cblV pV 7 = true ∧ ¬ pV 2 4 = -1 := by decide +kernel
theorem e_put2 : mPut (0 + 1) pV 7 4 0 = (-3, pV) := by
  obtain ⟨h1, h2, h3⟩ := p2_f
  unfold mPut
  rw [if_pos h1, if_pos (by decide), if_pos (by decide), sx_l.2.1, sx_l.2.2.1, if_pos h2, if_neg h3]
theorem p3_f : pV 2 5 = -1 ∧ fitsV (0 + 1) pV 7 5 0 = 0 := by decide +kernel
theorem e_put3 : mPut (0 + 1) pV 7 5 0 = (-4, pV) := by
  obtain ⟨h1, h2, -⟩ := p2_f
  obtain ⟨h3, h4⟩ := p3_f
  unfold mPut
  rw [if_pos h1, if_pos (by decide), if_pos (by decide), sx_l.2.1, sx_l.2.2.2.1, sx_l.2.2.2.2.2.2, if_pos h2, if_pos h3, if_pos h4]
theorem p4_f : pV 2 8 = -1 ∧ ¬ fitsV (0 + 1) pV 7 8 2 = 0 ∧ besV (0 + 1) (layV pV 7 8 2) 8 = 0 := by decide +kernel
theorem e_put4 : mPut (0 + 1) pV 7 8 2 = (0, qV) := by
  obtain ⟨h1, h2, -⟩ := p2_f
  obtain ⟨h3, h4, h5⟩ := p4_f
  unfold mPut
  rw [if_pos h1, if_pos (by decide), if_pos (by decide), sx_l.1, sx_l.2.1, sx_l.2.2.2.2.2.1, if_pos h2, if_pos h3, if_neg h4, h5]
  rfl
theorem ta_f : ¬ qV 2 4 = -1 ∧ qV 2 4 = 8 := by decide +kernel
theorem e_take : mTake qV 4 = (8, tV) := by
  obtain ⟨h1, h2⟩ := ta_f
  unfold mTake
  rw [if_pos (by decide), sx_l.2.2.1, if_neg h1, h2, sx_l.1]
  rfl
/-- the states in their order -/
def SQ (i : Nat) : St := if i ≤ 6 then crV i else if i = 7 then fV else if i = 8 then uV else if i = 9 then nV else if i = 10 then pV else if i = 11 then qV else tV
/-- a hall whose state is V; the last q states are L; k calls can be undone -/
def US (V : St) (L : Nat → St) (q k : Nat) (h : Hs) : Prop := WH h ∧ hC h = V ∧ hK h = k ∧ hB h = true ∧ hV h = V0 ∧ q ≤ 8 ∧ ∀ s, s < q → hL h ((hN h + 8 - s) % 9) = L s
theorem US.keep {V V' : St} {L L' : Nat → St} {q q' k : Nat} {h : Hs} {a : Int32} (u : US V L q k h) (w : WH (recH h (a, V'))) (ha : 0 ≤ a) (hq : q' ≤ q + 1) (h8 : q' ≤ 8) (h0 : 0 < q' → L' 0 = V) (hs : ∀ s, s + 1 < q' → L' (s + 1) = L s) : US V' L' q' (min 8 (k + 1)) (recH h (a, V')) := by
  obtain ⟨w0, c0, k0, b0, v0, q0, s0⟩ := u
  have e : recH h (a, V') = keepH (V', (preH h).2) := if_pos ha
  have hn := w0.2.2.2.1
  refine ⟨w, by rw [e]; rfl, by rw [e, ← k0]; rfl, by rw [e]; exact b0, by rw [e]; exact v0, h8, fun s hsq => ?_⟩
  rw [e]
  show upL (hL h) (hN h) (hC h) (((hN h + 1) % 9 + 8 - s) % 9) = _
  cases s with
  | zero =>
    rw [show ((hN h + 1) % 9 + 8 - 0) % 9 = hN h by omega, h0 hsq, ← c0]
    exact if_pos rfl
  | succ s =>
    rw [hs s hsq, ← s0 s (by omega), show ((hN h + 1) % 9 + 8 - (s + 1)) % 9 = (hN h + 8 - s) % 9 by omega]
    exact if_neg (by omega)
theorem US.ref {V : St} {L : Nat → St} {q k : Nat} {h : Hs} {a : Int32} (u : US V L q k h) (w : WH (recH h (a, V))) (ha : ¬ 0 ≤ a) : US V L q k (recH h (a, V)) := by
  obtain ⟨w0, c0, k0, b0, v0, q0, s0⟩ := u
  have e : recH h (a, V) = (V, (preH h).2) := if_neg ha
  have hn := w0.2.2.2.1
  refine ⟨w, by rw [e]; rfl, by rw [e, ← k0]; rfl, by rw [e]; exact b0, by rw [e]; exact v0, q0, fun s hsq => ?_⟩
  rw [e, ← s0 s hsq]
  show upL (hL h) (hN h) (hC h) ((hN h + 8 - s) % 9) = _
  exact if_neg (by omega)
theorem US.undo {V : St} {L : Nat → St} {q k : Nat} {h : Hs} (u : US V L (q + 1) (k + 1) h) : US (L 0) (fun s => L (s + 1)) q k (undoH h) := by
  obtain ⟨w0, c0, k0, b0, v0, q0, s0⟩ := u
  have hn := w0.2.2.2.1
  refine ⟨w_undo w0, ?_, ?_, b0, v0, by omega, fun s hsq => ?_⟩
  · exact s0 0 (by omega)
  · show hK h - 1 = k
    omega
  · show hL h (((hN h + 8) % 9 + 8 - s) % 9) = L (s + 1)
    rw [← s0 (s + 1) (by omega), show ((hN h + 8) % 9 + 8 - s) % 9 = (hN h + 8 - (s + 1)) % 9 by omega]
