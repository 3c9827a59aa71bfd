/-! ===== pure: a hall while the memory grows; a text run in it ===== -/
section TXR
variable {b N : Nat} {h : Hs} {M M' : Mem}
theorem LH.lo (L : LH b M) (l : Lo N M M') (hb : b + 343 ≤ N) (hN : N ≤ mN M') : LH b M' := by
  have S : ∀ k, k < b + 343 → mS M' k = mS M k := fun k hk => (l k (by omega)).1
  have P : ∀ k j, k < b + 343 → mP M' k j = mP M k j := fun k j hk => ((l k (by omega)).2 j).2.2
  obtain ⟨q1, q2, q3, q4, q5, q6, q7, q8, q9, q10, q11, q12, q13, q14, q15, q16, q17, q18, q19, q20, q21, q22, q23, q24, q25⟩ := L
  refine ⟨by omega, ?_, ?_, ?_, ?_, ?_, ?_, ?_, ?_, ?_, ?_, fun i hi => ?_, ?_, ?_, ?_, ?_, ?_, ?_, ?_, ?_, ?_, ?_, ?_, ?_, ?_⟩
  · rw [S _ (by omega)]; exact q2
  · rw [P _ _ (by omega)]; exact q3
  · rw [P _ _ (by omega)]; exact q4
  · rw [P _ _ (by omega)]; exact q5
  · rw [P _ _ (by omega)]; exact q6
  · rw [P _ _ (by omega)]; exact q7
  · rw [P _ _ (by omega)]; exact q8
  · rw [S _ (by omega)]; exact q9
  · rw [P _ _ (by omega)]; exact q10
  · rw [S _ (by omega)]; exact q11
  · rw [P _ _ (by omega)]; exact q12 i hi
  · rw [S _ (by omega)]; exact q13
  · rw [P _ _ (by omega)]; exact q14
  · rw [S _ (by omega)]; exact q15
  · rw [S _ (by omega)]; exact q16
  · rw [P _ _ (by omega)]; exact q17
  · rw [P _ _ (by omega)]; exact q18
  · rw [P _ _ (by omega)]; exact q19
  · rw [S _ (by omega)]; exact q20
  · rw [S _ (by omega)]; exact q21
  · rw [S _ (by omega)]; exact q22
  · rw [S _ (by omega)]; exact q23
  · rw [P _ _ (by omega)]; exact q24
  · rw [S _ (by omega)]; exact q25
theorem At.lo {B : Nat} {V : St} (A : At B V M) (l : Lo N M M') (hb : B + 30 ≤ N) (hN : N ≤ mN M') : At B V M' := by
  have S : ∀ k, k < B + 30 → mS M' k = mS M k := fun k hk => (l k (by omega)).1
  have P : ∀ k j, k < B + 30 → mP M' k j = mP M k j := fun k j hk => ((l k (by omega)).2 j).2.2
  have I : ∀ k j, k < B + 30 → mI M' k j = mI M k j := fun k j hk => ((l k (by omega)).2 j).1
  obtain ⟨⟨q1, q2, q3, q4, q5, q6, q7⟩, r1, r2, r3⟩ := A
  refine ⟨⟨by omega, ?_, ?_, ?_, ?_, ?_, fun i hi => ?_⟩, fun j h1 h2 => ?_, fun c hc => ?_, fun i hi => ⟨fun j h1 h2 => ?_, fun z => ?_, fun j hj => ?_, fun j hj => ?_⟩⟩
  · rw [S _ (by omega)]; exact q2
  · rw [P _ _ (by omega)]; exact q3
  · rw [P _ _ (by omega)]; exact q4
  · rw [S _ (by omega)]; exact q5
  · rw [S _ (by omega)]; exact q6
  · rw [P _ _ (by omega), S _ (by omega), P _ _ (by omega), P _ _ (by omega), S _ (by omega), S _ (by omega)]
    exact q7 i hi
  · rw [I _ _ (by omega)]; exact r1 j h1 h2
  · rw [I _ _ (by omega)]; exact r2 c hc
  · rw [I _ _ (by omega)]; exact (r3 i hi).1 j h1 h2
  · rw [I _ _ (by omega)]; exact (r3 i hi).2.1 z
  · rw [I _ _ (by omega)]; exact (r3 i hi).2.2.1 j hj
  · rw [I _ _ (by omega)]; exact (r3 i hi).2.2.2 j hj
theorem Hall.lo (H : Hall b h M) (l : Lo N M M') (hb : b + 343 ≤ N) (hN : N ≤ mN M') : Hall b h M' := by
  have I : ∀ k j, k < b + 343 → mI M' k j = mI M k j := fun k j hk => ((l k (by omega)).2 j).1
  obtain ⟨q1, q2, q3, q4, q5, q6, q7, q8, q9, q10, q11, n12, z12, e12⟩ := H
  refine ⟨q1.lo l hb hN, q2.lo l (by omega) hN, q3.lo l (by omega) hN, fun i hi => (q4 i hi).lo l (by omega) hN, ?_, ?_, ?_, ?_, ?_, ?_, fun i hi => ?_, n12, z12, ?_⟩
  · rw [I _ _ (by omega)]; exact q5
  · rw [I _ _ (by omega)]; exact q6
  · rw [I _ _ (by omega)]; exact q7
  · rw [I _ _ (by omega)]; exact q8
  · rw [I _ _ (by omega)]; exact q9
  · rw [I _ _ (by omega)]; exact q10
  · rw [I _ _ (by omega)]; exact q11 i hi
  · rw [I _ _ (by omega)]; exact e12
theorem car_ex {B : Nat} {T : List Int32} {cs : Cms} (hx : ∀ i, i < cs.length → ∀ V, Cn V → ∃ q, cmdM B T (cs.getD i (0, 0)) V = some q ∧ Cn q.2) : ∀ n i V, cs.length < n + i → Cn V → i ≤ cs.length → ∃ r, carM B T cs n i V = some r ∧ Cn r.2 := by
  intro n
  induction n with
  | zero => intro i V h1 _ h2; omega
  | succ n ih =>
    intro i V h1 hc h2
    simp only [carM]
    by_cases hl : cs.length ≤ i
    · rw [if_pos hl]
      exact ⟨_, rfl, hc⟩
    · rw [if_neg hl]
      obtain ⟨q, e, hq⟩ := hx i (by omega) V hc
      rw [e]
      show ∃ r, (if 0 ≤ q.1 then _ else _) = some r ∧ _
      by_cases h0 : 0 ≤ q.1
      · rw [if_pos h0]
        exact ih (i + 1) q.2 (by omega) hq (by omega)
      · rw [if_neg h0]
        exact ⟨_, rfl, hq⟩
/-- a text run in a hall: kept, or refused -/
theorem g_run (H : Hall b h M) (w : WH h) (cn : Cn (hC h)) (h0 : hT h = []) {p : Nat} {T : List Int32} (hl : T.length ≤ 19) (hch : ∀ i, i < T.length → vp_nar .char (T.getD i 0) = T.getD i 0) (ht : ∀ M', Fo b 343 M M' → Txt p T M') {cs : Cms} (hr : mRead T = some (-1, cs)) (hc : cs.length ≤ 60) (hj : ∀ i, i < cs.length → (cs.getD i (0, 0)).2 < 9) (hx : ∀ i, i < cs.length → ∀ V, Cn V → ∃ q, cmdM (b + 1) T (cs.getD i (0, 0)) V = some q ∧ Cn q.2) : ∃ y h' M', f_L_runs b p M = some (y, M') ∧ Hall b h' M' ∧ WH h' ∧ Cn (hC h') ∧ Chd h h' (if y < 0 then 0 else 1) ∧ Fo b 343 M M' := by
  obtain ⟨r, hr2, cr⟩ := car_ex hx 100 0 (hC h) (by omega) cn (Nat.zero_le _)
  by_cases h1 : r.1 = -1
  · have wT : WH (txH h T) := w_tx w (show T.length ≤ 60 by omega)
    have e : runH (txH h T) cs.length r = (ni cs.length, keepH (txH (r.2, (preH (txH h T)).2) [])) := if_pos h1
    have st : ∀ M1, Hall b (txH h T) M1 → ∃ M', f_L_run b M1 = some (ni cs.length, M') ∧ (Hall b (keepH (txH (r.2, (preH (txH h T)).2) [])) M' ∧ WH (keepH (txH (r.2, (preH (txH h T)).2) []))) ∧ Fo b 343 M1 M' := fun M1 H1 => by
      obtain ⟨M2, f2, H2, W2, o2⟩ := l_run H1 wT hr hc hj hr2
      rw [e] at f2 H2 W2
      exact ⟨M2, f2, ⟨H2, W2⟩, o2⟩
    obtain ⟨M', f1, H1, o1⟩ := x_fed (h' := keepH (txH (r.2, (preH (txH h T)).2) [])) hl hch H h0 ht (fun M1 H1 => by
      obtain ⟨M2, f2, H2, o2⟩ := st M1 H1
      exact ⟨M2, f2, H2.1, o2⟩)
    have W : WH (keepH (txH (r.2, (preH (txH h T)).2) [])) := by
      obtain ⟨M1, -, H1', -⟩ := fd_lp (b := b) (h := h) (p := p) (by omega) hch T.length (Nat.le_refl _) 20 (by omega) M (by
        have e0 : txH h (T.take (T.length - T.length)) = h := by
          rw [Nat.sub_self]
          show (hC h, hV h, hL h, hB h, hN h, hK h, hM h, hF h, ([] : List Int32)) = h
          rw [← h0]
          rfl
        rw [e0]
        exact H) ht
      obtain ⟨M2, -, H2, -⟩ := st M1 H1'
      exact H2.2
    refine ⟨_, _, M', f1, H1, W, cr, ?_, o1⟩
    rw [if_neg (Int32.not_lt.mpr (pos_ni cs.length (by omega)))]
    exact ⟨rfl, rfl, rfl, rfl, Or.inr ⟨rfl, rfl, rfl⟩⟩
  · obtain ⟨h', M', f1, H1, W1, e1, e2, e3, e4, e5, e6, e7, -, -, o1⟩ := g_ref H w h0 hl hch ht hr hc hj hr2 h1
    refine ⟨_, h', M', f1, H1, W1, by rw [e1]; exact cn, ?_, o1⟩
    rw [if_pos (by decide)]
    exact ⟨e2, e3, e7, e5, Or.inl ⟨rfl, e1, e4, e6⟩⟩
end TXR
