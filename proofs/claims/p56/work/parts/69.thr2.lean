/-! ===== pure: the refused, all together ===== -/
section TH
variable {b : Nat} {V : St} {k : Nat}
theorem TS.cg {β : Type} {mk : Mem → β} {f g : Mem → Option β} (h : ∀ M, f M = g M) (nx : TS b V k mk g) : TS b V k mk f := fun M G => by
  rw [h M]
  exact nx M G
abbrev mkL (x : Int32) (m : Int32) : Mem → (Int32 × Int32 × Mem) ⊕ (Int32 × Mem) := fun M => .inl (x, m, M)
/-- behind the four regions of one sheet -/
theorem t_tail (hW : WF V) {i : Nat} (hi : i < 9) (hS : hasS V (ni i) = true) {β : Type} {mk : Mem → β} {g : Mem → Option β} (nx : TS b V k mk g) : TS b V k mk (fun M => (f_L_crease b (ni i) (-1) M).bind fun r109 => if r109 = (-1001) then ((f_L_creaseCount b (ni i) M).bind fun r111 => (f_L_crease b (ni i) r111 M).bind fun r112 => if r112 = (-1001) then ((f_L_onTop b (ni i) (-1) M).bind fun r114 => if r114.1 = (-1001) then ((f_L_creaseCount b (ni i) r114.2).bind fun r116 => (f_L_onTop b (ni i) (r116 + 1) r114.2).bind fun r117 => if r117.1 = (-1001) then ((f_L_border b (ni i) 4 r117.2).bind fun r119 => if r119 = (-1002) then ((f_L_border b (ni i) (-1) r117.2).bind fun r121 => if r121 = (-1002) then ((f_L_matches b (ni i) 9 0 r117.2).bind fun r123 => if r123 = (-1001) then ((f_L_matches b (ni i) 0 4 r117.2).bind fun r125 => if r125 = (-1002) then (g r117.2) else none) else none) else none) else none) else none) else none) else none) else none) := by
  obtain ⟨ct, hct, e3⟩ := (hW.2.2.2 i hi).2.1
  refine TS.r (fun M H => l_crease_no H hW (Or.inr (Or.inl (by decide)))) rfl ?_
  refine TS.kk (fun M H => l_creaseCount H hW _) ?_
  rw [if_pos hS, sx_i hi, e3]
  refine TS.r (fun M H => l_crease_no H hW (Or.inr (Or.inr (by rw [sx_i hi, e3]; exact (ni_le (by omega) (by omega)).mpr (Nat.le_refl _))))) rfl ?_
  refine TS.s (ts_q (fun M H => l_onTop_no H hW (Or.inr (Or.inl (by decide))))) rfl ?_
  dsimp only
  refine TS.kk (fun M H => l_creaseCount H hW _) ?_
  rw [if_pos hS, sx_i hi, e3]
  refine TS.s (ts_q (fun M H => l_onTop_no H hW (Or.inr (Or.inr (by rw [sx_i hi, e3, ni_s]; exact (ni_lt (by omega) (by omega)).mpr (by omega)))))) rfl ?_
  dsimp only
  refine TS.r (fun M H => l_border_2 H hW hS (by decide)) rfl ?_
  refine TS.r (fun M H => l_border_2 H hW hS (by decide)) rfl ?_
  refine TS.r (fun M H => l_matches_2 H hW 0 hS (by decide)) rfl ?_
  exact TS.r (fun M H => l_matches_3 H hW hS (by decide) (by decide)) rfl nx
theorem t_297 (hW : WF V) {m : Nat} (hm : m ≤ 9) (hV : V 0 2 = ni m) (l : Int64) (x4 : Int32) : ∀ j, j ≤ m → ∀ n, j < n → TS b V k (mkL 1 (ni m)) (fun M => lp_L_thrown_297 b l (ni m) x4 n 1 (ni (m - j)) M) := by
  intro j
  induction j with
  | zero =>
    intro _ n hn
    obtain ⟨n, rfl⟩ : ∃ z, n = z + 1 := ⟨n - 1, by omega⟩
    refine TS.cg (fun M => by rw [lp_L_thrown_297]) ?_
    exact TS.pos ((ni_le (by omega) (by omega)).mpr (by omega)) (TS.e (mk := mkL 1 (ni m)))
  | succ j ih =>
    intro hj n hn
    obtain ⟨n, rfl⟩ : ∃ z, n = z + 1 := ⟨n - 1, by omega⟩
    have hi : m - (j + 1) < m := by omega
    have h9 : m - (j + 1) < 9 := by omega
    have hS := hS_of hm hV hi
    have nx : TS b V k (mkL 1 (ni m)) (lp_L_thrown_297 b l (ni m) x4 n 1 (ni (m - (j + 1)) + 1)) := by
      rw [up_m (show j < m by omega)]
      exact ih (by omega) n (by omega)
    refine TS.cg (fun M => by rw [lp_L_thrown_297]) ?_
    refine TS.neg (up_n hm (show j < m by omega)) ?_
    refine TS.neg (by decide) ?_
    refine TS.kk (fun M H => l_isFolded H hW _) ?_
    rw [if_pos hS, sx_i h9]
    refine TS.i (fun _ => ?_) (fun h5 => ?_)
    · refine TS.w (t_337 hW h9 hS l (ni m) x4) ?_
      refine TS.w (t_389 hW h9 hS l (ni m) x4) ?_
      refine TS.w (t_472 hW h9 hS l (ni m) x4) ?_
      refine TS.w (t_519 hW h9 hS hS l (ni m) x4) ?_
      dsimp only
      refine TS.neg (by decide) ?_
      exact t_tail hW h9 hS nx
    · have h50 : V (3 + 3 * (m - (j + 1))) 5 = 0 := by
        rcases (hW.2.2.2 _ h9).2.2.2.1 with z | z
        · exact z
        · exact absurd z h5
      refine TS.s (ts_unfold (a := -3) ?_ (by decide)) (by decide) ?_
      · unfold mUnfold
        rw [if_pos hS, sx_i h9, if_pos h50]
      dsimp only
      refine TS.w (t_337 hW h9 hS l (ni m) x4) ?_
      refine TS.w (t_389 hW h9 hS l (ni m) x4) ?_
      refine TS.w (t_472 hW h9 hS l (ni m) x4) ?_
      refine TS.w (t_519 hW h9 hS hS l (ni m) x4) ?_
      dsimp only
      refine TS.neg (by decide) ?_
      exact t_tail hW h9 hS nx
theorem ni_1002 : ∀ i, i < 9 → ni i ≠ -1002 := by decide +kernel
theorem t_720 (hW : WF V) {c : Nat} (hc : c < 9) (l : Int64) (x3 x4 : Int32) : TS b V k mk5 (rg_L_thrown_720 b l x3 x4 1 (ni c)) := by
  unfold rg_L_thrown_720
  refine TS.kk (fun M H => l_sheetIn H _) ?_
  rw [if_pos (isL_ni hc), sx_i hc]
  by_cases h2 : V 2 c = -1
  · rw [if_pos h2]
    refine TS.pos rfl ?_
    refine TS.neg (by decide) ?_
    refine TS.s (ts_take (a := -5) ?_ (by decide)) (by decide) ?_
    · unfold mTake
      rw [if_pos (isL_ni hc), sx_i hc, if_pos h2]
    dsimp only
    refine TS.r (fun M H => l_turnsIn H hW _) (by rw [if_pos (isL_ni hc), sx_i hc, if_pos h2]) ?_
    refine TS.r (fun M H => l_borderIn_3 H hc (by decide) h2) rfl ?_
    refine TS.r (fun M H => l_pointsOf_2 H hc h2) rfl ?_
    refine TS.r (fun M H => l_groupSize_2 H hc h2) rfl ?_
    exact TS.e (mk := mk5)
  · rw [if_neg h2]
    obtain ⟨i, hi, e, -⟩ := (hW.2.2.1 c hc).resolve_left h2
    exact TS.neg (by rw [e]; exact ni_1002 i hi) (TS.e (mk := mk5))
theorem t_713 (hW : WF V) (l : Int64) (x3 x4 : Int32) : ∀ j, j ≤ 9 → ∀ n, j < n → TS b V k (mkL 1 (ni 9)) (fun M => lp_L_thrown_713 b l x3 x4 n 1 (ni (9 - j)) M) := by
  intro j
  induction j with
  | zero =>
    intro _ n hn
    obtain ⟨n, rfl⟩ : ∃ z, n = z + 1 := ⟨n - 1, by omega⟩
    refine TS.cg (fun M => by rw [lp_L_thrown_713]) ?_
    exact TS.pos (by decide) (TS.e (mk := mkL 1 (ni 9)))
  | succ j ih =>
    intro hj n hn
    obtain ⟨n, rfl⟩ : ∃ z, n = z + 1 := ⟨n - 1, by omega⟩
    refine TS.cg (fun M => by rw [lp_L_thrown_713]) ?_
    refine TS.neg (up9a j (by omega)) ?_
    refine TS.w (t_720 hW (show 9 - (j + 1) < 9 by omega) l x3 x4) ?_
    dsimp only
    rw [up9b j (by omega)]
    exact ih (by omega) n (by omega)
abbrev mk8 : Mem → Mem ⊕ (Int32 × Mem) := fun M => .inl M
theorem t_82 (hW : WF V) {m : Nat} (hV : V 0 2 = ni m) (l : Int64) (x4 : Int32) : TS b V k mk8 (rg_L_thrown_82 b l (ni m) x4) := by
  unfold rg_L_thrown_82
  refine TS.i (fun _ => TS.e (mk := mk8)) (fun h9 => ?_)
  refine TS.s (ts_sheet (a := -3) ?_ (by decide)) (by decide) ?_
  · unfold mSheet
    rw [if_pos (by decide), hV, if_neg h9]
  exact TS.e (mk := mk8)
theorem ps31 : ∀ p, p < 51 → ¬ ni p < 31 → ¬ ni p + 20 ≤ 50 := by decide +kernel
theorem t_266 (hW : WF V) (l : Int64) (x3 x4 : Int32) : TS b V k mk8 (rg_L_thrown_266 b l x3 x4) := by
  unfold rg_L_thrown_266
  obtain ⟨p, hp, e⟩ := hW.2.1
  refine TS.kk (fun M H => H.1.rc10) ?_
  refine TS.kk (fun M H => x_paste H) ?_
  refine TS.i (fun _ => TS.e (mk := mk8)) (fun h9 => ?_)
  refine TS.s (ts_paste (a := -3) ?_ (by decide)) (by decide) ?_
  · unfold mPaste
    rw [if_neg (by decide), if_pos (by decide), e, if_neg (ps31 p (by omega) (e ▸ h9))]
  exact TS.e (mk := mk8)
theorem em4 : ∀ e, e < 10 → ¬ ni e < 4 → ¬ ni e ≤ 3 := by decide +kernel
theorem t_1073 (l : Int64) (x3 x4 x5 x6 : Int32) : TS b V k mk8 (rg_L_thrown_1073 b l x3 x4 x5 x6) := by
  unfold rg_L_thrown_1073
  obtain ⟨e, he, ee⟩ := emV_r (b + 1) V
  refine TS.kk (fun M H => H.1.rc10) ?_
  refine TS.kk (fun M H => x_emptyCells H) ?_
  refine TS.i (fun _ => TS.e (mk := mk8)) (fun h9 => ?_)
  have h3 : ¬ emV (b + 1) V ≤ 3 := by
    rw [ee] at h9 ⊢
    exact em4 e (by omega) h9
  refine TS.s (ts_q (fun M H => l_compl_no H h3)) rfl ?_
  dsimp only
  refine TS.s (ts_q (fun M H => l_back_no H h3)) rfl ?_
  exact TS.e (mk := mk8)
theorem l_writeSheet_no {M : Mem} (H : HC b V M) (hW : WF V) {x : Int32} (h : hasS V x = false) : f_L_writeSheet b x M = some (-1001, M) := by
  unfold f_L_writeSheet f_X10_writeSheet
  simp only [H.1.p.2.2.2.2.2, H.1.rc10, Option.bind_some, x_dem H hW, if_neg (no_hasS h)]
  simp
theorem hS_no {m : Nat} (hm : m ≤ 9) (hV : V 0 2 = ni m) : hasS V (ni m) = false := by
  unfold hasS
  rw [hV, decide_eq_true (show ni m ≤ ni m from (ni_le (by omega) (by omega)).mpr (Nat.le_refl _))]
  simp
theorem hS_neg : hasS V (-1) = false := by
  unfold hasS
  rw [decide_eq_true (show (-1 : Int32) < 0 by decide)]
  rfl
end TH
