/-! ===== pure: questions of a hall ===== -/
/-- a hall's shape, and its state's numbers -/
def HC (b : Nat) (V : St) (M : Mem) : Prop := LH b M ∧ At (b + 1) V M
theorem Hall.hc {b : Nat} {h : Hs} {M : Mem} (H : Hall b h M) : HC b (hC h) M := ⟨H.1, H.2.1⟩
section QU
variable {b : Nat} {V : St} {M : Mem}
theorem x_dem (H : HC b V M) (hW : WF V) (x : Int32) : f_X10_demandedSheet b x M = some (if hasS V x then .inl (b + 1 + 3 + 3 * sx x) else .inr "java/lang/IndexOutOfBoundsException") := by
  unfold f_X10_demandedSheet
  simp only [H.1.p.1, H.2.rc9, x_hasS H.2, Option.bind_some, b01_ne]
  by_cases h1 : hasS V x = true
  · obtain ⟨i, hi, rfl, hlt⟩ := hasS_d hW h1
    rw [sx_ni (by omega)]
    simp only [h1, if_true, Bool.true_eq_false, if_false, H.2.p90, H.2.sh hi, Option.bind_some]
  · simp only [Bool.not_eq_true] at h1
    simp only [h1, if_true, Bool.false_eq_true, if_false]
theorem x_dcell (c : Int32) (M : Mem) : f_X10_demandCell c M = some (if isL c then .inl () else .inr "java/lang/IndexOutOfBoundsException") := by
  unfold f_X10_demandCell
  simp only [x_isL, Option.bind_some, b01_ne]
  cases isL c <;> rfl
theorem x_docc (H : HC b V M) {c : Nat} (hc : c < 9) : f_X10_demandOccupied b (ni c) M = some (if V 2 c = -1 then .inr "java/util/NoSuchElementException" else .inl ()) := by
  unfold f_X10_demandOccupied
  simp only [H.1.p.1, H.2.rc9, x_isOcc H.2 hc, Option.bind_some]
  by_cases h1 : V 2 c = -1
  · simp only [if_pos h1, if_true]
  · simp only [if_neg h1, show ¬ (1 : Int32) = 0 by decide, if_false]
theorem hS_i {V : St} (hW : WF V) {x : Int32} (h : hasS V x = true) : sx x < 9 := by
  obtain ⟨i, hi, rfl, -⟩ := hasS_d hW h
  rw [sx_ni (by omega)]
  exact hi
theorem l_wear (H : HC b V M) (hW : WF V) (x : Int32) : f_L_wear b x M = some (if hasS V x then V (3 + 3 * sx x) 4 else -1001) := by
  unfold f_L_wear f_X10_wear
  simp only [H.1.rc10, x_dem H hW, Option.bind_some]
  by_cases h1 : hasS V x = true
  · simp only [if_pos h1, H.2.g7 (hS_i hW h1) (j := 4) (by decide) (by decide), Option.bind_some]
  · simp only [if_neg h1]
    simp
theorem l_isFolded (H : HC b V M) (hW : WF V) (x : Int32) : f_L_isFolded b x M = some (if hasS V x then V (3 + 3 * sx x) 5 else -1001) := by
  unfold f_L_isFolded f_X10_isFolded
  simp only [H.1.rc10, x_dem H hW, Option.bind_some]
  by_cases h1 : hasS V x = true
  · have hi := hS_i hW h1
    simp only [if_pos h1, H.2.g7 hi (j := 5) (by decide) (by decide), Option.bind_some]
    rcases (hW.2.2.2 _ hi).2.2.2.1 with z | z <;> rw [z] <;> rfl
  · simp only [if_neg h1]
    simp
theorem l_creaseCount (H : HC b V M) (hW : WF V) (x : Int32) : f_L_creaseCount b x M = some (if hasS V x then V (3 + 3 * sx x) 3 else -1001) := by
  unfold f_L_creaseCount f_X10_creaseCount
  simp only [H.1.rc10, x_dem H hW, Option.bind_some]
  by_cases h1 : hasS V x = true
  · simp only [if_pos h1, H.2.g7 (hS_i hW h1) (j := 3) (by decide) (by decide), Option.bind_some]
  · simp only [if_neg h1]
    simp
theorem l_cellOf (H : HC b V M) (hW : WF V) (x : Int32) : f_L_cellOf b x M = some (if hasS V x then (if V (3 + 3 * sx x) 6 = -1 then -1002 else V (3 + 3 * sx x) 6) else -1001) := by
  unfold f_L_cellOf f_X10_cellOf
  simp only [H.1.rc10, x_dem H hW, Option.bind_some]
  by_cases h1 : hasS V x = true
  · have hi := hS_i hW h1
    simp only [if_pos h1, H.2.rc7 hi, x_onT H.2 hi, H.2.g7 hi (j := 6) (by decide) (by decide), Option.bind_some]
    by_cases h2 : V (3 + 3 * sx x) 6 = -1
    · simp only [if_pos h2, if_true]
      simp
    · simp only [if_neg h2, show ¬ (1 : Int32) = 0 by decide, if_false]
      rfl
  · simp only [if_neg h1]
    simp
theorem l_sheetIn (H : HC b V M) (c : Int32) : f_L_sheetIn b c M = some (if isL c then (if V 2 (sx c) = -1 then -1002 else V 2 (sx c)) else -1001) := by
  unfold f_L_sheetIn f_X10_sheetIn
  simp only [H.1.rc10, x_dcell, Option.bind_some]
  by_cases h1 : isL c = true
  · obtain ⟨d, hd, rfl⟩ := isL_d h1
    rw [sx_ni (by omega)]
    simp only [if_pos h1, H.1.rc10, x_docc H hd, Option.bind_some]
    by_cases h2 : V 2 d = -1
    · simp only [if_pos h2]
      simp
    · simp only [if_neg h2, H.1.p.1, H.2.p91, H.2.oc hd, Option.bind_some]
  · simp only [if_neg h1]
    simp
theorem l_turnsIn (H : HC b V M) (hW : WF V) (c : Int32) : f_L_turnsIn b c M = some (if isL c then (if V 2 (sx c) = -1 then -1002 else V (3 + 3 * sx (V 2 (sx c))) 7) else -1001) := by
  unfold f_L_turnsIn f_X10_turnsIn
  simp only [H.1.rc10, x_dcell, Option.bind_some]
  by_cases h1 : isL c = true
  · obtain ⟨d, hd, rfl⟩ := isL_d h1
    rw [sx_ni (by omega)]
    simp only [if_pos h1, H.1.rc10, x_docc H hd, Option.bind_some]
    by_cases h2 : V 2 d = -1
    · simp only [if_pos h2]
      simp
    · obtain ⟨i, t, hi, ht, e1, e2, e3⟩ := hW.laid hd h2
      simp only [if_neg h2, H.1.p.1, H.2.rc9, x_laid H.2 hd hi e1, H.2.g77 hi e2, Option.bind_some]
      rw [e1, sx_ni (by omega)]
  · simp only [if_neg h1]
    simp
/-! questions that are refused -/
theorem no_hasS {V : St} {x : Int32} (h : hasS V x = false) : ¬ hasS V x = true := by rw [h]; decide
theorem l_crease_no (H : HC b V M) (hW : WF V) {x y : Int32} (h : hasS V x = false ∨ y < 0 ∨ V (3 + 3 * sx x) 3 ≤ y) : f_L_crease b x y M = some (-1001) := by
  unfold f_L_crease f_X10_crease
  simp only [H.1.rc10, x_dem H hW, Option.bind_some]
  by_cases h1 : hasS V x = true
  · simp only [if_pos h1, H.2.g7 (hS_i hW h1) (j := 3) (by decide) (by decide), Option.bind_some]
    rcases h with h | h | h
    · exact absurd h1 (no_hasS h)
    · simp only [if_pos h]
      simp
    · simp only [if_neg (Int32.not_lt.mpr h)]
      split <;> simp
  · simp only [if_neg h1]
    simp
theorem l_onTop_no (H : HC b V M) (hW : WF V) {x y : Int32} (h : hasS V x = false ∨ y < 0 ∨ V (3 + 3 * sx x) 3 < y) : f_L_onTop b x y M = some (-1001, M) := by
  unfold f_L_onTop f_X10_canBeOnTop
  simp only [H.1.rc10, x_dem H hW, Option.bind_some]
  by_cases h1 : hasS V x = true
  · simp only [if_pos h1, H.2.g7 (hS_i hW h1) (j := 3) (by decide) (by decide), Option.bind_some]
    rcases h with h | h | h
    · exact absurd h1 (no_hasS h)
    · simp only [if_pos h]
      simp
    · simp only [if_neg (Int32.not_le.mpr h)]
      split <;> simp
  · simp only [if_neg h1]
    simp
theorem x_dside (y : Int32) (M : Mem) : f_X10_demandSide y M = some (if isT y then .inl () else .inr "java/lang/IllegalArgumentException") := by
  unfold f_X10_demandSide isT
  by_cases h1 : y < 0
  · simp [h1]
  · by_cases h2 : y < 4
    · have h3 : ¬ (4 : Int32) ≤ y := Int32.not_le.mpr h2
      simp [h1, h2, h3]
    · have h3 : (4 : Int32) ≤ y := Int32.not_lt.mp h2
      simp [h1, h2, h3]
theorem l_border_1 (H : HC b V M) (hW : WF V) {x : Int32} (y : Int32) (h : hasS V x = false) : f_L_border b x y M = some (-1001) := by
  unfold f_L_border f_X10_border
  simp only [H.1.rc10, x_dem H hW, Option.bind_some, if_neg (no_hasS h)]
  simp
theorem l_border_2 (H : HC b V M) (hW : WF V) {x y : Int32} (h : hasS V x = true) (hy : isT y = false) : f_L_border b x y M = some (-1002) := by
  unfold f_L_border f_X10_border
  simp only [H.1.rc10, x_dem H hW, Option.bind_some, if_pos h, x_dside, hy]
  simp
theorem l_borderIn_1 (H : HC b V M) {c : Int32} (y : Int32) (h : isL c = false) : f_L_borderIn b c y M = some (-1001) := by
  unfold f_L_borderIn f_X10_borderIn
  simp only [H.1.rc10, x_dcell, Option.bind_some, h]
  simp
theorem l_borderIn_2 (H : HC b V M) {c y : Int32} (h : isL c = true) (hy : isT y = false) : f_L_borderIn b c y M = some (-1002) := by
  unfold f_L_borderIn f_X10_borderIn
  simp only [H.1.rc10, x_dcell, Option.bind_some, h, x_dside, hy]
  simp
theorem l_borderIn_3 (H : HC b V M) {c : Nat} {y : Int32} (hc : c < 9) (hy : isT y = true) (h2 : V 2 c = -1) : f_L_borderIn b (ni c) y M = some (-1003) := by
  have h : isL (ni c) = true := by
    have : ∀ c, c < 9 → isL (ni c) = true := by decide +kernel
    exact this c hc
  unfold f_L_borderIn f_X10_borderIn
  simp only [H.1.rc10, x_dcell, Option.bind_some, h, x_dside, hy, if_true, x_docc H hc, if_pos h2]
  simp
theorem l_pointsOf_1 (H : HC b V M) {c : Int32} (h : isL c = false) : f_L_pointsOf b c M = some (-1001) := by
  unfold f_L_pointsOf f_X10_pointsOf
  simp only [H.1.rc10, x_dcell, Option.bind_some, h]
  simp
theorem isL_ni {c : Nat} (hc : c < 9) : isL (ni c) = true := by
  have : ∀ c, c < 9 → isL (ni c) = true := by decide +kernel
  exact this c hc
theorem l_pointsOf_2 (H : HC b V M) {c : Nat} (hc : c < 9) (h2 : V 2 c = -1) : f_L_pointsOf b (ni c) M = some (-1002) := by
  unfold f_L_pointsOf f_X10_pointsOf
  simp only [H.1.rc10, x_dcell, Option.bind_some, isL_ni hc, if_true, x_docc H hc, if_pos h2]
  simp
theorem l_groupSize_1 (H : HC b V M) {c : Int32} (h : isL c = false) : f_L_groupSize b c M = some (-1001) := by
  unfold f_L_groupSize f_X10_groupSize
  simp only [H.1.rc10, x_dcell, Option.bind_some, h]
  simp
theorem l_groupSize_2 (H : HC b V M) {c : Nat} (hc : c < 9) (h2 : V 2 c = -1) : f_L_groupSize b (ni c) M = some (-1002) := by
  unfold f_L_groupSize f_X10_groupSize
  simp only [H.1.rc10, x_dcell, Option.bind_some, isL_ni hc, if_true, x_docc H hc, if_pos h2]
  simp
theorem l_kind_no (H : HC b V M) (hW : WF V) {x : Int32} (h : hasS V x = false) : f_L_kind b x M = some (-1001) := by
  unfold f_L_kind f_X10_kind
  simp only [H.1.rc10, x_dem H hW, Option.bind_some, if_neg (no_hasS h)]
  simp
theorem l_isTorn_no (H : HC b V M) (hW : WF V) {x : Int32} (h : hasS V x = false) : f_L_isTorn b x M = some (-1001) := by
  unfold f_L_isTorn f_X10_isTorn
  simp only [H.1.rc10, x_dem H hW, Option.bind_some, if_neg (no_hasS h)]
  simp
theorem l_byPerm_no (H : HC b V M) (hW : WF V) {x : Int32} (h : hasS V x = false) : f_L_byPermutations b x M = some (-1001) := by
  unfold f_L_byPermutations f_X10_foldingsByPermutations
  simp only [H.1.rc10, H.1.p.2.2.2.1, x_dem H hW, Option.bind_some, if_neg (no_hasS h)]
  simp
theorem l_waysToPut_no (H : HC b V M) (hW : WF V) {x : Int32} (h : hasS V x = false) : f_L_waysToPut b x M = some (-1001) := by
  unfold f_L_waysToPut f_X10_waysToPut
  simp only [H.1.rc10, x_dem H hW, Option.bind_some, if_neg (no_hasS h)]
  simp
theorem l_foldings_no (H : HC b V M) (hW : WF V) {x : Int32} (h : hasS V x = false) : f_L_foldings b x M = some (-1001, M) := by
  unfold f_L_foldings f_X10_foldings
  simp only [H.1.rc10, H.1.p.2.2.2.1, x_dem H hW, Option.bind_some, if_neg (no_hasS h)]
  simp
theorem l_byWear_no (H : HC b V M) {x : Int32} (h : hasS V x = false) : f_L_byWear b x M = some (-1001) := by
  unfold f_L_byWear f_X10_sheetByWear
  simp only [H.1.rc10, H.1.p.1, H.2.g9 (j := 2) (by decide) (by decide), Option.bind_some]
  unfold hasS at h
  by_cases h1 : x < 0
  · simp [h1]
  · by_cases h2 : V 0 2 ≤ x
    · simp only [if_neg h1, if_neg (Int32.not_lt.mpr h2)]
      simp
    · simp [h1, h2] at h
theorem l_matches_1 (H : HC b V M) (hW : WF V) {x : Int32} (c t : Int32) (h : hasS V x = false) : f_L_matches b x c t M = some (-1001) := by
  unfold f_L_matches f_X10_matches
  simp only [H.1.rc10, x_dem H hW, Option.bind_some, if_neg (no_hasS h)]
  simp
theorem l_matches_2 (H : HC b V M) (hW : WF V) {x c : Int32} (t : Int32) (h : hasS V x = true) (hc : isL c = false) : f_L_matches b x c t M = some (-1001) := by
  unfold f_L_matches f_X10_matches
  simp only [H.1.rc10, x_dem H hW, Option.bind_some, if_pos h, x_dcell, hc]
  simp
theorem l_matches_3 (H : HC b V M) (hW : WF V) {x c t : Int32} (h : hasS V x = true) (hc : isL c = true) (ht : isT t = false) : f_L_matches b x c t M = some (-1002) := by
  unfold f_L_matches f_X10_matches
  simp only [H.1.rc10, x_dem H hW, Option.bind_some, if_pos h, x_dcell, hc, if_true, x_isT, ht, b01_ne]
  simp
theorem l_matches_4 (H : HC b V M) (hW : WF V) {x c t : Int32} (h : hasS V x = true) (hc : isL c = true) (ht : isT t = true) (h6 : V (3 + 3 * sx x) 6 ≠ -1) : f_L_matches b x c t M = some (-1003) := by
  obtain ⟨d, hd, rfl⟩ := isL_d hc
  unfold f_L_matches f_X10_matches
  simp only [H.1.rc10, x_dem H hW, Option.bind_some, if_pos h, x_dcell, hc, if_true, x_isT, ht, b01_ne, Bool.true_eq_false, if_false, H.1.p.1, H.2.rc9, x_isOcc H.2 hd, H.2.rc7 (hS_i hW h), x_onT H.2 (hS_i hW h), if_neg h6, show ¬ (1 : Int32) = 0 by decide]
  split <;> simp
def emV (B : Nat) (V : St) : Int32 := (f_X9_countEmpty B (canon B V)).getD 0
theorem x_empty {B : Nat} {V : St} {M : Mem} (h : At B V M) : f_X9_countEmpty B M = some (emV B V) := ((q_empty B V).val (canon_at B V) 0).2 M h
theorem emV_r (B : Nat) (V : St) : ∃ e, e ≤ 9 ∧ emV B V = ni e := ((q_empty B V).val (canon_at B V) 0).1
theorem x_few (H : HC b V M) : f_X10_demandFewEmptyCells b M = some (if emV (b + 1) V ≤ 3 then .inl () else .inr "java/lang/UnsupportedOperationException") := by
  unfold f_X10_demandFewEmptyCells
  simp only [H.1.p.1, H.2.rc9, x_empty H.2, Option.bind_some]
  split <;> rfl
theorem x_emptyCells (H : HC b V M) : f_X10_emptyCells b M = some (emV (b + 1) V) := by
  unfold f_X10_emptyCells
  simp only [H.1.p.1, H.2.rc9, x_empty H.2, Option.bind_some]
theorem l_compl_no (H : HC b V M) (h : ¬ emV (b + 1) V ≤ 3) : f_L_completions b M = some (-1001, M) := by
  unfold f_L_completions f_X10_completions
  simp only [H.1.rc10, x_few H, if_neg h, Option.bind_some]
  simp
theorem l_back_no (H : HC b V M) (h : ¬ emV (b + 1) V ≤ 3) : f_L_backwards b M = some (-1001, M) := by
  unfold f_L_backwards f_X10_completionsBackwards
  simp only [H.1.rc10, x_few H, if_neg h, Option.bind_some]
  simp
/-! numbers -/
theorem x_count (H : HC b V M) : f_X10_sheetCount b M = some (V 0 2) := by
  unfold f_X10_sheetCount
  simp only [H.1.p.1, H.2.g9 (j := 2) (by decide) (by decide), Option.bind_some]
theorem x_paste (H : HC b V M) : f_X10_paste b M = some (V 0 3) := by
  unfold f_X10_paste
  simp only [H.1.p.1, H.2.g9 (j := 3) (by decide) (by decide), Option.bind_some]
theorem x_used (H : HC b V M) : f_X10_usedPaste b M = some (V 0 4) := by
  unfold f_X10_usedPaste
  simp only [H.1.p.1, H.2.g9 (j := 4) (by decide) (by decide), Option.bind_some]
theorem x_folds (H : HC b V M) : f_X10_foldCount b M = some (V 0 5) := by
  unfold f_X10_foldCount
  simp only [H.1.p.1, H.2.g9 (j := 5) (by decide) (by decide), Option.bind_some]
theorem x_undos {h : Hs} (H : Hall b h M) : f_X10_undoCount b M = some (ni (hK h)) := by
  unfold f_X10_undoCount
  simp only [H.1.p.2.2.1, H.1.g4, H.2.2.2.2.2.2.1, Option.bind_some]
/-! sums and counts: one answer for a state's numbers -/
abbrev hUP {α : Type} (b : Nat) (V : St) (f : Mem → Option α) : Prop := UP (HC b V) f (fun _ => True)
theorem UP.h {α : Type} {f : Mem → Option α} {Q : α → Prop} (h : UP (At (b + 1) V) f Q) : UP (HC b V) f Q := h.c (fun _ H => H.2)
theorem h_points (hW : WF V) : hUP b V (f_X10_points b) := by
  refine UP.k (fun M H => H.1.p.1) ?_
  exact UP.b (UP.h (q_points hW)) (fun r _ => UP.p trivial)
theorem h_groups (b : Nat) (V : St) : hUP b V (f_X10_groups b) := by
  refine UP.k (fun M H => H.1.p.1) ?_
  exact UP.b (UP.h (q_groups _ _)) (fun r _ => UP.p trivial)
theorem h_pairs (b : Nat) (V : St) : hUP b V (f_X10_matchedBorders b) := by
  refine UP.k (fun M H => H.1.p.1) ?_
  refine UP.k (fun M H => H.2.rc9) ?_
  exact UP.b (UP.h (q_pairs _ _)) (fun r _ => UP.p trivial)
theorem h_byWear (hW : WF V) {i : Nat} (hi : ni i < V 0 2) (hi9 : i < 9) : hUP b V (f_L_byWear b (ni i)) := by
  refine UP.k (fun M H => H.1.rc10) ?_
  refine UP.b (f := f_X10_sheetByWear b (ni i)) (Q1 := fun r => ∃ x, r = .inl x) ?_ (fun r hr => ?_)
  · refine UP.neg (ni_pos i (by omega)) ?_
    refine UP.k (fun M H => H.1.p.1) ?_
    refine UP.k (fun M H => H.2.g9 (j := 2) (by decide) (by decide)) ?_
    refine UP.pos hi ?_
    refine UP.k (fun M H => H.1.p.1) ?_
    refine UP.k (fun M H => H.2.rc9) ?_
    exact UP.b (UP.h (q_rank hW _)) (fun r _ => UP.p ⟨r, rfl⟩)
  · obtain ⟨x, rfl⟩ := hr
    exact UP.p trivial
theorem h_ways (hW : WF V) {i : Nat} (hi : hasS V (ni i) = true) (hi9 : i < 9) : hUP b V (f_L_waysToPut b (ni i)) := by
  refine UP.k (fun M H => H.1.rc10) ?_
  refine UP.b (f := f_X10_waysToPut b (ni i)) (Q1 := fun r => ∃ x, r = .inl x) ?_ (fun r hr => ?_)
  · refine UP.k (fun M H => H.1.rc10) ?_
    refine UP.k (fun M H => (x_dem H hW _).trans (congrArg some ((if_pos hi).trans (by rw [sx_ni (by omega)])))) ?_
    refine UP.k (fun M H => H.2.rc7 hi9) ?_
    refine UP.k (fun M H => x_cbl H.2 hi9) ?_
    refine UP.i (fun _ => UP.p ⟨_, rfl⟩) (fun _ => ?_)
    refine UP.k (fun M H => H.1.p.1) ?_
    refine UP.k (fun M H => H.2.rc9) ?_
    exact UP.b (UP.h (q_places hW hi9)) (fun r _ => UP.p ⟨r, rfl⟩)
  · obtain ⟨x, rfl⟩ := hr
    exact UP.p trivial
theorem fp_share : ∀ e, e < 10 → (fdv (FP.i2f (9 - ni e)) 1091567616).isSome = true := by decide +kernel
theorem fp_mean : ∀ s, s < 82 → ∀ n, n < 9 → (ddv (FP.i2d (ni s)) (FP.i2d (ni (n + 1)))).isSome = true := by decide +kernel
theorem UP.o {α β : Type} {C : Mem → Prop} {Q : β → Prop} {o : Option α} {g : α → Mem → Option β} (h : o.isSome = true) (k : ∀ r, UP C (g r) Q) : UP C (fun M => o.bind fun r => g r M) Q := by
  obtain ⟨r, hr⟩ := Option.isSome_iff_exists.mp h
  subst hr
  exact k r
theorem h_share (b : Nat) (V : St) : hUP b V (f_X10_coveredShare b) := by
  refine UP.k (fun M H => H.1.p.1) ?_
  refine UP.k (fun M H => H.2.rc9) ?_
  refine UP.b (UP.h (q_empty _ _)) (fun r hr => ?_)
  obtain ⟨e, he, rfl⟩ := hr
  exact UP.o (fp_share e (by omega)) (fun r => UP.p trivial)
theorem h_mean (hW : WF V) {n : Nat} (hn : n < 9) (e : V 0 2 = ni (n + 1)) : hUP b V (f_L_meanWear b) := by
  refine UP.k (fun M H => H.1.rc10) ?_
  refine UP.b (f := f_X10_meanWear b) (Q1 := fun r => ∃ x, r = .inl x) ?_ (fun r hr => ?_)
  · refine UP.k (fun M H => H.1.p.1) ?_
    refine UP.k (fun M H => H.2.g9 (j := 2) (by decide) (by decide)) ?_
    rw [e]
    refine UP.neg (fun z => by have := (ni_eq (j := 0) (by omega) (by omega)).mp z; omega) ?_
    refine UP.k (fun M H => H.1.p.1) ?_
    refine UP.k (fun M H => H.2.rc9) ?_
    refine UP.b (UP.h (q_wear hW)) (fun r hr => ?_)
    obtain ⟨s, hs, rfl⟩ := hr
    refine UP.k (fun M H => H.1.p.1) ?_
    refine UP.k (fun M H => H.2.g9 (j := 2) (by decide) (by decide)) ?_
    rw [e]
    exact UP.o (fp_mean s (by omega) n hn) (fun r => UP.p ⟨r, rfl⟩)
  · obtain ⟨x, rfl⟩ := hr
    exact UP.p trivial
end QU
