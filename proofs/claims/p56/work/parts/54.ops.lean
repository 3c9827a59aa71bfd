/-! ===== pure: the changes of a state ===== -/
/-- a change: answer and new state, for every memory of the class; outside of the state nothing changes -/
def Op (B : Nat) (V : St) (f : Mem → Option (Int32 × Mem)) (res : Int32 × St) : Prop := ∀ M, At B V M → ∃ M', f M = some (res.1, M') ∧ At B res.2 M' ∧ Fo B 30 M M'
def hasS (V : St) (x : Int32) : Bool := !decide (x < 0) && !decide (V 0 2 ≤ x)
def sx (x : Int32) : Nat := x.toNatClampNeg
theorem sx_ni {i : Nat} (h : i < 200) : sx (ni i) = i := ni_nat i h
def isC (x : Int32) : Bool := !decide (x < 0) && !decide ((9 : Int32) < x)
def isK (x : Int32) : Bool := decide (x = 115) || decide (x = 108) || decide (x = 99)
def isV (x : Int32) : Bool := decide (x = 118) || decide (x = 109)
def isL (x : Int32) : Bool := !decide (x < 0) && !decide ((9 : Int32) ≤ x)
def isT (x : Int32) : Bool := !decide (x < 0) && !decide ((4 : Int32) ≤ x)
def b01 (b : Bool) : Int32 := if b then 1 else 0
theorem b01_ne {b : Bool} : (b01 b = 0) = (b = false) := by cases b <;> simp [b01]
theorem x_isC (x : Int32) (M : Mem) : f_X10_isCode x M = some (b01 (isC x)) := by
  unfold f_X10_isCode isC b01
  by_cases h1 : x < 0 <;> by_cases h2 : (9 : Int32) < x <;> simp [h1, h2]
theorem x_isK (x : Int32) (M : Mem) : f_X10_isKind x M = some (b01 (isK x)) := by
  unfold f_X10_isKind isK b01
  by_cases h1 : x = 115 <;> by_cases h2 : x = 108 <;> by_cases h3 : x = 99 <;> simp [h1, h2, h3]
theorem x_isV (x : Int32) (M : Mem) : f_X10_isCrease x M = some (b01 (isV x)) := by
  unfold f_X10_isCrease isV b01
  by_cases h1 : x = 118 <;> by_cases h2 : x = 109 <;> simp [h1, h2]
theorem x_isL (x : Int32) (M : Mem) : f_X10_isCell x M = some (b01 (isL x)) := by
  unfold f_X10_isCell isL b01
  by_cases h1 : x < 0 <;> by_cases h2 : (9 : Int32) ≤ x <;> simp [h1, h2]
theorem x_isT (x : Int32) (M : Mem) : f_X10_isTurns x M = some (b01 (isT x)) := by
  unfold f_X10_isTurns isT b01
  by_cases h1 : x < 0 <;> by_cases h2 : (4 : Int32) ≤ x <;> simp [h1, h2]
theorem isC_d {x : Int32} (h : isC x = true) : ∃ d, d ≤ 9 ∧ x = ni d := by
  unfold isC at h
  simp only [Bool.and_eq_true, Bool.not_eq_true', decide_eq_false_iff_not] at h
  exact rg (by decide) (nlt h.1) (nlt h.2)
theorem isL_d {x : Int32} (h : isL x = true) : ∃ d, d < 9 ∧ x = ni d := by
  unfold isL at h
  simp only [Bool.and_eq_true, Bool.not_eq_true', decide_eq_false_iff_not] at h
  exact rgl (by decide) (nlt h.1) (nle h.2)
theorem isT_d {x : Int32} (h : isT x = true) : ∃ d, d < 4 ∧ x = ni d := by
  unfold isT at h
  simp only [Bool.and_eq_true, Bool.not_eq_true', decide_eq_false_iff_not] at h
  exact rgl (by decide) (nlt h.1) (nle h.2)
theorem hasS_d {V : St} (hW : WF V) {x : Int32} (h : hasS V x = true) : ∃ i, i < 9 ∧ x = ni i ∧ ni i < V 0 2 := by
  unfold hasS at h
  simp only [Bool.and_eq_true, Bool.not_eq_true', decide_eq_false_iff_not] at h
  obtain ⟨n, hn, e⟩ := hW.n
  have h2 := nle h.2
  rw [e] at h2
  obtain ⟨d, hd, rfl⟩ := rgl (by omega) (nlt h.1) h2
  exact ⟨d, by omega, rfl, by rw [e]; exact h2⟩
section OPS
variable {B : Nat} {V : St}
theorem x_hasS {M : Mem} (h : At B V M) (x : Int32) : f_X9_hasSheet B x M = some (b01 (hasS V x)) := by
  unfold f_X9_hasSheet hasS b01
  simp only [h.g9 (j := 2) (by decide) (by decide), Option.bind_some]
  by_cases h1 : x < 0 <;> by_cases h2 : V 0 2 ≤ x <;> simp [h1, h2]
/-! paste -/
def mPaste (V : St) (x : Int32) : Int32 × St := if x < 1 then (-2, V) else if x ≤ 20 then (if V 0 3 + x ≤ 50 then (V 0 3 + x, upS V 0 3 (V 0 3 + x)) else (-3, V)) else (-2, V)
theorem o_paste (B : Nat) (V : St) (x : Int32) : Op B V (f_X9_tryAddPaste B x) (mPaste V x) := by
  intro M h
  unfold f_X9_tryAddPaste mPaste
  simp only [h.g9 (j := 3) (by decide) (by decide), Option.bind_some, h.s9]
  by_cases h1 : x < 1
  · simp only [if_pos h1]
    exact ⟨M, rfl, h, Fo.rf _ _ _⟩
  · by_cases h2 : x ≤ 20
    · by_cases h3 : V 0 3 + x ≤ 50
      · simp only [if_neg h1, if_pos h2, if_pos h3]
        have k := h.up0 3 (V 0 3 + x)
        refine ⟨_, ?_, k, Fo.up M _ _ (by omega)⟩
        rw [k.g9 (j := 3) (by decide) (by decide), upS_e]
        rfl
      · simp only [if_neg h1, if_pos h2, if_neg h3]
        exact ⟨M, rfl, h, Fo.rf _ _ _⟩
    · simp only [if_neg h1, if_neg h2]
      exact ⟨M, rfl, h, Fo.rf _ _ _⟩
/-! a crease -/
def mCrease (V : St) (x s : Int32) : Int32 × St := if hasS V x then (if isV s then (if 6 ≤ V (3 + 3 * sx x) 3 then (-3, V) else if V (3 + 3 * sx x) 5 = 0 then (V (3 + 3 * sx x) 3 + 1, upS (upS V (5 + 3 * sx x) (sx (V (3 + 3 * sx x) 3)) s) (3 + 3 * sx x) 3 (V (3 + 3 * sx x) 3 + 1)) else (-3, V)) else (-2, V)) else (-1, V)
theorem nar_V {s : Int32} (h : isV s = true) : vp_nar .char s = s := by
  unfold isV at h
  simp only [Bool.or_eq_true, decide_eq_true_eq] at h
  rcases h with rfl | rfl <;> rfl
theorem o_crease (hW : WF V) (x s : Int32) : Op B V (f_X9_tryAddCrease B x s) (mCrease V x s) := by
  intro M h
  unfold f_X9_tryAddCrease mCrease
  simp only [h.rc9, x_hasS h, x_isV, Option.bind_some, b01_ne]
  by_cases h1 : hasS V x = true
  · obtain ⟨i, hi, rfl, hlt⟩ := hasS_d hW h1
    rw [sx_ni (by omega)]
    by_cases h2 : isV s = true
    · obtain ⟨k, hk, ek⟩ := (hW.2.2.2 i hi).2.1
      simp only [h1, h2, if_true, Bool.true_eq_false, if_false, h.p90, h.sh hi, h.g7 hi (j := 3) (by decide) (by decide), h.g7 hi (j := 5) (by decide) (by decide), Option.bind_some, h.p71 hi]
      by_cases h3 : (6 : Int32) ≤ V (3 + 3 * i) 3
      · simp only [if_pos h3]
        exact ⟨M, rfl, h, Fo.rf _ _ _⟩
      · by_cases h4 : V (3 + 3 * i) 5 = 0
        · simp only [if_neg h3, if_pos h4]
          rw [ek] at h3 ⊢
          have hk6 : k < 6 := by
            rcases Nat.lt_or_ge k 6 with z | z
            · exact z
            · exact (h3 ((ni_le (i := 6) (by omega) (by omega)).mpr z)).elim
          rw [h.sc hi hk6, nar_V h2, sx_ni (by omega)]
          have q1 := h.up5 i k s
          have q2 := q1.up7 i 3 (ni k + 1) (fun e => by cases e)
          simp only [Option.bind_some]
          rw [q1.g7 hi (j := 3) (by decide) (by decide), upS_n (by omega), ek]
          simp only [Option.bind_some]
          rw [q1.s7 hi 3 .int _ rfl rfl]
          simp only [Option.bind_some]
          rw [q2.g7 hi (j := 3) (by decide) (by decide), upS_e]
          exact ⟨_, rfl, q2, (Fo.up M _ _ (by omega)).tr (Fo.up _ _ _ (by omega))⟩
        · simp only [if_neg h3, if_neg h4]
          exact ⟨M, rfl, h, Fo.rf _ _ _⟩
    · simp only [h1, Bool.not_eq_true] at h2 ⊢
      simp only [h2, if_true, Bool.true_eq_false, if_false, Bool.false_eq_true]
      exact ⟨M, rfl, h, Fo.rf _ _ _⟩
  · simp only [Bool.not_eq_true] at h1
    simp only [h1, if_true, Bool.false_eq_true, if_false]
    exact ⟨M, rfl, h, Fo.rf _ _ _⟩
/-! a sheet -/
def mSheet (V : St) (n e s w k : Int32) : Int32 × St := if isC n && isC e && isC s && isC w && isK k then (if V 0 2 < 9 then (V 0 2, upS (upS (upS (upS (upS (upS V (4 + 3 * sx (V 0 2)) 0 n) (4 + 3 * sx (V 0 2)) 1 e) (4 + 3 * sx (V 0 2)) 2 s) (4 + 3 * sx (V 0 2)) 3 w) (3 + 3 * sx (V 0 2)) 2 k) 0 2 (V 0 2 + 1)) else (-3, V)) else (-2, V)
theorem nar_K {k : Int32} (h : isK k = true) : narrow .char (.int k) = .int k ∧ fits .char (.int k) = true := by
  unfold isK at h
  simp only [Bool.or_eq_true, decide_eq_true_eq] at h
  rcases h with (rfl | rfl) | rfl <;> exact ⟨rfl, rfl⟩
theorem o_begin {M : Mem} (h : At B V M) {i : Nat} (hi : i < 9) (n e s w : Int32) {k : Int32} (hk : isK k = true) : ∃ M', f_X7_begin (B + 3 + 3 * i) n e s w k M = some ((), M') ∧ At B (upS (upS (upS (upS (upS V (4 + 3 * i) 0 n) (4 + 3 * i) 1 e) (4 + 3 * i) 2 s) (4 + 3 * i) 3 w) (3 + 3 * i) 2 k) M' ∧ Fo B 30 M M' := by
  have q1 := h.up4 i 0 n
  have q2 := q1.up4 i 1 e
  have q3 := q2.up4 i 2 s
  have q4 := q3.up4 i 3 w
  have q5 := q4.up7 i 2 k (fun e => by cases e)
  refine ⟨_, ?_, q5, ((((Fo.up M _ _ (by omega)).tr (Fo.up _ _ _ (by omega))).tr (Fo.up _ _ _ (by omega))).tr (Fo.up _ _ _ (by omega))).tr (Fo.up _ _ _ (by omega))⟩
  unfold f_X7_begin
  have e0 := h.sb hi (j := 0) (by decide) n
  have e1 := q1.sb hi (j := 1) (by decide) e
  have e2 := q2.sb hi (j := 2) (by decide) s
  have e3 := q3.sb hi (j := 3) (by decide) w
  simp only [h.p70 hi, Option.bind_some]
  rw [show (0 : Int32) = ni 0 from rfl, e0]
  simp only [q1.p70 hi, Option.bind_some]
  rw [show (1 : Int32) = ni 1 from rfl, e1]
  simp only [q2.p70 hi, Option.bind_some]
  rw [show (2 : Int32) = ni 2 from rfl, e2]
  simp only [q3.p70 hi, Option.bind_some]
  rw [show (3 : Int32) = ni 3 from rfl, e3]
  simp only [Option.bind_some, q4.s7 hi 2 .char k (nar_K hk).1 (nar_K hk).2]
theorem o_sheet (hW : WF V) (n e s w k : Int32) : Op B V (f_X9_tryAddSheet B n e s w k) (mSheet V n e s w k) := by
  intro M h
  unfold f_X9_tryAddSheet mSheet
  simp only [x_isC, x_isK, Option.bind_some, b01_ne]
  by_cases h1 : isC n = true
  · by_cases h2 : isC e = true
    · by_cases h3 : isC s = true
      · by_cases h4 : isC w = true
        · by_cases h5 : isK k = true
          · simp only [h1, h2, h3, h4, h5, Bool.true_eq_false, if_false, Bool.and_self, if_true, h.g9 (j := 2) (by decide) (by decide), Option.bind_some, h.p90]
            obtain ⟨m, hm, em⟩ := hW.n
            rw [em]
            by_cases h6 : ni m < 9
            · have hm9 : m < 9 := (ni_lt (j := 9) (by omega) (by omega)).mp h6
              obtain ⟨M1, f1, a1, o1⟩ := o_begin h hm9 n e s w h5
              have a2 := a1.up0 2 (ni m + 1)
              simp only [if_pos h6, h.sh hm9, h.rc7 hm9, Option.bind_some, f1]
              rw [a1.g9 (j := 2) (by decide) (by decide), upS_n (by omega), upS_n (by omega), upS_n (by omega), upS_n (by omega), upS_n (by omega), em]
              simp only [Option.bind_some, a1.s9]
              rw [sx_ni (by omega)]
              exact ⟨_, rfl, a2, o1.tr (Fo.up _ _ _ (by omega))⟩
            · simp only [if_neg h6]
              exact ⟨M, rfl, h, Fo.rf _ _ _⟩
          · simp only [Bool.not_eq_true] at h5
            simp only [h1, h2, h3, h4, h5, Bool.true_eq_false, if_false, Bool.and_false, Bool.false_eq_true, if_true]
            exact ⟨M, rfl, h, Fo.rf _ _ _⟩
        · simp only [Bool.not_eq_true] at h4
          simp only [h1, h2, h3, h4, Bool.true_eq_false, if_false, Bool.and_false, Bool.false_and, Bool.false_eq_true, if_true]
          exact ⟨M, rfl, h, Fo.rf _ _ _⟩
      · simp only [Bool.not_eq_true] at h3
        simp only [h1, h2, h3, Bool.true_eq_false, if_false, Bool.and_false, Bool.false_and, Bool.false_eq_true, if_true]
        exact ⟨M, rfl, h, Fo.rf _ _ _⟩
    · simp only [Bool.not_eq_true] at h2
      simp only [h1, h2, Bool.true_eq_false, if_false, Bool.and_false, Bool.false_and, Bool.false_eq_true, if_true]
      exact ⟨M, rfl, h, Fo.rf _ _ _⟩
  · simp only [Bool.not_eq_true] at h1
    simp only [h1, Bool.true_eq_false, if_false, Bool.and_false, Bool.false_and, Bool.false_eq_true, if_true]
    exact ⟨M, rfl, h, Fo.rf _ _ _⟩
/-! folding -/
def mFold (V : St) (x : Int32) : Int32 × St := if hasS V x then (if V (3 + 3 * sx x) 5 = 0 then (if V (3 + 3 * sx x) 3 = 0 then (-3, V) else if V (3 + 3 * sx x) 6 = -1 then (let w := if V (3 + 3 * sx x) 4 + V (3 + 3 * sx x) 3 < 9 then V (3 + 3 * sx x) 4 + V (3 + 3 * sx x) 3 else 9; (w, upS (upS (upS V (3 + 3 * sx x) 5 1) (3 + 3 * sx x) 4 w) 0 5 (V 0 5 + 1))) else (-3, V)) else (-3, V)) else (-1, V)
theorem x_min (x y : Int32) (M : Mem) : f_J9_min_7cf53 x y M = some (if y < x then y else x) := by
  unfold f_J9_min_7cf53
  split <;> rfl
theorem o_fold (hW : WF V) (x : Int32) : Op B V (f_X9_tryFold B x) (mFold V x) := by
  intro M h
  unfold f_X9_tryFold mFold
  simp only [h.rc9, x_hasS h, Option.bind_some, b01_ne]
  by_cases h1 : hasS V x = true
  · obtain ⟨i, hi, rfl, hlt⟩ := hasS_d hW h1
    rw [sx_ni (by omega)]
    simp only [h1, if_true, Bool.true_eq_false, if_false, h.p90, h.sh hi, h.g7 hi (j := 3) (by decide) (by decide), h.g7 hi (j := 5) (by decide) (by decide), h.rc7 hi, x_onT h hi, Option.bind_some]
    by_cases h3 : V (3 + 3 * i) 5 = 0
    · by_cases h4 : V (3 + 3 * i) 3 = 0
      · simp only [if_pos h3, if_pos h4]
        exact ⟨M, rfl, h, Fo.rf _ _ _⟩
      · by_cases h5 : V (3 + 3 * i) 6 = -1
        · simp only [if_pos h3, if_neg h4, if_pos h5, if_true]
          generalize hw : (if V (3 + 3 * i) 4 + V (3 + 3 * i) 3 < 9 then V (3 + 3 * i) 4 + V (3 + 3 * i) 3 else 9) = w
          have q1 := h.up7 i 5 1 (fun e => by cases e)
          have q2 := q1.up7 i 4 w (fun e => by cases e)
          have q3 := q2.up0 5 (V 0 5 + 1)
          rw [h.s7 hi 5 .boolean 1 rfl rfl]
          simp only [Option.bind_some, q1.g7 hi (j := 3) (by decide) (by decide), q1.g7 hi (j := 4) (by decide) (by decide), x_min, upS_n (show (3 + 3 * i ≠ 3 + 3 * i ∨ 4 ≠ 5) by omega), upS_n (show (3 + 3 * i ≠ 3 + 3 * i ∨ 3 ≠ 5) by omega), hw, q1.s7 hi 4 .int w rfl rfl, q2.g9 (j := 5) (by decide) (by decide)]
          rw [upS_n (by omega), upS_n (by omega), q2.s9]
          simp only [Option.bind_some, q3.g7 hi (j := 4) (by decide) (by decide)]
          rw [upS_n (by omega), upS_e]
          exact ⟨_, rfl, q3, ((Fo.up M _ _ (by omega)).tr (Fo.up _ _ _ (by omega))).tr (Fo.up _ _ _ (by omega))⟩
        · simp only [if_pos h3, if_neg h4, if_neg h5]
          rw [if_neg (show ¬ (1 : Int32) = 0 by decide)]
          exact ⟨M, rfl, h, Fo.rf _ _ _⟩
    · simp only [if_neg h3]
      exact ⟨M, rfl, h, Fo.rf _ _ _⟩
  · simp only [Bool.not_eq_true] at h1
    simp only [h1, if_true, Bool.false_eq_true, if_false]
    exact ⟨M, rfl, h, Fo.rf _ _ _⟩
/-! mending -/
def mMend (V : St) (x : Int32) : Int32 × St := if hasS V x then (if V (3 + 3 * sx x) 4 = 0 then (-3, V) else if V (3 + 3 * sx x) 5 = 0 then (if V (3 + 3 * sx x) 4 ≤ V 0 3 then (V 0 3 - V (3 + 3 * sx x) 4, upS (upS (upS V 0 3 (V 0 3 - V (3 + 3 * sx x) 4)) 0 4 (V 0 4 + V (3 + 3 * sx x) 4)) (3 + 3 * sx x) 4 0) else (-4, V)) else (-3, V)) else (-1, V)
theorem o_mend (hW : WF V) (x : Int32) : Op B V (f_X9_tryMend B x) (mMend V x) := by
  intro M h
  unfold f_X9_tryMend mMend
  simp only [h.rc9, x_hasS h, Option.bind_some, b01_ne]
  by_cases h1 : hasS V x = true
  · obtain ⟨i, hi, rfl, hlt⟩ := hasS_d hW h1
    rw [sx_ni (by omega)]
    simp only [h1, if_true, Bool.true_eq_false, if_false, h.p90, h.sh hi, h.g7 hi (j := 4) (by decide) (by decide), h.g7 hi (j := 5) (by decide) (by decide), h.g9 (j := 3) (by decide) (by decide), Option.bind_some]
    by_cases h3 : V (3 + 3 * i) 4 = 0
    · simp only [if_pos h3]
      exact ⟨M, rfl, h, Fo.rf _ _ _⟩
    · by_cases h4 : V (3 + 3 * i) 5 = 0
      · by_cases h5 : V (3 + 3 * i) 4 ≤ V 0 3
        · simp only [if_neg h3, if_pos h4, if_pos h5]
          have q1 := h.up0 3 (V 0 3 - V (3 + 3 * i) 4)
          have q2 := q1.up0 4 (V 0 4 + V (3 + 3 * i) 4)
          have q3 := q2.up7 i 4 0 (fun e => by cases e)
          rw [h.s9]
          simp only [Option.bind_some, q1.g9 (j := 4) (by decide) (by decide), q1.g7 hi (j := 4) (by decide) (by decide)]
          rw [upS_n (by omega), upS_n (by omega), q1.s9]
          simp only [Option.bind_some]
          rw [q2.s7 hi 4 .int 0 rfl rfl]
          simp only [Option.bind_some, q3.g9 (j := 3) (by decide) (by decide)]
          rw [upS_n (by omega), upS_n (by omega), upS_e]
          exact ⟨_, rfl, q3, ((Fo.up M _ _ (by omega)).tr (Fo.up _ _ _ (by omega))).tr (Fo.up _ _ _ (by omega))⟩
        · simp only [if_neg h3, if_pos h4, if_neg h5]
          exact ⟨M, rfl, h, Fo.rf _ _ _⟩
      · simp only [if_neg h3, if_neg h4]
        exact ⟨M, rfl, h, Fo.rf _ _ _⟩
  · simp only [Bool.not_eq_true] at h1
    simp only [h1, if_true, Bool.false_eq_true, if_false]
    exact ⟨M, rfl, h, Fo.rf _ _ _⟩
end OPS
