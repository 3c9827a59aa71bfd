/-! ===== pure: texts fed and run ===== -/
def txH (h : Hs) (T : List Int32) : Hs := (hC h, hV h, hL h, hB h, hN h, hK h, hM h, hF h, T)
section SCR
variable {b : Nat} {h : Hs} {M : Mem} {V : St}
theorem Hall.scr {M' : Mem} {T : List Int32} (H : Hall b h M) (o : Fo (b + 337) 4 M M') (e1 : mI M' (b + 337) 3 = ni T.length) (e2 : ∀ i, i < T.length → mI M' (b + 338) i = T.getD i 0) : Hall b (txH h T) M' := by
  obtain ⟨q1, q2, q3, q4, q5, q6, q7, q8, q9, -, -, n12, z12, e12⟩ := H
  refine ⟨q1.sh o.1, q2.dj o (by omega), q3.dj o (by omega), fun i hi => (q4 i hi).dj o (by omega), ?_, ?_, ?_, ?_, ?_, e1, e2, n12, z12, ?_⟩
  · rw [o.2 _ _ (by omega)]; exact q5
  · rw [o.2 _ _ (by omega)]; exact q6
  · rw [o.2 _ _ (by omega)]; exact q7
  · rw [o.2 _ _ (by omega)]; exact q8
  · rw [o.2 _ _ (by omega)]; exact q9
  · rw [o.2 _ _ (by omega)]; exact e12
def pmH (h : Hs) (x : Int32) : Hs := (hC h, hV h, hL h, hB h, hN h, hK h, x, hF h, hT h)
def pfH (h : Hs) (x : Int32) : Hs := (hC h, hV h, hL h, hB h, hN h, hK h, hM h, x, hT h)
theorem Hall.pm (H : Hall b h M) (x : Int32) : Hall b (pmH h x) (mUI M b 8 x) := by
  obtain ⟨q1, q2, q3, q4, q5, q6, q7, q8, q9, q10, q11, n12, z12, e12⟩ := H
  refine ⟨q1.sh (Sh.UI _ _ _ _), q2.ui (by omega), q3.ui (by omega), fun i hi => (q4 i hi).ui (by omega), ?_, ?_, ?_, ?_, ?_, ?_, fun i hi => ?_, n12, z12, ?_⟩
  · rw [mI_UI, if_neg (by omega)]; exact q5
  · rw [mI_UI, if_neg (by omega)]; exact q6
  · rw [mI_UI, if_neg (by omega)]; exact q7
  · rw [mI_UI, if_pos ⟨rfl, rfl⟩]; rfl
  · rw [mI_UI, if_neg (by omega)]; exact q9
  · rw [mI_UI, if_neg (by omega)]; exact q10
  · rw [mI_UI, if_neg (by omega)]; exact q11 i hi
  · rw [mI_UI, if_neg (by omega)]; exact e12
theorem Hall.pf (H : Hall b h M) (x : Int32) : Hall b (pfH h x) (mUI M b 9 x) := by
  obtain ⟨q1, q2, q3, q4, q5, q6, q7, q8, q9, q10, q11, n12, z12, e12⟩ := H
  refine ⟨q1.sh (Sh.UI _ _ _ _), q2.ui (by omega), q3.ui (by omega), fun i hi => (q4 i hi).ui (by omega), ?_, ?_, ?_, ?_, ?_, ?_, fun i hi => ?_, n12, z12, ?_⟩
  · rw [mI_UI, if_neg (by omega)]; exact q5
  · rw [mI_UI, if_neg (by omega)]; exact q6
  · rw [mI_UI, if_neg (by omega)]; exact q7
  · rw [mI_UI, if_neg (by omega)]; exact q8
  · rw [mI_UI, if_pos ⟨rfl, rfl⟩]; rfl
  · rw [mI_UI, if_neg (by omega)]; exact q10
  · rw [mI_UI, if_neg (by omega)]; exact q11 i hi
  · rw [mI_UI, if_neg (by omega)]; exact e12
theorem w_tx (w : WH h) {T : List Int32} (hT : T.length ≤ 60) : WH (txH h T) := ⟨w.1, w.2.1, w.2.2.1, w.2.2.2.1, w.2.2.2.2.1, hT⟩
theorem w_pm (w : WH h) (x : Int32) : WH (pmH h x) := ⟨w.1, w.2.1, w.2.2.1, w.2.2.2.1, w.2.2.2.2.1, w.2.2.2.2.2⟩
theorem w_pf (w : WH h) (x : Int32) : WH (pfH h x) := ⟨w.1, w.2.1, w.2.2.1, w.2.2.2.1, w.2.2.2.2.1, w.2.2.2.2.2⟩
theorem l_errPos (H : Hall b h M) (h1 : hM h ≠ -1) : f_L_errorPosition b M = some (hM h) := by
  unfold f_L_errorPosition f_X10_errorPosition
  simp only [H.1.rc10, H.1.gi, Option.bind_some, H.2.2.2.2.2.2.2.1, if_neg h1]
theorem l_failed (H : Hall b h M) (h1 : hF h ≠ -1) : f_L_failedCommand b M = some (hF h) := by
  unfold f_L_failedCommand f_X10_failedCommand
  simp only [H.1.rc10, H.1.gi, Option.bind_some, H.2.2.2.2.2.2.2.2.1, if_neg h1]
/-- one sign more -/
theorem l_feed (H : Hall b h M) {c : Int32} (hc : vp_nar .char c = c) (hl : (hT h).length < 60) : ∃ M', f_L_feed b c M = some (ni ((hT h).length + 1), M') ∧ Hall b (txH h (hT h ++ [c])) M' ∧ Fo b 343 M M' := by
  have s := H.1.sc
  have e3 : mI M (b + 337) 3 = ni (hT h).length := H.2.2.2.2.2.2.2.2.2.1
  have e4 := H.2.2.2.2.2.2.2.2.2.2.1
  have L1 := H.1.sh (Sh.UI M (b + 338) (hT h).length c)
  have L2 := L1.sh (Sh.UI _ (b + 337) 3 (ni ((hT h).length + 1)))
  have e5 : mI (mUI M (b + 338) (hT h).length c) (b + 337) 3 = ni (hT h).length := by
    rw [mI_UI, if_neg (by omega)]
    exact e3
  have o : Fo (b + 337) 4 M (mUI (mUI M (b + 338) (hT h).length c) (b + 337) 3 (ni ((hT h).length + 1))) := (Fo.up M _ _ (by omega)).tr (Fo.up _ _ _ (by omega))
  refine ⟨mUI (mUI M (b + 338) (hT h).length c) (b + 337) 3 (ni ((hT h).length + 1)), ?_, H.scr o ?_ (fun i hi => ?_), o.mono (by omega)⟩
  · unfold f_L_feed f_X10_feed f_X6_isFull f_X6_append
    have h0 : ni (hT h).length < 60 := (ni_lt (j := 60) (by omega) (by omega)).mpr hl
    simp only [H.1.rc10, H.1.p.2.2.2.2.1, s.1, Option.bind_some, s.2.2.2.2.1, e3, if_pos h0, if_true, s.2.1, s.2.2.2.2.2.2.2.2.2.1 _ c hl, hc, L1.sc.2.2.2.2.1, e5, ni_s, L1.sc.2.2.2.2.2.1, L2.p.2.2.2.2.1, L2.sc.2.2.2.2.1, mI_UI, and_self, if_true]
  · rw [mI_UI, if_pos ⟨rfl, rfl⟩, List.length_append]
    rfl
  · rw [List.length_append] at hi
    rw [mI_UI, if_neg (by omega), mI_UI, getD_app _ _ _ _ hi]
    by_cases e : i = (hT h).length
    · rw [if_pos ⟨rfl, e⟩, if_pos e]
    · rw [if_neg (fun z => e z.2), if_neg e]
      exact e4 i (by have : i < (hT h).length + 1 := hi; omega)
theorem l_feed_no (H : Hall b h M) (c : Int32) (hl : (hT h).length = 60) : f_L_feed b c M = some (-1001, M) := by
  have s := H.1.sc
  have e3 : mI M (b + 337) 3 = ni (hT h).length := H.2.2.2.2.2.2.2.2.2.1
  unfold f_L_feed f_X10_feed f_X6_isFull
  rw [hl] at e3
  simp only [H.1.rc10, H.1.p.2.2.2.2.1, s.1, Option.bind_some, s.2.2.2.2.1, e3, if_neg (show ¬ ni 60 < 60 by decide), if_neg (show ¬ (1 : Int32) = 0 by decide)]
  simp
/-- it can't be read -/
theorem l_run_bad (H : Hall b h M) {x : Int32} {cs : Cms} (hw : (hT h).length ≤ 60) (hr : mRead (hT h) = some (x, cs)) (hx : x ≠ -1) : ∃ M', f_L_run b M = some (-1001, M') ∧ Hall b (txH (pmH h x) []) M' ∧ Fo b 343 M M' := by
  have s := H.1.sc
  obtain ⟨M1, f1, K1, o1⟩ := x_read hw H.1 H.2.2.2.2.2.2.2.2.2.1 H.2.2.2.2.2.2.2.2.2.2.1 hr
  have H1 : Hall b (txH h (hT h)) M1 := H.scr o1 K1.2.1 K1.2.2.1
  have H2 := H1.pm x
  have o3 : Fo (b + 337) 4 (mUI M1 b 8 x) (mUI (mUI M1 b 8 x) (b + 337) 3 0) := Fo.up _ _ _ (by omega)
  refine ⟨mUI (mUI M1 b 8 x) (b + 337) 3 0, ?_, H2.scr o3 (by rw [mI_UI, if_pos ⟨rfl, rfl⟩]; rfl) (fun i hi => absurd hi (Nat.not_lt_zero i)), ((o1.mono (by omega)).tr (Fo.up _ _ _ (by omega))).tr (o3.mono (by omega))⟩
  unfold f_L_run f_X10_runCommands f_X6_empty
  simp only [H.1.rc10, H.1.p.2.2.2.2.1, s.1, Option.bind_some, f1, if_neg hx]
  rw [H1.1.si 8 .int x rfl rfl]
  simp only [Option.bind_some, H2.1.p.2.2.2.2.1, H2.1.sc.1, H2.1.sc.2.2.2.2.2.1, if_true]
/-- a sign of a command -/
def sgM (T : List Int32) (c : Int32 × Nat) (x : Int32) : Option Int32 := (f_X1_placeOfValue (ROB + 3 + c.2) x eM).bind fun r => if r = -1 then some 32 else if inr (c.1 + r) T.length = true then (nr .char (T.getD (c.1 + r).toNatClampNeg 0)).bind fun _ => some (T.getD (c.1 + r).toNatClampNeg 0) else none
def nmM (T : List Int32) (c : Int32 × Nat) (x : Int32) : Option Int32 := (sgM T c x).bind fun r => some (r - 48)
theorem x_sign {T : List Int32} {cs : Cms} (K : SR b T cs M) (hT : T.length ≤ 60) {i : Nat} (hi : i < cs.length) (hi60 : i < 60) (hj : (cs.getD i (0, 0)).2 < 9) {x v : Int32} (hv : sgM T (cs.getD i (0, 0)) x = some v) : f_X6_signIn (b + 337) (ni i) x M = some v := by
  have s := K.1.sc
  unfold f_X6_signIn
  simp only [s.2.2.2.1, Option.bind_some, s.2.2.2.2.2.2.2.2.1 i hi60, (K.2.2.2.2 i hi).2, oG_i hj, rcF_i hj, pv_e hj]
  unfold sgM at hv
  cases hp : f_X1_placeOfValue (ROB + 3 + (cs.getD i (0, 0)).2) x eM with
  | none =>
    rw [hp] at hv
    exact absurd hv (by simp)
  | some r =>
    rw [hp] at hv
    simp only [Option.bind_some] at hv ⊢
    by_cases h1 : r = -1
    · rw [if_pos h1] at hv ⊢
      rw [← hv]
      rfl
    · rw [if_neg h1] at hv ⊢
      split at hv
      · rename_i hin
        have hk := inr_d hin
        have h2 : aI M 101 (b + 338) ((cs.getD i (0, 0)).1 + r) = some (T.getD ((cs.getD i (0, 0)).1 + r).toNatClampNeg 0) := by
          obtain ⟨q1, -, -, -, -, -, -, -, -, -, -, -, -, -, -, q16, q17, q18, q19, q20, q21, q22, -⟩ := K.1
          unfold aI
          unfold inr at hin
          simp only [Bool.not_eq_true', Bool.or_eq_false_iff, decide_eq_false_iff_not] at hin
          rw [q20, if_pos ⟨rfl, by omega, fun z => by rcases z with z | z; exact hin.1 z; have z' : 60 ≤ _ := z; omega⟩, K.2.2.1 _ hk]
        simp only [s.2.1, s.2.2.1, Option.bind_some, s.2.2.2.2.2.2.2.1 i hi60, (K.2.2.2.2 i hi).1, h2]
        exact hv
      · exact absurd hv (by simp)
theorem x_num {T : List Int32} {cs : Cms} (K : SR b T cs M) (hT : T.length ≤ 60) {i : Nat} (hi : i < cs.length) (hi60 : i < 60) (hj : (cs.getD i (0, 0)).2 < 9) {x v : Int32} (hv : nmM T (cs.getD i (0, 0)) x = some v) : f_X6_numberIn (b + 337) (ni i) x M = some v := by
  unfold nmM at hv
  cases hs : sgM T (cs.getD i (0, 0)) x with
  | none =>
    rw [hs] at hv
    exact absurd hv (by simp)
  | some r =>
    rw [hs] at hv
    unfold f_X6_numberIn
    simp only [K.1.sc.1, Option.bind_some, x_sign K hT hi hi60 hj hs]
    exact hv
/-- the commands that are run here: fold, open, take, paste -/
def cmdM (B : Nat) (T : List Int32) (c : Int32 × Nat) (V : St) : Option (Int32 × St) := (nmM T c 0).bind fun r2 => (nmM T c 1).bind fun _ => (nmM T c 2).bind fun _ => if c.2 = 2 then some (mFold V r2) else if c.2 = 3 then some (mUnfold B V r2) else if c.2 = 6 then some (mTake V r2) else if c.2 = 7 then some (mPaste V r2) else none
theorem SR.fo {T : List Int32} {cs : Cms} {M' : Mem} (K : SR b T cs M) (o : Fo (b + 1) 30 M M') : SR b T cs M' := by
  obtain ⟨q1, q2, q3, q4, q5⟩ := K
  refine ⟨q1.sh o.1, ?_, fun i hi => ?_, ?_, fun i hi => ?_⟩
  · rw [o.2 _ _ (by omega)]; exact q2
  · rw [o.2 _ _ (by omega)]; exact q3 i hi
  · rw [o.2 _ _ (by omega)]; exact q4
  · rw [o.2 _ _ (by omega), o.2 _ _ (by omega)]; exact q5 i hi
theorem x_cmd {T : List Int32} {cs : Cms} (K : SR b T cs M) (A : At (b + 1) V M) (hW : WF V) (hT : T.length ≤ 60) {i : Nat} (hi : i < cs.length) (hi60 : i < 60) (hj : (cs.getD i (0, 0)).2 < 9) {res : Int32 × St} (hv : cmdM (b + 1) T (cs.getD i (0, 0)) V = some res) : ∃ M', f_X10_answerOfCommand b (ni i) M = some (res.1, M') ∧ SR b T cs M' ∧ At (b + 1) res.2 M' ∧ WF res.2 ∧ Fo (b + 1) 30 M M' := by
  have s := K.1.sc
  have p := K.1.p
  unfold cmdM at hv
  cases h0 : nmM T (cs.getD i (0, 0)) 0 with
  | none => rw [h0] at hv; exact absurd hv (by simp)
  | some r2 =>
  cases h1 : nmM T (cs.getD i (0, 0)) 1 with
  | none => rw [h0, h1] at hv; exact absurd hv (by simp)
  | some r5 =>
  cases h2 : nmM T (cs.getD i (0, 0)) 2 with
  | none => rw [h0, h1, h2] at hv; exact absurd hv (by simp)
  | some r8 =>
  rw [h0, h1, h2] at hv
  simp only [Option.bind_some] at hv
  have n0 := x_num K hT hi hi60 hj h0
  have n1 := x_num K hT hi hi60 hj h1
  have n2 := x_num K hT hi hi60 hj h2
  have aF := s.2.2.2.2.2.2.2.2.1 i hi60
  rw [(K.2.2.2.2 i hi).2] at aF
  have pre : ∀ (g : Int32 → Option (Int32 × Mem)), ((gP M 10 b 6).bind fun p1 => (rc M 6 p1).bind fun _ => (f_X6_numberIn p1 (ni i) 0 M).bind fun r2 => (gP M 10 b 6).bind fun p4 => (rc M 6 p4).bind fun _ => (f_X6_numberIn p4 (ni i) 1 M).bind fun r5 => (gP M 10 b 6).bind fun p7 => (rc M 6 p7).bind fun _ => (f_X6_numberIn p7 (ni i) 2 M).bind fun r8 => g r2) = g r2 := fun g => by
    simp only [p.2.2.2.2.1, s.1, Option.bind_some, n0, n1, n2]
  split at hv
  · rename_i e2
    simp only [Option.some.injEq] at hv
    subst hv
    obtain ⟨M1, f1, a1, o1⟩ := o_fold hW r2 M A
    refine ⟨M1, ?_, K.fo o1, a1, w_fold hW r2, o1⟩
    unfold f_X10_answerOfCommand f_Jx29ce0_ordinal_8abf5
    rw [e2] at aF
    simp only [p.2.2.2.2.1, s.1, Option.bind_some, n0, n1, n2, s.2.2.2.1, aF, oG_i (show 2 < 9 by decide), rcF_i (show 2 < 9 by decide), show fOrd (ROB + 3 + 2) = some 2 by decide, show sG (ROB + 2) 2 = some 3 by decide, p.1, A.rc9, f1]
    rfl
  split at hv
  · rename_i e2
    simp only [Option.some.injEq] at hv
    subst hv
    obtain ⟨M1, f1, a1, o1⟩ := o_unfold hW r2 M A
    refine ⟨M1, ?_, K.fo o1, a1, w_unfold hW r2, o1⟩
    unfold f_X10_answerOfCommand f_Jx29ce0_ordinal_8abf5
    rw [e2] at aF
    simp only [p.2.2.2.2.1, s.1, Option.bind_some, n0, n1, n2, s.2.2.2.1, aF, oG_i (show 3 < 9 by decide), rcF_i (show 3 < 9 by decide), show fOrd (ROB + 3 + 3) = some 3 by decide, show sG (ROB + 2) 3 = some 4 by decide, p.1, A.rc9, f1]
    rfl
  split at hv
  · rename_i e2
    simp only [Option.some.injEq] at hv
    subst hv
    obtain ⟨M1, f1, a1, o1⟩ := o_take hW r2 M A
    refine ⟨M1, ?_, K.fo o1, a1, w_take hW r2, o1⟩
    unfold f_X10_answerOfCommand f_Jx29ce0_ordinal_8abf5
    rw [e2] at aF
    simp only [p.2.2.2.2.1, s.1, Option.bind_some, n0, n1, n2, s.2.2.2.1, aF, oG_i (show 6 < 9 by decide), rcF_i (show 6 < 9 by decide), show fOrd (ROB + 3 + 6) = some 6 by decide, show sG (ROB + 2) 6 = some 7 by decide, p.1, A.rc9, f1]
    rfl
  split at hv
  · rename_i e2
    simp only [Option.some.injEq] at hv
    subst hv
    obtain ⟨M1, f1, a1, o1⟩ := o_paste (b + 1) V r2 M A
    refine ⟨M1, ?_, K.fo o1, a1, w_paste hW r2, o1⟩
    unfold f_X10_answerOfCommand f_Jx29ce0_ordinal_8abf5
    rw [e2] at aF
    simp only [p.2.2.2.2.1, s.1, Option.bind_some, n0, n1, n2, s.2.2.2.1, aF, oG_i (show 7 < 9 by decide), rcF_i (show 7 < 9 by decide), show fOrd (ROB + 3 + 7) = some 7 by decide, show sG (ROB + 2) 7 = some 8 by decide, p.1, A.rc9, f1]
    rfl
  · exact absurd hv (by simp)
/-- the commands one behind another: -1 or the place of the first that was refused -/
def carM (B : Nat) (T : List Int32) (cs : Cms) : Nat → Nat → St → Option (Int32 × St)
  | 0, _, _ => none
  | n + 1, i, V => if cs.length ≤ i then some (-1, V) else (match cmdM B T (cs.getD i (0, 0)) V with
    | none => none
    | some q => if 0 ≤ q.1 then carM B T cs n (i + 1) q.2 else some (ni i, q.2))
theorem x_car {T : List Int32} {cs : Cms} (hT : T.length ≤ 60) (hc : cs.length ≤ 60) (hj : ∀ i, i < cs.length → (cs.getD i (0, 0)).2 < 9) {r : Int32 × St} : ∀ n i V M, SR b T cs M → At (b + 1) V M → WF V → i ≤ cs.length → carM (b + 1) T cs n i V = some r → ∃ M', ((lp_X10_carryOutAll_2 b n (ni i) M).bind fun q7 => match q7 with | .inl (q7_1, q7_M) => (some ((-1), q7_M)) | .inr q7_r => some q7_r) = some (r.1, M') ∧ SR b T cs M' ∧ At (b + 1) r.2 M' ∧ WF r.2 ∧ Fo (b + 1) 30 M M' := by
  intro n
  induction n with
  | zero => intro i V M _ _ _ _ h; exact absurd h (by simp [carM])
  | succ n ih =>
    intro i V M K A hW hi h
    simp only [carM] at h
    simp only [lp_X10_carryOutAll_2, K.1.p.2.2.2.2.1, K.1.sc.2.2.2.2.1, K.2.2.2.1, Option.bind_some]
    by_cases hl : cs.length ≤ i
    · rw [if_pos hl] at h
      rw [if_pos ((ni_le (by omega) (by omega)).mpr hl)]
      simp only [Option.some.injEq] at h
      subst h
      exact ⟨M, rfl, K, A, hW, Fo.rf _ _ _⟩
    · rw [if_neg hl] at h
      rw [if_neg (fun z => hl ((ni_le (by omega) (by omega)).mp z))]
      have hi2 : i < cs.length := by omega
      cases hv : cmdM (b + 1) T (cs.getD i (0, 0)) V with
      | none => rw [hv] at h; exact absurd h (by simp)
      | some q =>
        rw [hv] at h
        simp only [] at h
        obtain ⟨M1, f1, K1, A1, W1, o1⟩ := x_cmd K A hW hT hi2 (by omega) (hj i hi2) hv
        simp only [K.1.rc10, Option.bind_some, f1]
        by_cases hq : 0 ≤ q.1
        · rw [if_pos hq] at h ⊢
          rw [ni_s]
          obtain ⟨M2, f2, K2, A2, W2, o2⟩ := ih (i + 1) q.2 M1 K1 A1 W1 (by omega) h
          exact ⟨M2, f2, K2, A2, W2, o1.tr o2⟩
        · rw [if_neg hq] at h ⊢
          simp only [Option.some.injEq] at h
          subst h
          exact ⟨M1, rfl, K1, A1, W1, o1⟩
/-- a state changed under a script -/
theorem SR.mo {T : List Int32} {cs : Cms} {M' : Mem} (K : SR b T cs M) (o : Fo b 337 M M') (L : LH b M') : SR b T cs M' := by
  obtain ⟨q1, q2, q3, q4, q5⟩ := K
  refine ⟨L, ?_, fun i hi => ?_, ?_, fun i hi => ?_⟩
  · rw [o.2 _ _ (by omega)]; exact q2
  · rw [o.2 _ _ (by omega)]; exact q3 i hi
  · rw [o.2 _ _ (by omega)]; exact q4
  · rw [o.2 _ _ (by omega), o.2 _ _ (by omega)]; exact q5 i hi
/-- a run that can be read: behind it the text is gone -/
def runH (h : Hs) (n : Nat) (r : Int32 × St) : Int32 × Hs := if r.1 = -1 then (ni n, keepH (txH (r.2, (preH h).2) [])) else (-1002, pfH (txH (hC h, (preH h).2) []) r.1)
theorem x_prepare2 (H : Hall b h M) (w : WH h) : ∃ M', f_X3_prepare (b + 61) (b + 1) M = some ((), M') ∧ Hall b (preH h) M' ∧ Fo (b + 63) 270 M M' := by
  have q6 := H.2.2.2.2.2.1
  have hn := w.2.2.2.1
  obtain ⟨M1, f1, a1, a2, o1⟩ := c_state (H.2.2.2.1 (hN h) hn).1 H.2.1 w.1 (show Dj (b + 63 + 30 * hN h) (b + 1) by unfold Dj; omega)
  refine ⟨M1, ?_, H.slot hn o1 a1, o1.mono (by omega)⟩
  unfold f_X3_prepare
  simp only [H.1.p4, H.1.g4, q6, H.1.sl hn, (H.2.2.2.1 (hN h) hn).rc9, Option.bind_some, f1]
theorem x_keep2 (H : Hall b h M) (w : WH h) : ∃ M', f_X3_keepPrepared (b + 61) M = some ((), M') ∧ Hall b (keepH h) M' ∧ Fo (b + 61) 1 M M' := by
  have q6 := H.2.2.2.2.2.1
  have q7 := H.2.2.2.2.2.2.1
  have L := H.1
  refine ⟨_, ?_, H.ring ((hN h + 1) % 9) (min 8 (hK h + 1)), (Fo.up M _ _ (by omega)).tr (Fo.up _ _ _ (by omega))⟩
  unfold f_X3_keepPrepared
  simp only [L.g4, q6, Option.bind_some, mod9 (hN h) w.2.2.2.1, L.s4]
  have L1 := L.sh (Sh.UI M (b + 61) 1 (ni ((hN h + 1) % 9)))
  have e2 : mI (mUI M (b + 61) 1 (ni ((hN h + 1) % 9))) (b + 61) 2 = ni (hK h) := by
    rw [mI_UI, if_neg (by omega)]
    exact q7
  simp only [L1.g4, Option.bind_some, x_min, e2]
  rw [min8 (hK h) (by have := w.2.2.2.2.1; omega), L1.s4]
  rfl
theorem l_run (H : Hall b h M) (w : WH h) {cs : Cms} {r : Int32 × St} (hr : mRead (hT h) = some (-1, cs)) (hc : cs.length ≤ 60) (hj : ∀ i, i < cs.length → (cs.getD i (0, 0)).2 < 9) (hr2 : carM (b + 1) (hT h) cs 100 0 (hC h) = some r) : ∃ M', f_L_run b M = some ((runH h cs.length r).1, M') ∧ Hall b (runH h cs.length r).2 M' ∧ WH (runH h cs.length r).2 ∧ Fo b 343 M M' := by
  have s := H.1.sc
  have hw := w.2.2.2.2.2
  obtain ⟨M1, f1, K1, o1⟩ := x_read hw H.1 H.2.2.2.2.2.2.2.2.2.1 H.2.2.2.2.2.2.2.2.2.2.1 hr
  have H1 : Hall b (txH h (hT h)) M1 := H.scr o1 K1.2.1 K1.2.2.1
  have w1 : WH (txH h (hT h)) := w_tx w hw
  obtain ⟨M2, f2, H2, o2⟩ := x_prepare2 H1 w1
  have K2 : SR b (hT h) cs M2 := K1.mo (o2.mono (by omega)) H2.1
  obtain ⟨M3, f3, K3, A3, W3, o3⟩ := x_car (b := b) hw hc hj 100 0 (hC h) M2 K2 H2.2.1 w.1 (Nat.zero_le _) hr2
  have H3 := H2.cur o3 A3
  have o4 : Fo (b + 337) 4 M3 (mUI M3 (b + 337) 3 0) := Fo.up _ _ _ (by omega)
  have H4 : Hall b (txH (r.2, (preH h).2) []) (mUI M3 (b + 337) 3 0) := H3.scr o4 (by rw [mI_UI, if_pos ⟨rfl, rfl⟩]; rfl) (fun i hi => absurd hi (Nat.not_lt_zero i))
  have W4 : WH (txH (r.2, (preH h).2) []) := w_tx (w_cur (w_pre w) W3) (Nat.zero_le _)
  have oA : Fo b 343 M (mUI M3 (b + 337) 3 0) := (((o1.mono (by omega)).tr (o2.mono (by omega))).tr (o3.mono (by omega))).tr (o4.mono (by omega))
  have f3' : f_X10_carryOutAll b M2 = some (r.1, M3) := by
    unfold f_X10_carryOutAll
    exact f3
  have L3 := K3.1
  by_cases h1 : r.1 = -1
  · obtain ⟨M5, f5, H5, o5⟩ := x_keep2 H4 W4
    have c4 : mI M5 (b + 337) 4 = ni cs.length := by
      rw [o5.2 _ _ (by omega), mI_UI, if_neg (by omega)]
      exact K3.2.2.2.1
    have e : runH h cs.length r = (ni cs.length, keepH (txH (r.2, (preH h).2) [])) := if_pos h1
    rw [e]
    refine ⟨M5, ?_, H5, w_keep W4, oA.tr (o5.mono (by omega))⟩
    unfold f_L_run f_X10_runCommands f_X6_empty
    simp only [H.1.rc10, H.1.p.2.2.2.2.1, s.1, Option.bind_some, f1, if_true, H1.1.p.2.2.1, H1.1.p.1, H1.1.rc4, f2, H2.1.rc10, f3', L3.p.2.2.2.2.1, L3.sc.1, L3.sc.2.2.2.2.2.1, if_pos h1, H4.1.p.2.2.1, H4.1.rc4, f5, H5.1.p.2.2.2.2.1, H5.1.sc.2.2.2.2.1, c4]
  · have e : runH h cs.length r = (-1002, pfH (txH (hC h, (preH h).2) []) r.1) := if_neg h1
    have H5 := H4.pf r.1
    have hn := w.2.2.2.1
    have aS : At (b + 63 + 30 * hN h) (hC h) (mUI (mUI M3 (b + 337) 3 0) b 9 r.1) := by
      have := H5.2.2.2.1 (hN h) hn
      rw [show hL (pfH (txH (r.2, (preH h).2) []) r.1) (hN h) = hC h from if_pos rfl] at this
      exact this
    obtain ⟨M6, f6, a6, b6, o6⟩ := c_state H5.2.1.1 aS w.1 (show Dj (b + 1) (b + 63 + 30 * hN h) by unfold Dj; omega)
    have H6 := H5.cur o6 a6
    rw [e]
    refine ⟨M6, ?_, H6, w_pf (w_tx (w_pre w) (Nat.zero_le _)) r.1, (oA.tr (Fo.up _ _ _ (by omega))).tr (o6.mono (by omega))⟩
    have q6 : mI (mUI (mUI M3 (b + 337) 3 0) b 9 r.1) (b + 61) 1 = ni (hN h) := H5.2.2.2.2.2.1
    unfold f_L_run f_X10_runCommands f_X6_empty f_X3_returnToPrepared
    simp only [H.1.rc10, H.1.p.2.2.2.2.1, s.1, Option.bind_some, f1, if_true, H1.1.p.2.2.1, H1.1.p.1, H1.1.rc4, f2, H2.1.rc10, f3', L3.p.2.2.2.2.1, L3.sc.1, L3.sc.2.2.2.2.2.1, if_neg h1]
    rw [H4.1.si 9 .int r.1 rfl rfl]
    simp only [Option.bind_some, H5.1.p.2.2.1, H5.1.p.1, H5.1.rc4, H5.1.p4, H5.1.g4, q6, H5.1.sl hn, H5.2.1.rc9, f6]
    simp
end SCR
