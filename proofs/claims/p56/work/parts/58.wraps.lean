/-! ===== pure: the recorded calls as the law makes them ===== -/
theorem outR_1 : outR (-1) = .inr "java/lang/IndexOutOfBoundsException" := by decide
theorem outR_2 : outR (-2) = .inr "java/lang/IllegalArgumentException" := by decide
theorem outR_3 : outR (-3) = .inr "java/lang/IllegalStateException" := by decide
theorem outR_4 : outR (-4) = .inr "java/lang/UnsupportedOperationException" := by decide
theorem outR_5 : outR (-5) = .inr "java/util/NoSuchElementException" := by decide
theorem pos_ni : ∀ n, n < 110 → (0 : Int32) ≤ ni n := by decide +kernel
theorem rec_no {h : Hs} {a : Int32} (ha : ¬ 0 ≤ a) : recH h (a, hC h) = preH h := if_neg ha
section WR
variable {b : Nat} {h : Hs} {M : Mem} {V : St}
theorem n_addSheet (hW : WF V) (n e s w9 k : Int32) : 0 ≤ (mSheet V n e s w9 k).1 ∨ mSheet V n e s w9 k = (-2, V) ∨ mSheet V n e s w9 k = (-3, V) := by
  unfold mSheet
  split
  · split
    · obtain ⟨m, hm, em⟩ := hW.n
      refine Or.inl ?_
      show 0 ≤ V 0 2
      rw [em]
      exact pos_ni m (by omega)
    · exact Or.inr (Or.inr rfl)
  · exact Or.inr (Or.inl rfl)
def c_addSheet (a : Int32) : Int32 := if 0 ≤ a then a else if a = (-2) then (-1001) else (-1002)
theorem l_addSheet (H : Hall b h M) (w : WH h) (n e s w9 k : Int32) : ∃ M', f_L_addSheet b n e s w9 k M = some (c_addSheet (mSheet (hC h) n e s w9 k).1, M') ∧ Hall b (recH h (mSheet (hC h) n e s w9 k)) M' ∧ Fo b 343 M M' := by
  have hW := w.1
  obtain ⟨M1, f1, h1, o1⟩ := x_rec H w (tr := fun p M => f_X9_tryAddSheet p n e s w9 k M) (o_sheet hW n e s w9 k) (w_sheet hW n e s w9 k)
  have f1' : f_X10_addSheet b n e s w9 k M = some (outR (mSheet (hC h) n e s w9 k).1, M1) := f1
  refine ⟨M1, ?_, h1, o1⟩
  unfold f_L_addSheet
  simp only [H.rc10, Option.bind_some, f1']
  rcases n_addSheet hW n e s w9 k with z | z | z
  · rw [outR, if_pos z, c_addSheet, if_pos z]
  · rw [z]
    simp only [outR_2]
    simp [c_addSheet]
  · rw [z]
    simp only [outR_3]
    simp [c_addSheet]
theorem wl_addSheet (w : WH h) (n e s w9 k : Int32) : WH (recH h (mSheet (hC h) n e s w9 k)) := w_rec w (w_sheet w.1 n e s w9 k)
theorem n_addCrease (hW : WF V) (x s : Int32) : 0 ≤ (mCrease V x s).1 ∨ mCrease V x s = (-1, V) ∨ mCrease V x s = (-2, V) ∨ mCrease V x s = (-3, V) := by
  unfold mCrease
  by_cases h1 : hasS V x = true
  · rw [if_pos h1]
    obtain ⟨i, hi, rfl, hlt⟩ := hasS_d hW h1
    rw [sx_ni (by omega)]
    obtain ⟨k, hk, ek⟩ := (hW.2.2.2 i hi).2.1
    split
    · split
      · exact Or.inr (Or.inr (Or.inr rfl))
      · split
        · refine Or.inl ?_
          show 0 ≤ V (3 + 3 * i) 3 + 1
          rw [ek, ni_s]
          exact pos_ni _ (by omega)
        · exact Or.inr (Or.inr (Or.inr rfl))
    · exact Or.inr (Or.inr (Or.inl rfl))
  · rw [if_neg h1]
    exact Or.inr (Or.inl rfl)
def c_addCrease (a : Int32) : Int32 := if 0 ≤ a then a else if a = (-1) then (-1001) else if a = (-2) then (-1002) else (-1003)
theorem l_addCrease (H : Hall b h M) (w : WH h) (x s : Int32) : ∃ M', f_L_addCrease b x s M = some (c_addCrease (mCrease (hC h) x s).1, M') ∧ Hall b (recH h (mCrease (hC h) x s)) M' ∧ Fo b 343 M M' := by
  have hW := w.1
  obtain ⟨M1, f1, h1, o1⟩ := x_rec H w (tr := fun p M => f_X9_tryAddCrease p x s M) (o_crease hW x s) (w_crease hW x s)
  have f1' : f_X10_addCrease b x s M = some (outR (mCrease (hC h) x s).1, M1) := f1
  refine ⟨M1, ?_, h1, o1⟩
  unfold f_L_addCrease
  simp only [H.rc10, Option.bind_some, f1']
  rcases n_addCrease hW x s with z | z | z | z
  · rw [outR, if_pos z, c_addCrease, if_pos z]
  · rw [z]
    simp only [outR_1]
    simp [c_addCrease]
  · rw [z]
    simp only [outR_2]
    simp [c_addCrease]
  · rw [z]
    simp only [outR_3]
    simp [c_addCrease]
theorem wl_addCrease (w : WH h) (x s : Int32) : WH (recH h (mCrease (hC h) x s)) := w_rec w (w_crease w.1 x s)
theorem n_fold (hW : WF V) (x : Int32) : 0 ≤ (mFold V x).1 ∨ mFold V x = (-1, V) ∨ mFold V x = (-3, V) := by
  unfold mFold
  by_cases h1 : hasS V x = true
  · rw [if_pos h1]
    obtain ⟨i, hi, rfl, hlt⟩ := hasS_d hW h1
    rw [sx_ni (by omega)]
    obtain ⟨k, hk, ek⟩ := (hW.2.2.2 i hi).2.1
    obtain ⟨w, hw, ew⟩ := (hW.2.2.2 i hi).2.2.1
    split
    · split
      · exact Or.inr (Or.inr rfl)
      · split
        · refine Or.inl ?_
          show 0 ≤ (if V (3 + 3 * i) 4 + V (3 + 3 * i) 3 < 9 then V (3 + 3 * i) 4 + V (3 + 3 * i) 3 else 9)
          rw [ek, ew, ni_add]
          split
          · exact pos_ni _ (by omega)
          · decide
        · exact Or.inr (Or.inr rfl)
    · exact Or.inr (Or.inr rfl)
  · rw [if_neg h1]
    exact Or.inr (Or.inl rfl)
def c_fold (a : Int32) : Int32 := if 0 ≤ a then a else if a = (-1) then (-1001) else (-1002)
theorem l_fold (H : Hall b h M) (w : WH h) (x : Int32) : ∃ M', f_L_fold b x M = some (c_fold (mFold (hC h) x).1, M') ∧ Hall b (recH h (mFold (hC h) x)) M' ∧ Fo b 343 M M' := by
  have hW := w.1
  obtain ⟨M1, f1, h1, o1⟩ := x_rec H w (tr := fun p M => f_X9_tryFold p x M) (o_fold hW x) (w_fold hW x)
  have f1' : f_X10_fold b x M = some (outR (mFold (hC h) x).1, M1) := f1
  refine ⟨M1, ?_, h1, o1⟩
  unfold f_L_fold
  simp only [H.rc10, Option.bind_some, f1']
  rcases n_fold hW x with z | z | z
  · rw [outR, if_pos z, c_fold, if_pos z]
  · rw [z]
    simp only [outR_1]
    simp [c_fold]
  · rw [z]
    simp only [outR_3]
    simp [c_fold]
theorem wl_fold (w : WH h) (x : Int32) : WH (recH h (mFold (hC h) x)) := w_rec w (w_fold w.1 x)
theorem n_unfold (b : Nat) (hW : WF V) (x : Int32) : 0 ≤ (mUnfold (b + 1) V x).1 ∨ mUnfold (b + 1) V x = (-1, V) ∨ mUnfold (b + 1) V x = (-3, V) := by
  unfold mUnfold
  by_cases h1 : hasS V x = true
  · rw [if_pos h1]
    obtain ⟨i, hi, rfl, hlt⟩ := hasS_d hW h1
    rw [sx_ni (by omega)]
    split
    · exact Or.inr (Or.inr rfl)
    · refine Or.inl ?_
      obtain ⟨e, he, q⟩ := flatV_r (b + 1) (hW.up7 hi (Or.inr (Or.inr (Or.inr ⟨rfl, Or.inl rfl⟩))) : WF (upS V (3 + 3 * i) 5 0))
      show 0 ≤ flatV (b + 1) (upS V (3 + 3 * i) 5 0)
      rw [q]
      exact pos_ni _ (by omega)
  · rw [if_neg h1]
    exact Or.inr (Or.inl rfl)
def c_unfold (a : Int32) : Int32 := if 0 ≤ a then a else if a = (-1) then (-1001) else (-1002)
theorem l_unfold (H : Hall b h M) (w : WH h) (x : Int32) : ∃ M', f_L_unfold b x M = some (c_unfold (mUnfold (b + 1) (hC h) x).1, M') ∧ Hall b (recH h (mUnfold (b + 1) (hC h) x)) M' ∧ Fo b 343 M M' := by
  have hW := w.1
  obtain ⟨M1, f1, h1, o1⟩ := x_rec H w (tr := fun p M => f_X9_tryUnfold p x M) (o_unfold hW x) (w_unfold hW x)
  have f1' : f_X10_unfold b x M = some (outR (mUnfold (b + 1) (hC h) x).1, M1) := f1
  refine ⟨M1, ?_, h1, o1⟩
  unfold f_L_unfold
  simp only [H.rc10, Option.bind_some, f1']
  rcases n_unfold b hW x with z | z | z
  · rw [outR, if_pos z, c_unfold, if_pos z]
  · rw [z]
    simp only [outR_1]
    simp [c_unfold]
  · rw [z]
    simp only [outR_3]
    simp [c_unfold]
theorem wl_unfold (w : WH h) (x : Int32) : WH (recH h (mUnfold (b + 1) (hC h) x)) := w_rec w (w_unfold w.1 x)
theorem n_mend (hW : WF V) (x : Int32) : 0 ≤ (mMend V x).1 ∨ mMend V x = (-1, V) ∨ mMend V x = (-3, V) ∨ mMend V x = (-4, V) := by
  unfold mMend
  by_cases h1 : hasS V x = true
  · rw [if_pos h1]
    obtain ⟨i, hi, rfl, hlt⟩ := hasS_d hW h1
    rw [sx_ni (by omega)]
    obtain ⟨p, hp, ep⟩ := hW.2.1
    obtain ⟨w, hw, ew⟩ := (hW.2.2.2 i hi).2.2.1
    split
    · exact Or.inr (Or.inr (Or.inl rfl))
    · split
      · split
        · rename_i h5
          refine Or.inl ?_
          show 0 ≤ V 0 3 - V (3 + 3 * i) 4
          rw [ep, ew] at h5 ⊢
          have hwp := (ni_le (by omega) (by omega)).mp h5
          have hs : ∀ p, p < 51 → ∀ w, w < 10 → w ≤ p → 0 ≤ ni p - ni w := by decide +kernel
          exact hs p (by omega) w (by omega) hwp
        · exact Or.inr (Or.inr (Or.inr rfl))
      · exact Or.inr (Or.inr (Or.inl rfl))
  · rw [if_neg h1]
    exact Or.inr (Or.inl rfl)
def c_mend (a : Int32) : Int32 := if 0 ≤ a then a else if a = (-1) then (-1001) else if a = (-3) then (-1002) else (-1003)
theorem l_mend (H : Hall b h M) (w : WH h) (x : Int32) : ∃ M', f_L_mend b x M = some (c_mend (mMend (hC h) x).1, M') ∧ Hall b (recH h (mMend (hC h) x)) M' ∧ Fo b 343 M M' := by
  have hW := w.1
  obtain ⟨M1, f1, h1, o1⟩ := x_rec H w (tr := fun p M => f_X9_tryMend p x M) (o_mend hW x) (w_mend hW x)
  have f1' : f_X10_mend b x M = some (outR (mMend (hC h) x).1, M1) := f1
  refine ⟨M1, ?_, h1, o1⟩
  unfold f_L_mend
  simp only [H.rc10, Option.bind_some, f1']
  rcases n_mend hW x with z | z | z | z
  · rw [outR, if_pos z, c_mend, if_pos z]
  · rw [z]
    simp only [outR_1]
    simp [c_mend]
  · rw [z]
    simp only [outR_3]
    simp [c_mend]
  · rw [z]
    simp only [outR_4]
    simp [c_mend]
theorem wl_mend (w : WH h) (x : Int32) : WH (recH h (mMend (hC h) x)) := w_rec w (w_mend w.1 x)
theorem n_put (b : Nat) (hW : WF V) (x c t : Int32) : 0 ≤ (mPut (b + 1) V x c t).1 ∨ mPut (b + 1) V x c t = (-1, V) ∨ mPut (b + 1) V x c t = (-2, V) ∨ mPut (b + 1) V x c t = (-3, V) ∨ mPut (b + 1) V x c t = (-4, V) := by
  unfold mPut
  by_cases h2 : isL c = true
  · obtain ⟨d, hd, rfl⟩ := isL_d h2
    rw [sx_ni (by omega)]
    split
    · split
      · split
        · split
          · split
            · exact Or.inr (Or.inr (Or.inr (Or.inr rfl)))
            · refine Or.inl ?_
              obtain ⟨e, he, q⟩ := besV_r (b + 1) (layV V (sx x) d (sx t)) hd
              show 0 ≤ besV (b + 1) (layV V (sx x) d (sx t)) d
              rw [q]
              exact pos_ni _ (by omega)
          · exact Or.inr (Or.inr (Or.inr (Or.inl rfl)))
        · exact Or.inr (Or.inr (Or.inr (Or.inl rfl)))
      · exact Or.inr (Or.inr (Or.inl rfl))
    · exact Or.inr (Or.inl rfl)
  · simp only [if_neg h2]
    split
    · exact Or.inr (Or.inl rfl)
    · exact Or.inr (Or.inl rfl)
def c_put (a : Int32) : Int32 := if 0 ≤ a then a else if a = (-1) then (-1001) else if a = (-2) then (-1002) else if a = (-3) then (-1003) else (-1004)
theorem l_put (H : Hall b h M) (w : WH h) (x c t : Int32) : ∃ M', f_L_put b x c t M = some (c_put (mPut (b + 1) (hC h) x c t).1, M') ∧ Hall b (recH h (mPut (b + 1) (hC h) x c t)) M' ∧ Fo b 343 M M' := by
  have hW := w.1
  obtain ⟨M1, f1, h1, o1⟩ := x_rec H w (tr := fun p M => f_X9_tryPut p x c t M) (o_put hW x c t) (w_put hW x c t)
  have f1' : f_X10_put b x c t M = some (outR (mPut (b + 1) (hC h) x c t).1, M1) := f1
  refine ⟨M1, ?_, h1, o1⟩
  unfold f_L_put
  simp only [H.rc10, Option.bind_some, f1']
  rcases n_put b hW x c t with z | z | z | z | z
  · rw [outR, if_pos z, c_put, if_pos z]
  · rw [z]
    simp only [outR_1]
    simp [c_put]
  · rw [z]
    simp only [outR_2]
    simp [c_put]
  · rw [z]
    simp only [outR_3]
    simp [c_put]
  · rw [z]
    simp only [outR_4]
    simp [c_put]
theorem wl_put (w : WH h) (x c t : Int32) : WH (recH h (mPut (b + 1) (hC h) x c t)) := w_rec w (w_put w.1 x c t)
theorem n_take (hW : WF V) (c : Int32) : 0 ≤ (mTake V c).1 ∨ mTake V c = (-1, V) ∨ mTake V c = (-5, V) := by
  unfold mTake
  by_cases h2 : isL c = true
  · rw [if_pos h2]
    obtain ⟨d, hd, rfl⟩ := isL_d h2
    rw [sx_ni (by omega)]
    by_cases h5 : V 2 d = -1
    · rw [if_pos h5]
      exact Or.inr (Or.inr rfl)
    · rw [if_neg h5]
      obtain ⟨i, hi, e1, -, -⟩ := hW.occ hd h5
      refine Or.inl ?_
      show 0 ≤ V 2 d
      rw [e1]
      exact pos_ni _ (by omega)
  · rw [if_neg h2]
    exact Or.inr (Or.inl rfl)
def c_take (a : Int32) : Int32 := if 0 ≤ a then a else if a = (-1) then (-1001) else (-1002)
theorem l_take (H : Hall b h M) (w : WH h) (c : Int32) : ∃ M', f_L_take b c M = some (c_take (mTake (hC h) c).1, M') ∧ Hall b (recH h (mTake (hC h) c)) M' ∧ Fo b 343 M M' := by
  have hW := w.1
  obtain ⟨M1, f1, h1, o1⟩ := x_rec H w (tr := fun p M => f_X9_tryTake p c M) (o_take hW c) (w_take hW c)
  have f1' : f_X10_take b c M = some (outR (mTake (hC h) c).1, M1) := f1
  refine ⟨M1, ?_, h1, o1⟩
  unfold f_L_take
  simp only [H.rc10, Option.bind_some, f1']
  rcases n_take hW c with z | z | z
  · rw [outR, if_pos z, c_take, if_pos z]
  · rw [z]
    simp only [outR_1]
    simp [c_take]
  · rw [z]
    simp only [outR_5]
    simp [c_take]
theorem wl_take (w : WH h) (c : Int32) : WH (recH h (mTake (hC h) c)) := w_rec w (w_take w.1 c)
theorem n_addPaste (hW : WF V) (x : Int32) : 0 ≤ (mPaste V x).1 ∨ mPaste V x = (-2, V) ∨ mPaste V x = (-3, V) := by
  unfold mPaste
  by_cases h1 : x < 1
  · rw [if_pos h1]; exact Or.inr (Or.inl rfl)
  · rw [if_neg h1]
    by_cases h2 : x ≤ 20
    · rw [if_pos h2]
      by_cases h3 : V 0 3 + x ≤ 50
      · rw [if_pos h3]
        obtain ⟨p, hp, e⟩ := hW.2.1
        have h1' : (0 : Int32) ≤ x := Int32.le_trans (by decide : (0 : Int32) ≤ 1) (nlt h1)
        obtain ⟨d, hd, rfl⟩ := rg (n := 20) (by decide) h1' h2
        refine Or.inl ?_
        show 0 ≤ V 0 3 + ni d
        rw [e, ni_add]
        exact pos_ni _ (by omega)
      · rw [if_neg h3]; exact Or.inr (Or.inr rfl)
    · rw [if_neg h2]; exact Or.inr (Or.inl rfl)
def c_addPaste (a : Int32) : Int32 := if 0 ≤ a then a else if a = (-2) then (-1001) else (-1002)
theorem l_addPaste (H : Hall b h M) (w : WH h) (x : Int32) : ∃ M', f_L_addPaste b x M = some (c_addPaste (mPaste (hC h) x).1, M') ∧ Hall b (recH h (mPaste (hC h) x)) M' ∧ Fo b 343 M M' := by
  have hW := w.1
  obtain ⟨M1, f1, h1, o1⟩ := x_rec H w (tr := fun p M => f_X9_tryAddPaste p x M) (o_paste (b + 1) _ x) (w_paste hW x)
  have f1' : f_X10_addPaste b x M = some (outR (mPaste (hC h) x).1, M1) := f1
  refine ⟨M1, ?_, h1, o1⟩
  unfold f_L_addPaste
  simp only [H.rc10, Option.bind_some, f1']
  rcases n_addPaste hW x with z | z | z
  · rw [outR, if_pos z, c_addPaste, if_pos z]
  · rw [z]
    simp only [outR_2]
    simp [c_addPaste]
  · rw [z]
    simp only [outR_3]
    simp [c_addPaste]
theorem wl_addPaste (w : WH h) (x : Int32) : WH (recH h (mPaste (hC h) x)) := w_rec w (w_paste w.1 x)
end WR
