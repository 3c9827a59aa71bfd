/-! ===== pure: a change as the law makes it, the plain ones ===== -/
def Cn (V : St) : Prop := ∃ n, n < 9 ∧ V 0 2 = ni (n + 1)
section CNS
variable {V : St}
theorem Cn.eq {V' : St} (h : Cn V) (e : V' 0 2 = V 0 2) : Cn V' := by
  obtain ⟨n, hn, h⟩ := h
  exact ⟨n, hn, e.trans h⟩
theorem cn_sheet (h : Cn V) (n e s w k : Int32) : Cn (mSheet V n e s w k).2 := by
  obtain ⟨m, hm, h⟩ := h
  unfold mSheet
  split
  · split
    · rename_i _ h9
      have : m + 1 < 9 := (ni_lt (i := m + 1) (j := 9) (by omega) (by omega)).mp (h ▸ h9)
      refine ⟨m + 1, this, ?_⟩
      dsimp only
      rw [upS_eq, h, ni_s]
    · exact ⟨m, hm, h⟩
  · exact ⟨m, hm, h⟩
theorem cn_crease (h : Cn V) (x s : Int32) : Cn (mCrease V x s).2 := by
  refine h.eq ?_
  unfold mCrease
  split
  · split
    · split
      · rfl
      · split
        · dsimp only
          rw [upS_ne (by omega), upS_ne (by omega)]
        · rfl
    · rfl
  · rfl
theorem cn_fold (h : Cn V) (x : Int32) : Cn (mFold V x).2 := by
  refine h.eq ?_
  unfold mFold
  split
  · split
    · split
      · rfl
      · split
        · dsimp only
          rw [upS_ne (by omega), upS_ne (by omega), upS_ne (by omega)]
        · rfl
    · rfl
  · rfl
theorem cn_unfold (h : Cn V) (B : Nat) (x : Int32) : Cn (mUnfold B V x).2 := by
  refine h.eq ?_
  unfold mUnfold
  split
  · split
    · rfl
    · dsimp only
      rw [upS_ne (by omega)]
  · rfl
theorem cn_mend (h : Cn V) (x : Int32) : Cn (mMend V x).2 := by
  refine h.eq ?_
  unfold mMend
  split
  · split
    · rfl
    · split
      · split
        · dsimp only
          rw [upS_ne (by omega), upS_ne (by omega), upS_ne (by omega)]
        · rfl
      · rfl
  · rfl
theorem cn_put (h : Cn V) (B : Nat) (x c t : Int32) : Cn (mPut B V x c t).2 := by
  refine h.eq ?_
  unfold mPut
  split
  · split
    · split
      · split
        · split
          · split
            · rfl
            · exact lay_0
          · rfl
        · rfl
      · rfl
    · rfl
  · rfl
theorem cn_take (h : Cn V) (c : Int32) : Cn (mTake V c).2 := by
  refine h.eq ?_
  unfold mTake
  split
  · split
    · rfl
    · dsimp only
      unfold liftV
      rw [upS_ne (by omega), upS_ne (by omega)]
  · rfl
theorem cn_paste (h : Cn V) (x : Int32) : Cn (mPaste V x).2 := by
  refine h.eq ?_
  unfold mPaste
  split
  · rfl
  · split
    · split
      · dsimp only
        rw [upS_ne (by omega)]
      · rfl
    · rfl
end CNS
/-- the memory may grow by m cells; what was there stays but for the numbers of one hall -/
def FG (b m : Nat) (M M' : Mem) : Prop := mN M ≤ mN M' ∧ mN M' ≤ mN M + m ∧ ∀ k, k < mN M → mS M' k = mS M k ∧ (∀ j, mL M' k j = mL M k j) ∧ (∀ j, mP M' k j = mP M k j) ∧ (k < b ∨ b + 343 ≤ k → ∀ j, mI M' k j = mI M k j)
theorem FG.of {b : Nat} {M M' : Mem} (o : Fo b 343 M M') (m : Nat) : FG b m M M' := ⟨by rw [o.1.N]; exact Nat.le_refl _, by rw [o.1.N]; omega, fun k _ => ⟨o.1.S k, fun j => o.1.L k j, fun j => o.1.P k j, fun hk j => o.2 k j hk⟩⟩
theorem FG.tr {b m n : Nat} {M M' M'' : Mem} (h : FG b m M M') (k : FG b n M' M'') : FG b (m + n) M M'' := by
  obtain ⟨h1, h2, h3⟩ := h
  obtain ⟨k1, k2, k3⟩ := k
  refine ⟨by omega, by omega, fun a ha => ?_⟩
  obtain ⟨p1, p2, p3, p4⟩ := h3 a ha
  obtain ⟨q1, q2, q3, q4⟩ := k3 a (by omega)
  exact ⟨q1.trans p1, fun j => (q2 j).trans (p2 j), fun j => (q3 j).trans (p3 j), fun hk j => (q4 hk j).trans (p4 hk j)⟩
/-- what a change does to a hall: refused (0) or kept (1) -/
def Chd (h h' : Hs) (r : Int32) : Prop := hV h' = hV h ∧ hB h' = hB h ∧ hT h' = [] ∧ hL h' = upL (hL h) (hN h) (hC h) ∧ ((r = 0 ∧ hC h' = hC h ∧ hN h' = hN h ∧ hK h' = hK h) ∨ (r = 1 ∧ hN h' = (hN h + 1) % 9 ∧ hK h' = min 8 (hK h + 1)))
def TC (b m : Nat) (f : Mem → Option (Int32 × Mem)) : Prop := ∀ h M, Hall b h M → WH h → Cn (hC h) → hT h = [] → mN M + 100 < ROB → ∃ r h' M', f M = some (r, M') ∧ Hall b h' M' ∧ WH h' ∧ Cn (hC h') ∧ Chd h h' r ∧ FG b m M M'
theorem rec_ch {h : Hs} {res : Int32 × St} (h0 : hT h = []) (hr : 0 ≤ res.1 ∨ res.2 = hC h) : Chd h (recH h res) (if res.1 < 0 then 0 else 1) := by
  unfold recH
  by_cases hp : 0 ≤ res.1
  · rw [if_pos hp, if_neg (Int32.not_lt.mpr hp)]
    exact ⟨rfl, rfl, h0, rfl, Or.inr ⟨rfl, rfl, rfl⟩⟩
  · rw [if_neg hp, if_pos (Int32.not_le.mp hp)]
    exact ⟨rfl, rfl, h0, rfl, Or.inl ⟨rfl, hr.resolve_left hp, rfl, rfl⟩⟩
/-- a plain call, then 0 or 1 -/
theorem tc_op {b : Nat} {f : Mem → Option (Int32 × Mem)} {c : Int32 → Int32} {m : St → Int32 × St} (hl : ∀ h M, Hall b h M → WH h → ∃ M', f M = some (c (m (hC h)).1, M') ∧ Hall b (recH h (m (hC h))) M' ∧ Fo b 343 M M') (hw : ∀ h, WH h → WH (recH h (m (hC h)))) (hn : ∀ V, WF V → 0 ≤ (m V).1 ∨ (m V).2 = V) (hc : ∀ V, Cn V → Cn (m V).2) (hs : ∀ a, (c a < 0 ↔ a < 0)) : TC b 4 (fun M => (f M).bind fun r => if r.1 < 0 then some (0, r.2) else some (1, r.2)) := by
  intro h M H w cn h0 _
  obtain ⟨M', f1, H1, o1⟩ := hl h M H w
  have r := hC_rec h (m (hC h))
  refine ⟨if (m (hC h)).1 < 0 then 0 else 1, _, M', ?_, H1, hw h w, by rw [r.1]; exact hc _ cn, rec_ch h0 (hn _ w.1), FG.of o1 4⟩
  show (f M).bind _ = _
  rw [f1, Option.bind_some]
  by_cases hp : (m (hC h)).1 < 0
  · rw [if_pos hp, if_pos ((hs _).mpr hp)]
  · rw [if_neg hp, if_neg (fun z => hp ((hs _).mp z))]
theorem cs_gen {a : Int32} {c : Int32} (h1 : 0 ≤ a → c = a) (h2 : ¬ 0 ≤ a → c < 0) : c < 0 ↔ a < 0 := by
  by_cases h : 0 ≤ a
  · rw [h1 h]
  · exact ⟨fun _ => Int32.not_le.mp h, fun _ => h2 h⟩
theorem cs_sheet (a : Int32) : c_addSheet a < 0 ↔ a < 0 := cs_gen (fun h => if_pos h) (fun h => by unfold c_addSheet; rw [if_neg h]; split <;> decide)
theorem cs_crease (a : Int32) : c_addCrease a < 0 ↔ a < 0 := cs_gen (fun h => if_pos h) (fun h => by unfold c_addCrease; rw [if_neg h]; split; decide; split <;> decide)
theorem cs_fold (a : Int32) : c_fold a < 0 ↔ a < 0 := cs_gen (fun h => if_pos h) (fun h => by unfold c_fold; rw [if_neg h]; split <;> decide)
theorem cs_unfold (a : Int32) : c_unfold a < 0 ↔ a < 0 := cs_gen (fun h => if_pos h) (fun h => by unfold c_unfold; rw [if_neg h]; split <;> decide)
theorem cs_mend (a : Int32) : c_mend a < 0 ↔ a < 0 := cs_gen (fun h => if_pos h) (fun h => by unfold c_mend; rw [if_neg h]; split; decide; split <;> decide)
theorem cs_put (a : Int32) : c_put a < 0 ↔ a < 0 := cs_gen (fun h => if_pos h) (fun h => by unfold c_put; rw [if_neg h]; split; decide; split; decide; split <;> decide)
theorem cs_take (a : Int32) : c_take a < 0 ↔ a < 0 := cs_gen (fun h => if_pos h) (fun h => by unfold c_take; rw [if_neg h]; split <;> decide)
theorem cs_paste (a : Int32) : c_addPaste a < 0 ↔ a < 0 := cs_gen (fun h => if_pos h) (fun h => by unfold c_addPaste; rw [if_neg h]; split <;> decide)
section TCS
variable {b : Nat}
theorem tc_sheet (n e s w k : Int32) : TC b 4 (fun M => (f_L_addSheet b n e s w k M).bind fun r => if r.1 < 0 then some (0, r.2) else some (1, r.2)) := tc_op (m := fun V => mSheet V n e s w k) (fun _ _ H w' => l_addSheet H w' _ _ _ _ _) (fun _ w' => wl_addSheet w' _ _ _ _ _) (fun V hW => by
  rcases n_addSheet hW n e s w k with z | z | z
  · exact Or.inl z
  · exact Or.inr (congrArg Prod.snd z)
  · exact Or.inr (congrArg Prod.snd z)) (fun V h => cn_sheet h _ _ _ _ _) cs_sheet
theorem tc_crease (x s : Int32) : TC b 4 (fun M => (f_L_addCrease b x s M).bind fun r => if r.1 < 0 then some (0, r.2) else some (1, r.2)) := tc_op (m := fun V => mCrease V x s) (fun _ _ H w' => l_addCrease H w' _ _) (fun _ w' => wl_addCrease w' _ _) (fun V hW => by
  rcases n_addCrease hW x s with z | z | z | z
  · exact Or.inl z
  · exact Or.inr (congrArg Prod.snd z)
  · exact Or.inr (congrArg Prod.snd z)
  · exact Or.inr (congrArg Prod.snd z)) (fun V h => cn_crease h _ _) cs_crease
theorem tc_fold (x : Int32) : TC b 4 (fun M => (f_L_fold b x M).bind fun r => if r.1 < 0 then some (0, r.2) else some (1, r.2)) := tc_op (m := fun V => mFold V x) (fun _ _ H w' => l_fold H w' _) (fun _ w' => wl_fold w' _) (fun V hW => by
  rcases n_fold hW x with z | z | z
  · exact Or.inl z
  · exact Or.inr (congrArg Prod.snd z)
  · exact Or.inr (congrArg Prod.snd z)) (fun V h => cn_fold h _) cs_fold
theorem tc_unfold (x : Int32) : TC b 4 (fun M => (f_L_unfold b x M).bind fun r => if r.1 < 0 then some (0, r.2) else some (1, r.2)) := tc_op (m := fun V => mUnfold (b + 1) V x) (fun _ _ H w' => l_unfold H w' _) (fun _ w' => wl_unfold w' _) (fun V hW => by
  rcases n_unfold b hW x with z | z | z
  · exact Or.inl z
  · exact Or.inr (congrArg Prod.snd z)
  · exact Or.inr (congrArg Prod.snd z)) (fun V h => cn_unfold h _ _) cs_unfold
theorem tc_mend (x : Int32) : TC b 4 (fun M => (f_L_mend b x M).bind fun r => if r.1 < 0 then some (0, r.2) else some (1, r.2)) := tc_op (m := fun V => mMend V x) (fun _ _ H w' => l_mend H w' _) (fun _ w' => wl_mend w' _) (fun V hW => by
  rcases n_mend hW x with z | z | z | z
  · exact Or.inl z
  · exact Or.inr (congrArg Prod.snd z)
  · exact Or.inr (congrArg Prod.snd z)
  · exact Or.inr (congrArg Prod.snd z)) (fun V h => cn_mend h _) cs_mend
theorem tc_put (x c t : Int32) : TC b 4 (fun M => (f_L_put b x c t M).bind fun r => if r.1 < 0 then some (0, r.2) else some (1, r.2)) := tc_op (m := fun V => mPut (b + 1) V x c t) (fun _ _ H w' => l_put H w' _ _ _) (fun _ w' => wl_put w' _ _ _) (fun V hW => by
  rcases n_put b hW x c t with z | z | z | z | z
  · exact Or.inl z
  · exact Or.inr (congrArg Prod.snd z)
  · exact Or.inr (congrArg Prod.snd z)
  · exact Or.inr (congrArg Prod.snd z)
  · exact Or.inr (congrArg Prod.snd z)) (fun V h => cn_put h _ _ _ _) cs_put
theorem tc_take (c : Int32) : TC b 4 (fun M => (f_L_take b c M).bind fun r => if r.1 < 0 then some (0, r.2) else some (1, r.2)) := tc_op (m := fun V => mTake V c) (fun _ _ H w' => l_take H w' _) (fun _ w' => wl_take w' _) (fun V hW => by
  rcases n_take hW c with z | z | z
  · exact Or.inl z
  · exact Or.inr (congrArg Prod.snd z)
  · exact Or.inr (congrArg Prod.snd z)) (fun V h => cn_take h _) cs_take
theorem tc_paste (x : Int32) : TC b 4 (fun M => (f_L_addPaste b x M).bind fun r => if r.1 < 0 then some (0, r.2) else some (1, r.2)) := tc_op (m := fun V => mPaste V x) (fun _ _ H w' => l_addPaste H w' _) (fun _ w' => wl_addPaste w' _) (fun V hW => by
  rcases n_addPaste hW x with z | z | z
  · exact Or.inl z
  · exact Or.inr (congrArg Prod.snd z)
  · exact Or.inr (congrArg Prod.snd z)) (fun V h => cn_paste h _) cs_paste
end TCS
