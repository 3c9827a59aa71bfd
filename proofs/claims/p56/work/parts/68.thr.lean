/-! ===== pure: the questions and changes that are refused ===== -/
def GG (b : Nat) (V : St) (k : Nat) (M : Mem) : Prop := ∃ h, Hall b h M ∧ WH h ∧ hC h = V ∧ hK h = k ∧ hT h = []
theorem GG.hc {b : Nat} {V : St} {k : Nat} {M : Mem} (G : GG b V k M) : HC b V M := by
  obtain ⟨h, H, -, e, -⟩ := G
  exact e ▸ H.hc
def TS (b : Nat) (V : St) (k : Nat) {β : Type} (mk : Mem → β) (f : Mem → Option β) : Prop := ∀ M, GG b V k M → ∃ M', f M = some (mk M') ∧ GG b V k M' ∧ Fo b 343 M M'
section TSS
variable {b : Nat} {V : St} {k : Nat} {α β γ : Type} {mk : Mem → β} {mk1 : Mem → γ}
theorem TS.kk {r : α} {f : Mem → Option α} {g : α → Mem → Option β} (h : ∀ M, HC b V M → f M = some r) (nx : TS b V k mk (g r)) : TS b V k mk (fun M => (f M).bind fun r => g r M) := by
  intro M G
  obtain ⟨M', f', a⟩ := nx M G
  exact ⟨M', by show (f M).bind _ = _; rw [h M G.hc]; exact f', a⟩
theorem TS.w {f : Mem → Option γ} {g : γ → Option β} (h : TS b V k mk1 f) (nx : TS b V k mk (fun M => g (mk1 M))) : TS b V k mk (fun M => (f M).bind g) := by
  intro M G
  obtain ⟨M1, f1, G1, o1⟩ := h M G
  obtain ⟨M2, f2, G2, o2⟩ := nx M1 G1
  exact ⟨M2, by show (f M).bind g = _; rw [f1]; exact f2, G2, o1.tr o2⟩
theorem TS.e : TS b V k mk (fun M => some (mk M)) := fun M G => ⟨M, rfl, G, Fo.rf _ _ _⟩
theorem TS.pos {c : Prop} [Decidable c] {f g : Mem → Option β} (hc : c) (h : TS b V k mk f) : TS b V k mk (fun M => if c then f M else g M) := fun M G => by
  show ∃ M', (if c then _ else _) = _ ∧ _
  rw [if_pos hc]
  exact h M G
theorem TS.neg {c : Prop} [Decidable c] {f g : Mem → Option β} (hc : ¬ c) (h : TS b V k mk g) : TS b V k mk (fun M => if c then f M else g M) := fun M G => by
  show ∃ M', (if c then _ else _) = _ ∧ _
  rw [if_neg hc]
  exact h M G
theorem TS.i {c : Prop} [Decidable c] {f g : Mem → Option β} (h1 : c → TS b V k mk f) (h2 : ¬ c → TS b V k mk g) : TS b V k mk (fun M => if c then f M else g M) := by
  by_cases hc : c
  · exact TS.pos hc (h1 hc)
  · exact TS.neg hc (h2 hc)
/-- a call with the answer y, then the rest -/
theorem TS.s {x y : Int32} {f : Mem → Option (Int32 × Mem)} {g1 g2 : Int32 × Mem → Option β} (h : TS b V k (fun M => (x, M)) f) (hx : x = y) (nx : TS b V k mk (fun M => g1 (y, M))) : TS b V k mk (fun M => (f M).bind fun r => if r.1 = y then g1 r else g2 r) := by
  subst hx
  refine TS.w h ?_
  exact TS.pos rfl nx
/-- a question with the answer y, then the rest -/
theorem TS.r {x y : Int32} {f : Mem → Option Int32} {g1 g2 : Mem → Option β} (h : ∀ M, HC b V M → f M = some x) (hx : x = y) (nx : TS b V k mk g1) : TS b V k mk (fun M => (f M).bind fun r => if r = y then g1 M else g2 M) := by
  subst hx
  refine TS.kk h ?_
  exact TS.pos rfl nx
/-- a change that is refused -/
theorem ts_no {f : Mem → Option (Int32 × Mem)} {c : Int32 → Int32} {m : St → Int32 × St} {a : Int32} (hl : ∀ h M, Hall b h M → WH h → ∃ M', f M = some (c (m (hC h)).1, M') ∧ Hall b (recH h (m (hC h))) M' ∧ Fo b 343 M M') (hm : m V = (a, V)) (ha : ¬ 0 ≤ a) : TS b V k (fun M => (c a, M)) f := by
  rintro M ⟨h, H, w, e, e2, e3⟩
  obtain ⟨M', f1, H1, o1⟩ := hl h M H w
  rw [e, hm] at f1 H1
  rw [← e, rec_no ha] at H1
  exact ⟨M', f1, ⟨preH h, H1, w_pre w, e, e2, e3⟩, o1⟩
theorem ts_sheet {n e s w x a : Int32} (hm : mSheet V n e s w x = (a, V)) (ha : ¬ 0 ≤ a) : TS b V k (fun M => (c_addSheet a, M)) (f_L_addSheet b n e s w x) := ts_no (m := fun V => mSheet V n e s w x) (fun _ _ H w' => l_addSheet H w' n e s w x) hm ha
theorem ts_crease {x s a : Int32} (hm : mCrease V x s = (a, V)) (ha : ¬ 0 ≤ a) : TS b V k (fun M => (c_addCrease a, M)) (f_L_addCrease b x s) := ts_no (m := fun V => mCrease V x s) (fun _ _ H w' => l_addCrease H w' x s) hm ha
theorem ts_fold {x a : Int32} (hm : mFold V x = (a, V)) (ha : ¬ 0 ≤ a) : TS b V k (fun M => (c_fold a, M)) (f_L_fold b x) := ts_no (m := fun V => mFold V x) (fun _ _ H w' => l_fold H w' x) hm ha
theorem ts_unfold {x a : Int32} (hm : mUnfold (b + 1) V x = (a, V)) (ha : ¬ 0 ≤ a) : TS b V k (fun M => (c_unfold a, M)) (f_L_unfold b x) := ts_no (m := fun V => mUnfold (b + 1) V x) (fun _ _ H w' => l_unfold H w' x) hm ha
theorem ts_mend {x a : Int32} (hm : mMend V x = (a, V)) (ha : ¬ 0 ≤ a) : TS b V k (fun M => (c_mend a, M)) (f_L_mend b x) := ts_no (m := fun V => mMend V x) (fun _ _ H w' => l_mend H w' x) hm ha
theorem ts_put {x c t a : Int32} (hm : mPut (b + 1) V x c t = (a, V)) (ha : ¬ 0 ≤ a) : TS b V k (fun M => (c_put a, M)) (f_L_put b x c t) := ts_no (m := fun V => mPut (b + 1) V x c t) (fun _ _ H w' => l_put H w' x c t) hm ha
theorem ts_take {x a : Int32} (hm : mTake V x = (a, V)) (ha : ¬ 0 ≤ a) : TS b V k (fun M => (c_take a, M)) (f_L_take b x) := ts_no (m := fun V => mTake V x) (fun _ _ H w' => l_take H w' x) hm ha
theorem ts_paste {x a : Int32} (hm : mPaste V x = (a, V)) (ha : ¬ 0 ≤ a) : TS b V k (fun M => (c_addPaste a, M)) (f_L_addPaste b x) := ts_no (m := fun V => mPaste V x) (fun _ _ H w' => l_addPaste H w' x) hm ha
/-- a question that leaves the memory as it is, but answers a memory -/
theorem ts_q {x : Int32} {f : Mem → Option (Int32 × Mem)} (h : ∀ M, HC b V M → f M = some (x, M)) : TS b V k (fun M => (x, M)) f := fun M G => ⟨M, h M G.hc, G, Fo.rf _ _ _⟩
abbrev mk5 : Mem → (Int32 × Mem) ⊕ (Int32 × Mem) := fun M => .inl (1, M)
abbrev mk6 : Mem → Mem ⊕ (Int32 × Mem) := fun M => .inl M
theorem sx_i {i : Nat} (hi : i < 9) : sx (ni i) = i := ni_nat i (by omega)
theorem t_337 (hW : WF V) {i : Nat} (hi : i < 9) (hS : hasS V (ni i) = true) (l : Int64) (x3 x4 : Int32) : TS b V k mk5 (rg_L_thrown_337 b l x3 x4 1 (ni i)) := by
  unfold rg_L_thrown_337
  have fo : mFold V (ni i) = (-3, V) → TS b V k mk5 (fun M => (f_L_fold b (ni i) M).bind fun r57 => if r57.1 = (-1002) then (some (.inl (1, r57.2))) else none) := fun hm => TS.s (ts_fold hm (by decide)) (by decide) (TS.e (mk := mk5))
  refine TS.kk (fun M H => l_creaseCount H hW _) ?_
  rw [if_pos hS, sx_i hi]
  refine TS.i (fun h3 => TS.neg (by decide) (fo ?_)) (fun h3 => ?_)
  · unfold mFold
    rw [if_pos hS, sx_i hi]
    split <;> rfl
  refine TS.kk (fun M H => l_isFolded H hW _) ?_
  rw [if_pos hS, sx_i hi]
  refine TS.i (fun h5 => TS.neg (by decide) (fo ?_)) (fun h5 => ?_)
  · unfold mFold
    rw [if_pos hS, sx_i hi, h5]
    rfl
  refine TS.kk (fun M H => l_cellOf H hW _) ?_
  rw [if_pos hS, sx_i hi]
  refine TS.i (fun _ => TS.e (mk := mk5)) (fun h6 => TS.neg (by decide) (fo ?_))
  unfold mFold
  rw [if_pos hS, sx_i hi]
  split
  · rw [if_neg (fun z => h6 (by rw [if_pos z]; decide))]
  · rfl
theorem t_389 (hW : WF V) {i : Nat} (hi : i < 9) (hS : hasS V (ni i) = true) (l : Int64) (x3 x4 : Int32) : TS b V k mk5 (rg_L_thrown_389 b l x3 x4 1 (ni i)) := by
  unfold rg_L_thrown_389
  refine TS.kk (fun M H => l_wear H hW _) ?_
  rw [if_pos hS, sx_i hi]
  refine TS.i (fun h4 => TS.neg (by decide) (TS.s (ts_mend (a := -3) ?_ (by decide)) (by decide) (TS.e (mk := mk5)))) (fun h4 => ?_)
  · unfold mMend
    rw [if_pos hS, sx_i hi, if_pos h4]
  refine TS.kk (fun M H => l_isFolded H hW _) ?_
  rw [if_pos hS, sx_i hi]
  refine TS.i (fun h5 => TS.neg (by decide) (TS.s (ts_mend (a := -3) ?_ (by decide)) (by decide) (TS.e (mk := mk5)))) (fun h5 => ?_)
  · unfold mMend
    rw [if_pos hS, sx_i hi, if_neg h4, h5]
    rfl
  refine TS.kk (fun M H => l_wear H hW _) ?_
  rw [if_pos hS, sx_i hi]
  refine TS.kk (fun M H => H.1.rc10) ?_
  refine TS.kk (fun M H => x_paste H) ?_
  refine TS.i (fun _ => TS.e (mk := mk5)) (fun h6 => TS.neg (by decide) (TS.s (ts_mend (a := -4) ?_ (by decide)) (by decide) (TS.e (mk := mk5))))
  have h50 : V (3 + 3 * i) 5 = 0 := by
    rcases (hW.2.2.2 i hi).2.2.2.1 with z | z
    · exact z
    · exact absurd z h5
  unfold mMend
  rw [if_pos hS, sx_i hi, if_neg h4, if_pos h50, if_neg h6]
theorem t_472 (hW : WF V) {i : Nat} (hi : i < 9) (hS : hasS V (ni i) = true) (l : Int64) (x3 x4 : Int32) : TS b V k mk5 (rg_L_thrown_472 b l x3 x4 1 (ni i)) := by
  unfold rg_L_thrown_472
  refine TS.kk (fun M H => l_creaseCount H hW _) ?_
  rw [if_pos hS, sx_i hi]
  refine TS.i (fun h4 => TS.neg (by decide) (TS.s (ts_crease (a := -3) ?_ (by decide)) (by decide) (TS.e (mk := mk5)))) (fun h4 => ?_)
  · unfold mCrease
    rw [if_pos hS, sx_i hi, if_pos (by decide), if_pos (by rw [h4]; decide)]
  refine TS.kk (fun M H => l_isFolded H hW _) ?_
  rw [if_pos hS, sx_i hi]
  refine TS.i (fun h5 => TS.neg (by decide) (TS.s (ts_crease (a := -3) ?_ (by decide)) (by decide) (TS.e (mk := mk5)))) (fun h5 => TS.e (mk := mk5))
  unfold mCrease
  rw [if_pos hS, sx_i hi, if_pos (by decide), h5]
  split <;> rfl
theorem t_519 (hW : WF V) {i : Nat} (hi : i < 9) (hS : hasS V (ni i) = true) (hS0 : hasS V (ni i) = true) (l : Int64) (x3 x4 : Int32) : TS b V k mk5 (rg_L_thrown_519 b l x3 x4 1 (ni i)) := by
  unfold rg_L_thrown_519
  refine TS.kk (fun M H => l_cellOf H hW _) ?_
  rw [if_pos hS, sx_i hi]
  refine TS.i (fun _ => TS.e (mk := mk5)) (fun h6 => TS.neg (by decide) ?_)
  have h6' : ¬ V (3 + 3 * i) 6 = -1 := fun z => h6 (by rw [if_pos z]; decide)
  obtain ⟨c, hc, e1, -⟩ := ((hW.2.2.2 i hi).2.2.2.2.1).resolve_left h6'
  refine TS.kk (fun M H => l_cellOf H hW _) ?_
  rw [if_pos hS, sx_i hi, if_neg h6', e1]
  refine TS.s (ts_put (a := -3) ?_ (by decide)) (by decide) ?_
  · unfold mPut
    rw [if_pos hS, sx_i hi, if_pos (isL_ni hc), if_pos (by decide), if_neg (fun z => h6' (cblV_6 z))]
  dsimp only
  refine TS.r (fun M H => l_matches_4 H hW hS (by decide) (by decide) (by rw [sx_i hi]; exact h6')) rfl ?_
  exact TS.e (mk := mk5)
end TSS
