/-! ===== pure: what is written out ===== -/
abbrev Os : Type := Nat × (Nat → Int32)
def okO (s : Os) : Prop := s.1 ≤ 22 ∧ ∀ j, j < s.1 → narrow .char (.int (s.2 j)) = .int (s.2 j)
def OC (b : Nat) (V : St) (s : Os) (M : Mem) : Prop := HC b V M ∧ mI M (b + 341) 1 = ni s.1 ∧ ∀ j, j < s.1 → mI M (b + 342) j = s.2 j
def UO (b : Nat) (V : St) (s : Os) (f : Mem → Option (Unit × Mem)) : Prop := ∃ s', okO s' ∧ ∀ M, OC b V s M → ∃ M', f M = some ((), M') ∧ OC b V s' M' ∧ Fo (b + 341) 2 M M'
theorem nar_nar (x : Int32) : narrow .char (.int (vp_nar .char x)) = .int (vp_nar .char x) := by
  show Value.int (x.toUInt32.toUInt16.toUInt32.toInt32).toUInt32.toUInt16.toUInt32.toInt32 = Value.int x.toUInt32.toUInt16.toUInt32.toInt32
  congr 1
  simp
  congr 1
  apply UInt32.toNat_inj.mp
  simp
theorem LH.o (b : Nat) {M : Mem} (L : LH b M) : rc M 5 (b + 341) = some () ∧ gP M 5 (b + 341) 0 = some (b + 342) ∧ (∀ j, gI M 5 (b + 341) j = some (mI M (b + 341) j)) ∧ (∀ j x, sI M 5 (b + 341) j .int x = some (mUI M (b + 341) j x)) ∧ (∀ j x, j < 22 → asC M (b + 342) (ni j) x = some (mUI M (b + 342) j (vp_nar .char x))) ∧ ∀ j, j < 22 → aI M 101 (b + 342) (ni j) = some (mI M (b + 342) j) := by
  obtain ⟨q1, -, -, -, -, -, -, -, -, -, -, -, -, -, -, -, -, -, -, -, -, -, q23, q24, q25⟩ := L
  refine ⟨?_, ?_, fun j => ?_, fun j x => ?_, fun j x hj => ?_, fun j hj => ?_⟩
  · unfold rc
    rw [q23, if_pos ⟨rfl, by omega⟩]
  · unfold gP
    rw [q23, if_pos ⟨rfl, by omega⟩, q24]
  · unfold gI
    rw [q23, if_pos ⟨rfl, by omega⟩]
  · unfold sI
    rw [q23]
    exact if_pos ⟨rfl, by omega, rfl, rfl⟩
  · unfold asC asI
    rw [q25, if_pos ⟨rfl, by omega, inr_ni (by omega) hj⟩, ni_nat j (by omega)]
  · unfold aI
    rw [q25, if_pos ⟨rfl, by omega, inr_ni (by omega) hj⟩, ni_nat j (by omega)]
section UOS
variable {b : Nat} {V : St} {s : Os}
theorem UO.k {α : Type} {f : Mem → Option α} {g : α → Mem → Option (Unit × Mem)} {r : α} (h : ∀ M, HC b V M → f M = some r) (k : UO b V s (g r)) : UO b V s (fun M => (f M).bind fun r => g r M) := by
  obtain ⟨s', h1, h2⟩ := k
  refine ⟨s', h1, fun M hM => ?_⟩
  obtain ⟨M1, f1, a⟩ := h2 M hM
  exact ⟨M1, by show (f M).bind _ = _; rw [h M hM.1]; exact f1, a⟩
theorem UO.w {f : Mem → Option (Unit × Mem)} {g : Unit × Mem → Option (Unit × Mem)} (h : UO b V s f) (k : ∀ s', okO s' → UO b V s' (fun M => g ((), M))) : UO b V s (fun M => (f M).bind g) := by
  obtain ⟨s1, h1, h2⟩ := h
  obtain ⟨s2, h3, h4⟩ := k s1 h1
  refine ⟨s2, h3, fun M hM => ?_⟩
  obtain ⟨M1, f1, a1, o1⟩ := h2 M hM
  obtain ⟨M2, f2, a2, o2⟩ := h4 M1 a1
  exact ⟨M2, by show (f M).bind g = _; rw [f1]; exact f2, a2, o1.tr o2⟩
theorem UO.e (hs : okO s) : UO b V s (fun M => some ((), M)) := ⟨s, hs, fun M hM => ⟨M, rfl, hM, Fo.rf _ _ _⟩⟩
theorem UO.i {c : Prop} [Decidable c] {f g : Mem → Option (Unit × Mem)} (h1 : c → UO b V s f) (h2 : ¬ c → UO b V s g) : UO b V s (fun M => if c then f M else g M) := by
  by_cases h : c
  · obtain ⟨r, a, q⟩ := h1 h
    exact ⟨r, a, fun M hM => by show ∃ M', (if c then _ else _) = _ ∧ _; rw [if_pos h]; exact q M hM⟩
  · obtain ⟨r, a, q⟩ := h2 h
    exact ⟨r, a, fun M hM => by show ∃ M', (if c then _ else _) = _ ∧ _; rw [if_neg h]; exact q M hM⟩
theorem o_write (hs : okO s) (x : Int32) : UO b V s (f_X4_write (b + 341) x) := by
  by_cases hl : 22 ≤ s.1
  · refine ⟨s, hs, fun M hM => ⟨M, ?_, hM, Fo.rf _ _ _⟩⟩
    have o := hM.1.1.o
    unfold f_X4_write
    simp only [o.2.2.1, hM.2.1, Option.bind_some]
    exact if_pos ((ni_le (i := 22) (by omega) (by have := hs.1; omega)).mpr hl)
  · have hl2 : s.1 < 22 := by omega
    refine ⟨(s.1 + 1, upP s.2 s.1 (vp_nar .char x)), ⟨by show s.1 + 1 ≤ 22; omega, fun j hj => ?_⟩, fun M hM => ?_⟩
    · show narrow .char (.int (upP s.2 s.1 (vp_nar .char x) j)) = .int (upP s.2 s.1 (vp_nar .char x) j)
      unfold upP
      by_cases e : j = s.1
      · rw [if_pos e]
        exact nar_nar x
      · rw [if_neg e]
        exact hs.2 j (by have : j < s.1 + 1 := hj; omega)
    · have o := hM.1.1.o
      have L1 := hM.1.1.sh (Sh.UI M (b + 342) s.1 (vp_nar .char x))
      have e1 : mI (mUI M (b + 342) s.1 (vp_nar .char x)) (b + 341) 1 = ni s.1 := by
        rw [mI_UI, if_neg (by omega)]
        exact hM.2.1
      refine ⟨mUI (mUI M (b + 342) s.1 (vp_nar .char x)) (b + 341) 1 (ni (s.1 + 1)), ?_, ⟨⟨L1.sh (Sh.UI _ _ _ _), (hM.1.2.ui (by omega)).ui (by omega)⟩, ?_, fun j hj => ?_⟩, (Fo.up M _ _ (by omega)).tr (Fo.up _ _ _ (by omega))⟩
      · unfold f_X4_write
        simp only [o.2.2.1, hM.2.1, Option.bind_some, if_neg (fun z => hl ((ni_le (i := 22) (by omega) (by omega)).mp z) : ¬ (22 : Int32) ≤ ni s.1), o.2.1, o.2.2.2.2.1 s.1 x hl2, L1.o.2.2.1, e1, ni_s, L1.o.2.2.2.1]
      · rw [mI_UI, if_pos ⟨rfl, rfl⟩]
      · rw [mI_UI, if_neg (by omega), mI_UI]
        show _ = upP s.2 s.1 (vp_nar .char x) j
        unfold upP
        by_cases e : j = s.1
        · rw [if_pos ⟨rfl, e⟩, if_pos e]
        · rw [if_neg (fun z => e z.2), if_neg e]
          exact hM.2.2 j (by have : j < s.1 + 1 := hj; omega)
theorem rc5 (M : Mem) (H : HC b V M) : rc M 5 (b + 341) = some () := H.1.o.1
theorem o_digit (hs : okO s) (x : Int32) : UO b V s (f_X4_writeDigit (b + 341) x) := by
  refine UO.k rc5 ?_
  refine UO.w (o_write hs _) (fun s' hs' => ?_)
  exact UO.e hs'
/-- a loop that writes -/
def UOl (b : Nat) (V : St) (s : Os) (e : Int32) (f : Mem → Option ((Int32 × Mem) ⊕ (Unit × Mem))) : Prop := ∃ s', okO s' ∧ ∀ M, OC b V s M → ∃ M', f M = some (.inl (e, M')) ∧ OC b V s' M' ∧ Fo (b + 341) 2 M M'
theorem UOl.k {α : Type} {e : Int32} {f : Mem → Option α} {g : α → Mem → Option ((Int32 × Mem) ⊕ (Unit × Mem))} {r : α} (h : ∀ M, HC b V M → f M = some r) (k : UOl b V s e (g r)) : UOl b V s e (fun M => (f M).bind fun r => g r M) := by
  obtain ⟨s', h1, h2⟩ := k
  refine ⟨s', h1, fun M hM => ?_⟩
  obtain ⟨M1, f1, a⟩ := h2 M hM
  exact ⟨M1, by show (f M).bind _ = _; rw [h M hM.1]; exact f1, a⟩
theorem UOl.w {e : Int32} {f : Mem → Option (Unit × Mem)} {g : Unit × Mem → Option ((Int32 × Mem) ⊕ (Unit × Mem))} (h : UO b V s f) (k : ∀ s', okO s' → UOl b V s' e (fun M => g ((), M))) : UOl b V s e (fun M => (f M).bind g) := by
  obtain ⟨s1, h1, h2⟩ := h
  obtain ⟨s2, h3, h4⟩ := k s1 h1
  refine ⟨s2, h3, fun M hM => ?_⟩
  obtain ⟨M1, f1, a1, o1⟩ := h2 M hM
  obtain ⟨M2, f2, a2, o2⟩ := h4 M1 a1
  exact ⟨M2, by show (f M).bind g = _; rw [f1]; exact f2, a2, o1.tr o2⟩
theorem UOl.e {e : Int32} (hs : okO s) : UOl b V s e (fun M => some (.inl (e, M))) := ⟨s, hs, fun M hM => ⟨M, rfl, hM, Fo.rf _ _ _⟩⟩
theorem UOl.i {e : Int32} {c : Prop} [Decidable c] {f g : Mem → Option ((Int32 × Mem) ⊕ (Unit × Mem))} (h1 : c → UOl b V s e f) (h2 : ¬ c → UOl b V s e g) : UOl b V s e (fun M => if c then f M else g M) := by
  by_cases h : c
  · obtain ⟨r, a, q⟩ := h1 h
    exact ⟨r, a, fun M hM => by show ∃ M', (if c then _ else _) = _ ∧ _; rw [if_pos h]; exact q M hM⟩
  · obtain ⟨r, a, q⟩ := h2 h
    exact ⟨r, a, fun M hM => by show ∃ M', (if c then _ else _) = _ ∧ _; rw [if_neg h]; exact q M hM⟩
/-- the loop, then the rest -/
theorem UO.l {e : Int32} {f : Mem → Option ((Int32 × Mem) ⊕ (Unit × Mem))} {k : ((Int32 × Mem) ⊕ (Unit × Mem)) → Option (Unit × Mem)} (h : UOl b V s e f) (hk : ∀ s', okO s' → UO b V s' (fun M => k (.inl (e, M)))) : UO b V s (fun M => (f M).bind k) := by
  obtain ⟨s1, h1, h2⟩ := h
  obtain ⟨s2, h3, h4⟩ := hk s1 h1
  refine ⟨s2, h3, fun M hM => ?_⟩
  obtain ⟨M1, f1, a1, o1⟩ := h2 M hM
  obtain ⟨M2, f2, a2, o2⟩ := h4 M1 a1
  exact ⟨M2, by show (f M).bind k = _; rw [f1]; exact f2, a2, o1.tr o2⟩
theorem o_times_lp (x : Int32) {m : Nat} (hm : m ≤ 9) : ∀ k, k ≤ m → ∀ n, k < n → ∀ s, okO s → UOl b V s (ni m) (fun M => lp_X4_writeTimes_2 (b + 341) x (ni m) n (ni (m - k)) M) := by
  intro k
  induction k with
  | zero =>
    intro _ n hn s hs
    obtain ⟨n, rfl⟩ : ∃ z, n = z + 1 := ⟨n - 1, by omega⟩
    simp only [lp_X4_writeTimes_2]
    refine UOl.i (fun _ => UOl.e hs) (fun h => (h ((ni_le (by omega) (by omega)).mpr (by omega))).elim)
  | succ k ih =>
    intro hk n hn s hs
    obtain ⟨n, rfl⟩ : ∃ z, n = z + 1 := ⟨n - 1, by omega⟩
    simp only [lp_X4_writeTimes_2]
    refine UOl.i (fun h => (up_n hm (show k < m by omega) h).elim) (fun _ => ?_)
    refine UOl.k rc5 ?_
    refine UOl.w (o_write hs x) (fun s' hs' => ?_)
    rw [up_m (show k < m by omega)]
    exact ih (by omega) n (by omega) s' hs'
theorem o_times (hs : okO s) (x : Int32) {m : Nat} (hm : m ≤ 9) : UO b V s (f_X4_writeTimes (b + 341) x (ni m)) := by
  have h0 := o_times_lp (b := b) (V := V) x hm m (Nat.le_refl _) 100 (by omega) s hs
  rw [Nat.sub_self] at h0
  exact UO.l h0 (fun s' hs' => UO.e hs')
theorem o_table_lp (hW : WF V) : ∀ k, k ≤ 9 → ∀ n, k < n → ∀ s, okO s → UOl b V s (ni 9) (fun M => lp_X4_describeTable_7 (b + 341) (b + 1) n (ni (9 - k)) M) := by
  intro k
  induction k with
  | zero =>
    intro _ n hn s hs
    obtain ⟨n, rfl⟩ : ∃ z, n = z + 1 := ⟨n - 1, by omega⟩
    simp only [lp_X4_describeTable_7]
    exact UOl.i (fun _ => UOl.e hs) (fun h => (h (by decide)).elim)
  | succ k ih =>
    intro hk n hn s hs
    obtain ⟨n, rfl⟩ : ∃ z, n = z + 1 := ⟨n - 1, by omega⟩
    have hc : 9 - (k + 1) < 9 := by omega
    have ih' : ∀ s', okO s' → UOl b V s' (ni 9) (fun M => lp_X4_describeTable_7 (b + 341) (b + 1) n (ni (9 - (k + 1)) + 1) M) := fun s' hs' => by
      rw [up9b k (by omega)]
      exact ih (by omega) n (by omega) s' hs'
    -- one cell
    have cell : ∀ s, okO s → UOl b V s (ni 9) (fun M_ => (rc M_ 9 (b + 1)).bind fun _ => (f_X9_isOccupied (b + 1) (ni (9 - (k + 1))) M_).bind fun r4 => if r4 = 0 then ((rc M_ 5 (b + 341)).bind fun _ => (f_X4_writeTimes (b + 341) 46 2 M_).bind fun r7 => lp_X4_describeTable_7 (b + 341) (b + 1) n (ni (9 - (k + 1)) + 1) r7.2) else ((gP M_ 9 (b + 1) 1).bind fun p9 => (aI M_ 100 p9 (ni (9 - (k + 1)))).bind fun x10 => (rc M_ 5 (b + 341)).bind fun _ => (f_X4_writeDigit (b + 341) x10 M_).bind fun r11 => (rc r11.2 9 (b + 1)).bind fun _ => (f_X9_sheetLaidIn (b + 1) (ni (9 - (k + 1))) r11.2).bind fun r13 => (gI r11.2 7 r13 7).bind fun x15 => (rc r11.2 5 (b + 341)).bind fun _ => (f_X4_writeDigit (b + 341) x15 r11.2).bind fun r16 => lp_X4_describeTable_7 (b + 341) (b + 1) n (ni (9 - (k + 1)) + 1) r16.2)) := by
      intro s hs
      refine UOl.k (fun M H => H.2.rc9) ?_
      refine UOl.k (fun M H => x_isOcc H.2 hc) ?_
      refine UOl.i (fun _ => ?_) (fun ho => ?_)
      · refine UOl.k rc5 ?_
        refine UOl.w (o_times hs 46 (m := 2) (by decide)) (fun s' hs' => ?_)
        exact ih' s' hs'
      · obtain ⟨i, t, hi, ht, e1, e2, e3⟩ := hW.laid hc (fun z => ho (if_pos z))
        refine UOl.k (fun M H => H.2.p91) ?_
        refine UOl.k (fun M H => H.2.oc hc) ?_
        refine UOl.k rc5 ?_
        refine UOl.w (o_digit hs _) (fun s' hs' => ?_)
        refine UOl.k (fun M H => H.2.rc9) ?_
        refine UOl.k (fun M H => x_laid H.2 hc hi e1) ?_
        refine UOl.k (fun M H => H.2.g77 hi e2) ?_
        refine UOl.k rc5 ?_
        refine UOl.w (o_digit hs' _) (fun s'' hs'' => ?_)
        exact ih' s'' hs''
    simp only [lp_X4_describeTable_7]
    refine UOl.i (fun h => (up9a k (by omega) h).elim) (fun _ => ?_)
    refine UOl.i (fun _ => cell s hs) (fun _ => ?_)
    refine UOl.i (fun _ => ?_) (fun _ => cell s hs)
    refine UOl.k rc5 ?_
    refine UOl.w (o_write hs 47) (fun s' hs' => ?_)
    exact cell s' hs'
theorem okO_0 (sg : Nat → Int32) : okO (0, sg) := ⟨Nat.zero_le _, fun j hj => absurd hj (Nat.not_lt_zero j)⟩
theorem OC.start {M : Mem} (H : HC b V M) : OC b V (0, fun _ => 0) (mUI M (b + 341) 1 0) := ⟨⟨H.1.sh (Sh.UI _ _ _ _), H.2.ui (by omega)⟩, by rw [mI_UI, if_pos ⟨rfl, rfl⟩]; rfl, fun j hj => absurd hj (Nat.not_lt_zero j)⟩
theorem o_table (hW : WF V) : ∃ s', okO s' ∧ ∀ M, HC b V M → ∃ M', f_X4_describeTable (b + 341) (b + 1) M = some ((), M') ∧ OC b V s' M' ∧ Fo (b + 341) 2 M M' := by
  have h0 := o_table_lp (b := b) hW 9 (by decide) 100 (by decide) _ (okO_0 (fun _ => 0))
  obtain ⟨s', h1, h2⟩ := UO.l (k := fun q => match q with
    | .inl (_, N) => some ((), N)
    | .inr r => some r) h0 (fun s' hs' => UO.e hs')
  refine ⟨s', h1, fun M H => ?_⟩
  obtain ⟨M1, f1, a1, o1⟩ := h2 _ (OC.start H)
  refine ⟨M1, ?_, a1, (Fo.up M _ _ (by omega)).tr o1⟩
  unfold f_X4_describeTable
  rw [H.1.o.2.2.2.1]
  exact f1
theorem o_sheet_15 {i : Nat} (hi : i < 9) : ∀ k, k ≤ 4 → ∀ n, k < n → ∀ s, okO s → UOl b V s (ni 4) (fun M => lp_X4_describeSheet_15 (b + 341) (b + 1 + 3 + 3 * i) n (ni (4 - k)) M) := by
  intro k
  induction k with
  | zero =>
    intro _ n hn s hs
    obtain ⟨n, rfl⟩ : ∃ z, n = z + 1 := ⟨n - 1, by omega⟩
    simp only [lp_X4_describeSheet_15]
    exact UOl.i (fun _ => UOl.e hs) (fun h => (h (by decide)).elim)
  | succ k ih =>
    intro hk n hn s hs
    obtain ⟨n, rfl⟩ : ∃ z, n = z + 1 := ⟨n - 1, by omega⟩
    simp only [lp_X4_describeSheet_15]
    refine UOl.i (fun h => (up4a k (by omega) h).elim) (fun _ => ?_)
    refine UOl.k (fun M H => H.2.rc7 hi) ?_
    refine UOl.k (fun M H => x_bwt H.2 hi (show 4 - (k + 1) < 4 by omega) (t := 0) (by decide)) ?_
    refine UOl.k rc5 ?_
    refine UOl.w (o_digit hs _) (fun s' hs' => ?_)
    rw [up4b k (by omega)]
    exact ih (by omega) n (by omega) s' hs'
theorem o_sheet_51 {i m : Nat} (hi : i < 9) (hm : m ≤ 6) (hV : V (3 + 3 * i) 3 = ni m) : ∀ k, k ≤ m → ∀ n, k < n → ∀ s, okO s → UOl b V s (ni m) (fun M => lp_X4_describeSheet_51 (b + 341) (b + 1 + 3 + 3 * i) n (ni (m - k)) M) := by
  intro k
  induction k with
  | zero =>
    intro _ n hn s hs
    obtain ⟨n, rfl⟩ : ∃ z, n = z + 1 := ⟨n - 1, by omega⟩
    simp only [lp_X4_describeSheet_51]
    refine UOl.k (fun M H => H.2.g7 hi (j := 3) (by decide) (by decide)) ?_
    rw [hV]
    exact UOl.i (fun _ => UOl.e hs) (fun h => (h ((ni_le (by omega) (by omega)).mpr (by omega))).elim)
  | succ k ih =>
    intro hk n hn s hs
    obtain ⟨n, rfl⟩ : ∃ z, n = z + 1 := ⟨n - 1, by omega⟩
    simp only [lp_X4_describeSheet_51]
    refine UOl.k (fun M H => H.2.g7 hi (j := 3) (by decide) (by decide)) ?_
    rw [hV]
    refine UOl.i (fun h => (up_n (by omega) (show k < m by omega) h).elim) (fun _ => ?_)
    refine UOl.k (fun M H => H.2.p71 hi) ?_
    refine UOl.k (fun M H => H.2.cr hi (show m - (k + 1) < 6 by omega)) ?_
    refine UOl.k rc5 ?_
    refine UOl.w (o_write hs _) (fun s' hs' => ?_)
    rw [up_m (show k < m by omega)]
    exact ih (by omega) n (by omega) s' hs'
theorem o_sheetOut (hW : WF V) {i : Nat} (hi : i < 9) : ∃ s', okO s' ∧ ∀ M, HC b V M → ∃ M', f_X4_describeSheet (b + 341) (b + 1 + 3 + 3 * i) M = some ((), M') ∧ OC b V s' M' ∧ Fo (b + 341) 2 M M' := by
  obtain ⟨m, hm, hV⟩ := (hW.2.2.2 i hi).2.1
  obtain ⟨w, hw, hwV⟩ := (hW.2.2.2 i hi).2.2.1
  -- behind the creases
  have tail : ∀ s, okO s → UO b V s (fun q19_M => (gI q19_M 7 (b + 1 + 3 + 3 * i) 4).bind fun x20 => (rc q19_M 5 (b + 341)).bind fun _ => (f_X4_writeTimes (b + 341) 42 x20 q19_M).bind fun r21 => (gI r21.2 7 (b + 1 + 3 + 3 * i) 5).bind fun x23 => if x23 = 0 then ((rc r21.2 5 (b + 341)).bind fun _ => (f_X4_writeTimes (b + 341) 35 0 r21.2).bind fun r25 => some ((), r25.2)) else ((rc r21.2 5 (b + 341)).bind fun _ => (f_X4_writeTimes (b + 341) 35 1 r21.2).bind fun r27 => some ((), r27.2))) := by
    intro s hs
    refine UO.k (fun M H => H.2.g7 hi (j := 4) (by decide) (by decide)) ?_
    rw [hwV]
    refine UO.k rc5 ?_
    refine UO.w (o_times hs 42 hw) (fun s' hs' => ?_)
    refine UO.k (fun M H => H.2.g7 hi (j := 5) (by decide) (by decide)) ?_
    refine UO.i (fun _ => ?_) (fun _ => ?_)
    · refine UO.k rc5 ?_
      exact UO.w (o_times hs' 35 (m := 0) (by decide)) (fun s'' hs'' => UO.e hs'')
    · refine UO.k rc5 ?_
      exact UO.w (o_times hs' 35 (m := 1) (by decide)) (fun s'' hs'' => UO.e hs'')
  have crs : ∀ s, okO s → UO b V s (fun q10_M => ((lp_X4_describeSheet_51 (b + 341) (b + 1 + 3 + 3 * i) 100 0 q10_M).bind fun q19 => match q19 with
      | .inl (q19_2, q19_M) => ((gI q19_M 7 (b + 1 + 3 + 3 * i) 4).bind fun x20 => (rc q19_M 5 (b + 341)).bind fun _ => (f_X4_writeTimes (b + 341) 42 x20 q19_M).bind fun r21 => (gI r21.2 7 (b + 1 + 3 + 3 * i) 5).bind fun x23 => if x23 = 0 then ((rc r21.2 5 (b + 341)).bind fun _ => (f_X4_writeTimes (b + 341) 35 0 r21.2).bind fun r25 => some ((), r25.2)) else ((rc r21.2 5 (b + 341)).bind fun _ => (f_X4_writeTimes (b + 341) 35 1 r21.2).bind fun r27 => some ((), r27.2)))
      | .inr q19_r => some q19_r)) := by
    intro s hs
    have h0 := o_sheet_51 (b := b) hi hm hV m (Nat.le_refl _) 100 (by omega) s hs
    rw [Nat.sub_self] at h0
    exact UO.l h0 (fun s' hs' => tail s' hs')
  have all : UO b V (0, fun _ => 0) (fun M1 => (gI M1 7 (b + 1 + 3 + 3 * i) 2).bind fun x2 => (rc M1 5 (b + 341)).bind fun _ => (f_X4_write (b + 341) x2 M1).bind fun r3 => ((lp_X4_describeSheet_15 (b + 341) (b + 1 + 3 + 3 * i) 100 0 r3.2).bind fun q10 => match q10 with
      | .inl (q10_2, q10_M) => ((gI q10_M 7 (b + 1 + 3 + 3 * i) 3).bind fun x11 => if x11 ≤ 0 then ((lp_X4_describeSheet_51 (b + 341) (b + 1 + 3 + 3 * i) 100 0 q10_M).bind fun q19 => match q19 with
        | .inl (q19_2, q19_M) => ((gI q19_M 7 (b + 1 + 3 + 3 * i) 4).bind fun x20 => (rc q19_M 5 (b + 341)).bind fun _ => (f_X4_writeTimes (b + 341) 42 x20 q19_M).bind fun r21 => (gI r21.2 7 (b + 1 + 3 + 3 * i) 5).bind fun x23 => if x23 = 0 then ((rc r21.2 5 (b + 341)).bind fun _ => (f_X4_writeTimes (b + 341) 35 0 r21.2).bind fun r25 => some ((), r25.2)) else ((rc r21.2 5 (b + 341)).bind fun _ => (f_X4_writeTimes (b + 341) 35 1 r21.2).bind fun r27 => some ((), r27.2)))
        | .inr q19_r => some q19_r) else ((rc q10_M 5 (b + 341)).bind fun _ => (f_X4_write (b + 341) 124 q10_M).bind fun r29 => ((lp_X4_describeSheet_51 (b + 341) (b + 1 + 3 + 3 * i) 100 0 r29.2).bind fun q31 => match q31 with
        | .inl (q31_2, q31_M) => ((gI q31_M 7 (b + 1 + 3 + 3 * i) 4).bind fun x32 => (rc q31_M 5 (b + 341)).bind fun _ => (f_X4_writeTimes (b + 341) 42 x32 q31_M).bind fun r33 => (gI r33.2 7 (b + 1 + 3 + 3 * i) 5).bind fun x35 => if x35 = 0 then ((rc r33.2 5 (b + 341)).bind fun _ => (f_X4_writeTimes (b + 341) 35 0 r33.2).bind fun r37 => some ((), r37.2)) else ((rc r33.2 5 (b + 341)).bind fun _ => (f_X4_writeTimes (b + 341) 35 1 r33.2).bind fun r39 => some ((), r39.2)))
        | .inr q31_r => some q31_r)))
      | .inr q10_r => some q10_r)) := by
    refine UO.k (fun M H => H.2.g7 hi (j := 2) (by decide) (by decide)) ?_
    refine UO.k rc5 ?_
    refine UO.w (o_write (okO_0 _) _) (fun s1 hs1 => ?_)
    have h0 := o_sheet_15 (b := b) (V := V) hi 4 (by decide) 100 (by decide) s1 hs1
    refine UO.l h0 (fun s2 hs2 => ?_)
    refine UO.k (fun M H => H.2.g7 hi (j := 3) (by decide) (by decide)) ?_
    refine UO.i (fun _ => crs s2 hs2) (fun _ => ?_)
    refine UO.k rc5 ?_
    exact UO.w (o_write hs2 124) (fun s3 hs3 => crs s3 hs3)
  obtain ⟨s', h1, h2⟩ := all
  refine ⟨s', h1, fun M H => ?_⟩
  obtain ⟨M1, f1, a1, o1⟩ := h2 _ (OC.start H)
  refine ⟨M1, ?_, a1, (Fo.up M _ _ (by omega)).tr o1⟩
  unfold f_X4_describeSheet
  rw [H.1.o.2.2.2.1]
  exact f1
/-! read again -/
theorem l_outChar {M : Mem} (K : OC b V s M) (hs : okO s) {j : Nat} (hj : j < s.1) : f_L_outputChar b (ni j) M = some (s.2 j) := by
  have h22 := hs.1
  have o := K.1.1.o
  unfold f_L_outputChar f_X10_outputChar
  have hn : nr .char (s.2 j) = some () := by
    unfold nr
    rw [if_pos (hs.2 j hj)]
  simp only [K.1.1.rc10, Option.bind_some, if_neg (ni_pos j (by omega)), K.1.1.p.2.2.2.2.2, o.2.2.1, K.2.1, if_pos ((ni_lt (by omega) (by omega)).mpr hj : ni j < ni s.1), o.2.1, o.2.2.2.2.2 j (by omega), K.2.2 j hj, hn]
theorem l_outChar_no {M : Mem} (H : HC b V M) {n : Nat} (hn : n ≤ 22) (hl : mI M (b + 341) 1 = ni n) {x : Int32} (hx : x < 0 ∨ ni n ≤ x) : f_L_outputChar b x M = some (-1001) := by
  have o := H.1.o
  unfold f_L_outputChar f_X10_outputChar
  simp only [H.1.rc10, Option.bind_some, H.1.p.2.2.2.2.2, o.2.2.1, hl]
  rcases hx with hx | hx
  · simp only [if_pos hx]
    simp
  · by_cases h0 : x < 0
    · simp only [if_pos h0]
      simp
    · simp only [if_neg h0, if_neg (Int32.not_lt.mpr hx)]
      simp
end UOS
