/-! ===== pure: the first hall: sheets, creases, changes ===== -/
section H2
variable {G : Nat × (Nat → Int32) × Value}
def LQ (i : Nat) : Nat → St := fun s => SQ (i - 1 - s)
def UH8 (i : Nat) (h : Hs) : Prop := US (SQ i) (LQ i) (min 8 i) 8 h
theorem r_140 : ∀ k, k ≤ 9 → ∀ n, k < n → ∀ h M, Hall 0 h M → US (shV (9 - k)) (fun _ => V0) 0 (min 8 (10 - k)) h → ∃ h' M', lp_L_law_140 G ROB 0 n (ni (9 - k)) M = some (.inl (9, M')) ∧ Hall 0 h' M' ∧ US (shV 9) (fun _ => V0) 0 8 h' ∧ Fo 0 343 M M' := by
  intro k
  induction k with
  | zero =>
    intro _ n hn h M H u
    obtain ⟨n, rfl⟩ : ∃ z, n = z + 1 := ⟨n - 1, by omega⟩
    refine ⟨h, M, ?_, H, u, Fo.rf _ _ _⟩
    rw [lp_L_law_140]
    exact if_pos (by decide)
  | succ k ih =>
    intro hk n hn h M H u
    obtain ⟨n, rfl⟩ : ∃ z, n = z + 1 := ⟨n - 1, by omega⟩
    have w := u.1
    have ec : hC h = shV (9 - (k + 1)) := u.2.1
    obtain ⟨M1, f1, H1, o1⟩ := l_addSheet H w (ni (9 - (k + 1))) (ni (9 - (k + 1))) (ni (9 - (k + 1))) (ni (9 - (k + 1))) 99
    have w1 := wl_addSheet w (ni (9 - (k + 1))) (ni (9 - (k + 1))) (ni (9 - (k + 1))) (ni (9 - (k + 1))) 99
    rw [ec, e_sheet (by omega)] at f1 H1 w1
    have hz : (0 : Int32) ≤ ni (9 - (k + 1)) := (ni_le (i := 0) (by omega) (by omega)).mpr (Nat.zero_le _)
    have u1 := u.keep (L' := fun _ => V0) (q' := 0) w1 hz (by omega) (by decide) (fun z => absurd z (Nat.lt_irrefl 0)) (fun s z => absurd z (by omega))
    rw [show 9 - (k + 1) + 1 = 9 - k by omega] at u1 H1
    rw [show min 8 (min 8 (10 - (k + 1)) + 1) = min 8 (10 - k) by omega] at u1
    obtain ⟨h2, M2, f2, H2, u2, o2⟩ := ih (by omega) n (by omega) _ M1 H1 u1
    refine ⟨h2, M2, ?_, H2, u2, o1.tr o2⟩
    have c1 : c_addSheet (ni (9 - (k + 1))) = ni (9 - (k + 1)) := if_pos hz
    rw [show ((ni (9 - (k + 1)), shV (9 - k)).1 : Int32) = ni (9 - (k + 1)) from rfl, c1] at f1
    rw [lp_L_law_140, if_neg (up9a k (by omega)), f1, Option.bind_some, if_pos rfl, up9b k (by omega)]
    exact f2
theorem up6a : ∀ k, k < 6 → ¬ (6 : Int32) ≤ ni (6 - (k + 1)) := by decide +kernel
theorem up6b : ∀ k, k < 6 → ni (6 - (k + 1)) + 1 = ni (6 - k) := by decide +kernel
theorem sq_cr {i : Nat} (h : i ≤ 6) : SQ i = crV i := if_pos h
theorem UH8.keep {i : Nat} {h : Hs} {a : Int32} (u : UH8 i h) (w : WH (recH h (a, SQ (i + 1)))) (ha : 0 ≤ a) : UH8 (i + 1) (recH h (a, SQ (i + 1))) := by
  have := US.keep (L' := LQ (i + 1)) (q' := min 8 (i + 1)) u w ha (by omega) (by omega) (fun _ => by show SQ (i + 1 - 1 - 0) = SQ i; rw [show i + 1 - 1 - 0 = i by omega]) (fun s _ => by show SQ (i + 1 - 1 - (s + 1)) = SQ (i - 1 - s); rw [show i + 1 - 1 - (s + 1) = i - 1 - s by omega])
  exact this
theorem r_188 : ∀ k, k ≤ 6 → ∀ n, k < n → ∀ h M, Hall 0 h M → UH8 (6 - k) h → ∃ h' M', lp_L_law_188 G ROB 0 n (ni (6 - k)) M = some (.inl (6, M')) ∧ Hall 0 h' M' ∧ UH8 6 h' ∧ Fo 0 343 M M' := by
  intro k
  induction k with
  | zero =>
    intro _ n hn h M H u
    obtain ⟨n, rfl⟩ : ∃ z, n = z + 1 := ⟨n - 1, by omega⟩
    refine ⟨h, M, ?_, H, u, Fo.rf _ _ _⟩
    rw [lp_L_law_188]
    exact if_pos (by decide)
  | succ k ih =>
    intro hk n hn h M H u
    obtain ⟨n, rfl⟩ : ∃ z, n = z + 1 := ⟨n - 1, by omega⟩
    have w := u.1
    have ec : hC h = crV (6 - (k + 1)) := u.2.1.trans (sq_cr (by omega))
    obtain ⟨M1, f1, H1, o1⟩ := l_addCrease H w 8 118
    have w1 := wl_addCrease w 8 118
    rw [ec, e_crease (by omega), ← sq_cr (i := 6 - (k + 1) + 1) (by omega)] at f1 H1 w1
    have hz : (0 : Int32) ≤ ni (6 - (k + 1) + 1) := (ni_le (i := 0) (by omega) (by omega)).mpr (Nat.zero_le _)
    have u1 := u.keep w1 hz
    have e6 : 6 - (k + 1) + 1 = 6 - k := by omega
    have c1 : c_addCrease (ni (6 - (k + 1) + 1)) = ni (6 - (k + 1) + 1) := if_pos hz
    rw [show ((ni (6 - (k + 1) + 1), SQ (6 - (k + 1) + 1)).1 : Int32) = ni (6 - (k + 1) + 1) from rfl, c1] at f1
    rw [e6] at u1 H1 f1
    obtain ⟨h2, M2, f2, H2, u2, o2⟩ := ih (by omega) n (by omega) _ M1 H1 u1
    refine ⟨h2, M2, ?_, H2, u2, o1.tr o2⟩
    rw [lp_L_law_188, if_neg (up6a k (by omega)), f1, Option.bind_some, up6b k (by omega), if_pos rfl]
    exact f2
/-- a kept call, from one state to the next -/
theorem st_keep {i : Nat} {h : Hs} {M : Mem} {m : St → Int32 × St} {c : Int32 → Int32} {f : Mem → Option (Int32 × Mem)} (hl : ∀ h M, Hall 0 h M → WH h → ∃ M', f M = some (c (m (hC h)).1, M') ∧ Hall 0 (recH h (m (hC h))) M' ∧ Fo 0 343 M M') (hw : ∀ h, WH h → WH (recH h (m (hC h)))) {a : Int32} (e : m (SQ i) = (a, SQ (i + 1))) (ha : 0 ≤ a) (hc : c a = a) (H : Hall 0 h M) (u : UH8 i h) : ∃ h' M', f M = some (a, M') ∧ Hall 0 h' M' ∧ UH8 (i + 1) h' ∧ Fo 0 343 M M' := by
  obtain ⟨M1, f1, H1, o1⟩ := hl h M H u.1
  have w1 := hw h u.1
  have ec : hC h = SQ i := u.2.1
  rw [ec, e] at f1 H1 w1
  rw [show ((a, SQ (i + 1)).1 : Int32) = a from rfl, hc] at f1
  exact ⟨_, M1, f1, H1, u.keep w1 ha, o1⟩
theorem st_ref {V : St} {L : Nat → St} {q k : Nat} {h : Hs} {M : Mem} {m : St → Int32 × St} {c : Int32 → Int32} {f : Mem → Option (Int32 × Mem)} (hl : ∀ h M, Hall 0 h M → WH h → ∃ M', f M = some (c (m (hC h)).1, M') ∧ Hall 0 (recH h (m (hC h))) M' ∧ Fo 0 343 M M') (hw : ∀ h, WH h → WH (recH h (m (hC h)))) {a r : Int32} (e : m V = (a, V)) (ha : ¬ 0 ≤ a) (hc : c a = r) (H : Hall 0 h M) (u : US V L q k h) : ∃ h' M', f M = some (r, M') ∧ Hall 0 h' M' ∧ US V L q k h' ∧ Fo 0 343 M M' := by
  obtain ⟨M1, f1, H1, o1⟩ := hl h M H u.1
  have w1 := hw h u.1
  have ec : hC h = V := u.2.1
  rw [ec, e] at f1 H1 w1
  rw [show ((a, V).1 : Int32) = a from rfl, hc] at f1
  exact ⟨_, M1, f1, H1, u.ref w1 ha, o1⟩
theorem r_138 {h : Hs} {M : Mem} (H : Hall 0 h M) (u : US c20 (fun _ => V0) 0 1 h) : ∃ h' M', rg_L_law_138 G ROB 0 M = some (.inl M') ∧ Hall 0 h' M' ∧ UH8 12 h' ∧ Fo 0 343 M M' := by
  obtain ⟨h1, M1, f1, H1, u1, o1⟩ := r_140 (G := G) 9 (Nat.le_refl _) 10 (by decide) h M H u
  have f1' : lp_L_law_140 G ROB 0 10 0 M = some (.inl (9, M1)) := f1
  obtain ⟨h2, M2, f2, H2, u2, o2⟩ := st_ref (m := fun V => mSheet V 0 0 0 0 99) (c := c_addSheet) (f := f_L_addSheet 0 0 0 0 0 99) (r := -1002) (fun _ _ H w => l_addSheet H w _ _ _ _ _) (fun _ w => wl_addSheet w _ _ _ _ _) e_sheet9 (by decide) (by decide) H1 u1
  have u2' : UH8 (6 - 6) h2 := ⟨u2.1, u2.2.1, u2.2.2.1, u2.2.2.2.1, u2.2.2.2.2.1, by decide, fun s hs => absurd hs (Nat.not_lt_zero s)⟩
  obtain ⟨h3, M3, f3, H3, u3, o3⟩ := r_188 (G := G) 6 (Nat.le_refl _) 7 (by decide) h2 M2 H2 u2'
  have f3' : lp_L_law_188 G ROB 0 7 0 M2 = some (.inl (6, M3)) := f3
  obtain ⟨h4, M4, f4, H4, u4, o4⟩ := st_ref (m := fun V => mCrease V 8 109) (c := c_addCrease) (f := f_L_addCrease 0 8 109) (r := -1003) (fun _ _ H w => l_addCrease H w _ _) (fun _ w => wl_addCrease w _ _) e_crease6 (by decide) (by decide) H3 u3
  obtain ⟨h5, M5, f5, H5, u5, o5⟩ := st_keep (i := 6) (m := fun V => mFold V 8) (c := c_fold) (f := f_L_fold 0 8) (fun _ _ H w => l_fold H w _) (fun _ w => wl_fold w _) e_fold (by decide) (by decide) H4 u4
  obtain ⟨h6, M6, f6, H6, u6, o6⟩ := st_keep (i := 7) (m := fun V => mUnfold (0 + 1) V 8) (c := c_unfold) (f := f_L_unfold 0 8) (fun _ _ H w => l_unfold H w _) (fun _ w => wl_unfold w _) e_unfold (by decide) (by decide) H5 u5
  obtain ⟨h7, M7, f7, H7, u7, o7⟩ := st_keep (i := 8) (m := fun V => mMend V 8) (c := c_mend) (f := f_L_mend 0 8) (fun _ _ H w => l_mend H w _) (fun _ w => wl_mend w _) e_mend (by decide) (by decide) H6 u6
  obtain ⟨h8, M8, f8, H8, u8, o8⟩ := st_keep (i := 9) (m := fun V => mPut (0 + 1) V 8 4 3) (c := c_put) (f := f_L_put 0 8 4 3) (fun _ _ H w => l_put H w _ _ _) (fun _ w => wl_put w _ _ _) e_put1 (by decide) (by decide) H7 u7
  obtain ⟨h9, M9, f9, H9, u9, o9⟩ := st_ref (m := fun V => mPut (0 + 1) V 7 4 0) (c := c_put) (f := f_L_put 0 7 4 0) (r := -1003) (fun _ _ H w => l_put H w _ _ _) (fun _ w => wl_put w _ _ _) e_put2 (by decide) (by decide) H8 u8
  obtain ⟨hA, MA, fA, HA, uA, oA⟩ := st_ref (m := fun V => mPut (0 + 1) V 7 5 0) (c := c_put) (f := f_L_put 0 7 5 0) (r := -1004) (fun _ _ H w => l_put H w _ _ _) (fun _ w => wl_put w _ _ _) e_put3 (by decide) (by decide) H9 u9
  obtain ⟨hB, MB, fB, HB, uB, oB⟩ := st_keep (i := 10) (m := fun V => mPut (0 + 1) V 7 8 2) (c := c_put) (f := f_L_put 0 7 8 2) (fun _ _ H w => l_put H w _ _ _) (fun _ w => wl_put w _ _ _) e_put4 (by decide) (by decide) HA uA
  obtain ⟨hC', MC, fC, HC', uC, oC⟩ := st_keep (i := 11) (m := fun V => mTake V 4) (c := c_take) (f := f_L_take 0 4) (fun _ _ H w => l_take H w _) (fun _ w => wl_take w _) e_take (by decide) (by decide) HB uB
  have fD := x_undos HC'
  rw [uC.2.2.1] at fD
  refine ⟨hC', MC, ?_, HC', uC, ((((((((((o1.tr o2).tr o3).tr o4).tr o5).tr o6).tr o7).tr o8).tr o9).tr oA).tr oB).tr oC⟩
  rw [rg_L_law_138, f1', Option.bind_some]
  dsimp only
  rw [f2, Option.bind_some, if_pos rfl, f3', Option.bind_some]
  dsimp only
  rw [f4, Option.bind_some, if_pos rfl, f5, Option.bind_some, if_pos rfl, f6, Option.bind_some, if_pos rfl, f7, Option.bind_some, if_pos rfl, f8, Option.bind_some, if_pos rfl, f9, Option.bind_some, if_pos rfl, fA, Option.bind_some, if_pos rfl, fB, Option.bind_some, if_pos rfl, fC, Option.bind_some, if_pos rfl, HC'.1.rc10, Option.bind_some, fD, Option.bind_some, if_pos (show ni 8 = 8 from rfl)]
end H2
