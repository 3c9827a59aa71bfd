/-! ===== pure: makes, its loops ===== -/
section MK3
variable {b : Nat}
theorem k_some (x : Int32) {a : Nat} (h0 : 0 < a) (h1 : a ≤ 100) {P Q : St → Prop} {β : Type} {mk : Mem → β} {g : Int32 → Mem → Option β} (nx : ∀ r, r < a → (∀ M, f_L_some x (ni a) M = some (ni r)) → TP b P Q mk (g (ni r))) : TP b P Q mk (fun M => (f_L_some x (ni a) M).bind fun r => g r M) := by
  obtain ⟨r, hr, e⟩ := l_some x h0 h1
  exact TP.kk e (nx r hr e)
theorem Mk1.next {V : St} {n c : Nat} (h : Mk1 n c V) : Mk0 (n + 1) V := ⟨h.1, h.2.1, fun i hi h9 => h.2.2.2.2 i (by omega) h9⟩
theorem TP.m {P P1 Q : St → Prop} {β : Type} {mk : Mem → β} {f : Mem → Option β} (h : ∀ V, P V → P1 V) (nx : TP b P1 Q mk f) : TP b P Q mk f := by
  rintro M ⟨h', H, w, e, e3⟩
  exact nx M ⟨h', H, w, h _ e, e3⟩
theorem TP.m2 {P Q Q1 : St → Prop} {β : Type} {mk : Mem → β} {f : Mem → Option β} (h : ∀ V, Q1 V → Q V) (nx : TP b P Q1 mk f) : TP b P Q mk f := by
  intro M G
  obtain ⟨M', f1, ⟨h', H, w, e, e3⟩, o1⟩ := nx M G
  exact ⟨M', f1, ⟨h', H, w, h _ e, e3⟩, o1⟩
theorem k_28 (G : Nat × (Nat → Int32) × Value) (hG : G.1 ≤ 260) {m s : Nat} (hm : m ≤ 9) (hs0 : 0 < s) (hs : s ≤ 10) : ∀ k, k ≤ m → ∀ f, k < f → TP b (Mk0 (m - k)) (Mk0 m) (mkI (ni m)) (fun M => lp_L_makes_28 G b ROB (ni m) (ni s) f (ni (m - k)) M) := by
  intro k
  induction k with
  | zero =>
    intro _ f hf
    obtain ⟨f, rfl⟩ : ∃ z, f = z + 1 := ⟨f - 1, by omega⟩
    refine TP.cg (fun M => by rw [lp_L_makes_28]) ?_
    exact TP.pos ((ni_le (by omega) (by omega)).mpr (by omega)) (TP.e (mk := mkI (ni m)))
  | succ k ih =>
    intro hk f hf
    obtain ⟨f, rfl⟩ : ∃ z, f = z + 1 := ⟨f - 1, by omega⟩
    have hn : m - (k + 1) < 9 := by omega
    refine TP.cg (fun M => by rw [lp_L_makes_28]) ?_
    refine TP.neg (up_n hm (show k < m by omega)) ?_
    rw [show (2 : Int32) + ni (m - (k + 1)) = ni (2 + (m - (k + 1))) from ni_add 2 (m - (k + 1))]
    refine TP.kk (fun M => l_at G hG (by omega) M) ?_
    refine k_some _ hs0 (by omega) (fun r7 h7 _ => ?_)
    refine k_some _ hs0 (by omega) (fun r8 h8 _ => ?_)
    refine k_some _ hs0 (by omega) (fun r9 h9 _ => ?_)
    refine k_some _ hs0 (by omega) (fun r10 h10 _ => ?_)
    refine k_some (a := 3) _ (by decide) (by decide) (fun r11 h11 _ => ?_)
    refine TP.kk (fun M => rcS_ro M (by omega)) ?_
    obtain ⟨c, hc, ec⟩ := x_kinds r11 h11
    refine TP.kk ec ?_
    have st : TP b (Mk0 (m - (k + 1))) (Mk1 (m - (k + 1)) 0) (fun M => (ni (m - (k + 1)), M)) (f_L_addSheet b (ni r7) (ni r8) (ni r9) (ni r10) c) := tp_op (m := fun V => mSheet V (ni r7) (ni r8) (ni r9) (ni r10) c) (fun _ _ H w' => l_addSheet H w' _ _ _ _ _) (fun _ w' => wl_addSheet w' _ _ _ _ _) (fun V _ hP => m_sheet hn hP (isC_lt (by omega)) (isC_lt (by omega)) (isC_lt (by omega)) (isC_lt (by omega)) hc)
    refine TP.s st ?_
    dsimp only
    obtain ⟨q, hq, eq⟩ := l_some (atV G (2 + (m - (k + 1))) >>> (14 &&& 31)) (a := 4) (by decide) (by decide)
    have h104 := k_104 (b := b) G ROB (ni m) (ni s) (atV G (2 + (m - (k + 1)))) hn hq eq q (Nat.le_refl _) 5 (by omega)
    rw [Nat.sub_self] at h104
    refine TP.w h104 ?_
    dsimp only
    rw [up_m (show k < m by omega)]
    refine TP.m (P1 := Mk0 (m - k)) (fun V h => ?_) (ih (by omega) f (by omega))
    have := h.next
    rw [show m - (k + 1) + 1 = m - k by omega] at this
    exact this
theorem lay_0 {V : St} {i c t j : Nat} : layV V i c t 0 j = V 0 j := by
  unfold layV
  rw [upS_ne (by omega), upS_ne (by omega), upS_ne (by omega)]
theorem m_put {V : St} (hW : WF V) {m i : Nat} (hm : m ≤ 9) (h : Mk2 m V) (hi : i < m) {c t : Nat} (hc : c < 9) (ht : t < 4) : (0 ≤ c_put (mPut (b + 1) V (ni i) (ni c) (ni t)).1 ∨ c_put (mPut (b + 1) V (ni i) (ni c) (ni t)).1 = -1003 ∨ c_put (mPut (b + 1) V (ni i) (ni c) (ni t)).1 = -1004) ∧ Mk2 m (mPut (b + 1) V (ni i) (ni c) (ni t)).2 := by
  have hS := hS_of hm h.1 hi
  have hT : isT (ni t) = true := by
    have : ∀ t, t < 4 → isT (ni t) = true := by decide +kernel
    exact this t ht
  have e2 : Mk2 m (mPut (b + 1) V (ni i) (ni c) (ni t)).2 := by
    unfold mPut
    rw [if_pos hS, if_pos (isL_ni hc), if_pos hT]
    split
    · split
      · split
        · exact h
        · exact ⟨lay_0.trans h.1, lay_0.trans h.2⟩
      · exact h
    · exact h
  have key : 0 ≤ (mPut (b + 1) V (ni i) (ni c) (ni t)).1 ∨ (mPut (b + 1) V (ni i) (ni c) (ni t)).1 = -3 ∨ (mPut (b + 1) V (ni i) (ni c) (ni t)).1 = -4 := by
    unfold mPut
    rw [if_pos hS, if_pos (isL_ni hc), if_pos hT, sx_i hc]
    split
    · split
      · split
        · exact Or.inr (Or.inr rfl)
        · left
          obtain ⟨e, he, q⟩ := besV_r (b + 1) (layV V (sx (ni i)) c (sx (ni t))) hc
          show 0 ≤ besV (b + 1) (layV V (sx (ni i)) c (sx (ni t))) c
          rw [q]
          exact pos_ni _ (by omega)
      · exact Or.inr (Or.inl rfl)
    · exact Or.inr (Or.inl rfl)
  refine ⟨?_, e2⟩
  rcases key with hp | hp | hp
  · left
    unfold c_put
    rw [if_pos hp]
    exact hp
  · right
    left
    rw [hp]
    decide
  · right
    right
    rw [hp]
    decide
theorem k_168 (G : Nat × (Nat → Int32) × Value) (hG : G.1 ≤ 260) {m : Nat} (x3 : Int32) (hm : m ≤ 9) : ∀ k, k ≤ m → ∀ f, k < f → TP b (Mk2 m) (Mk2 m) (mkI (ni m)) (fun M => lp_L_makes_168 G b ROB (ni m) x3 f (ni (m - k)) M) := by
  intro k
  induction k with
  | zero =>
    intro _ f hf
    obtain ⟨f, rfl⟩ : ∃ z, f = z + 1 := ⟨f - 1, by omega⟩
    refine TP.cg (fun M => by rw [lp_L_makes_168]) ?_
    exact TP.pos ((ni_le (by omega) (by omega)).mpr (by omega)) (TP.e (mk := mkI (ni m)))
  | succ k ih =>
    intro hk f hf
    obtain ⟨f, rfl⟩ : ∃ z, f = z + 1 := ⟨f - 1, by omega⟩
    have hi : m - (k + 1) < m := by omega
    refine TP.cg (fun M => by rw [lp_L_makes_168]) ?_
    refine TP.neg (up_n hm (show k < m by omega)) ?_
    rw [show (12 : Int32) + ni (m - (k + 1)) = ni (12 + (m - (k + 1))) from ni_add 12 (m - (k + 1))]
    refine TP.kk (fun M => l_at G hG (by omega) M) ?_
    refine k_some (a := 9) _ (by decide) (by decide) (fun r27 h27 _ => ?_)
    refine k_some (a := 4) _ (by decide) (by decide) (fun r28 h28 _ => ?_)
    have nx := ih (by omega) f (by omega)
    refine TP.any (P1 := Mk2 m) (Y := fun y => 0 ≤ y ∨ y = -1003 ∨ y = -1004) ?_ (fun y hy => ?_)
    · rintro M ⟨h, H, w, e, e3⟩
      obtain ⟨M', f1, H1, o1⟩ := l_put H w (ni (m - (k + 1))) (ni r27) (ni r28)
      have z := m_put (b := b) w.1 hm e hi h27 h28
      have r := hC_rec h (mPut (b + 1) (hC h) (ni (m - (k + 1))) (ni r27) (ni r28))
      exact ⟨_, M', f1, z.1, ⟨_, H1, wl_put w _ _ _, by rw [r.1]; exact z.2, r.2.trans e3⟩, o1⟩
    · dsimp only
      rw [up_m (show k < m by omega)]
      by_cases h0 : 0 ≤ y
      · refine TP.pos h0 ?_
        exact nx
      refine TP.neg h0 ?_
      by_cases h1 : y = -1003
      · refine TP.pos h1 ?_
        exact nx
      refine TP.neg h1 ?_
      by_cases h2 : y = -1004
      · refine TP.pos h2 ?_
        exact nx
      rcases hy with hy | hy | hy
      · exact absurd hy h0
      · exact absurd hy h1
      · exact absurd hy h2
theorem ps1 : ∀ r, r < 20 → ¬ ni (1 + r) < 1 ∧ ni (1 + r) ≤ 20 ∧ (0 : Int32) + ni (1 + r) ≤ 50 ∧ 0 ≤ (0 : Int32) + ni (1 + r) ∧ ¬ (0 : Int32) + ni (1 + r) ≤ 0 := by decide +kernel
theorem k_makes (G : Nat × (Nat → Int32) × Value) (hG : G.1 ≤ 260) : TP b (Mk0 0) (fun V => ∃ n, n < 9 ∧ V 0 2 = ni (n + 1)) (fun M => ((1 : Int32), M)) (f_L_makes G b ROB) := by
  unfold f_L_makes
  refine TP.kk (fun M => l_at G hG (i := 0) (by decide) M) ?_
  refine k_some (a := 6) _ (by decide) (by decide) (fun r2 h2 _ => ?_)
  refine TP.kk (fun M => l_at G hG (i := 1) (by decide) M) ?_
  refine k_some (a := 3) _ (by decide) (by decide) (fun r4 h4 _ => ?_)
  rw [show (4 : Int32) + ni r2 = ni (4 + r2) from ni_add 4 r2, show (1 : Int32) + ni r4 = ni (1 + r4) from ni_add 1 r4]
  have h28 := k_28 (b := b) G hG (m := 4 + r2) (s := 1 + r4) (by omega) (by omega) (by omega) (4 + r2) (Nat.le_refl _) 11 (by omega)
  rw [Nat.sub_self] at h28
  refine TP.w h28 ?_
  dsimp only
  have h168 := k_168 (b := b) G hG (m := 4 + r2) (ni (1 + r4)) (by omega) (4 + r2) (Nat.le_refl _) 11 (by omega)
  rw [Nat.sub_self] at h168
  refine TP.w (TP.m (P1 := Mk2 (4 + r2)) (fun V h => ⟨h.1, h.2.1⟩) h168) ?_
  dsimp only
  refine TP.kk (fun M => l_at G hG (i := 22) (by decide) M) ?_
  refine k_some (a := 20) _ (by decide) (by decide) (fun r35 h35 _ => ?_)
  rw [show (1 : Int32) + ni r35 = ni (1 + r35) from ni_add 1 r35]
  have z := ps1 r35 h35
  have st : TP b (Mk2 (4 + r2)) (fun V => ∃ n, n < 9 ∧ V 0 2 = ni (n + 1)) (fun M => ((0 : Int32) + ni (1 + r35), M)) (f_L_addPaste b (ni (1 + r35))) := tp_op (m := fun V => mPaste V (ni (1 + r35))) (fun _ _ H w' => l_addPaste H w' _) (fun _ w' => wl_addPaste w' _) (fun V _ hP => by
    have e : mPaste V (ni (1 + r35)) = (0 + ni (1 + r35), upS V 0 3 (0 + ni (1 + r35))) := by
      unfold mPaste
      rw [if_neg z.1, if_pos z.2.1, hP.2, if_pos z.2.2.1]
    rw [e]
    refine ⟨if_pos z.2.2.2.1, 3 + r2, by omega, ?_⟩
    dsimp only
    rw [upS_ne (by omega), hP.1, show 4 + r2 = 3 + r2 + 1 by omega])
  refine TP.w st ?_
  dsimp only
  refine TP.neg z.2.2.2.2 ?_
  exact TP.e (mk := fun M => ((1 : Int32), M))
end MK3
