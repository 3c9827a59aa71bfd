/-! ===== pure: a hall made, whole ===== -/
theorem At.rg {B : Nat} {V : St} {M M' : Mem} (A : At B V M) (r : Rg B (B + 30) M M') (hN : mN M ≤ mN M') : At B V M' := by
  have S : ∀ k, B ≤ k → k < B + 30 → mS M' k = mS M k := fun k h0 hk => (r k h0 hk).1
  have P : ∀ k j, B ≤ k → k < B + 30 → mP M' k j = mP M k j := fun k j h0 hk => ((r k h0 hk).2 j).2
  have I : ∀ k j, B ≤ k → k < B + 30 → mI M' k j = mI M k j := fun k j h0 hk => ((r k h0 hk).2 j).1
  obtain ⟨⟨q1, q2, q3, q4, q5, q6, q7⟩, r1, r2, r3⟩ := A
  refine ⟨⟨by omega, ?_, ?_, ?_, ?_, ?_, fun i hi => ?_⟩, fun j h1 h2 => ?_, fun c hc => ?_, fun i hi => ⟨fun j h1 h2 => ?_, fun z => ?_, fun j hj => ?_, fun j hj => ?_⟩⟩
  · rw [S _ (by omega) (by omega)]; exact q2
  · rw [P _ _ (by omega) (by omega)]; exact q3
  · rw [P _ _ (by omega) (by omega)]; exact q4
  · rw [S _ (by omega) (by omega)]; exact q5
  · rw [S _ (by omega) (by omega)]; exact q6
  · rw [P _ _ (by omega) (by omega), S _ (by omega) (by omega), P _ _ (by omega) (by omega), P _ _ (by omega) (by omega), S _ (by omega) (by omega), S _ (by omega) (by omega)]
    exact q7 i hi
  · rw [I _ _ (by omega) (by omega)]; exact r1 j h1 h2
  · rw [I _ _ (by omega) (by omega)]; exact r2 c hc
  · rw [I _ _ (by omega) (by omega)]; exact (r3 i hi).1 j h1 h2
  · rw [I _ _ (by omega) (by omega)]; exact (r3 i hi).2.1 z
  · rw [I _ _ (by omega) (by omega)]; exact (r3 i hi).2.2.1 j hj
  · rw [I _ _ (by omega) (by omega)]; exact (r3 i hi).2.2.2 j hj
/-- the ring under way -/
def Hk (H k : Nat) (M : Mem) : Prop := mN M = H + 2 + 30 * k ∧ mS M H = (4, 0) ∧ mP M H 0 = .ref (H + 1) ∧ mS M (H + 1) = (121, 9) ∧ (∀ j, mI M H j = 0) ∧ ∀ i, i < k → mP M (H + 1) i = .ref (H + 2 + 30 * i) ∧ At (H + 2 + 30 * i) V0 M
theorem i3_15 {H : Nat} (hR : H + 900 < ROB) : ∀ k, k ≤ 9 → ∀ n, k < n → ∀ M, Hk H (9 - k) M → ∃ M', lp_X3_init_15 H n (ni (9 - k)) M = some (.inl (9, M')) ∧ Hk H 9 M' ∧ Lo H M M' := by
  intro k
  induction k with
  | zero =>
    intro _ n hn M h
    obtain ⟨n, rfl⟩ : ∃ z, n = z + 1 := ⟨n - 1, by omega⟩
    refine ⟨M, ?_, h, fun _ _ => ⟨rfl, fun _ => ⟨rfl, rfl, rfl⟩⟩⟩
    rw [lp_X3_init_15]
    exact if_pos (by decide)
  | succ k ih =>
    intro hk n hn M h
    obtain ⟨n, rfl⟩ : ∃ z, n = z + 1 := ⟨n - 1, by omega⟩
    obtain ⟨q1, q2, q3, q4, q5, q6⟩ := h
    obtain ⟨M1, f1, s1, n1, l1⟩ := x_i9 (Nw.mk (t := 9) (n := 0) q1) (by omega)
    have l0 := (Lo.new M 9 0).mo (show H + 2 + 30 * (9 - (k + 1)) ≤ mN M by omega)
    have l2 := l0.tr l1
    have r2 : Rg H (H + 2 + 30 * (9 - (k + 1))) M M1 := Rg.lo l2 (Nat.le_refl _)
    have e5 : mS M1 (H + 1) = (121, 9) := by rw [(r2 (H + 1) (by omega) (by omega)).1]; exact q4
    obtain ⟨M2, f2, s2, l3⟩ := ih (by omega) n (by omega) (mUP M1 (H + 1) (9 - (k + 1)) (.ref (H + 2 + 30 * (9 - (k + 1))))) (by
      refine ⟨by rw [mN_UP]; omega, ?_, ?_, e5, fun j => ?_, fun i hi => ⟨?_, ?_⟩⟩
      · rw [mS_UP, (r2 H (by omega) (by omega)).1]; exact q2
      · rw [mP_UP, if_neg (by omega), ((r2 H (by omega) (by omega)).2 _).2]; exact q3
      · rw [mI_UP, ((r2 H (by omega) (by omega)).2 _).1]; exact q5 j
      · rw [mP_UP]
        by_cases e : i = 9 - (k + 1)
        · rw [if_pos ⟨rfl, e⟩, e]
        · rw [if_neg (fun z => e z.2), ((r2 (H + 1) (by omega) (by omega)).2 _).2]
          exact (q6 i (by omega)).1
      · by_cases e : i = 9 - (k + 1)
        · rw [e]
          exact s1.rg (Rg.p (Or.inl (by omega))) (Nat.le_refl _)
        · exact ((q6 i (by omega)).2.rg (r2.mo (by omega)) (by omega)).rg (Rg.p (Or.inl (by omega))) (Nat.le_refl _))
    refine ⟨M2, ?_, s2, ((l2.mo (by omega)).tr (Lo.p _ _ (by omega))).tr l3⟩
    have s9 : (mS M1 (H + 2 + 30 * (9 - (k + 1)))).1 = 9 := by rw [s1.1.2.1]
    rw [lp_X3_init_15, if_neg (up9a k (by omega)), gP_ok (by rw [q2]) (by omega) q3, Option.bind_some, gd3 (by omega) (by omega) (by omega), Option.bind_some, Option.bind_some, gd4 (by rw [mN_new]; omega) (by rw [mN_new]; omega) (by rw [mN_new]; omega) (by rw [mN_new]; omega), Option.bind_some, q1, f1, Option.bind_some]
    dsimp only
    rw [asP_ok e5 (by omega) (by omega) (by omega) s9 (by omega), Option.bind_some, up9b k (by omega)]
    exact f2
theorem x_i3 {H : Nat} {M : Mem} (h : Nw 4 0 H M) (hR : H + 900 < ROB) : ∃ M', f_X3_init H M = some ((), M') ∧ Hk H 9 M' ∧ Lo H M M' := by
  obtain ⟨h1, h2, h3⟩ := h
  obtain ⟨e1, e2, e3, e4, e5, e6, e7, e8, -⟩ := x_row (t := 121) (n := 9) (ci := 4) (a := H) (j := 0) h1 (by omega) (by rw [h2])
  have l1 : Lo H M (mUP (mNew M 121 9) H 0 (.ref (H + 1))) := (Lo.row h1).resolve_right (by omega)
  generalize mUP (mNew M 121 9) H 0 (.ref (H + 1)) = M1 at e1 e2 e3 e4 e5 e6 e7 e8 l1
  obtain ⟨M3, f3, k3, l3⟩ := i3_15 (H := H) hR 9 (Nat.le_refl _) 100 (by decide) M1 ⟨by omega, by rw [e6 H (by omega), h2], e5, e3, fun j => by rw [e7 H j (by omega), h3], fun i hi => absurd hi (Nat.not_lt_zero i)⟩
  have f3' : lp_X3_init_15 H 100 0 M1 = some (.inl (9, M3)) := f3
  refine ⟨M3, ?_, k3, l1.tr l3⟩
  unfold f_X3_init
  rw [gd1 (by omega) (by omega), Option.bind_some, na4.2.2.2.1, Option.bind_some, Option.bind_some, tn4.2.2.2.1, e1, Option.bind_some, f3', Option.bind_some]
/-- an object with one row -/
def O1 (ci t n a : Nat) (M : Mem) : Prop := mS M a = (ci, 0) ∧ mP M a 0 = .ref (a + 1) ∧ mS M (a + 1) = (t, n) ∧ ∀ j, mI M a j = 0
theorem O1.mk {ci t n a : Nat} {M : Mem} (h : Nw ci 0 a M) : sP (mNew M t n) ci a 0 (mN M) = some (mUP (mNew M t n) a 0 (.ref (a + 1))) ∧ O1 ci t n a (mUP (mNew M t n) a 0 (.ref (a + 1))) ∧ mN (mUP (mNew M t n) a 0 (.ref (a + 1))) = a + 2 ∧ Lo a M (mUP (mNew M t n) a 0 (.ref (a + 1))) := by
  obtain ⟨h1, h2, h3⟩ := h
  obtain ⟨e1, e2, e3, e4, e5, e6, e7, e8, -⟩ := x_row (t := t) (n := n) (ci := ci) (a := a) (j := 0) h1 (by omega) (by rw [h2])
  exact ⟨e1, ⟨by rw [e6 a (by omega), h2], e5, e3, fun j => by rw [e7 a j (by omega), h3]⟩, e2, (Lo.row h1).resolve_right (by omega)⟩
theorem O1.rg {ci t n a : Nat} {M M' : Mem} (h : O1 ci t n a M) (r : Rg a (a + 2) M M') : O1 ci t n a M' := by
  obtain ⟨q1, q2, q3, q4⟩ := h
  refine ⟨?_, ?_, ?_, fun j => ?_⟩
  · rw [(r a (by omega) (by omega)).1]; exact q1
  · rw [((r a (by omega) (by omega)).2 _).2]; exact q2
  · rw [(r (a + 1) (by omega) (by omega)).1]; exact q3
  · rw [((r a (by omega) (by omega)).2 _).1]; exact q4 j
theorem x_i2 {a : Nat} {M : Mem} (h : Nw 3 0 a M) (hR : a + 400 < ROB) : ∃ M', f_X2_init a M = some ((), M') ∧ O1 3 100 9 a M' ∧ mN M' = a + 2 ∧ Lo a M M' := by
  obtain ⟨e1, e2, e3, e4⟩ := O1.mk (t := 100) (n := 9) h
  refine ⟨_, ?_, e2, e3, e4⟩
  have h1 := h.1
  unfold f_X2_init
  rw [gd1 (by omega) (by omega), Option.bind_some, na4.2.2.2.1, Option.bind_some, Option.bind_some, tn4.2.2.2.1, e1, Option.bind_some]
theorem x_i8 {a : Nat} {M : Mem} (h : Nw 8 0 a M) (hR : a + 400 < ROB) : ∃ M', f_X8_init a M = some ((), M') ∧ O1 8 100 7 a M' ∧ mN M' = a + 2 ∧ Lo a M M' := by
  obtain ⟨e1, e2, e3, e4⟩ := O1.mk (t := 100) (n := 7) h
  refine ⟨_, ?_, e2, e3, e4⟩
  have h1 := h.1
  unfold f_X8_init
  rw [gd1 (by omega) (by omega), Option.bind_some, na4.2.2.1, Option.bind_some, Option.bind_some, tn4.2.2.1, e1, Option.bind_some]
theorem x_i4 {a : Nat} {M : Mem} (h : Nw 5 0 a M) (hR : a + 400 < ROB) : ∃ M', f_X4_init a M = some ((), M') ∧ O1 5 101 22 a M' ∧ mN M' = a + 2 ∧ Lo a M M' := by
  obtain ⟨e1, e2, e3, e4⟩ := O1.mk (t := 101) (n := 22) h
  refine ⟨_, ?_, e2, e3, e4⟩
  have h1 := h.1
  unfold f_X4_init
  rw [gd1 (by omega) (by omega), Option.bind_some, na4.2.2.2.2.1, Option.bind_some, Option.bind_some, tn4.2.2.2.2.1, e1, Option.bind_some]
/-- a script just made -/
def Sc (a : Nat) (M : Mem) : Prop := mS M a = (6, 0) ∧ mP M a 0 = .ref (a + 1) ∧ mP M a 1 = .ref (a + 2) ∧ mP M a 2 = .ref (a + 3) ∧ mS M (a + 1) = (101, 60) ∧ mS M (a + 2) = (100, 60) ∧ mS M (a + 3) = (100, 60) ∧ ∀ j, mI M a j = 0
theorem Sc.rg {a : Nat} {M M' : Mem} (h : Sc a M) (r : Rg a (a + 4) M M') : Sc a M' := by
  obtain ⟨q1, q2, q3, q4, q5, q6, q7, q8⟩ := h
  refine ⟨?_, ?_, ?_, ?_, ?_, ?_, ?_, fun j => ?_⟩
  · rw [(r a (by omega) (by omega)).1]; exact q1
  · rw [((r a (by omega) (by omega)).2 _).2]; exact q2
  · rw [((r a (by omega) (by omega)).2 _).2]; exact q3
  · rw [((r a (by omega) (by omega)).2 _).2]; exact q4
  · rw [(r (a + 1) (by omega) (by omega)).1]; exact q5
  · rw [(r (a + 2) (by omega) (by omega)).1]; exact q6
  · rw [(r (a + 3) (by omega) (by omega)).1]; exact q7
  · rw [((r a (by omega) (by omega)).2 _).1]; exact q8 j
theorem x_i6 {a : Nat} {M : Mem} (h : Nw 6 0 a M) (hR : a + 400 < ROB) : ∃ M', f_X6_init a M = some ((), M') ∧ Sc a M' ∧ mN M' = a + 4 ∧ Lo a M M' := by
  obtain ⟨h1, h2, h3⟩ := h
  obtain ⟨e1, e2, e3, e4, e5, e6, e7, e8, -⟩ := x_row (t := 101) (n := 60) (ci := 6) (a := a) (j := 0) h1 (by omega) (by rw [h2])
  have l1 : Lo a M (mUP (mNew M 101 60) a 0 (.ref (a + 1))) := (Lo.row h1).resolve_right (by omega)
  generalize mUP (mNew M 101 60) a 0 (.ref (a + 1)) = M1 at e1 e2 e3 e4 e5 e6 e7 e8 l1
  obtain ⟨g1, g2, g3, g4, g5, g6, g7, g8, -⟩ := x_row (t := 100) (n := 60) (ci := 6) (a := a) (j := 1) e2 (by omega) (by rw [e6 a (by omega), h2])
  have l2 : Lo a M1 (mUP (mNew M1 100 60) a 1 (.ref (a + 1 + 1))) := (Lo.row e2).resolve_right (by omega)
  generalize mUP (mNew M1 100 60) a 1 (.ref (a + 1 + 1)) = M2 at g1 g2 g3 g4 g5 g6 g7 g8 l2
  obtain ⟨k1, k2, k3, k4, k5, k6, k7, k8, -⟩ := x_row (t := 100) (n := 60) (ci := 6) (a := a) (j := 2) g2 (by omega) (by rw [g6 a (by omega), e6 a (by omega), h2])
  have l3 : Lo a M2 (mUP (mNew M2 100 60) a 2 (.ref (a + 1 + 1 + 1))) := (Lo.row g2).resolve_right (by omega)
  generalize mUP (mNew M2 100 60) a 2 (.ref (a + 1 + 1 + 1)) = M3 at k1 k2 k3 k4 k5 k6 k7 k8 l3
  refine ⟨M3, ?_, ⟨?_, ?_, ?_, k5, ?_, ?_, k3, fun j => ?_⟩, k2, (l1.tr l2).tr l3⟩
  · unfold f_X6_init
    rw [gd1 (by omega) (by omega), Option.bind_some, na4.2.2.2.2.2, Option.bind_some, Option.bind_some, tn4.2.2.2.2.2, e1, Option.bind_some, gd1 (by omega) (by omega), Option.bind_some, Option.bind_some, Option.bind_some, g1, Option.bind_some, gd1 (by omega) (by omega), Option.bind_some, Option.bind_some, Option.bind_some, k1, Option.bind_some]
  · rw [k6 a (by omega), g6 a (by omega), e6 a (by omega), h2]
  · rw [k8 a 0 (by omega) (Or.inr (by decide)), g8 a 0 (by omega) (Or.inr (by decide)), e5]
  · rw [k8 a 1 (by omega) (Or.inr (by decide)), g5]
  · rw [k6 (a + 1) (by omega), g6 (a + 1) (by omega), e3]
  · rw [k6 (a + 2) (by omega), g3]
  · rw [k7 a j (by omega), g7 a j (by omega), e7 a j (by omega), h3]
/-- the hall's object under way -/
def HO (b : Nat) (Pf : Nat → Value) (M : Mem) : Prop := mS M b = (10, 0) ∧ b < mN M ∧ (∀ j, mI M b j = 0) ∧ ∀ j, mP M b j = Pf j
def hoP (Pf : Nat → Value) (j N : Nat) : Nat → Value := fun i => if i = j then .ref N else Pf i
theorem HO.st {b t N j : Nat} {Pf : Nat → Value} {M M' : Mem} (h : HO b Pf M) (hN : mN M = N) (l : Lo N (mNew M t 0) M') (hn : N < mN M') : sP M' 10 b j N = some (mUP M' b j (.ref N)) ∧ HO b (hoP Pf j N) (mUP M' b j (.ref N)) ∧ Rg (b + 1) N M (mUP M' b j (.ref N)) ∧ Rg (b + 1) (mN M') M' (mUP M' b j (.ref N)) ∧ Lo b M (mUP M' b j (.ref N)) := by
  obtain ⟨q1, q2, q3, q4⟩ := h
  have l0 : Lo N M M' := ((Lo.new M t 0).mo (by omega)).tr l
  have r0 : Rg 0 N M M' := Rg.lo l0 (Nat.le_refl _)
  have s1 : mS M' b = (10, 0) := by rw [(r0 b (by omega) (by omega)).1]; exact q1
  refine ⟨sP_ok (by rw [s1]) (by omega) hn, ⟨s1, by rw [mN_UP]; omega, fun i => ?_, fun i => ?_⟩, (r0.mo (by omega)).tr (Rg.p (by omega)), Rg.p (by omega), (l0.mo (by omega)).tr (Lo.p _ _ (Nat.le_refl _))⟩
  · rw [mI_UP, ((r0 b (by omega) (by omega)).2 _).1]; exact q3 i
  · unfold hoP
    rw [mP_UP]
    by_cases e : i = j
    · rw [if_pos ⟨rfl, e⟩, if_pos e]
    · rw [if_neg (fun z => e z.2), if_neg e, ((r0 b (by omega) (by omega)).2 _).2]; exact q4 i
theorem HO.go {b t N N2 j : Nat} {Pf : Nat → Value} {M : Mem} {f : Nat → Mem → Option (Unit × Mem)} {Q : Mem → Prop} (h : HO b Pf M) (hN : mN M = N) (hR : N + 1 < ROB) (hf : ∃ M', f N (mNew M t 0) = some ((), M') ∧ Q M' ∧ mN M' = N2 ∧ Lo N (mNew M t 0) M') (hn : N < N2) :
    ∃ M' M2, Q M' ∧ (∀ k : Mem → Option (Unit × Mem), ((gd M [(0, .ref b)] [.ref b]).bind fun _ => (some (mNew M t 0)).bind fun M2 => (gd M2 [(0, .ref b)] [.ref (mN M), .ref b]).bind fun _ => (f (mN M) M2).bind fun r => (sP r.2 10 b j (mN M)).bind fun M5 => k M5) = k M2) ∧ HO b (hoP Pf j N) M2 ∧ mN M' = N2 ∧ mN M2 = N2 ∧ Rg (b + 1) N M M2 ∧ Rg (b + 1) N2 M' M2 ∧ Lo b M M2 := by
  obtain ⟨M', f1, hQ, n1, l⟩ := hf
  have hb := h.2.1
  obtain ⟨s1, o1, r1, t1, k1⟩ := h.st (j := j) hN l (by omega)
  rw [n1] at t1
  refine ⟨M', _, hQ, fun k => ?_, o1, n1, n1, r1, t1, k1⟩
  rw [gd1 (by omega) (by omega), Option.bind_some, Option.bind_some, gd2 (by rw [mN_new]; omega) (by rw [mN_new]; omega) (by rw [mN_new]; omega), Option.bind_some, hN, f1, Option.bind_some, s1, Option.bind_some]
def h00 : Hs := (V0, V0, fun _ => V0, false, 0, 0, -1, -1, [])
/-- the first three -/
theorem x_ia {b : Nat} {M : Mem} (h : Nw 10 0 b M) (hR : b + 1000 < ROB) : ∃ M3, (∀ k : Mem → Option (Unit × Mem), ((gd M [(0, .ref b)] [.ref b]).bind fun _ => (some (mNew M 9 0)).bind fun M2 => (gd M2 [(0, .ref b)] [.ref (mN M), .ref b]).bind fun _ => (f_X9_init (mN M) M2).bind fun r3 => (sP r3.2 10 b 0 (mN M)).bind fun M5 => (gd M5 [(0, .ref b)] [.ref b]).bind fun _ => (some (mNew M5 9 0)).bind fun M7 => (gd M7 [(0, .ref b)] [.ref (mN M5), .ref b]).bind fun _ => (f_X9_init (mN M5) M7).bind fun r8 => (sP r8.2 10 b 1 (mN M5)).bind fun M10 => (gd M10 [(0, .ref b)] [.ref b]).bind fun _ => (some (mNew M10 4 0)).bind fun M12 => (gd M12 [(0, .ref b)] [.ref (mN M10), .ref b]).bind fun _ => (f_X3_init (mN M10) M12).bind fun r13 => (sP r13.2 10 b 3 (mN M10)).bind fun M15 => k M15) = k M3) ∧ HO b (hoP (hoP (hoP (fun j => mP M b j) 0 (b + 1)) 1 (b + 31)) 3 (b + 61)) M3 ∧ mN M3 = b + 333 ∧ At (b + 1) V0 M3 ∧ At (b + 31) V0 M3 ∧ Lo b M M3 ∧ mS M3 (b + 61) = (4, 0) ∧ mP M3 (b + 61) 0 = .ref (b + 62) ∧ mS M3 (b + 62) = (121, 9) ∧ (∀ j, mI M3 (b + 61) j = 0) ∧ ∀ i, i < 9 → mP M3 (b + 62) i = .ref (b + 63 + 30 * i) ∧ At (b + 63 + 30 * i) V0 M3 := by
  obtain ⟨h1, h2, h3⟩ := h
  have o0 : HO b (fun j => mP M b j) M := ⟨h2, by omega, h3, fun _ => rfl⟩
  obtain ⟨A1, M1, a1, z1, o1, m1, n1, r1, t1, k1⟩ := o0.go (j := 0) (f := f_X9_init) (t := 9) h1 (by omega) (x_i9 (Nw.mk (t := 9) (n := 0) h1) (by omega)) (by omega)
  obtain ⟨A2, M2, a2, z2, o2, m2, n2, r2, t2, k2⟩ := o1.go (j := 1) (f := f_X9_init) (t := 9) n1 (by omega) (x_i9 (Nw.mk (t := 9) (n := 0) n1) (by omega)) (by omega)
  have i3 : ∃ M', f_X3_init (b + 1 + 30 + 30) (mNew M2 4 0) = some ((), M') ∧ Hk (b + 1 + 30 + 30) 9 M' ∧ mN M' = b + 333 ∧ Lo (b + 1 + 30 + 30) (mNew M2 4 0) M' := by
    obtain ⟨M', f', k', l'⟩ := x_i3 (Nw.mk (t := 4) (n := 0) n2) (by omega)
    have := k'.1
    exact ⟨M', f', k', by omega, l'⟩
  obtain ⟨A3, M3, a3, z3, o3, m3, n3, r3, t3, k3⟩ := o2.go (j := 3) (f := f_X3_init) (t := 4) n2 (by omega) i3 (by omega)
  obtain ⟨b1, b2, b3, b4, b5, b6⟩ := a3
  have c1 : At (b + 1) V0 M1 := a1.rg (t1.mo (by omega)) (by omega)
  have c1' : At (b + 1) V0 M2 := c1.rg (r2.mo (by omega)) (by omega)
  have c2 : At (b + 31) V0 M2 := a2.rg (t2.mo (by omega)) (by omega)
  have c3 : Rg (b + 61) (b + 333) A3 M3 := t3.mo (by omega)
  refine ⟨M3, fun k => ?_, o3, n3, c1'.rg (r3.mo (by omega)) (by omega), c2.rg (r3.mo (by omega)) (by omega), (k1.tr k2).tr k3, ?_, ?_, ?_, fun j => ?_, fun i hi => ⟨?_, ?_⟩⟩
  · rw [z1, z2, z3]
  · rw [(c3 (b + 61) (by omega) (by omega)).1]; exact b2
  · rw [((c3 (b + 61) (by omega) (by omega)).2 0).2]; exact b3
  · rw [(c3 (b + 62) (by omega) (by omega)).1]; exact b4
  · rw [((c3 (b + 61) (by omega) (by omega)).2 j).1]; exact b5 j
  · rw [((c3 (b + 62) (by omega) (by omega)).2 i).2, show b + 63 + 30 * i = b + 1 + 30 + 30 + 2 + 30 * i by omega]; exact (b6 i hi).1
  · have := (b6 i hi).2.rg (M' := M3) (c3.mo (by omega)) (by omega)
    rw [show b + 63 + 30 * i = b + 1 + 30 + 30 + 2 + 30 * i by omega]
    exact this
/-- the other four -/
theorem x_ib {b : Nat} {Pf : Nat → Value} {M : Mem} (h : HO b Pf M) (hN : mN M = b + 333) (hR : b + 1000 < ROB) : ∃ M7, (∀ k : Mem → Option (Unit × Mem), ((gd M [(0, .ref b)] [.ref b]).bind fun _ => (some (mNew M 3 0)).bind fun M17 => (gd M17 [(0, .ref b)] [.ref (mN M), .ref b]).bind fun _ => (f_X2_init (mN M) M17).bind fun r18 => (sP r18.2 10 b 4 (mN M)).bind fun M20 => (gd M20 [(0, .ref b)] [.ref b]).bind fun _ => (some (mNew M20 8 0)).bind fun M22 => (gd M22 [(0, .ref b)] [.ref (mN M20), .ref b]).bind fun _ => (f_X8_init (mN M20) M22).bind fun r23 => (sP r23.2 10 b 5 (mN M20)).bind fun M25 => (gd M25 [(0, .ref b)] [.ref b]).bind fun _ => (some (mNew M25 6 0)).bind fun M27 => (gd M27 [(0, .ref b)] [.ref (mN M25), .ref b]).bind fun _ => (f_X6_init (mN M25) M27).bind fun r28 => (sP r28.2 10 b 6 (mN M25)).bind fun M30 => (gd M30 [(0, .ref b)] [.ref b]).bind fun _ => (some (mNew M30 5 0)).bind fun M32 => (gd M32 [(0, .ref b)] [.ref (mN M30), .ref b]).bind fun _ => (f_X4_init (mN M30) M32).bind fun r33 => (sP r33.2 10 b 7 (mN M30)).bind fun M35 => k M35) = k M7) ∧ HO b (hoP (hoP (hoP (hoP Pf 4 (b + 333)) 5 (b + 335)) 6 (b + 337)) 7 (b + 341)) M7 ∧ mN M7 = b + 343 ∧ Rg (b + 1) (b + 333) M M7 ∧ O1 8 100 7 (b + 335) M7 ∧ Sc (b + 337) M7 ∧ O1 5 101 22 (b + 341) M7 ∧ Lo b M M7 := by
  obtain ⟨A4, M4, a4, z4, o4, m4, n4, r4, t4, k4⟩ := h.go (j := 4) (f := f_X2_init) (t := 3) hN (by omega) (x_i2 (Nw.mk (t := 3) (n := 0) hN) (by omega)) (by omega)
  obtain ⟨A5, M5, a5, z5, o5, m5, n5, r5, t5, k5⟩ := o4.go (j := 5) (f := f_X8_init) (t := 8) n4 (by omega) (x_i8 (Nw.mk (t := 8) (n := 0) n4) (by omega)) (by omega)
  obtain ⟨A6, M6, a6, z6, o6, m6, n6, r6, t6, k6⟩ := o5.go (j := 6) (f := f_X6_init) (t := 6) n5 (by omega) (x_i6 (Nw.mk (t := 6) (n := 0) n5) (by omega)) (by omega)
  obtain ⟨A7, M7, a7, z7, o7, m7, n7, r7, t7, k7⟩ := o6.go (j := 7) (f := f_X4_init) (t := 5) n6 (by omega) (x_i4 (Nw.mk (t := 5) (n := 0) n6) (by omega)) (by omega)
  have c5 : O1 8 100 7 (b + 335) M5 := a5.rg (t5.mo (by omega))
  have c6 : Sc (b + 337) M6 := a6.rg (t6.mo (by omega))
  have c7 : O1 5 101 22 (b + 341) M7 := a7.rg (t7.mo (by omega))
  refine ⟨M7, fun k => ?_, o7, n7, (((r4.mo (by omega)).tr (r5.mo (by omega))).tr (r6.mo (by omega))).tr (r7.mo (by omega)), (c5.rg (r6.mo (by omega))).rg (r7.mo (by omega)), c6.rg (r7.mo (by omega)), c7, ((k4.tr k5).tr k6).tr k7⟩
  rw [z4, z5, z6, z7]
theorem x_i10 {b : Nat} {M : Mem} (h : Nw 10 0 b M) (hR : b + 1000 < ROB) : ∃ M', f_X10_init b M = some ((), M') ∧ Hall b h00 M' ∧ mN M' = b + 343 ∧ Lo b M M' := by
  obtain ⟨M3, z3, o3, n3, d1, d2, k3, b2, b3, b4, w3, b6⟩ := x_ia h hR
  obtain ⟨M7, z7, ⟨p1, p2, p3, p4⟩, n7, u, d5, d6, c7, k7⟩ := x_ib o3 n3 hR
  have e1 := d1.rg (M' := M7) (u.mo (by omega)) (by omega)
  have e2 := d2.rg (M' := M7) (u.mo (by omega)) (by omega)
  have w7 : ∀ j, mI M7 (b + 61) j = 0 := fun j => by rw [((u (b + 61) (by omega) (by omega)).2 j).1]; exact w3 j
  have lh : LH b M7 := by
    refine ⟨by omega, p1, ?_, ?_, ?_, ?_, ?_, ?_, ?_, ?_, ?_, fun i hi => ?_, d5.1, d5.2.1, d5.2.2.1, d6.1, d6.2.1, d6.2.2.1, d6.2.2.2.1, d6.2.2.2.2.1, d6.2.2.2.2.2.1, d6.2.2.2.2.2.2.1, c7.1, c7.2.1, c7.2.2.1⟩
    · rw [p4]; rfl
    · rw [p4]; rfl
    · rw [p4]; rfl
    · rw [p4]; rfl
    · rw [p4]; rfl
    · rw [p4]; rfl
    · rw [(u (b + 61) (by omega) (by omega)).1]; exact b2
    · rw [((u (b + 61) (by omega) (by omega)).2 0).2]; exact b3
    · rw [(u (b + 62) (by omega) (by omega)).1]; exact b4
    · rw [((u (b + 62) (by omega) (by omega)).2 i).2]; exact (b6 i hi).1
  have j8 := sI_ok (M := M7) (ci := 10) (a := b) (j := 8) (ty := .int) (x := -1) (by rw [p1]) (by omega) rfl rfl
  have j9 := sI_ok (M := mUI M7 b 8 (-1)) (ci := 10) (a := b) (j := 9) (ty := .int) (x := -1) (by rw [mS_UI, p1]) (by rw [mN_UI]; omega) rfl rfl
  refine ⟨mUI (mUI M7 b 8 (-1)) b 9 (-1), ?_, ⟨(lh.sh (Sh.UI _ _ _ _)).sh (Sh.UI _ _ _ _), (e1.ui (by omega)).ui (by omega), (e2.ui (by omega)).ui (by omega), fun i hi => ?_, ?_, ?_, ?_, ?_, ?_, ?_, fun i hi => absurd hi (Nat.not_lt_zero i), 0, by decide, ?_⟩, n7, ?_⟩
  · unfold f_X10_init
    rw [z3, z7, j8, Option.bind_some, j9, Option.bind_some]
  · exact (((b6 i hi).2.rg (M' := M7) (u.mo (by omega)) (by omega)).ui (by omega)).ui (by omega)
  · rw [mI_UI, if_neg (by omega), mI_UI, if_neg (by omega), p3]; rfl
  · rw [mI_UI, if_neg (by omega), mI_UI, if_neg (by omega), w7]; rfl
  · rw [mI_UI, if_neg (by omega), mI_UI, if_neg (by omega), w7]; rfl
  · rw [mI_UI, if_neg (by omega), mI_UI, if_pos ⟨rfl, rfl⟩]; rfl
  · rw [mI_UI, if_pos ⟨rfl, rfl⟩]; rfl
  · rw [mI_UI, if_neg (by omega), mI_UI, if_neg (by omega), d6.2.2.2.2.2.2.2]; rfl
  · rw [mI_UI, if_neg (by omega), mI_UI, if_neg (by omega), c7.2.2.2]; rfl
  · exact (k3.tr k7).tr (Lo.fo (n := 1) ((Fo.up M7 8 (-1) (by omega)).tr (Fo.up _ 9 (-1) (by omega))))
