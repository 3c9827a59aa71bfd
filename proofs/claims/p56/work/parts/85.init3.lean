/-! ===== pure: a hall made, whole ===== -/
theorem At.rg {B : Nat} {V : St} {M M' : Mem} (A : At B V M) (r : Rg B (B + 30) M M') (hN : mN M ≤ mN M') : At B V M' := by
  have S : ∀ k, B ≤ k → k < B + 30 → mS M' k = mS M k := fun k h0 hk => (r k h0 hk).1
  have P : ∀ k j, B ≤ k → k < B + 30 → mP M' k j = mP M k j := fun k j h0 hk => ((r k h0 hk).2 j).2
  have I : ∀ k j, B ≤ k → k < B + 30 → mI M' k j = mI M k j := fun k j h0 hk => ((r k h0 hk).2 j).1
  obtain ⟨⟨q1, q2, q3, q4, q5, q6, q7⟩, r1, r2, r3⟩ := A
  refine ⟨⟨by omega, ?_, ?_, ?_, ?_, ?_, fun i hi => ?_⟩, fun j h1 h2 => ?_, fun c hc => ?_, fun i hi => ⟨fun j h1 h2 => ?_, fun z => ?_, fun j hj => ?_, fun j hj => ?_⟩⟩
  · rw [S _ (by omega) (by omega)]; exact q2
  · rw [P _ _ (by omega) (by omega)]; exact q3
  · rw [P _ _ (by omega) (by omega)]; exact q4
  · rw [S _ (by omega) (by omega)]; exact q5
  · rw [S _ (by omega) (by omega)]; exact q6
  · rw [P _ _ (by omega) (by omega), S _ (by omega) (by omega), P _ _ (by omega) (by omega), P _ _ (by omega) (by omega), S _ (by omega) (by omega), S _ (by omega) (by omega)]
    exact q7 i hi
  · rw [I _ _ (by omega) (by omega)]; exact r1 j h1 h2
  · rw [I _ _ (by omega) (by omega)]; exact r2 c hc
  · rw [I _ _ (by omega) (by omega)]; exact (r3 i hi).1 j h1 h2
  · rw [I _ _ (by omega) (by omega)]; exact (r3 i hi).2.1 z
  · rw [I _ _ (by omega) (by omega)]; exact (r3 i hi).2.2.1 j hj
  · rw [I _ _ (by omega) (by omega)]; exact (r3 i hi).2.2.2 j hj
/-- the ring under way -/
def Hk (H k : Nat) (M : Mem) : Prop := mN M = H + 2 + 30 * k ∧ mS M H = (4, 0) ∧ mP M H 0 = .ref (H + 1) ∧ mS M (H + 1) = (121, 9) ∧ (∀ j, mI M H j = 0) ∧ ∀ i, i < k → mP M (H + 1) i = .ref (H + 2 + 30 * i) ∧ At (H + 2 + 30 * i) V0 M
theorem i3_15 {H : Nat} (hR : H + 900 < ROB) : ∀ k, k ≤ 9 → ∀ n, k < n → ∀ M, Hk H (9 - k) M → ∃ M', lp_X3_init_15 H n (ni (9 - k)) M = some (.inl (9, M')) ∧ Hk H 9 M' ∧ Lo H M M' := by
  intro k
  induction k with
  | zero =>
    intro _ n hn M h
    obtain ⟨n, rfl⟩ : ∃ z, n = z + 1 := ⟨n - 1, by omega⟩
    refine ⟨M, ?_, h, fun _ _ => ⟨rfl, fun _ => ⟨rfl, rfl, rfl⟩⟩⟩
    rw [lp_X3_init_15]
    exact if_pos (by decide)
  | succ k ih =>
    intro hk n hn M h
    obtain ⟨n, rfl⟩ : ∃ z, n = z + 1 := ⟨n - 1, by omega⟩
    obtain ⟨q1, q2, q3, q4, q5, q6⟩ := h
    obtain ⟨M1, f1, s1, n1, l1⟩ := x_i9 (Nw.mk (t := 9) (n := 0) q1) (by omega)
    have l0 := (Lo.new M 9 0).mo (show H + 2 + 30 * (9 - (k + 1)) ≤ mN M by omega)
    have l2 := l0.tr l1
    have r2 : Rg H (H + 2 + 30 * (9 - (k + 1))) M M1 := Rg.lo l2 (Nat.le_refl _)
    have e5 : mS M1 (H + 1) = (121, 9) := by rw [(r2 (H + 1) (by omega) (by omega)).1]; exact q4
    obtain ⟨M2, f2, s2, l3⟩ := ih (by omega) n (by omega) (mUP M1 (H + 1) (9 - (k + 1)) (.ref (H + 2 + 30 * (9 - (k + 1))))) (by
      refine ⟨by rw [mN_UP]; omega, ?_, ?_, e5, fun j => ?_, fun i hi => ⟨?_, ?_⟩⟩
      · rw [mS_UP, (r2 H (by omega) (by omega)).1]; exact q2
      · rw [mP_UP, if_neg (by omega), ((r2 H (by omega) (by omega)).2 _).2]; exact q3
      · rw [mI_UP, ((r2 H (by omega) (by omega)).2 _).1]; exact q5 j
      · rw [mP_UP]
        by_cases e : i = 9 - (k + 1)
        · rw [if_pos ⟨rfl, e⟩, e]
        · rw [if_neg (fun z => e z.2), ((r2 (H + 1) (by omega) (by omega)).2 _).2]
          exact (q6 i (by omega)).1
      · by_cases e : i = 9 - (k + 1)
        · rw [e]
          exact s1.rg (Rg.p (Or.inl (by omega))) (Nat.le_refl _)
        · exact ((q6 i (by omega)).2.rg (r2.mo (by omega)) (by omega)).rg (Rg.p (Or.inl (by omega))) (Nat.le_refl _))
    refine ⟨M2, ?_, s2, ((l2.mo (by omega)).tr (Lo.p _ _ (by omega))).tr l3⟩
    have s9 : (mS M1 (H + 2 + 30 * (9 - (k + 1)))).1 = 9 := by rw [s1.1.2.1]
    rw [lp_X3_init_15, if_neg (up9a k (by omega)), gP_ok (by rw [q2]) (by omega) q3, Option.bind_some, gd3 (by omega) (by omega) (by omega), Option.bind_some, Option.bind_some, gd4 (by rw [mN_new]; omega) (by rw [mN_new]; omega) (by rw [mN_new]; omega) (by rw [mN_new]; omega), Option.bind_some, q1, f1, Option.bind_some]
    dsimp only
    rw [asP_ok e5 (by omega) (by omega) (by omega) s9 (by omega), Option.bind_some, up9b k (by omega)]
    exact f2
theorem x_i3 {H : Nat} {M : Mem} (h : Nw 4 0 H M) (hR : H + 900 < ROB) : ∃ M', f_X3_init H M = some ((), M') ∧ Hk H 9 M' ∧ Lo H M M' := by
  obtain ⟨h1, h2, h3⟩ := h
  obtain ⟨e1, e2, e3, e4, e5, e6, e7, e8, -⟩ := x_row (t := 121) (n := 9) (ci := 4) (a := H) (j := 0) h1 (by omega) (by rw [h2])
  have l1 : Lo H M (mUP (mNew M 121 9) H 0 (.ref (H + 1))) := (Lo.row h1).resolve_right (by omega)
  generalize mUP (mNew M 121 9) H 0 (.ref (H + 1)) = M1 at e1 e2 e3 e4 e5 e6 e7 e8 l1
  obtain ⟨M3, f3, k3, l3⟩ := i3_15 (H := H) hR 9 (Nat.le_refl _) 100 (by decide) M1 ⟨by omega, by rw [e6 H (by omega), h2], e5, e3, fun j => by rw [e7 H j (by omega), h3], fun i hi => absurd hi (Nat.not_lt_zero i)⟩
  have f3' : lp_X3_init_15 H 100 0 M1 = some (.inl (9, M3)) := f3
  refine ⟨M3, ?_, k3, l1.tr l3⟩
  unfold f_X3_init
  rw [gd1 (by omega) (by omega), Option.bind_some, na4.2.2.2.1, Option.bind_some, Option.bind_some, tn4.2.2.2.1, e1, Option.bind_some, f3', Option.bind_some]
/-- an object with one row -/
def O1 (ci t n a : Nat) (M : Mem) : Prop := mS M a = (ci, 0) ∧ mP M a 0 = .ref (a + 1) ∧ mS M (a + 1) = (t, n) ∧ ∀ j, mI M a j = 0
theorem O1.mk {ci t n a : Nat} {M : Mem} (h : Nw ci 0 a M) : sP (mNew M t n) ci a 0 (mN M) = some (mUP (mNew M t n) a 0 (.ref (a + 1))) ∧ O1 ci t n a (mUP (mNew M t n) a 0 (.ref (a + 1))) ∧ mN (mUP (mNew M t n) a 0 (.ref (a + 1))) = a + 2 ∧ Lo a M (mUP (mNew M t n) a 0 (.ref (a + 1))) := by
  obtain ⟨h1, h2, h3⟩ := h
  obtain ⟨e1, e2, e3, e4, e5, e6, e7, e8, -⟩ := x_row (t := t) (n := n) (ci := ci) (a := a) (j := 0) h1 (by omega) (by rw [h2])
  exact ⟨e1, ⟨by rw [e6 a (by omega), h2], e5, e3, fun j => by rw [e7 a j (by omega), h3]⟩, e2, (Lo.row h1).resolve_right (by omega)⟩
theorem O1.rg {ci t n a : Nat} {M M' : Mem} (h : O1 ci t n a M) (r : Rg a (a + 2) M M') : O1 ci t n a M' := by
  obtain ⟨q1, q2, q3, q4⟩ := h
  refine ⟨?_, ?_, ?_, fun j => ?_⟩
  · rw [(r a (by omega) (by omega)).1]; exact q1
  · rw [((r a (by omega) (by omega)).2 _).2]; exact q2
  · rw [(r (a + 1) (by omega) (by omega)).1]; exact q3
  · rw [((r a (by omega) (by omega)).2 _).1]; exact q4 j
theorem x_i2 {a : Nat} {M : Mem} (h : Nw 3 0 a M) (hR : a + 400 < ROB) : ∃ M', f_X2_init a M = some ((), M') ∧ O1 3 100 9 a M' ∧ mN M' = a + 2 ∧ Lo a M M' := by
  obtain ⟨e1, e2, e3, e4⟩ := O1.mk (t := 100) (n := 9) h
  refine ⟨_, ?_, e2, e3, e4⟩
  have h1 := h.1
  unfold f_X2_init
  rw [gd1 (by omega) (by omega), Option.bind_some, na4.2.2.2.1, Option.bind_some, Option.bind_some, tn4.2.2.2.1, e1, Option.bind_some]
theorem x_i8 {a : Nat} {M : Mem} (h : Nw 8 0 a M) (hR : a + 400 < ROB) : ∃ M', f_X8_init a M = some ((), M') ∧ O1 8 100 7 a M' ∧ mN M' = a + 2 ∧ Lo a M M' := by
  obtain ⟨e1, e2, e3, e4⟩ := O1.mk (t := 100) (n := 7) h
  refine ⟨_, ?_, e2, e3, e4⟩
  have h1 := h.1
  unfold f_X8_init
  rw [gd1 (by omega) (by omega), Option.bind_some, na4.2.2.1, Option.bind_some, Option.bind_some, tn4.2.2.1, e1, Option.bind_some]
theorem x_i4 {a : Nat} {M : Mem} (h : Nw 5 0 a M) (hR : a + 400 < ROB) : ∃ M', f_X4_init a M = some ((), M') ∧ O1 5 101 22 a M' ∧ mN M' = a + 2 ∧ Lo a M M' := by
  obtain ⟨e1, e2, e3, e4⟩ := O1.mk (t := 101) (n := 22) h
  refine ⟨_, ?_, e2, e3, e4⟩
  have h1 := h.1
  unfold f_X4_init
  rw [gd1 (by omega) (by omega), Option.bind_some, na4.2.2.2.2.1, Option.bind_some, Option.bind_some, tn4.2.2.2.2.1, e1, Option.bind_some]
/-- a script just made -/
def Sc (a : Nat) (M : Mem) : Prop := mS M a = (6, 0) ∧ mP M a 0 = .ref (a + 1) ∧ mP M a 1 = .ref (a + 2) ∧ mP M a 2 = .ref (a + 3) ∧ mS M (a + 1) = (101, 60) ∧ mS M (a + 2) = (100, 60) ∧ mS M (a + 3) = (100, 60) ∧ ∀ j, mI M a j = 0
theorem Sc.rg {a : Nat} {M M' : Mem} (h : Sc a M) (r : Rg a (a + 4) M M') : Sc a M' := by
  obtain ⟨q1, q2, q3, q4, q5, q6, q7, q8⟩ := h
  refine ⟨?_, ?_, ?_, ?_, ?_, ?_, ?_, fun j => ?_⟩
  · rw [(r a (by omega) (by omega)).1]; exact q1
  · rw [((r a (by omega) (by omega)).2 _).2]; exact q2
  · rw [((r a (by omega) (by omega)).2 _).2]; exact q3
  · rw [((r a (by omega) (by omega)).2 _).2]; exact q4
  · rw [(r (a + 1) (by omega) (by omega)).1]; exact q5
  · rw [(r (a + 2) (by omega) (by omega)).1]; exact q6
  · rw [(r (a + 3) (by omega) (by omega)).1]; exact q7
  · rw [((r a (by omega) (by omega)).2 _).1]; exact q8 j
theorem x_i6 {a : Nat} {M : Mem} (h : Nw 6 0 a M) (hR : a + 400 < ROB) : ∃ M', f_X6_init a M = some ((), M') ∧ Sc a M' ∧ mN M' = a + 4 ∧ Lo a M M' := by
  obtain ⟨h1, h2, h3⟩ := h
  obtain ⟨e1, e2, e3, e4, e5, e6, e7, e8, -⟩ := x_row (t := 101) (n := 60) (ci := 6) (a := a) (j := 0) h1 (by omega) (by rw [h2])
  have l1 : Lo a M (mUP (mNew M 101 60) a 0 (.ref (a + 1))) := (Lo.row h1).resolve_right (by omega)
  generalize mUP (mNew M 101 60) a 0 (.ref (a + 1)) = M1 at e1 e2 e3 e4 e5 e6 e7 e8 l1
  obtain ⟨g1, g2, g3, g4, g5, g6, g7, g8, -⟩ := x_row (t := 100) (n := 60) (ci := 6) (a := a) (j := 1) e2 (by omega) (by rw [e6 a (by omega), h2])
  have l2 : Lo a M1 (mUP (mNew M1 100 60) a 1 (.ref (a + 1 + 1))) := (Lo.row e2).resolve_right (by omega)
  generalize mUP (mNew M1 100 60) a 1 (.ref (a + 1 + 1)) = M2 at g1 g2 g3 g4 g5 g6 g7 g8 l2
  obtain ⟨k1, k2, k3, k4, k5, k6, k7, k8, -⟩ := x_row (t := 100) (n := 60) (ci := 6) (a := a) (j := 2) g2 (by omega) (by rw [g6 a (by omega), e6 a (by omega), h2])
  have l3 : Lo a M2 (mUP (mNew M2 100 60) a 2 (.ref (a + 1 + 1 + 1))) := (Lo.row g2).resolve_right (by omega)
  generalize mUP (mNew M2 100 60) a 2 (.ref (a + 1 + 1 + 1)) = M3 at k1 k2 k3 k4 k5 k6 k7 k8 l3
  refine ⟨M3, ?_, ⟨?_, ?_, ?_, k5, ?_, ?_, k3, fun j => ?_⟩, k2, (l1.tr l2).tr l3⟩
  · unfold f_X6_init
    rw [gd1 (by omega) (by omega), Option.bind_some, na4.2.2.2.2.2, Option.bind_some, Option.bind_some, tn4.2.2.2.2.2, e1, Option.bind_some, gd1 (by omega) (by omega), Option.bind_some, Option.bind_some, Option.bind_some, g1, Option.bind_some, gd1 (by omega) (by omega), Option.bind_some, Option.bind_some, Option.bind_some, k1, Option.bind_some]
  · rw [k6 a (by omega), g6 a (by omega), e6 a (by omega), h2]
  · rw [k8 a 0 (by omega) (Or.inr (by decide)), g8 a 0 (by omega) (Or.inr (by decide)), e5]
  · rw [k8 a 1 (by omega) (Or.inr (by decide)), g5]
  · rw [k6 (a + 1) (by omega), g6 (a + 1) (by omega), e3]
  · rw [k6 (a + 2) (by omega), g3]
  · rw [k7 a j (by omega), g7 a j (by omega), e7 a j (by omega), h3]
/-- the hall's object under way -/
def HO (b : Nat) (Pf : Nat → Value) (M : Mem) : Prop := mS M b = (10, 0) ∧ b < mN M ∧ (∀ j, mI M b j = 0) ∧ ∀ j, mP M b j = Pf j
theorem HO.st {b t N j : Nat} {Pf : Nat → Value} {M M' : Mem} (h : HO b Pf M) (hN : mN M = N) (l : Lo N (mNew M t 0) M') (hn : N < mN M') : sP M' 10 b j N = some (mUP M' b j (.ref N)) ∧ HO b (fun i => if i = j then .ref N else Pf i) (mUP M' b j (.ref N)) ∧ Rg (b + 1) N M (mUP M' b j (.ref N)) ∧ Rg (b + 1) (mN M') M' (mUP M' b j (.ref N)) ∧ Lo b M (mUP M' b j (.ref N)) := by
  obtain ⟨q1, q2, q3, q4⟩ := h
  have l0 : Lo N M M' := ((Lo.new M t 0).mo (by omega)).tr l
  have r0 : Rg 0 N M M' := Rg.lo l0 (Nat.le_refl _)
  have s1 : mS M' b = (10, 0) := by rw [(r0 b (by omega) (by omega)).1]; exact q1
  refine ⟨sP_ok (by rw [s1]) (by omega) hn, ⟨s1, by rw [mN_UP]; omega, fun i => ?_, fun i => ?_⟩, (r0.mo (by omega)).tr (Rg.p (by omega)), Rg.p (by omega), (l0.mo (by omega)).tr (Lo.p _ _ (Nat.le_refl _))⟩
  · rw [mI_UP, ((r0 b (by omega) (by omega)).2 _).1]; exact q3 i
  · rw [mP_UP]
    by_cases e : i = j
    · rw [if_pos ⟨rfl, e⟩, if_pos e]
    · rw [if_neg (fun z => e z.2), if_neg e, ((r0 b (by omega) (by omega)).2 _).2]; exact q4 i
def h00 : Hs := (V0, V0, fun _ => V0, false, 0, 0, -1, -1, [])
set_option maxRecDepth 4000 in
theorem x_i10 {b : Nat} {M : Mem} (h : Nw 10 0 b M) (hR : b + 1000 < ROB) : ∃ M', f_X10_init b M = some ((), M') ∧ Hall b h00 M' ∧ mN M' = b + 343 ∧ Lo b M M' := by
  obtain ⟨h1, h2, h3⟩ := h
  have o0 : HO b (fun j => mP M b j) M := ⟨h2, by omega, h3, fun _ => rfl⟩
  obtain ⟨A1, f1, a1, n1, l1⟩ := x_i9 (Nw.mk (t := 9) (n := 0) h1) (by omega)
  obtain ⟨s1, o1, r1, t1, k1⟩ := o0.st (j := 0) h1 l1 (by omega)
  have e1 : mN (mUP A1 b 0 (.ref (b + 1))) = b + 31 := by rw [mN_UP]; omega
  have c1 : At (b + 1) V0 (mUP A1 b 0 (.ref (b + 1))) := a1.rg (t1.mo (by omega)) (by omega)
  have z1 : f_X9_init (mN M) (mNew M 9 0) = some ((), A1) := by rw [h1]; exact f1
  have y1 : gd M [(0, .ref b)] [.ref b] = some () ∧ gd (mNew M 9 0) [(0, .ref b)] [.ref (mN M), .ref b] = some () := ⟨gd1 (by omega) (by omega), gd2 (by rw [mN_new]; omega) (by rw [mN_new]; omega) (by rw [mN_new]; omega)⟩
  generalize mUP A1 b 0 (.ref (b + 1)) = M1 at s1 o1 r1 t1 k1 e1 c1
  obtain ⟨A2, f2, a2, n2, l2⟩ := x_i9 (Nw.mk (t := 9) (n := 0) e1) (by omega)
  obtain ⟨s2, o2, r2, t2, k2⟩ := o1.st (j := 1) e1 l2 (by omega)
  have e2 : mN (mUP A2 b 1 (.ref (b + 31))) = b + 61 := by rw [mN_UP]; omega
  have c2 : At (b + 31) V0 (mUP A2 b 1 (.ref (b + 31))) := a2.rg (t2.mo (by omega)) (by omega)
  have z2 : f_X9_init (mN M1) (mNew M1 9 0) = some ((), A2) := by rw [e1]; exact f2
  have y2 : gd M1 [(0, .ref b)] [.ref b] = some () ∧ gd (mNew M1 9 0) [(0, .ref b)] [.ref (mN M1), .ref b] = some () := ⟨gd1 (by omega) (by omega), gd2 (by rw [mN_new]; omega) (by rw [mN_new]; omega) (by rw [mN_new]; omega)⟩
  generalize mUP A2 b 1 (.ref (b + 31)) = M2 at s2 o2 r2 t2 k2 e2 c2
  obtain ⟨A3, f3, a3, l3⟩ := x_i3 (Nw.mk (t := 4) (n := 0) e2) (by omega)
  have n3 := a3.1
  obtain ⟨s3, o3, r3, t3, k3⟩ := o2.st (j := 3) e2 l3 (by omega)
  have e3 : mN (mUP A3 b 3 (.ref (b + 61))) = b + 333 := by rw [mN_UP]; omega
  have z3 : f_X3_init (mN M2) (mNew M2 4 0) = some ((), A3) := by rw [e2]; exact f3
  have y3 : gd M2 [(0, .ref b)] [.ref b] = some () ∧ gd (mNew M2 4 0) [(0, .ref b)] [.ref (mN M2), .ref b] = some () := ⟨gd1 (by omega) (by omega), gd2 (by rw [mN_new]; omega) (by rw [mN_new]; omega) (by rw [mN_new]; omega)⟩
  generalize mUP A3 b 3 (.ref (b + 61)) = M3 at s3 o3 r3 t3 k3 e3
  obtain ⟨A4, f4, a4, n4, l4⟩ := x_i2 (Nw.mk (t := 3) (n := 0) e3) (by omega)
  obtain ⟨s4, o4, r4, t4, k4⟩ := o3.st (j := 4) e3 l4 (by omega)
  have e4 : mN (mUP A4 b 4 (.ref (b + 333))) = b + 335 := by rw [mN_UP]; omega
  have z4 : f_X2_init (mN M3) (mNew M3 3 0) = some ((), A4) := by rw [e3]; exact f4
  have y4 : gd M3 [(0, .ref b)] [.ref b] = some () ∧ gd (mNew M3 3 0) [(0, .ref b)] [.ref (mN M3), .ref b] = some () := ⟨gd1 (by omega) (by omega), gd2 (by rw [mN_new]; omega) (by rw [mN_new]; omega) (by rw [mN_new]; omega)⟩
  generalize mUP A4 b 4 (.ref (b + 333)) = M4 at s4 o4 r4 t4 k4 e4
  obtain ⟨A5, f5, a5, n5, l5⟩ := x_i8 (Nw.mk (t := 8) (n := 0) e4) (by omega)
  obtain ⟨s5, o5, r5, t5, k5⟩ := o4.st (j := 5) e4 l5 (by omega)
  have e5 : mN (mUP A5 b 5 (.ref (b + 335))) = b + 337 := by rw [mN_UP]; omega
  have c5 : O1 8 100 7 (b + 335) (mUP A5 b 5 (.ref (b + 335))) := a5.rg (t5.mo (by omega))
  have z5 : f_X8_init (mN M4) (mNew M4 8 0) = some ((), A5) := by rw [e4]; exact f5
  have y5 : gd M4 [(0, .ref b)] [.ref b] = some () ∧ gd (mNew M4 8 0) [(0, .ref b)] [.ref (mN M4), .ref b] = some () := ⟨gd1 (by omega) (by omega), gd2 (by rw [mN_new]; omega) (by rw [mN_new]; omega) (by rw [mN_new]; omega)⟩
  generalize mUP A5 b 5 (.ref (b + 335)) = M5 at s5 o5 r5 t5 k5 e5 c5
  obtain ⟨A6, f6, a6, n6, l6⟩ := x_i6 (Nw.mk (t := 6) (n := 0) e5) (by omega)
  obtain ⟨s6, o6, r6, t6, k6⟩ := o5.st (j := 6) e5 l6 (by omega)
  have e6 : mN (mUP A6 b 6 (.ref (b + 337))) = b + 341 := by rw [mN_UP]; omega
  have c6 : Sc (b + 337) (mUP A6 b 6 (.ref (b + 337))) := a6.rg (t6.mo (by omega))
  have z6 : f_X6_init (mN M5) (mNew M5 6 0) = some ((), A6) := by rw [e5]; exact f6
  have y6 : gd M5 [(0, .ref b)] [.ref b] = some () ∧ gd (mNew M5 6 0) [(0, .ref b)] [.ref (mN M5), .ref b] = some () := ⟨gd1 (by omega) (by omega), gd2 (by rw [mN_new]; omega) (by rw [mN_new]; omega) (by rw [mN_new]; omega)⟩
  generalize mUP A6 b 6 (.ref (b + 337)) = M6 at s6 o6 r6 t6 k6 e6 c6
  obtain ⟨A7, f7, a7, n7, l7⟩ := x_i4 (Nw.mk (t := 5) (n := 0) e6) (by omega)
  obtain ⟨s7, o7, r7, t7, k7⟩ := o6.st (j := 7) e6 l7 (by omega)
  have e7 : mN (mUP A7 b 7 (.ref (b + 341))) = b + 343 := by rw [mN_UP]; omega
  have c7 : O1 5 101 22 (b + 341) (mUP A7 b 7 (.ref (b + 341))) := a7.rg (t7.mo (by omega))
  have z7 : f_X4_init (mN M6) (mNew M6 5 0) = some ((), A7) := by rw [e6]; exact f7
  have y7 : gd M6 [(0, .ref b)] [.ref b] = some () ∧ gd (mNew M6 5 0) [(0, .ref b)] [.ref (mN M6), .ref b] = some () := ⟨gd1 (by omega) (by omega), gd2 (by rw [mN_new]; omega) (by rw [mN_new]; omega) (by rw [mN_new]; omega)⟩
  generalize mUP A7 b 7 (.ref (b + 341)) = M7 at s7 o7 r7 t7 k7 e7 c7
  have u2 : Rg (b + 1) (b + 31) M1 M7 := ((((((r2.tr (r3.mo (by omega)))).tr (r4.mo (by omega))).tr (r5.mo (by omega))).tr (r6.mo (by omega))).tr (r7.mo (by omega)))
  have u3 : Rg (b + 31) (b + 61) M2 M7 := (((((r3.mo (by omega))).tr (r4.mo (by omega))).tr (r5.mo (by omega))).tr (r6.mo (by omega))).tr (r7.mo (by omega))
  have u4 : Rg (b + 61) (b + 333) A3 M7 := ((((t3.mo (by omega)).tr (r4.mo (by omega))).tr (r5.mo (by omega))).tr (r6.mo (by omega))).tr (r7.mo (by omega))
  have u6 : Rg (b + 335) (b + 337) M5 M7 := (r6.mo (by omega)).tr (r7.mo (by omega))
  have u7 : Rg (b + 337) (b + 341) M6 M7 := r7.mo (by omega)
  have d1 := c1.rg (M' := M7) u2 (by omega)
  have d2 := c2.rg (M' := M7) (u3.mo (by omega)) (by omega)
  have d5 := c5.rg u6
  have d6 := c6.rg u7
  obtain ⟨p1, p2, p3, p4⟩ := o7
  obtain ⟨b1, b2, b3, b4, b5, b6⟩ := a3
  have w3 : ∀ j, mI M7 (b + 61) j = 0 := fun j => by rw [((u4 (b + 61) (by omega) (by omega)).2 j).1]; exact b5 j
  have lh : LH b M7 := by
    refine ⟨by omega, p1, ?_, ?_, ?_, ?_, ?_, ?_, ?_, ?_, ?_, fun i hi => ?_, d5.1, d5.2.1, d5.2.2.1, d6.1, d6.2.1, d6.2.2.1, d6.2.2.2.1, d6.2.2.2.2.1, d6.2.2.2.2.2.1, d6.2.2.2.2.2.2.1, c7.1, c7.2.1, c7.2.2.1⟩
    · rw [p4]; rfl
    · rw [p4]; rfl
    · rw [p4]; rfl
    · rw [p4]; rfl
    · rw [p4]; rfl
    · rw [p4]; rfl
    · rw [(u4 (b + 61) (by omega) (by omega)).1]; exact b2
    · rw [((u4 (b + 61) (by omega) (by omega)).2 0).2]; exact b3
    · rw [(u4 (b + 62) (by omega) (by omega)).1]; exact b4
    · rw [((u4 (b + 62) (by omega) (by omega)).2 i).2]; exact (b6 i hi).1
  have j8 := sI_ok (M := M7) (ci := 10) (a := b) (j := 8) (ty := .int) (x := -1) (by rw [p1]) (by omega) rfl rfl
  have j9 := sI_ok (M := mUI M7 b 8 (-1)) (ci := 10) (a := b) (j := 9) (ty := .int) (x := -1) (by rw [mS_UI, p1]) (by rw [mN_UI]; omega) rfl rfl
  refine ⟨mUI (mUI M7 b 8 (-1)) b 9 (-1), ?_, ⟨(lh.sh (Sh.UI _ _ _ _)).sh (Sh.UI _ _ _ _), (d1.ui (by omega)).ui (by omega), (d2.ui (by omega)).ui (by omega), fun i hi => ?_, ?_, ?_, ?_, ?_, ?_, ?_, fun i hi => absurd hi (Nat.not_lt_zero i), 0, by decide, ?_⟩, e7, ?_⟩
  · unfold f_X10_init
    simp only [y1.1, y1.2, y2.1, y2.2, y3.1, y3.2, y4.1, y4.2, y5.1, y5.2, y6.1, y6.2, y7.1, y7.2, z1, z2, z3, z4, z5, z6, z7, Option.bind_some]
    simp only [h1, s1, Option.bind_some]
    simp only [y1.1, y1.2, y2.1, y2.2, y3.1, y3.2, y4.1, y4.2, y5.1, y5.2, y6.1, y6.2, y7.1, y7.2, z1, z2, z3, z4, z5, z6, z7, Option.bind_some, e1, e2, e3, e4, e5, e6, s2, s3, s4, s5, s6, s7, j8, j9]
  · have := (b6 i hi).2.rg (M' := M7) (u4.mo (by omega)) (by omega)
    rw [show b + 61 + 2 + 30 * i = b + 63 + 30 * i by omega] at this
    exact (this.ui (by omega)).ui (by omega)
  · rw [mI_UI, if_neg (by omega), mI_UI, if_neg (by omega), p3]; rfl
  · rw [mI_UI, if_neg (by omega), mI_UI, if_neg (by omega), w3]; rfl
  · rw [mI_UI, if_neg (by omega), mI_UI, if_neg (by omega), w3]; rfl
  · rw [mI_UI, if_neg (by omega), mI_UI, if_pos ⟨rfl, rfl⟩]; rfl
  · rw [mI_UI, if_pos ⟨rfl, rfl⟩]; rfl
  · rw [mI_UI, if_neg (by omega), mI_UI, if_neg (by omega), d6.2.2.2.2.2.2.2]; rfl
  · rw [mI_UI, if_neg (by omega), mI_UI, if_neg (by omega), c7.2.2.2]; rfl
  · exact (((((((k1.tr k2).tr k3).tr k4).tr k5).tr k6).tr k7).tr (Lo.fo (n := 1) ((Fo.up M7 8 (-1) (by omega)).tr (Fo.up _ 9 (-1) (by omega)))))
