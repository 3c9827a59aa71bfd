/-! ===== pure: a hall made ===== -/
/-- cells from a up to n are the same -/
def Rg (a n : Nat) (M M' : Mem) : Prop := ∀ k, a ≤ k → k < n → mS M' k = mS M k ∧ ∀ j, mI M' k j = mI M k j ∧ mP M' k j = mP M k j
theorem Rg.lo {a N n : Nat} {M M' : Mem} (l : Lo N M M') (h : n ≤ N) : Rg a n M M' := fun k _ hk => ⟨(l k (by omega)).1, fun j => ⟨((l k (by omega)).2 j).1, ((l k (by omega)).2 j).2.2⟩⟩
theorem Rg.p {a n k j : Nat} {M : Mem} {x : Value} (h : k < a ∨ n ≤ k) : Rg a n M (mUP M k j x) := fun i h1 h2 => ⟨rfl, fun _ => ⟨rfl, if_neg (by omega)⟩⟩
theorem Rg.i {a n k j : Nat} {M : Mem} {x : Int32} (h : k < a ∨ n ≤ k) : Rg a n M (mUI M k j x) := fun i h1 h2 => ⟨rfl, fun _ => ⟨if_neg (by omega), rfl⟩⟩
theorem Rg.tr {a n : Nat} {M M' M'' : Mem} (h : Rg a n M M') (k : Rg a n M' M'') : Rg a n M M'' := fun i h1 h2 => ⟨(k i h1 h2).1.trans (h i h1 h2).1, fun j => ⟨((k i h1 h2).2 j).1.trans ((h i h1 h2).2 j).1, ((k i h1 h2).2 j).2.trans ((h i h1 h2).2 j).2⟩⟩
theorem Rg.mo {a n a' n' : Nat} {M M' : Mem} (h : Rg a n M M') (z : a ≤ a' ∧ n' ≤ n) : Rg a' n' M M' := fun i h1 h2 => h i (by omega) (by omega)
theorem mS_UP (M : Mem) (k j a : Nat) (x : Value) : mS (mUP M k j x) a = mS M a := rfl
theorem mI_UP (M : Mem) (k j a b : Nat) (x : Value) : mI (mUP M k j x) a b = mI M a b := rfl
theorem mN_UP (M : Mem) (k j : Nat) (x : Value) : mN (mUP M k j x) = mN M := rfl
theorem mS_UI (M : Mem) (k j a : Nat) (x : Int32) : mS (mUI M k j x) a = mS M a := rfl
theorem mP_UI (M : Mem) (k j a b : Nat) (x : Int32) : mP (mUI M k j x) a b = mP M a b := rfl
theorem mN_UI (M : Mem) (k j : Nat) (x : Int32) : mN (mUI M k j x) = mN M := rfl
theorem sP_ok {M : Mem} {ci a j v : Nat} (h1 : (mS M a).1 = ci) (h2 : a < mN M) (h3 : v < mN M) : sP M ci a j v = some (mUP M a j (.ref v)) := if_pos ⟨h1, h2, by simp [clo, h3]⟩
theorem sI_ok {M : Mem} {ci a j : Nat} {ty : FieldType} {x : Int32} (h1 : (mS M a).1 = ci) (h2 : a < mN M) (h3 : narrow ty (.int x) = .int x) (h4 : fits ty (.int x) = true) : sI M ci a j ty x = some (mUI M a j x) := if_pos ⟨h1, h2, h3, h4⟩
theorem gd1 {M : Mem} {a : Nat} (h : mN M < ROB) (h1 : a < mN M) : gd M [(0, .ref a)] [.ref a] = some () := gd_ok h (by simp [clLS, clo, h1])
theorem gd2 {M : Mem} {a c : Nat} (h : mN M < ROB) (h1 : a < mN M) (h2 : c < mN M) : gd M [(0, .ref a)] [.ref c, .ref a] = some () := gd_ok h (by simp [clLS, clo, h1, h2])
theorem gd3 {M : Mem} {a c : Nat} {x : Int32} (h : mN M < ROB) (h1 : a < mN M) (h2 : c < mN M) : gd M [(0, .ref a), (1, .int x)] [.int x, .ref c] = some () := gd_ok h (by simp [clLS, clo, h1, h2])
theorem gd4 {M : Mem} {a c d : Nat} {x : Int32} (h : mN M < ROB) (h1 : a < mN M) (h2 : c < mN M) (h3 : d < mN M) : gd M [(0, .ref a), (1, .int x)] [.ref d, .int x, .ref c] = some () := gd_ok h (by simp [clLS, clo, h1, h2, h3])
/-- a cell just made -/
def Nw (t n a : Nat) (M : Mem) : Prop := mN M = a + 1 ∧ mS M a = (t, n) ∧ ∀ j, mI M a j = 0
theorem Nw.mk {t n a : Nat} {M : Mem} (h : mN M = a) : Nw t n a (mNew M t n) := ⟨by rw [mN_new, h], by rw [mS_new, if_pos h.symm], fun j => by rw [mI_new, if_pos h.symm]⟩
/-- a row made and laid into a field of the object behind -/
theorem x_row {t n ci a N j : Nat} {M : Mem} (h : mN M = N) (ha : a < N) (hs : (mS M a).1 = ci) : sP (mNew M t n) ci a j (mN M) = some (mUP (mNew M t n) a j (.ref N)) ∧ mN (mUP (mNew M t n) a j (.ref N)) = N + 1 ∧ mS (mUP (mNew M t n) a j (.ref N)) N = (t, n) ∧ (∀ i, mI (mUP (mNew M t n) a j (.ref N)) N i = 0) ∧ mP (mUP (mNew M t n) a j (.ref N)) a j = .ref N ∧ (∀ k, k < N → mS (mUP (mNew M t n) a j (.ref N)) k = mS M k) ∧ (∀ k i, k < N → mI (mUP (mNew M t n) a j (.ref N)) k i = mI M k i) ∧ (∀ k i, k < N → k ≠ a ∨ i ≠ j → mP (mUP (mNew M t n) a j (.ref N)) k i = mP M k i) ∧ (∀ k i, k < N → mL (mUP (mNew M t n) a j (.ref N)) k i = mL M k i) := by
  subst h
  refine ⟨sP_ok (by rw [mS_new, if_neg (by omega)]; exact hs) (by rw [mN_new]; omega) (by rw [mN_new]; omega), rfl, ?_, fun i => ?_, ?_, fun k hk => ?_, fun k i hk => ?_, fun k i hk hd => ?_, fun k i hk => ?_⟩
  · rw [mS_UP, mS_new, if_pos rfl]
  · rw [mI_UP, mI_new, if_pos rfl]
  · rw [mP_UP, if_pos ⟨rfl, rfl⟩]
  · rw [mS_UP, mS_new, if_neg (by omega)]
  · rw [mI_UP, mI_new, if_neg (by omega)]
  · rw [mP_UP, if_neg (by omega), mP_new, if_neg (by omega)]
  · show (if k = mN M then _ else _) = _
    rw [if_neg (by omega)]
theorem Lo.row {t n a N j : Nat} {M : Mem} (h : mN M = N) : Lo a M (mUP (mNew M t n) a j (.ref N)) ∨ N < a := by
  by_cases ha : a ≤ N
  · exact Or.inl (((Lo.new M t n).mo (by omega)).tr (Lo.p _ _ (Nat.le_refl a)))
  · exact Or.inr (by omega)
/-- a sheet just made -/
def Sn (a : Nat) (M : Mem) : Prop := mS M a = (7, 0) ∧ mP M a 0 = .ref (a + 1) ∧ mP M a 1 = .ref (a + 2) ∧ mS M (a + 1) = (100, 4) ∧ mS M (a + 2) = (101, 6) ∧ (∀ j, mI M a j = if j = 2 then 115 else if j = 6 then -1 else 0) ∧ (∀ j, mI M (a + 1) j = 0) ∧ ∀ j, mI M (a + 2) j = 0
theorem Sn.rg {a : Nat} {M M' : Mem} (h : Sn a M) (r : Rg a (a + 3) M M') : Sn a M' := by
  obtain ⟨q1, q2, q3, q4, q5, q6, q7, q8⟩ := h
  refine ⟨?_, ?_, ?_, ?_, ?_, fun j => ?_, fun j => ?_, fun j => ?_⟩
  · rw [(r a (by omega) (by omega)).1]; exact q1
  · rw [((r a (by omega) (by omega)).2 _).2]; exact q2
  · rw [((r a (by omega) (by omega)).2 _).2]; exact q3
  · rw [(r (a + 1) (by omega) (by omega)).1]; exact q4
  · rw [(r (a + 2) (by omega) (by omega)).1]; exact q5
  · rw [((r a (by omega) (by omega)).2 _).1]; exact q6 j
  · rw [((r (a + 1) (by omega) (by omega)).2 _).1]; exact q7 j
  · rw [((r (a + 2) (by omega) (by omega)).2 _).1]; exact q8 j
theorem na4 : na 4 = some () ∧ na 6 = some () ∧ na 7 = some () ∧ na 9 = some () ∧ na 22 = some () ∧ na 60 = some () := by decide
theorem tn4 : (4 : Int32).toNatClampNeg = 4 ∧ (6 : Int32).toNatClampNeg = 6 ∧ (7 : Int32).toNatClampNeg = 7 ∧ (9 : Int32).toNatClampNeg = 9 ∧ (22 : Int32).toNatClampNeg = 22 ∧ (60 : Int32).toNatClampNeg = 60 := by decide
theorem x_i7 {a : Nat} {M : Mem} (h : Nw 7 0 a M) (hR : a + 400 < ROB) : ∃ M', f_X7_init a M = some ((), M') ∧ Sn a M' ∧ mN M' = a + 3 ∧ Lo a M M' := by
  obtain ⟨h1, h2, h3⟩ := h
  obtain ⟨e1, e2, e3, e4, e5, e6, e7, e8, -⟩ := x_row (t := 100) (n := 4) (ci := 7) (a := a) (j := 0) h1 (by omega) (by rw [h2])
  have l1 : Lo a M (mUP (mNew M 100 4) a 0 (.ref (a + 1))) := (Lo.row h1).resolve_right (by omega)
  generalize mUP (mNew M 100 4) a 0 (.ref (a + 1)) = M1 at e1 e2 e3 e4 e5 e6 e7 e8 l1
  obtain ⟨g1, g2, g3, g4, g5, g6, g7, g8, -⟩ := x_row (t := 101) (n := 6) (ci := 7) (a := a) (j := 1) e2 (by omega) (by rw [e6 a (by omega), h2])
  have l2 : Lo a M1 (mUP (mNew M1 101 6) a 1 (.ref (a + 1 + 1))) := (Lo.row e2).resolve_right (by omega)
  generalize mUP (mNew M1 101 6) a 1 (.ref (a + 1 + 1)) = M2 at g1 g2 g3 g4 g5 g6 g7 g8 l2
  have s2 : mS M2 a = (7, 0) := by rw [g6 a (by omega), e6 a (by omega), h2]
  refine ⟨mUI (mUI M2 a 2 115) a 6 (-1), ?_, ⟨s2, ?_, g5, ?_, g3, fun j => ?_, fun j => ?_, fun j => ?_⟩, g2, (l1.tr l2).tr (Lo.fo (n := 1) ((Fo.up M2 2 115 (by omega)).tr (Fo.up _ 6 (-1) (by omega))))⟩
  · unfold f_X7_init
    rw [gd1 (by omega) (by omega), Option.bind_some, na4.1, Option.bind_some, Option.bind_some, tn4.1, e1, Option.bind_some, gd1 (by omega) (by omega), Option.bind_some, na4.2.1, Option.bind_some, Option.bind_some, tn4.2.1, g1, Option.bind_some, sI_ok (by rw [s2]) (by omega) rfl rfl, Option.bind_some, sI_ok (by rw [mS_UI, s2]) (by rw [mN_UI]; omega) rfl rfl, Option.bind_some]
  · rw [mP_UI, mP_UI, g8 a 0 (by omega) (Or.inr (by decide)), e5]
  · rw [mS_UI, mS_UI, g6 (a + 1) (by omega), e3]
  · rw [mI_UI, mI_UI]
    by_cases z6 : j = 6
    · subst z6
      rw [if_pos ⟨rfl, rfl⟩, if_neg (by decide), if_pos rfl]
    · rw [if_neg (fun z => z6 z.2)]
      by_cases z2 : j = 2
      · rw [if_pos ⟨rfl, z2⟩, if_pos z2]
      · rw [if_neg (fun z => z2 z.2), if_neg z2, if_neg z6, g7 a j (by omega), e7 a j (by omega), h3]
  · rw [mI_UI, if_neg (by omega), mI_UI, if_neg (by omega), g7 (a + 1) j (by omega), e4]
  · rw [mI_UI, if_neg (by omega), mI_UI, if_neg (by omega)]
    exact g4 j
