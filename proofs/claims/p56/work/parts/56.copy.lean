/-! ===== pure: one state copied over another ===== -/
theorem At.keep {B : Nat} {V : St} {M M' : Mem} (h : At B V M) (hs : Sh M M') (hk : ∀ k j, B ≤ k → k < B + 30 → mI M' k j = mI M k j) : At B V M' := by
  refine ⟨h.1.sh hs, fun j h1 h2 => ?_, fun c hc => ?_, fun i hi => ⟨fun j h1 h2 => ?_, fun z => ?_, fun j hj => ?_, fun j hj => ?_⟩⟩
  · rw [hk _ _ (by omega) (by omega)]; exact h.2.1 j h1 h2
  · rw [hk _ _ (by omega) (by omega)]; exact h.2.2.1 c hc
  · rw [hk _ _ (by omega) (by omega)]; exact (h.2.2.2 i hi).1 j h1 h2
  · rw [hk _ _ (by omega) (by omega)]; exact (h.2.2.2 i hi).2.1 z
  · rw [hk _ _ (by omega) (by omega)]; exact (h.2.2.2 i hi).2.2.1 j hj
  · rw [hk _ _ (by omega) (by omega)]; exact (h.2.2.2 i hi).2.2.2 j hj
theorem mI_cpy (M : Mem) (a b n k j : Nat) : mI (mCpy M a b 0 0 n) k j = if k = b ∧ j < n then mI M a j else mI M k j := by
  show (if k = b then va_cpy (mI M a) (mI M b) 0 0 n else M.2.2.1 k) j = _
  by_cases e : k = b
  · subst e
    rw [if_pos rfl]
    unfold va_cpy
    by_cases z : j < n
    · rw [if_pos ⟨Nat.zero_le _, by omega⟩, if_pos ⟨rfl, z⟩]
      simp
    · rw [if_neg (fun q => by omega), if_neg (fun q => z q.2)]
  · rw [if_neg e, if_neg (fun q => e q.1)]
    rfl
/-- a sheet's numbers copied -/
def Cs (B1 B2 i : Nat) (M M' : Mem) : Prop := (∀ j, 2 ≤ j → j < 8 → mI M' (B1 + 3 + 3 * i) j = mI M (B2 + 3 + 3 * i) j) ∧ (∀ j, j < 4 → mI M' (B1 + 4 + 3 * i) j = mI M (B2 + 4 + 3 * i) j) ∧ ∀ j, j < 6 → mI M' (B1 + 5 + 3 * i) j = mI M (B2 + 5 + 3 * i) j
def Dj (B1 B2 : Nat) : Prop := B1 + 30 ≤ B2 ∨ B2 + 30 ≤ B1
theorem LSt.sI7 {B : Nat} {M : Mem} (h : LSt B M) {i : Nat} (hi : i < 9) (j : Nat) (ty : FieldType) (x : Int32) (h1 : narrow ty (.int x) = .int x) (h2 : fits ty (.int x) = true) : sI M 7 (B + 3 + 3 * i) j ty x = some (mUI M (B + 3 + 3 * i) j x) := by
  obtain ⟨q1, -, -, -, -, -, q7⟩ := h
  unfold sI
  rw [(q7 i hi).2.1]
  exact if_pos ⟨rfl, by omega, h1, h2⟩
theorem LSt.gI7 {B : Nat} {M : Mem} (h : LSt B M) {i : Nat} (hi : i < 9) (j : Nat) : gI M 7 (B + 3 + 3 * i) j = some (mI M (B + 3 + 3 * i) j) := by
  obtain ⟨q1, -, -, -, -, -, q7⟩ := h
  unfold gI
  rw [(q7 i hi).2.1]
  exact if_pos ⟨rfl, by omega⟩
theorem LSt.gP7 {B : Nat} {M : Mem} (h : LSt B M) {i : Nat} (hi : i < 9) : gP M 7 (B + 3 + 3 * i) 0 = some (B + 4 + 3 * i) ∧ gP M 7 (B + 3 + 3 * i) 1 = some (B + 5 + 3 * i) := by
  obtain ⟨q1, -, -, -, -, -, q7⟩ := h
  unfold gP
  rw [(q7 i hi).2.1, if_pos ⟨rfl, by omega⟩, if_pos ⟨rfl, by omega⟩, (q7 i hi).2.2.1, (q7 i hi).2.2.2.1]
  exact ⟨rfl, rfl⟩
theorem LSt.cp4 {B1 B2 : Nat} {M : Mem} (h : LSt B1 M) (k : LSt B2 M) {i : Nat} (hi : i < 9) : cpy M 100 (B2 + 4 + 3 * i) (B1 + 4 + 3 * i) .int 0 0 4 = some (mCpy M (B2 + 4 + 3 * i) (B1 + 4 + 3 * i) 0 0 4) := by
  obtain ⟨q1, -, -, -, -, -, q7⟩ := h
  obtain ⟨p1, -, -, -, -, -, p7⟩ := k
  unfold cpy
  rw [(q7 i hi).2.2.2.2.1, (p7 i hi).2.2.2.2.1]
  refine if_pos ⟨rfl, rfl, by omega, by omega, by decide, by decide, by decide, by decide, by decide, ?_⟩
  exact List.all_eq_true.mpr (fun x _ => rfl)
theorem LSt.cp6 {B1 B2 : Nat} {M : Mem} (h : LSt B1 M) (k : LSt B2 M) {i : Nat} (hi : i < 9) (hf : ∀ j, j < 6 → fits .char (.int (mI M (B2 + 5 + 3 * i) j)) = true) : cpy M 101 (B2 + 5 + 3 * i) (B1 + 5 + 3 * i) .char 0 0 6 = some (mCpy M (B2 + 5 + 3 * i) (B1 + 5 + 3 * i) 0 0 6) := by
  obtain ⟨q1, -, -, -, -, -, q7⟩ := h
  obtain ⟨p1, -, -, -, -, -, p7⟩ := k
  unfold cpy
  rw [(q7 i hi).2.2.2.2.2, (p7 i hi).2.2.2.2.2]
  refine if_pos ⟨rfl, rfl, by omega, by omega, by decide, by decide, by decide, by decide, by decide, ?_⟩
  refine List.all_eq_true.mpr (fun x hx => ?_)
  have hx2 : x < 6 := List.mem_range.mp hx
  have := hf x hx2
  rwa [show (0 : Int32).toNatClampNeg + x = x by rw [show (0 : Int32).toNatClampNeg = 0 from rfl]; omega]
theorem c_sheet {B1 B2 i : Nat} {V : St} {M : Mem} (h1 : LSt B1 M) (h2 : At B2 V M) (hW : WF V) (hd : Dj B1 B2) (hi : i < 9) : ∃ M', f_X7_copyFrom (B1 + 3 + 3 * i) (B2 + 3 + 3 * i) M = some ((), M') ∧ Sh M M' ∧ Cs B1 B2 i M M' ∧ ∀ k j, ¬ (B1 + 3 + 3 * i ≤ k ∧ k < B1 + 6 + 3 * i) → mI M' k j = mI M k j := by
  have hty := (hW.2.2.2 i hi).1
  have hfo := (hW.2.2.2 i hi).2.2.2.1
  have hcr := (hW.2.2.2 i hi).2.2.2.2.2.2
  have e2 : mI M (B2 + 3 + 3 * i) 2 = V (3 + 3 * i) 2 := (h2.2.2.2 i hi).1 2 (by decide) (by decide)
  have e5 : mI M (B2 + 3 + 3 * i) 5 = V (3 + 3 * i) 5 := (h2.2.2.2 i hi).1 5 (by decide) (by decide)
  have hf : ∀ j, j < 6 → fits .char (.int (mI (mCpy M (B2 + 4 + 3 * i) (B1 + 4 + 3 * i) 0 0 4) (B2 + 5 + 3 * i) j)) = true := fun j hj => by
    rw [mI_cpy, if_neg (by unfold Dj at hd; omega), (h2.2.2.2 i hi).2.2.2 j hj]
    rcases hcr j hj with z | z | z <;> rw [z] <;> rfl
  have s1 := Sh.cpy M (B2 + 4 + 3 * i) (B1 + 4 + 3 * i) 0 0 4
  have a1 := h1.sh s1
  have b1 := h2.1.sh s1
  have s2 := Sh.cpy (mCpy M (B2 + 4 + 3 * i) (B1 + 4 + 3 * i) 0 0 4) (B2 + 5 + 3 * i) (B1 + 5 + 3 * i) 0 0 6
  have a2 := a1.sh s2
  have b2 := b1.sh s2
  generalize hM2 : mCpy (mCpy M (B2 + 4 + 3 * i) (B1 + 4 + 3 * i) 0 0 4) (B2 + 5 + 3 * i) (B1 + 5 + 3 * i) 0 0 6 = M2 at s2 a2 b2
  have r2 : ∀ k j, mI M2 k j = if k = B1 + 5 + 3 * i ∧ j < 6 then mI M (B2 + 5 + 3 * i) j else if k = B1 + 4 + 3 * i ∧ j < 4 then mI M (B2 + 4 + 3 * i) j else mI M k j := fun k j => by
    rw [← hM2, mI_cpy, mI_cpy, mI_cpy]
    congr 1
    rw [if_neg (by unfold Dj at hd; omega)]
  have q2 : ∀ j, mI M2 (B2 + 3 + 3 * i) j = mI M (B2 + 3 + 3 * i) j := fun j => by
    rw [r2, if_neg (by unfold Dj at hd; omega), if_neg (by unfold Dj at hd; omega)]
  have n3 : ∀ x, narrow .int (.int x) = .int x ∧ fits .int (.int x) = true := fun x => ⟨rfl, rfl⟩
  have n2 : narrow .char (.int (mI M (B2 + 3 + 3 * i) 2)) = .int (mI M (B2 + 3 + 3 * i) 2) ∧ fits .char (.int (mI M (B2 + 3 + 3 * i) 2)) = true := by
    rw [e2]
    rcases hty with z | z | z <;> rw [z] <;> exact ⟨rfl, rfl⟩
  have n5 : narrow .boolean (.int (mI M (B2 + 3 + 3 * i) 5)) = .int (mI M (B2 + 3 + 3 * i) 5) ∧ fits .boolean (.int (mI M (B2 + 3 + 3 * i) 5)) = true := by
    rw [e5]
    rcases hfo with z | z <;> rw [z] <;> exact ⟨rfl, rfl⟩
  have hne : B2 + 3 + 3 * i ≠ B1 + 3 + 3 * i := by unfold Dj at hd; omega
  have ui : ∀ (M : Mem) (j x j'), mI (mUI M (B1 + 3 + 3 * i) j x) (B2 + 3 + 3 * i) j' = mI M (B2 + 3 + 3 * i) j' := fun M j x j' => by rw [mI_UI, if_neg (fun z => hne z.1)]
  have sU : ∀ (M : Mem) (j x), Sh M (mUI M (B1 + 3 + 3 * i) j x) := fun M j x => Sh.UI M _ j x
  have stp : ∀ (M : Mem), LSt B1 M → LSt B2 M → ∀ j x, LSt B1 (mUI M (B1 + 3 + 3 * i) j x) ∧ LSt B2 (mUI M (B1 + 3 + 3 * i) j x) := fun M p q j x => ⟨p.sh (sU M j x), q.sh (sU M j x)⟩
  have t3 := stp M2 a2 b2 2 (mI M (B2 + 3 + 3 * i) 2)
  have t4 := stp _ t3.1 t3.2 3 (mI M (B2 + 3 + 3 * i) 3)
  have t5 := stp _ t4.1 t4.2 4 (mI M (B2 + 3 + 3 * i) 4)
  have t6 := stp _ t5.1 t5.2 5 (mI M (B2 + 3 + 3 * i) 5)
  have t7 := stp _ t6.1 t6.2 6 (mI M (B2 + 3 + 3 * i) 6)
  have t8 := stp _ t7.1 t7.2 7 (mI M (B2 + 3 + 3 * i) 7)
  refine ⟨mUI (mUI (mUI (mUI (mUI (mUI M2 (B1 + 3 + 3 * i) 2 (mI M (B2 + 3 + 3 * i) 2)) (B1 + 3 + 3 * i) 3 (mI M (B2 + 3 + 3 * i) 3)) (B1 + 3 + 3 * i) 4 (mI M (B2 + 3 + 3 * i) 4)) (B1 + 3 + 3 * i) 5 (mI M (B2 + 3 + 3 * i) 5)) (B1 + 3 + 3 * i) 6 (mI M (B2 + 3 + 3 * i) 6)) (B1 + 3 + 3 * i) 7 (mI M (B2 + 3 + 3 * i) 7), ?_, ?_, ⟨fun j g1 g2 => ?_, fun j hj => ?_, fun j hj => ?_⟩, fun k j hk => ?_⟩
  · unfold f_X7_copyFrom
    simp only [(h2.1.gP7 hi).1, (h1.gP7 hi).1, Option.bind_some, h1.cp4 h2.1 hi, (b1.gP7 hi).2, (a1.gP7 hi).2, a1.cp6 b1 hi hf, hM2]
    simp only [b2.gI7 hi, q2, Option.bind_some]
    rw [a2.sI7 hi 2 .char _ n2.1 n2.2]
    simp only [Option.bind_some, t3.2.gI7 hi, ui, q2]
    rw [t3.1.sI7 hi 3 .int _ rfl rfl]
    simp only [Option.bind_some, t4.2.gI7 hi, ui, q2]
    rw [t4.1.sI7 hi 4 .int _ rfl rfl]
    simp only [Option.bind_some, t5.2.gI7 hi, ui, q2]
    rw [t5.1.sI7 hi 5 .boolean _ n5.1 n5.2]
    simp only [Option.bind_some, t6.2.gI7 hi, ui, q2]
    rw [t6.1.sI7 hi 6 .int _ rfl rfl]
    simp only [Option.bind_some, t7.2.gI7 hi, ui, q2]
    rw [t7.1.sI7 hi 7 .int _ rfl rfl]
    simp only [Option.bind_some]
  · exact (s1.tr s2).tr ((((((sU _ _ _).tr (sU _ _ _)).tr (sU _ _ _)).tr (sU _ _ _)).tr (sU _ _ _)).tr (sU _ _ _))
  · have hj : j = 2 ∨ j = 3 ∨ j = 4 ∨ j = 5 ∨ j = 6 ∨ j = 7 := by omega
    rcases hj with rfl | rfl | rfl | rfl | rfl | rfl <;> simp [mI_UI]
  · have hq : ¬ B1 + 4 + 3 * i = B1 + 3 + 3 * i := by omega
    simp only [mI_UI, hq, false_and, if_false]
    rw [r2, if_neg (by omega), if_pos ⟨rfl, hj⟩]
  · have hq : ¬ B1 + 5 + 3 * i = B1 + 3 + 3 * i := by omega
    simp only [mI_UI, hq, false_and, if_false]
    rw [r2, if_pos ⟨rfl, hj⟩]
  · have hq : ¬ k = B1 + 3 + 3 * i := by omega
    simp only [mI_UI, hq, false_and, if_false]
    rw [r2, if_neg (by omega), if_neg (by omega)]
theorem c_lp {B1 B2 : Nat} {V : St} (hW : WF V) (hd : Dj B1 B2) : ∀ k, k ≤ 9 → ∀ n, k < n → ∀ M, LSt B1 M → At B2 V M → ∃ x M', lp_X9_copyFrom_2 B1 B2 n (ni (9 - k)) M = some (.inl (x, M')) ∧ Sh M M' ∧ (∀ i, 9 - k ≤ i → i < 9 → Cs B1 B2 i M M') ∧ ∀ a j, ¬ (B1 + 3 + 3 * (9 - k) ≤ a ∧ a < B1 + 30) → mI M' a j = mI M a j := by
  intro k
  induction k with
  | zero =>
    intro _ n hn M h1 h2
    obtain ⟨n, rfl⟩ : ∃ m, n = m + 1 := ⟨n - 1, by omega⟩
    refine ⟨ni 9, M, ?_, Sh.rf M, fun i a b => by omega, fun _ _ _ => rfl⟩
    simp only [lp_X9_copyFrom_2]
    exact if_pos (show (9 : Int32) ≤ ni (9 - 0) by decide)
  | succ k ih =>
    intro hk n hn M h1 h2
    obtain ⟨n, rfl⟩ : ∃ m, n = m + 1 := ⟨n - 1, by omega⟩
    have hi : 9 - (k + 1) < 9 := by omega
    obtain ⟨M1, f1, s1, c1, o1⟩ := c_sheet h1 h2 hW hd hi
    have h2' : At B2 V M1 := h2.keep s1 (fun a j z1 z2 => o1 a j (by unfold Dj at hd; omega))
    obtain ⟨x, M2, f2, s2, c2, o2⟩ := ih (by omega) n (by omega) M1 (h1.sh s1) h2'
    have g1 : gP M 9 B1 0 = some (B1 + 1) := by
      obtain ⟨q1, q2, q3, -⟩ := h1
      unfold gP
      rw [q2, if_pos ⟨rfl, by omega⟩, q3]
    have g2 : aP M 120 (B1 + 1) (ni (9 - (k + 1))) = some (B1 + 3 + 3 * (9 - (k + 1))) := by
      obtain ⟨q1, q2, -, -, q5, -, q7⟩ := h1
      unfold aP
      rw [q5, if_pos ⟨rfl, by omega, inr_ni (by omega) hi⟩, ni_nat _ (by omega), (q7 _ hi).1]
    have g3 : rc M 7 (B1 + 3 + 3 * (9 - (k + 1))) = some () := by
      obtain ⟨q1, -, -, -, -, -, q7⟩ := h1
      unfold rc
      rw [(q7 _ hi).2.1, if_pos ⟨rfl, by omega⟩]
    refine ⟨x, M2, ?_, s1.tr s2, fun i a b => ?_, fun a j z => ?_⟩
    · simp only [lp_X9_copyFrom_2, if_neg (up9a k (by omega)), up9b k (by omega), g1, g2, g3, h2.p90, h2.sh hi, Option.bind_some, f1]
      exact f2
    · by_cases e : i = 9 - (k + 1)
      · subst e
        refine ⟨fun j p q => ?_, fun j p => ?_, fun j p => ?_⟩
        · rw [o2 _ _ (by omega)]; exact c1.1 j p q
        · rw [o2 _ _ (by omega)]; exact c1.2.1 j p
        · rw [o2 _ _ (by omega)]; exact c1.2.2 j p
      · have c3 := c2 i (by omega) b
        refine ⟨fun j p q => ?_, fun j p => ?_, fun j p => ?_⟩
        · rw [c3.1 j p q]; exact o1 _ _ (by unfold Dj at hd; omega)
        · rw [c3.2.1 j p]; exact o1 _ _ (by unfold Dj at hd; omega)
        · rw [c3.2.2 j p]; exact o1 _ _ (by unfold Dj at hd; omega)
    · rw [o2 a j (by omega)]
      exact o1 a j (by omega)
theorem c_state {B1 B2 : Nat} {V : St} {M : Mem} (h1 : LSt B1 M) (h2 : At B2 V M) (hW : WF V) (hd : Dj B1 B2) : ∃ M', f_X9_copyFrom B1 B2 M = some ((), M') ∧ At B1 V M' ∧ At B2 V M' ∧ Fo B1 30 M M' := by
  obtain ⟨x, M1, f1, s1, c1, o1⟩ := c_lp hW hd 9 (by decide) 100 (by decide) M h1 h2
  have a1 := h1.sh s1
  have b1 : At B2 V M1 := h2.keep s1 (fun a j z1 z2 => o1 a j (by unfold Dj at hd; omega))
  have g1 : gP M1 9 B1 1 = some (B1 + 2) := by
    obtain ⟨q1, q2, q3, q4, -⟩ := a1
    unfold gP
    rw [q2, if_pos ⟨rfl, by omega⟩, q4]
  have g2 : cpy M1 100 (B2 + 2) (B1 + 2) .int 0 0 9 = some (mCpy M1 (B2 + 2) (B1 + 2) 0 0 9) := by
    obtain ⟨q1, -, -, -, -, q6, -⟩ := a1
    obtain ⟨⟨p1, -, -, -, -, p6, -⟩, -⟩ := b1
    unfold cpy
    rw [q6, p6]
    refine if_pos ⟨rfl, rfl, by omega, by omega, by decide, by decide, by decide, by decide, by decide, ?_⟩
    exact List.all_eq_true.mpr (fun x _ => rfl)
  have s2 := Sh.cpy M1 (B2 + 2) (B1 + 2) 0 0 9
  have r2 := mI_cpy M1 (B2 + 2) (B1 + 2) 9
  generalize mCpy M1 (B2 + 2) (B1 + 2) 0 0 9 = M2 at s2 g2 r2
  have a2 := a1.sh s2
  have b2 : At B2 V M2 := b1.keep s2 (fun a j z1 z2 => by rw [r2, if_neg (by unfold Dj at hd; omega)])
  have s9 : ∀ (N : Mem), LSt B1 N → ∀ j x, sI N 9 B1 j .int x = some (mUI N B1 j x) := fun N hN j x => by
    obtain ⟨q1, q2, -⟩ := hN
    unfold sI
    rw [q2]
    exact if_pos ⟨rfl, by omega, rfl, rfl⟩
  have nx : ∀ (N : Mem), LSt B1 N → At B2 V N → ∀ j x, LSt B1 (mUI N B1 j x) ∧ At B2 V (mUI N B1 j x) := fun N p q j x => ⟨p.sh (Sh.UI N _ j x), q.keep (Sh.UI N _ j x) (fun a j' z1 z2 => by rw [mI_UI, if_neg (by unfold Dj at hd; omega)])⟩
  have t2 := nx M2 a2 b2 2 (V 0 2)
  have t3 := nx _ t2.1 t2.2 3 (V 0 3)
  have t4 := nx _ t3.1 t3.2 4 (V 0 4)
  have t5 := nx _ t4.1 t4.2 5 (V 0 5)
  have fin : ∀ k j, mI (mUI (mUI (mUI (mUI M2 B1 2 (V 0 2)) B1 3 (V 0 3)) B1 4 (V 0 4)) B1 5 (V 0 5)) k j = if k = B1 ∧ 2 ≤ j ∧ j < 6 then V 0 j else if k = B1 + 2 ∧ j < 9 then mI M1 (B2 + 2) j else mI M1 k j := fun k j => by
    simp only [mI_UI, r2]
    by_cases e : k = B1
    · subst e
      by_cases e2 : j = 2
      · subst e2; simp
      · by_cases e3 : j = 3
        · subst e3; simp
        · by_cases e4 : j = 4
          · subst e4; simp
          · by_cases e5 : j = 5
            · subst e5; simp
            · rw [if_neg (by omega), if_neg (by omega), if_neg (by omega), if_neg (by omega), if_neg (by omega : ¬ (k = k ∧ 2 ≤ j ∧ j < 6))]
    · rw [if_neg (by omega), if_neg (by omega), if_neg (by omega), if_neg (by omega), if_neg (by omega : ¬ (k = B1 ∧ 2 ≤ j ∧ j < 6))]
  refine ⟨_, ?_, ⟨t5.1, fun j p q => ?_, fun c hc => ?_, fun i hi => ⟨fun j p q => ?_, fun z => ?_, fun j hj => ?_, fun j hj => ?_⟩⟩, t5.2, (s1.tr s2).tr (((((Sh.UI M2 _ _ _).tr (Sh.UI _ _ _ _)).tr (Sh.UI _ _ _ _)).tr (Sh.UI _ _ _ _))), fun k j hk => ?_⟩
  · unfold f_X9_copyFrom
    rw [show (0 : Int32) = ni (9 - 9) from rfl, f1]
    simp only [Option.bind_some, b1.p91, g1]
    rw [show (ni (9 - 9)) = 0 from rfl, g2]
    simp only [Option.bind_some, b2.g9 (j := 2) (by decide) (by decide), s9 _ a2, t2.2.g9 (j := 3) (by decide) (by decide), s9 _ t2.1, t3.2.g9 (j := 4) (by decide) (by decide), s9 _ t3.1, t4.2.g9 (j := 5) (by decide) (by decide), s9 _ t4.1]
  · rw [fin, if_pos ⟨rfl, p, q⟩]
  · rw [fin, if_neg (by omega), if_pos ⟨rfl, hc⟩]
    exact b1.2.2.1 c hc
  · rw [fin, if_neg (by omega), if_neg (by omega), (c1 i (by omega) hi).1 j p (by omega)]
    exact (h2.2.2.2 i hi).1 j p q
  · rw [fin, if_neg (by omega), if_neg (by omega), (c1 i (by omega) hi).1 7 (by decide) (by decide)]
    exact (h2.2.2.2 i hi).2.1 z
  · rw [fin, if_neg (by omega), if_neg (by omega), (c1 i (by omega) hi).2.1 j hj]
    exact (h2.2.2.2 i hi).2.2.1 j hj
  · rw [fin, if_neg (by omega), if_neg (by omega), (c1 i (by omega) hi).2.2 j hj]
    exact (h2.2.2.2 i hi).2.2.2 j hj
  · rw [fin, if_neg (by omega), if_neg (by omega)]
    exact o1 k j (by omega)
