/-! ===== pure: texts put together ===== -/
theorem mI_cpyR (M : Mem) (f : Nat → Int32) (b dp n k j : Nat) : mI (mCpyR M f b 0 dp n) k j = if k = b ∧ dp ≤ j ∧ j < dp + n then f (j - dp) else mI M k j := by
  show (if k = b then va_cpy f (mI M b) 0 dp n else M.2.2.1 k) j = _
  by_cases e : k = b
  · subst e
    rw [if_pos rfl]
    unfold va_cpy
    by_cases z : dp ≤ j ∧ j < dp + n
    · rw [if_pos z, if_pos ⟨rfl, z⟩, Nat.zero_add]
    · rw [if_neg z, if_neg (fun q => z q.2)]
  · rw [if_neg e, if_neg (fun q => e q.1)]
    rfl
theorem Sh.cpyR (M : Mem) (f : Nat → Int32) (b sp dp n : Nat) : Sh M (mCpyR M f b sp dp n) := ⟨rfl, rfl, rfl⟩
theorem shr0 : ∀ k, k < 64 → ni k >>> ((0 : Int32) &&& 31) = ni k := by decide +kernel
theorem shl0 : ∀ k, k < 64 → ni k <<< ((0 : Int32) &&& 31) = ni k := by decide +kernel
theorem cap16 : ∀ k, k < 17 → ni k - (Int32.ofNat 16 >>> ((0 : Int32) &&& 31)) ≤ 0 := by decide +kernel
/-- a StringBuilder at N with its row at N + 1, holding c -/
def SBt (N : Nat) (c : List Int32) (M : Mem) : Prop := N + 2 ≤ mN M ∧ N + 2 ≤ ROB ∧ mS M N = (1, 0) ∧ mP M N 0 = .ref (N + 1) ∧ mI M N 1 = 0 ∧ mI M N 3 = ni c.length ∧ mS M (N + 1) = (102, 16) ∧ ∀ i, i < c.length → mI M (N + 1) i = c.getD i 0
section SBS
variable {N : Nat} {c : List Int32} {M : Mem}
theorem SBt.f (h : SBt N c M) : rc M 1 N = some () ∧ gP M 1 N 0 = some (N + 1) ∧ (∀ j, gI M 1 N j = some (mI M N j)) ∧ bL M (N + 1) = some (Int32.ofNat 16) ∧ ∀ x, sI M 1 N 3 .int x = some (mUI M N 3 x) := by
  obtain ⟨q1, q2, q3, q4, q5, q6, q7, q8⟩ := h
  refine ⟨?_, ?_, fun j => ?_, ?_, fun x => ?_⟩
  · unfold rc
    rw [q3, if_pos ⟨rfl, by omega⟩]
  · unfold gP
    rw [q3, if_pos ⟨rfl, by omega⟩, q4]
  · unfold gI
    rw [q3, if_pos ⟨rfl, by omega⟩]
  · unfold bL aLn
    rw [if_neg (by omega), q7, if_pos ⟨rfl, by omega⟩]
  · unfold sI
    rw [q3]
    exact if_pos ⟨rfl, by omega, rfl, rfl⟩
theorem len_ro (M : Mem) {s : Nat} (hs : ROB + 20 ≤ s ∧ s < ROB + 63) {T : List Int32} (hT : rtx.getD (s + 80 - (ROB + 100)) [] = T) (hl : T.length < 64) : f_J0_length_8abf5 s M = some (ni T.length) ∧ bL M (s + 80) = some (ni T.length) := by
  have e : bL M (s + 80) = some (ni T.length) := by
    unfold bL
    rw [if_pos (show ROB + 100 ≤ s + 80 ∧ s + 80 < ROB + 143 by omega), hT]
  refine ⟨?_, e⟩
  unfold f_J0_length_8abf5 f_J0_coder_7d493
  simp only [sV_ro M hs, sC_ro M hs, rcS_ro M hs, Option.bind_some, e, show nr .byte 0 = some () from rfl, shr0 _ hl]
theorem getD_cat {α : Type} (a d : List α) (z : α) (i : Nat) : (a ++ d).getD i z = if i < a.length then a.getD i z else d.getD (i - a.length) z := by
  rw [List.getD_eq_getElem?_getD, List.getD_eq_getElem?_getD, List.getD_eq_getElem?_getD, List.getElem?_append]
  split <;> rfl
theorem sb_str (h : SBt N c M) {s : Nat} (hs : ROB + 20 ≤ s ∧ s < ROB + 63) {T : List Int32} (hT : rtx.getD (s + 80 - (ROB + 100)) [] = T) (hl : c.length + T.length ≤ 16) (hf : (T.all fun x => fits .byte (.int x)) = true) : ∃ M', f_J4_append_15ec4 N s M = some (N, M') ∧ SBt N (c ++ T) M' ∧ Fo N 2 M M' := by
  have f := h.f
  obtain ⟨q1, q2, q3, q4, q5, q6, q7, q8⟩ := id h
  have ln := len_ro M hs hT (by omega)
  have o1 : Fo N 2 M (mCpyR M (fun i => T.getD i 0) (N + 1) 0 c.length T.length) := ⟨Sh.cpyR _ _ _ _ _ _, fun k j hk => by rw [mI_cpyR, if_neg (by omega)]⟩
  have cp : cpB M (s + 80) (N + 1) 0 (ni c.length) (ni T.length) = some (mCpyR M (fun i => T.getD i 0) (N + 1) 0 c.length T.length) := by
    unfold cpB
    rw [if_pos (show ROB + 100 ≤ s + 80 ∧ s + 80 < ROB + 143 by omega), hT, ni_nat _ (by omega), ni_nat _ (by omega), q7]
    exact if_pos ⟨rfl, by omega, by decide, ni_pos _ (by omega), ni_pos _ (by omega), by show 0 + T.length ≤ T.length; omega, by omega, hf⟩
  have h1 : SBt N c (mCpyR M (fun i => T.getD i 0) (N + 1) 0 c.length T.length) := ⟨by rw [o1.1.N]; exact q1, q2, by rw [o1.1.S]; exact q3, by rw [o1.1.P]; exact q4, by rw [mI_cpyR, if_neg (by omega)]; exact q5, by rw [mI_cpyR, if_neg (by omega)]; exact q6, by rw [o1.1.S]; exact q7, fun i hi => by rw [mI_cpyR, if_neg (by omega)]; exact q8 i hi⟩
  have f1 := h1.f
  have e3 : mI (mCpyR M (fun i => T.getD i 0) (N + 1) 0 c.length T.length) N 3 = ni c.length := h1.2.2.2.2.2.1
  generalize hM1 : mCpyR M (fun i => T.getD i 0) (N + 1) 0 c.length T.length = M1 at o1 cp h1 f1 e3
  refine ⟨mUI M1 N 3 (ni (c ++ T).length), ?_, ⟨by rw [(Sh.UI M1 N 3 _).N]; exact h1.1, q2, h1.2.2.1, h1.2.2.2.1, ?_, ?_, h1.2.2.2.2.2.2.1, fun i hi => ?_⟩, o1.tr (Fo.up M1 _ _ (by omega))⟩
  · unfold f_J4_append_15ec4 f_J5_append_cf1ce f_J5_ensureCapacityInternal_d00df f_J5_putStringAt_47b60 f_J5_inflateIfNeededFor_a7421 f_J0_getBytes_840e7 f_J0_coder_7d493
    simp only [f.1, f.2.1, f.2.2.1, f.2.2.2.1, rcS_ro M hs, sV_ro M hs, sC_ro M hs, ln.1, ln.2, Option.bind_some, q5, q6, ni_add, if_pos (cap16 (c.length + T.length) (by omega)), show nr .byte 0 = some () from rfl, if_true, shl0 c.length (by omega), cp, f1.2.2.1, e3, f1.2.2.2.2, List.length_append]
  · rw [mI_UI, if_neg (by omega)]
    exact h1.2.2.2.2.1
  · rw [mI_UI, if_pos ⟨rfl, rfl⟩]
  · rw [mI_UI, if_neg (by omega), getD_cat]
    split
    · rename_i hi2
      exact h1.2.2.2.2.2.2.2 i hi2
    · rename_i hi2
      rw [List.length_append] at hi
      rw [← hM1, mI_cpyR, if_pos ⟨rfl, by omega, by omega⟩]
theorem ss_lp (x0 x1 : Int32) (M : Mem) : ∀ n x2 x3, lp_J6_stringSize_0f7a4_16 x0 x1 M n x2 x3 = lp_J6_stringSize_0f7a4_16 x0 x1 eM n x2 x3 := by
  intro n
  induction n with
  | zero => intro x2 x3; rfl
  | succ n ih =>
    intro x2 x3
    rw [lp_J6_stringSize_0f7a4_16, lp_J6_stringSize_0f7a4_16, ih]
theorem dg_0 : ∀ d, d < 10 → f_J6_stringSize_0f7a4 (ni d) eM = some 1 := by decide +kernel
theorem dg_1 (M : Mem) {d : Nat} (hd : d < 10) : f_J6_stringSize_0f7a4 (ni d) M = some 1 := by
  rw [← dg_0 d hd]
  unfold f_J6_stringSize_0f7a4
  rw [ss_lp _ _ M, ss_lp _ _ M]
theorem pl1 : ∀ k, k < 17 → ni (k + 1) + (-1) = ni k := by decide +kernel
theorem ng : ∀ d, d < 10 → (0 : Int32) ≤ ni d ∧ (-100 : Int32) < -ni d ∧ -(-ni d) = ni d ∧ (-9 : Int32) ≤ -ni d ∧ vp_nar .byte (ni (48 + d)) = ni (48 + d) := by decide +kernel
theorem bG_d (M : Mem) {d : Nat} (hd : d < 10) : bG M (ROB + 12) (ni d) = some (ni (48 + d)) := by
  unfold bG
  rw [if_neg (by omega), if_pos rfl, if_pos (inr_b (by omega) (by omega)), ni_nat d (by omega), Nat.mod_eq_of_lt hd]
theorem sb_int (h : SBt N c M) {d : Nat} (hd : d < 10) (hl : c.length + 1 ≤ 16) : ∃ M', f_J4_append_bf812 N (ni d) M = some (N, M') ∧ SBt N (c ++ [ni (48 + d)]) M' ∧ Fo N 2 M M' := by
  have f := h.f
  obtain ⟨q1, q2, q3, q4, q5, q6, q7, q8⟩ := id h
  have g := ng d hd
  have as : asB M (N + 1) (ni c.length) (ni (48 + d)) = some (mUI M (N + 1) c.length (ni (48 + d))) := by
    unfold asB asI
    rw [g.2.2.2.2, q7, if_pos ⟨rfl, by omega, inr_ni (by omega) (by omega)⟩, ni_nat _ (by omega)]
  have sI3 : sI (mUI M (N + 1) c.length (ni (48 + d))) 1 N 3 .int (ni (c.length + 1)) = some (mUI (mUI M (N + 1) c.length (ni (48 + d))) N 3 (ni (c.length + 1))) := by
    unfold sI
    exact if_pos ⟨by show (mS M N).1 = 1; rw [q3], by show N < mN M; omega, rfl, rfl⟩
  have hlen : (c ++ [ni (48 + d)]).length = c.length + 1 := by rw [List.length_append]; rfl
  refine ⟨mUI (mUI M (N + 1) c.length (ni (48 + d))) N 3 (ni (c.length + 1)), ?_, ⟨q1, q2, q3, q4, ?_, ?_, q7, fun i hi => ?_⟩, (Fo.up M _ _ (by omega)).tr (Fo.up _ _ _ (by omega))⟩
  · unfold f_J4_append_bf812 f_J5_append_c97b9 f_J5_ensureCapacityInternal_d00df f_J5_isLatin1_aae02 f_J6_getChars_ba4f3
    simp only [f.1, f.2.1, f.2.2.1, f.2.2.2.1, dg_1 M hd, Option.bind_some, q5, q6, ni_s, if_pos (cap16 (c.length + 1) (by omega)), if_true, if_neg (show ¬ (1 : Int32) = 0 by decide), if_pos g.1, if_pos g.2.1, g.2.2.1, bG_d M hd, pl1 c.length (by omega), as, if_pos g.2.2.2.1, sI3]
  · rw [mI_UI, if_neg (by omega), mI_UI, if_neg (by omega)]
    exact q5
  · rw [mI_UI, if_pos ⟨rfl, rfl⟩, hlen]
  · rw [hlen] at hi
    rw [mI_UI, if_neg (by omega), mI_UI, getD_app _ _ _ _ hi]
    by_cases e : i = c.length
    · rw [if_pos ⟨rfl, e⟩, if_pos e]
    · rw [if_neg (fun z => e z.2), if_neg e]
      exact q8 i (by omega)
end SBS
