/-! ===== pure: the script read ===== -/
abbrev eM : Mem := (0, fun _ => (0, 0), fun _ _ => 0, fun _ _ => 0, fun _ _ => .null)
theorem rcS_ro (M : Mem) {s : Nat} (hs : ROB + 20 ≤ s ∧ s < ROB + 63) : rcS M s = some () := by
  unfold rcS
  exact if_pos (Or.inl hs)
theorem sV_ro (M : Mem) {s : Nat} (hs : ROB + 20 ≤ s ∧ s < ROB + 63) : sV M s = some (s + 80) := by
  unfold sV
  exact if_pos hs
theorem sC_ro (M : Mem) {s : Nat} (hs : ROB + 20 ≤ s ∧ s < ROB + 63) : sC M s = some 0 := by
  unfold sC
  exact if_pos hs
theorem bL_ro (M : Mem) {s : Nat} (hs : ROB + 20 ≤ s ∧ s < ROB + 63) : bL M (s + 80) = bL eM (s + 80) := by
  unfold bL
  rw [if_pos (show ROB + 100 ≤ s + 80 ∧ s + 80 < ROB + 143 by omega), if_pos (show ROB + 100 ≤ s + 80 ∧ s + 80 < ROB + 143 by omega)]
theorem bG_ro (M : Mem) {s : Nat} (x : Int32) (hs : ROB + 20 ≤ s ∧ s < ROB + 63) : bG M (s + 80) x = bG eM (s + 80) x := by
  unfold bG
  rw [if_pos (show ROB + 100 ≤ s + 80 ∧ s + 80 < ROB + 143 by omega), if_pos (show ROB + 100 ≤ s + 80 ∧ s + 80 < ROB + 143 by omega)]
theorem ro_len (M : Mem) {s : Nat} (hs : ROB + 20 ≤ s ∧ s < ROB + 63) : f_J0_length_8abf5 s M = f_J0_length_8abf5 s eM := by
  unfold f_J0_length_8abf5 f_J0_coder_7d493
  simp only [sV_ro M hs, sV_ro eM hs, sC_ro M hs, sC_ro eM hs, rcS_ro M hs, rcS_ro eM hs, Option.bind_some, bL_ro M hs]
theorem ro_chr (M : Mem) {s : Nat} (x : Int32) (hs : ROB + 20 ≤ s ∧ s < ROB + 63) : f_J0_charAt_5068e s x M = f_J0_charAt_5068e s x eM := by
  unfold f_J0_charAt_5068e f_J0_isLatin1_aae02 f_J1_charAt_3b067 f_J0_checkIndex_df160 f_J3_checkIndex_8e157
  simp only [sV_ro M hs, sV_ro eM hs, sC_ro M hs, sC_ro eM hs, rcS_ro M hs, rcS_ro eM hs, Option.bind_some, bL_ro M hs, bG_ro M _ hs]
theorem fPat_i {i : Nat} (hi : i < 9) : fPat (ROB + 3 + i) = some (ROB + 54 + i) := by
  unfold fPat
  rw [if_pos (show ROB + 3 ≤ ROB + 3 + i ∧ ROB + 3 + i < ROB + 12 by omega)]
  congr 1
  omega
theorem pat_in {i : Nat} (hi : i < 9) : ROB + 20 ≤ ROB + 54 + i ∧ ROB + 54 + i < ROB + 63 := by omega
theorem acc_e {i : Nat} (hi : i < 9) (x1 x2 : Int32) (M : Mem) : f_X1_accepts (ROB + 3 + i) x1 x2 M = f_X1_accepts (ROB + 3 + i) x1 x2 eM := by
  unfold f_X1_accepts f_X10_isKind f_X10_isCrease
  simp only [fPat_i hi, Option.bind_some, rcS_ro M (pat_in hi), rcS_ro eM (pat_in hi), ro_len M (pat_in hi), ro_chr M _ (pat_in hi)]
theorem siz_e {i : Nat} (hi : i < 9) (M : Mem) : f_X1_size (ROB + 3 + i) M = f_X1_size (ROB + 3 + i) eM := by
  unfold f_X1_size
  simp only [fPat_i hi, Option.bind_some, rcS_ro M (pat_in hi), rcS_ro eM (pat_in hi), ro_len M (pat_in hi)]
theorem pv_lp {i : Nat} (hi : i < 9) (x1 : Int32) (M : Mem) : ∀ n x2 x3, lp_X1_placeOfValue_4 (ROB + 3 + i) x1 M n x2 x3 = lp_X1_placeOfValue_4 (ROB + 3 + i) x1 eM n x2 x3 := by
  intro n
  induction n with
  | zero => intro x2 x3; rfl
  | succ n ih =>
    intro x2 x3
    simp only [lp_X1_placeOfValue_4, fPat_i hi, Option.bind_some, rcS_ro M (pat_in hi), rcS_ro eM (pat_in hi), ro_len M (pat_in hi), ro_chr M _ (pat_in hi), f_X1_isValue, ih]
theorem pv_e {i : Nat} (hi : i < 9) (x1 : Int32) (M : Mem) : f_X1_placeOfValue (ROB + 3 + i) x1 M = f_X1_placeOfValue (ROB + 3 + i) x1 eM := by
  unfold f_X1_placeOfValue
  rw [pv_lp hi]
theorem inr_d {x : Int32} {n : Nat} (h : inr x n = true) : x.toNatClampNeg < n := by
  unfold inr at h
  simp only [Bool.not_eq_true', Bool.or_eq_false_iff, decide_eq_false_iff_not] at h
  omega
theorem sa_lp (x0 x1 x2 : Int32) (M : Mem) : ∀ n x3 x4, lp_X6_stillAlive_5 x0 x1 x2 M n x3 x4 = lp_X6_stillAlive_5 x0 x1 x2 eM n x3 x4 := by
  intro n
  induction n with
  | zero => intro x3 x4; rfl
  | succ n ih =>
    intro x3 x4
    by_cases h : ROB + 1 = ROB + 1 ∧ inr x4 9 = true
    · have e : oG (ROB + 1) x4 = some (ROB + 3 + x4.toNatClampNeg) := if_pos h
      simp only [lp_X6_stillAlive_5, e, Option.bind_some, acc_e (inr_d h.2) x1 x2 M, ih]
    · have e : oG (ROB + 1) x4 = none := if_neg h
      simp only [lp_X6_stillAlive_5, e, Option.bind_none, ih]
theorem sa_e (x0 x1 x2 : Int32) (M : Mem) : f_X6_stillAlive x0 x1 x2 M = f_X6_stillAlive x0 x1 x2 eM := by
  unfold f_X6_stillAlive
  rw [sa_lp]
/-- which form a command has, if it has one -/
def nfm (x1 d : Int32) : Nat → Nat → Option Nat
  | 0, _ => none
  | k + 1, i => if ((x1 >>> (ni i &&& 31)) &&& 1) = 1 then (if f_X1_size (ROB + 3 + i) eM = some d then some i else nfm x1 d k (i + 1)) else nfm x1 d k (i + 1)
def noteW (p : Nat) (x2 : Int32) (j : Nat) (M : Mem) : Option Mem := (gP M 6 p 1).bind fun p8 => (gI M 6 p 4).bind fun x9 => (asI M 100 p8 x9 x2).bind fun M10 => (gP M10 6 p 2).bind fun p11 => (gI M10 6 p 4).bind fun x12 => (asI M10 100 p11 x12 (ni j)).bind fun M13 => (gI M13 6 p 4).bind fun x14 => sI M13 6 p 4 .int (x14 + 1)
theorem siz_some : ∀ i, i < 9 → (f_X1_size (ROB + 3 + i) eM).isSome = true := by decide +kernel
theorem oL_9 : oL (ROB + 1) = some 9 := if_pos rfl
theorem inr_b {i n : Nat} (h2 : i < 200) (hi : i < n) : inr (ni i) n = true := by
  have h := inr_ni h2 hi
  unfold inr
  simp only [Bool.not_eq_true', Bool.or_eq_false_iff, decide_eq_false_iff_not]
  exact ⟨fun z => h (Or.inl z), fun z => h (Or.inr z)⟩
theorem oG_i {i : Nat} (hi : i < 9) : oG (ROB + 1) (ni i) = some (ROB + 3 + i) := by
  unfold oG
  rw [if_pos ⟨rfl, inr_b (by omega) hi⟩, ni_nat i (by omega)]
theorem rcF_i {i : Nat} (hi : i < 9) : rcF (ROB + 3 + i) = some () := by
  unfold rcF
  exact if_pos (by omega)
theorem nc_lp (p : Nat) (x1 x2 x3 : Int32) (M : Mem) : ∀ k, k ≤ 9 → ∀ n, k < n → lp_X6_noteCommand_3 p x1 x2 x3 M n (ni (9 - k)) = match nfm x1 (x3 - x2) k (9 - k) with
    | none => some (.inl 9)
    | some j => (noteW p x2 j M).bind fun M' => some (.inr (1, M')) := by
  intro k
  induction k with
  | zero =>
    intro _ n hn
    obtain ⟨n, rfl⟩ : ∃ z, n = z + 1 := ⟨n - 1, by omega⟩
    simp only [lp_X6_noteCommand_3, oL_9, Option.bind_some, nfm]
    rfl
  | succ k ih =>
    intro hk n hn
    obtain ⟨n, rfl⟩ : ∃ z, n = z + 1 := ⟨n - 1, by omega⟩
    have hi : 9 - (k + 1) < 9 := by omega
    obtain ⟨z, hz⟩ := Option.isSome_iff_exists.mp (siz_some _ hi)
    simp only [lp_X6_noteCommand_3, oL_9, Option.bind_some, if_neg (up9a k (by omega)), oG_i hi, rcF_i hi, siz_e hi M, hz, nfm, up9b k (by omega), show 9 - (k + 1) + 1 = 9 - k by omega, ih (by omega) n (by omega), Option.some.injEq]
    split
    · split
      · unfold noteW
        simp only [Option.bind_assoc]
      · rfl
    · rfl
theorem nc_e (p : Nat) (x1 x2 x3 : Int32) (M : Mem) : f_X6_noteCommand p x1 x2 x3 M = match nfm x1 (x3 - x2) 9 0 with
    | none => some (0, M)
    | some j => (noteW p x2 j M).bind fun M' => some (1, M') := by
  have h : lp_X6_noteCommand_3 p x1 x2 x3 M 100 0 = match nfm x1 (x3 - x2) 9 0 with
    | none => some (.inl 9)
    | some j => (noteW p x2 j M).bind fun M' => some (.inr (1, M')) := nc_lp p x1 x2 x3 M 9 (Nat.le_refl _) 100 (by decide)
  unfold f_X6_noteCommand
  rw [h]
  cases nfm x1 (x3 - x2) 9 0 with
  | none => rfl
  | some j =>
    show ((noteW p x2 j M).bind _).bind _ = (noteW p x2 j M).bind _
    cases noteW p x2 j M <;> rfl
/-- the script: its text, the commands noted -/
abbrev Cms : Type := List (Int32 × Nat)
def SR (b : Nat) (T : List Int32) (cs : Cms) (M : Mem) : Prop := LH b M ∧ mI M (b + 337) 3 = ni T.length ∧ (∀ i, i < T.length → mI M (b + 338) i = T.getD i 0) ∧ mI M (b + 337) 4 = ni cs.length ∧ ∀ i, i < cs.length → mI M (b + 339) i = (cs.getD i (0, 0)).1 ∧ mI M (b + 340) i = ni (cs.getD i (0, 0)).2
theorem LH.sc {b : Nat} {M : Mem} (L : LH b M) : rc M 6 (b + 337) = some () ∧ gP M 6 (b + 337) 0 = some (b + 338) ∧ gP M 6 (b + 337) 1 = some (b + 339) ∧ gP M 6 (b + 337) 2 = some (b + 340) ∧ (∀ j, gI M 6 (b + 337) j = some (mI M (b + 337) j)) ∧ (∀ j x, sI M 6 (b + 337) j .int x = some (mUI M (b + 337) j x)) ∧ (∀ j, j < 60 → aI M 101 (b + 338) (ni j) = some (mI M (b + 338) j)) ∧ (∀ j, j < 60 → aI M 100 (b + 339) (ni j) = some (mI M (b + 339) j)) ∧ (∀ j, j < 60 → aI M 100 (b + 340) (ni j) = some (mI M (b + 340) j)) ∧ (∀ j x, j < 60 → asC M (b + 338) (ni j) x = some (mUI M (b + 338) j (vp_nar .char x))) ∧ (∀ j x, j < 60 → asI M 100 (b + 339) (ni j) x = some (mUI M (b + 339) j x)) ∧ ∀ j x, j < 60 → asI M 100 (b + 340) (ni j) x = some (mUI M (b + 340) j x) := by
  obtain ⟨q1, -, -, -, -, -, -, -, -, -, -, -, -, -, -, q16, q17, q18, q19, q20, q21, q22, -⟩ := L
  refine ⟨?_, ?_, ?_, ?_, fun j => ?_, fun j x => ?_, fun j hj => ?_, fun j hj => ?_, fun j hj => ?_, fun j x hj => ?_, fun j x hj => ?_, fun j x hj => ?_⟩
  · unfold rc
    rw [q16, if_pos ⟨rfl, by omega⟩]
  · unfold gP
    rw [q16, if_pos ⟨rfl, by omega⟩, q17]
  · unfold gP
    rw [q16, if_pos ⟨rfl, by omega⟩, q18]
  · unfold gP
    rw [q16, if_pos ⟨rfl, by omega⟩, q19]
  · unfold gI
    rw [q16, if_pos ⟨rfl, by omega⟩]
  · unfold sI
    rw [q16]
    exact if_pos ⟨rfl, by omega, rfl, rfl⟩
  · unfold aI
    rw [q20, if_pos ⟨rfl, by omega, inr_ni (by omega) hj⟩, ni_nat j (by omega)]
  · unfold aI
    rw [q21, if_pos ⟨rfl, by omega, inr_ni (by omega) hj⟩, ni_nat j (by omega)]
  · unfold aI
    rw [q22, if_pos ⟨rfl, by omega, inr_ni (by omega) hj⟩, ni_nat j (by omega)]
  · unfold asC asI
    rw [q20, if_pos ⟨rfl, by omega, inr_ni (by omega) hj⟩, ni_nat j (by omega)]
  · unfold asI
    rw [q21, if_pos ⟨rfl, by omega, inr_ni (by omega) hj⟩, ni_nat j (by omega)]
  · unfold asI
    rw [q22, if_pos ⟨rfl, by omega, inr_ni (by omega) hj⟩, ni_nat j (by omega)]
theorem getD_app {α : Type} (cs : List α) (x d : α) (i : Nat) (h : i < cs.length + 1) : (cs ++ [x]).getD i d = if i = cs.length then x else cs.getD i d := by
  rw [List.getD_eq_getElem?_getD, List.getD_eq_getElem?_getD, List.getElem?_append]
  by_cases e : i = cs.length
  · subst e
    simp
  · rw [if_pos (show i < cs.length by omega), if_neg e]
theorem note_w {b : Nat} {T : List Int32} {cs : Cms} {M : Mem} (K : SR b T cs M) (hc : cs.length < 60) (x2 : Int32) (j : Nat) : ∃ M', noteW (b + 337) x2 j M = some M' ∧ SR b T (cs ++ [(x2, j)]) M' ∧ Fo (b + 337) 4 M M' := by
  obtain ⟨L, e1, e2, e3, e4⟩ := K
  have s := L.sc
  have L1 := L.sh (Sh.UI M (b + 339) cs.length x2)
  have L2 := L1.sh (Sh.UI _ (b + 340) cs.length (ni j))
  refine ⟨mUI (mUI (mUI M (b + 339) cs.length x2) (b + 340) cs.length (ni j)) (b + 337) 4 (ni (cs.length + 1)), ?_, ⟨L2.sh (Sh.UI _ _ _ _), ?_, fun i hi => ?_, ?_, fun i hi => ?_⟩, ((Fo.up M _ _ (by omega)).tr (Fo.up _ _ _ (by omega))).tr (Fo.up _ _ _ (by omega))⟩
  · have e5 : mI (mUI M (b + 339) cs.length x2) (b + 337) 4 = ni cs.length := by
      rw [mI_UI, if_neg (by omega)]
      exact e3
    have e6 : mI (mUI (mUI M (b + 339) cs.length x2) (b + 340) cs.length (ni j)) (b + 337) 4 = ni cs.length := by
      rw [mI_UI, if_neg (by omega)]
      exact e5
    unfold noteW
    simp only [s.2.2.1, s.2.2.2.2.1, e3, Option.bind_some, s.2.2.2.2.2.2.2.2.2.2.1 _ x2 hc, L1.sc.2.2.2.1, L1.sc.2.2.2.2.1, e5, L1.sc.2.2.2.2.2.2.2.2.2.2.2 _ (ni j) hc, L2.sc.2.2.2.2.1, e6, L2.sc.2.2.2.2.2.1, ni_s]
  · rw [mI_UI, if_neg (by omega), mI_UI, if_neg (by omega), mI_UI, if_neg (by omega)]
    exact e1
  · rw [mI_UI, if_neg (by omega), mI_UI, if_neg (by omega), mI_UI, if_neg (by omega)]
    exact e2 i hi
  · rw [mI_UI, if_pos ⟨rfl, rfl⟩, List.length_append]
    rfl
  · rw [List.length_append] at hi
    have hi' : i < cs.length + 1 := hi
    rw [getD_app _ _ _ _ hi']
    refine ⟨?_, ?_⟩
    · rw [mI_UI, if_neg (by omega), mI_UI, if_neg (by omega), mI_UI]
      by_cases e : i = cs.length
      · rw [if_pos ⟨rfl, e⟩, if_pos e]
      · rw [if_neg (fun z => e z.2), if_neg e]
        exact (e4 i (by omega)).1
    · rw [mI_UI, if_neg (by omega), mI_UI]
      by_cases e : i = cs.length
      · rw [if_pos ⟨rfl, e⟩, if_pos e]
      · rw [if_neg (fun z => e z.2), if_neg e, mI_UI, if_neg (by omega)]
        exact (e4 i (by omega)).2
/-- how the text is read: where it can't be (or -1), and the commands noted -/
def afs : Int32 := ((1 : Int32) <<< ((9 : Int32) &&& 31)) - 1
def mrd (T : List Int32) : Nat → Int32 → Int32 → Nat → Cms → Option (Int32 × Cms)
  | 0, _, _, _, _ => none
  | n + 1, x1, x2, i, cs => if T.length ≤ i then (match nfm x2 (ni T.length - x1) 9 0 with
      | none => some (ni T.length, cs)
      | some j => if cs.length < 60 then some (-1, cs ++ [(x1, j)]) else none) else if T.getD i 0 = 59 then (match nfm x2 (ni i - x1) 9 0 with
      | none => some (ni i, cs)
      | some j => if cs.length < 60 then mrd T n (ni (i + 1)) afs (i + 1) (cs ++ [(x1, j)]) else none) else (match f_X6_stillAlive x2 (T.getD i 0) (ni i - x1) eM with
      | none => none
      | some r => if r = 0 then some (ni i, cs) else mrd T n x1 r (i + 1) cs)
def rdK (p0a : Nat) (q : (Int32 × Int32 × Int32 × Mem) ⊕ (Int32 × Mem)) : Option (Int32 × Mem) := match q with
  | .inl (q16_1, q16_2, q16_3, q16_M) => ((gI q16_M 6 p0a 3).bind fun x17 => (rc q16_M 6 p0a).bind fun _ => (f_X6_noteCommand p0a q16_2 q16_1 x17 q16_M).bind fun r18 => if r18.1 = 0 then ((gI r18.2 6 p0a 3).bind fun x21 => some (x21, r18.2)) else (some ((-1), r18.2)))
  | .inr q16_r => some q16_r
theorem rd_lp {b : Nat} {T : List Int32} (hT : T.length ≤ 60) {r : Int32} {cs' : Cms} : ∀ n x1 x2 i cs M, SR b T cs M → i ≤ T.length → mrd T n x1 x2 i cs = some (r, cs') → ∃ M', (lp_X6_read_13 (b + 337) n x1 x2 (ni i) M).bind (rdK (b + 337)) = some (r, M') ∧ SR b T cs' M' ∧ Fo (b + 337) 4 M M' := by
  intro n
  induction n with
  | zero => intro x1 x2 i cs M _ _ h; exact absurd h (by simp [mrd])
  | succ n ih =>
    intro x1 x2 i cs M K hi h
    have s := K.1.sc
    simp only [mrd] at h
    simp only [lp_X6_read_13, s.2.2.2.2.1, K.2.1, Option.bind_some]
    by_cases hl : T.length ≤ i
    · have el : i = T.length := by omega
      subst el
      rw [if_pos (Nat.le_refl _)] at h
      rw [if_pos (show ni T.length ≤ ni T.length from (ni_le (by omega) (by omega)).mpr (Nat.le_refl _))]
      simp only [Option.bind_some, rdK, s.2.2.2.2.1, K.2.1, s.1, nc_e]
      cases hj : nfm x2 (ni T.length - x1) 9 0 with
      | none =>
        rw [hj] at h
        simp only [Option.some.injEq, Prod.mk.injEq] at h
        obtain ⟨rfl, rfl⟩ := h
        refine ⟨M, ?_, K, Fo.rf _ _ _⟩
        simp only [Option.bind_some, if_true, s.2.2.2.2.1, K.2.1]
      | some j =>
        rw [hj] at h
        by_cases h60 : cs.length < 60
        case neg => exact absurd ((if_neg h60).symm.trans h) (by simp)
        replace h := (if_pos h60).symm.trans h
        simp only [Option.some.injEq, Prod.mk.injEq] at h
        obtain ⟨rfl, rfl⟩ := h
        obtain ⟨M1, f1, K1, o1⟩ := note_w K h60 x1 j
        refine ⟨M1, ?_, K1, o1⟩
        simp only [f1, Option.bind_some, if_neg (show ¬ (1 : Int32) = 0 by decide)]
    · rw [if_neg hl] at h
      have hi2 : i < T.length := by omega
      rw [if_neg (fun z => hl ((ni_le (by omega) (by omega)).mp z))]
      simp only [s.2.1, Option.bind_some, s.2.2.2.2.2.2.1 i (by omega), K.2.2.1 i hi2]
      by_cases h59 : T.getD i 0 = 59
      · rw [if_pos h59] at h ⊢
        simp only [s.1, Option.bind_some, nc_e]
        cases hj : nfm x2 (ni i - x1) 9 0 with
        | none =>
          rw [hj] at h
          simp only [Option.some.injEq, Prod.mk.injEq] at h
          obtain ⟨rfl, rfl⟩ := h
          refine ⟨M, ?_, K, Fo.rf _ _ _⟩
          simp only [Option.bind_some, if_true, rdK]
        | some j =>
          rw [hj] at h
          by_cases h60 : cs.length < 60
          case neg => exact absurd ((if_neg h60).symm.trans h) (by simp)
          replace h := (if_pos h60).symm.trans h
          obtain ⟨M1, f1, K1, o1⟩ := note_w K h60 x1 j
          obtain ⟨M2, f2, K2, o2⟩ := ih (ni (i + 1)) afs (i + 1) _ M1 K1 (by omega) h
          refine ⟨M2, ?_, K2, o1.tr o2⟩
          rw [← f2]
          simp only [f1, Option.bind_some, if_neg (show ¬ (1 : Int32) = 0 by decide), f_X6_allForms, oL_9, ni_s]
          rfl
      · rw [if_neg h59] at h ⊢
        rw [sa_e]
        cases hs : f_X6_stillAlive x2 (T.getD i 0) (ni i - x1) eM with
        | none =>
          rw [hs] at h
          exact absurd h (by simp)
        | some r1 =>
          rw [hs] at h
          simp only [] at h
          simp only [Option.bind_some]
          by_cases hr : r1 = 0
          · rw [if_pos hr] at h ⊢
            simp only [Option.some.injEq, Prod.mk.injEq] at h
            obtain ⟨rfl, rfl⟩ := h
            exact ⟨M, rfl, K, Fo.rf _ _ _⟩
          · rw [if_neg hr] at h ⊢
            rw [ni_s]
            exact ih x1 r1 (i + 1) cs M K (by omega) h
def mRead (T : List Int32) : Option (Int32 × Cms) := mrd T 100 0 afs 0 []
theorem x_read {b : Nat} {T : List Int32} (hT : T.length ≤ 60) {r : Int32} {cs : Cms} {M : Mem} (L : LH b M) (e1 : mI M (b + 337) 3 = ni T.length) (e2 : ∀ i, i < T.length → mI M (b + 338) i = T.getD i 0) (h : mRead T = some (r, cs)) : ∃ M', f_X6_read (b + 337) M = some (r, M') ∧ SR b T cs M' ∧ Fo (b + 337) 4 M M' := by
  have K : SR b T [] (mUI M (b + 337) 4 0) := ⟨L.sh (Sh.UI _ _ _ _), by rw [mI_UI, if_neg (by omega)]; exact e1, fun i hi => by rw [mI_UI, if_neg (by omega)]; exact e2 i hi, by rw [mI_UI, if_pos ⟨rfl, rfl⟩]; rfl, fun i hi => absurd hi (Nat.not_lt_zero i)⟩
  obtain ⟨M1, f1, K1, o1⟩ := rd_lp hT 100 0 afs 0 [] _ K (Nat.zero_le _) h
  refine ⟨M1, ?_, K1, (Fo.up M _ _ (by omega)).tr o1⟩
  unfold f_X6_read
  simp only [L.sc.2.2.2.2.2.1, Option.bind_some, f_X6_allForms, oL_9]
  exact f1
