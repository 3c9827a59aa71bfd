/-! ===== the law's entry: what the tables and the start say ===== -/
/-- a list's members in their order among another's -/
def subL : List Cond → List Cond → Bool
  | [], xs => xs.isEmpty
  | _ :: _, [] => true
  | y :: ys, x :: xs => if x = y then subL ys xs else subL ys (x :: xs)
theorem subL_mem : ∀ (ys xs : List Cond), subL ys xs = true → ∀ w ∈ xs, w ∈ ys := by
  intro ys
  induction ys with
  | nil =>
    intro xs h w hw
    cases xs with
    | nil => cases hw
    | cons x xs => cases h
  | cons y ys ih =>
    intro xs h w hw
    cases xs with
    | nil => cases hw
    | cons x xs =>
      unfold subL at h
      split at h
      · rename_i e
        rcases List.mem_cons.mp hw with rfl | hw
        · rw [e]; exact List.mem_cons_self
        · exact List.mem_cons_of_mem _ (ih _ h _ hw)
      · exact List.mem_cons_of_mem _ (ih _ h _ hw)
section ENT
variable {args : Array Value} {s : State}
theorem eq_rf {t u : Term} {a : Nat} (h : (Cond.eq t u).before args s = true) (hu : u.eval args s none [] s = some (.ref a)) : t.eval args s none [] s = some (.ref a) := by
  cases hv : t.eval args s none [] s with
  | none => simp [Cond.before, Cond.holds, Cond.value, hv] at h
  | some w =>
    simp only [Cond.before, Cond.holds, Cond.value, hv, hu] at h
    cases w <;> simp_all
theorem ar_p {ty : FieldType} (hp : ∀ cA, s.vm.findClass ("[" ++ ty.toString) = some cA → va_RA s cA ty) (h : (Cond.arrayClass ty).before args s = true) : ∃ cA : ClassId, ArrOfT s cA ty ∧ va_RA s cA ty := by
  obtain ⟨cA, kA, comp, h1, h2, h3⟩ := Cond.arrayClass_spec h
  exact ⟨cA, fun n z => ⟨fun k h => (by cases h), kA, h2, comp, h3⟩, hp cA h1⟩
theorem ar_o {C : String} (h : (Cond.arrayOver (.object C)).before args s = true) : ∃ cA : ClassId, ArrOfT s cA (.object C) ∧ va_RA s cA (.object C) := by
  obtain ⟨comp, c, k, h1, h2, h3, h4, h5⟩ := Cond.arrayOver_spec h
  exact ⟨c, fun n z => ⟨fun k h => (by cases h), k, h3, comp, h4⟩, k, comp, h3, h4, h1, h5⟩
theorem ar_words : Cond.arrayClass .int ∈ lw_tbl ∧ Cond.arrayClass .char ∈ lw_tbl ∧ Cond.arrayClass .byte ∈ lw_tbl ∧ Cond.arrayClass .long ∈ lw_tbl ∧ Cond.arrayOver (.object "MapHall$Sheet") ∈ lw_tbl ∧ Cond.arrayOver (.object "MapHall$State") ∈ lw_tbl := by decide +kernel
theorem ins_words : ∀ q ∈ vwCl, Cond.instantiable q.1 q.2.2 ∈ lw_tbl := by
  have h : ∀ q ∈ vwCl.map (fun q => (q.1, q.2.2)), Cond.instantiable q.1 q.2 ∈ lw_tbl := by decide +kernel
  intro q hq
  exact h (q.1, q.2.2) (List.mem_map.mpr ⟨q, hq, rfl⟩)
theorem kn_words : ∀ (c : Nat) (q : vw_C), vwCl[c]? = some q → ∀ w ∈ u_ws q.1 q.2.1 q.2.2, w ∈ wsG := by
  intro c q hq
  match c, hq with
  | 0, hq => cases hq; exact cb0.2.1
  | 1, hq => cases hq; exact cb1.2.1
  | 2, hq => cases hq; exact cb2.2.1
  | 3, hq => cases hq; exact cb3.2.1
  | 4, hq => cases hq; exact cb4.2.1
  | 5, hq => cases hq; exact cb5.2.1
  | 6, hq => cases hq; exact cb6.2.1
  | 7, hq => cases hq; exact cb7.2.1
  | 8, hq => cases hq; exact cb8.2.1
  | 9, hq => cases hq; exact cb9.2.1
  | 10, hq => cases hq; exact cb10.2.1
  | c + 11, hq => simp [vwCl] at hq
/-- words about what only StringBuilder's parent has -/
theorem mo_words : ∀ y ∈ ([⟨"java/lang/AbstractStringBuilder", "ensureCapacityInternal", "(I)V"⟩, ⟨"java/lang/AbstractStringBuilder", "putStringAt", "(ILjava/lang/String;)V"⟩, ⟨"java/lang/AbstractStringBuilder", "inflateIfNeededFor", "(Ljava/lang/String;)V"⟩] : List MethodName), Cond.privateMethod y ∈ lw_tbl ∧ Cond.instanceMethod y ∈ lw_tbl ∧ Cond.sameMethod y.cls y.cls y.name y.desc ∈ lw_tbl ∧ (y.cls ≠ "java/lang/invoke/MethodHandle" ∧ y.cls ≠ "java/lang/invoke/VarHandle") := by decide +kernel
theorem mo_ins : Cond.instantiable "java/lang/StringBuilder" 4 ∈ lw_tbl := by decide +kernel
theorem ent_words (hts : ∀ w ∈ lw_tbl, w.before args s = true) : ∀ w ∈ wsG, w.before args s = true := by
  intro w hw
  rcases List.mem_append.mp (List.mem_filter.mp hw).1 with h | h
  · exact hts w h
  · obtain ⟨y, hy, rfl⟩ := List.mem_map.mp h
    obtain ⟨h1, h2, h3, h4⟩ := mo_words y hy
    exact sel_priv (hts _ mo_ins) (hts _ h1) (hts _ h2) (hts _ h3) h4
theorem ent_K (hts : ∀ w ∈ lw_tbl, w.before args s = true) : ∃ (D : va_G) (CA : Nat → ClassId), va_K D vwCl (tyL CA) s := by
  have hG := ent_words hts
  have h1 : ∀ c : Nat, ∃ x : ClassId × (Nat → Nat), ∀ q : vw_C, vwCl[c]? = some q → u_Kn s q.1 q.2.1 q.2.2 x.1 x.2 := by
    intro c
    cases hq : vwCl[c]? with
    | none => exact ⟨(0, fun _ => 0), fun q h => by cases h⟩
    | some q =>
      obtain ⟨cC, iS, hk⟩ := u_known hG (kn_words c q hq) (hts _ (ins_words q (List.mem_of_getElem? hq)))
      exact ⟨(cC, iS), fun q' h => by cases h; exact hk⟩
  obtain ⟨f, hf⟩ := Classical.axiomOfChoice h1
  obtain ⟨w1, w2, w3, w4, w5, w6⟩ := ar_words
  obtain ⟨cI, aI, rI⟩ := ar_p (s := s) (ty := .int) (fun cA h => h) (hts _ w1)
  obtain ⟨cC, aC, rC⟩ := ar_p (s := s) (ty := .char) (fun cA h => h) (hts _ w2)
  obtain ⟨cB, aB, rB⟩ := ar_p (s := s) (ty := .byte) (fun cA h => h) (hts _ w3)
  obtain ⟨cL, aL', rL⟩ := ar_p (s := s) (ty := .long) (fun cA h => h) (hts _ w4)
  obtain ⟨cS, aS, rS⟩ := ar_o (hts _ w5)
  obtain ⟨cT, aT, rT⟩ := ar_o (hts _ w6)
  refine ⟨(fun c => (f c).1, fun c => (f c).2), fun n => if n = 100 then cI else if n = 101 then cC else if n = 102 then cB else if n = 110 then cL else if n = 120 then cS else cT, hf, ?_⟩
  intro k q hq
  match k, hq with
  | 0, hq => cases hq; exact ⟨aI, rI⟩
  | 1, hq => cases hq; exact ⟨aC, rC⟩
  | 2, hq => cases hq; exact ⟨aB, rB⟩
  | 3, hq => cases hq; exact ⟨aL', rL⟩
  | 4, hq => cases hq; exact ⟨aS, rS⟩
  | 5, hq => cases hq; exact ⟨aT, rT⟩
  | k + 6, hq => simp [tyL, tyT] at hq
end ENT
