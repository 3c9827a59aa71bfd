/-! ===== the law's entry: the cells that nobody writes, by their numbers ===== -/
theorem va_T_cg {ty : FieldType} {t N : Nat} {f g : Nat → Value} {A : Nat → Prop} {U : State} {H : Heap} (h : va_T ty t N f A U H) (e : ∀ j, j < N → f j = g j) : va_T ty t N g A U H := by
  obtain ⟨cell, h1, h2, h3, h4, h5, h6, h7⟩ := h
  exact ⟨cell, h1, h2, h3, h4, h5, fun j hj => by rw [h6 j hj, e j hj], h7⟩
def adOf (b tF tW tD tS : Nat) (ff fk fv : Nat → Nat) : Nat → Nat := fun k => if k = ROB then b else if k = ROB + 1 then tF else if k = ROB + 2 then tW else if k = ROB + 12 then tD else if k = ROB + 13 then tS else if k < ROB + 12 then ff (k - (ROB + 3)) else if k < ROB + 100 then fk (k - (ROB + 20)) else fv (k - (ROB + 100))
section ADO
variable {b tF tW tD tS : Nat} {ff fk fv : Nat → Nat}
theorem ado_0 : adOf b tF tW tD tS ff fk fv ROB = b := if_pos rfl
theorem ado_1 : adOf b tF tW tD tS ff fk fv (ROB + 1) = tF := by
  unfold adOf
  rw [if_neg (by omega), if_pos rfl]
theorem ado_2 : adOf b tF tW tD tS ff fk fv (ROB + 2) = tW := by
  unfold adOf
  rw [if_neg (by omega), if_neg (by omega), if_pos rfl]
theorem ado_12 : adOf b tF tW tD tS ff fk fv (ROB + 12) = tD := by
  unfold adOf
  rw [if_neg (by omega), if_neg (by omega), if_neg (by omega), if_pos rfl]
theorem ado_13 : adOf b tF tW tD tS ff fk fv (ROB + 13) = tS := by
  unfold adOf
  rw [if_neg (by omega), if_neg (by omega), if_neg (by omega), if_neg (by omega), if_pos rfl]
theorem ado_f {i : Nat} (hi : i < 9) : adOf b tF tW tD tS ff fk fv (ROB + 3 + i) = ff i := by
  unfold adOf
  rw [if_neg (by omega), if_neg (by omega), if_neg (by omega), if_neg (by omega), if_neg (by omega), if_pos (by omega), show ROB + 3 + i - (ROB + 3) = i by omega]
theorem ado_k {i : Nat} (hi : i < 43) : adOf b tF tW tD tS ff fk fv (ROB + 20 + i) = fk i := by
  unfold adOf
  rw [if_neg (by omega), if_neg (by omega), if_neg (by omega), if_neg (by omega), if_neg (by omega), if_neg (by omega), if_pos (by omega), show ROB + 20 + i - (ROB + 20) = i by omega]
theorem ado_v {i : Nat} (hi : i < 43) : adOf b tF tW tD tS ff fk fv (ROB + 100 + i) = fv i := by
  unfold adOf
  rw [if_neg (by omega), if_neg (by omega), if_neg (by omega), if_neg (by omega), if_neg (by omega), if_neg (by omega), if_neg (by omega), show ROB + 100 + i - (ROB + 100) = i by omega]
end ADO
section ZRO
variable {args : Array Value} {s : State}
theorem one_str {tm : Term} {T : List Int32} {A : Nat → Prop} (hN : T.length < 2 ^ 31) (hp : ∀ w ∈ strP tm T, w.before args s = true) (hA : ∀ a : Nat, a < s.heap.size → ¬ A a) : ∃ q : Nat × Nat, tm.eval args s none [] s = some (.ref q.1) ∧ va_O "java/lang/String" q.1 A s s.heap ∧ va_OF "java/lang/String" "coder" "B" (.int 0) q.1 A s s.heap ∧ va_OF "java/lang/String" "value" "[B" (.ref q.2) q.1 A s s.heap ∧ va_T .byte q.2 T.length (fun j => .int (T.getD j 0)) A s s.heap := by
  have p0 := hp (.exactly tm "java/lang/String") (List.mem_append_left _ (List.mem_of_getElem? (i := 0) rfl))
  have p1 := hp (.eq (.field tm "java/lang/String" "coder" "B") (.int 0)) (List.mem_append_left _ (List.mem_of_getElem? (i := 1) rfl))
  have p2 := hp (.arrayOf (bvT tm) .byte) (List.mem_append_left _ (List.mem_of_getElem? (i := 2) rfl))
  have p3 := hp (.eq (.length (bvT tm)) (.int (Int32.ofNat T.length))) (List.mem_append_left _ (List.mem_of_getElem? (i := 3) rfl))
  obtain ⟨a, c, cA, kA, q1, q2, q3, q4, q5, q6, -⟩ := Cond.exactly_spec (args := args) (first := s) (o := none) (s := s) (idx := []) (t := tm) (cls := "java/lang/String") p0
  obtain ⟨t, ht, hT⟩ := va_Tof (f := fun j => .int (T.getD j 0)) (A := A) hN p2 (va_eqt p3) (fun j hj => va_eqt (hp _ (List.mem_append_right _ (List.mem_map.mpr ⟨j, List.mem_range.mpr hj, rfl⟩)))) hA
  exact ⟨(a, t), q1, ⟨cA, q3, q5, by rw [q6]; exact q2, hA a (Array.getElem?_eq_some_iff.mp q3).1⟩, vk_OFof q1 (va_eqt p1) hA, vk_OFof q1 ht hA, hT⟩
theorem zr_of (hts : ∀ w ∈ lw_tbl, w.before args s = true) (hgv : (Jvm.Cond.and given_1 narrow_1).before args s = true) {b L : Nat} {xs : Nat → Int32} (hX : va_X b L xs s s.heap) (hbl : b < s.heap.size) : ∃ (v : Value) (ad : Nat → Nat), rob v ∧ ad ROB = b ∧ Zr (roG (L, xs, v)) ad (fun q => s.heap.size ≤ q) s s.heap := by
  have hA : ∀ a : Nat, a < s.heap.size → ¬ (fun q : Nat => s.heap.size ≤ q) a := fun a h => Nat.not_le.mpr h
  have hf := flat_of_before _ hgv
  have g1 : ∀ w ∈ ned1, w.before args s = true := fun w h => hf w (subL_mem _ _ ned1_in w h)
  have g2 : ∀ w ∈ ned2, w.before args s = true := fun w h => hf w (subL_mem _ _ ned2_in w h)
  have g3 : ∀ w ∈ ned3, w.before args s = true := fun w h => hf w (subL_mem _ _ ned3_in w h)
  have g4 : ∀ w ∈ ned4, w.before args s = true := fun w h => hf w (subL_mem _ _ ned4_in w h)
  obtain ⟨la1, la2, la3, la4, la5, la6, la7⟩ := la_words
  obtain ⟨in1, in2, in3, in4, in5, in6⟩ := in_words
  have hs : ∀ i : Nat, ∃ q : Nat × Nat, i < 43 → (stT i).eval args s none [] s = some (.ref q.1) ∧ va_O "java/lang/String" q.1 (fun q : Nat => s.heap.size ≤ q) s s.heap ∧ va_OF "java/lang/String" "coder" "B" (.int 0) q.1 (fun q : Nat => s.heap.size ≤ q) s s.heap ∧ va_OF "java/lang/String" "value" "[B" (.ref q.2) q.1 (fun q : Nat => s.heap.size ≤ q) s s.heap ∧ va_T .byte q.2 (rtx.getD i []).length (fun j => .int ((rtx.getD i []).getD j 0)) (fun q : Nat => s.heap.size ≤ q) s s.heap := by
    intro i
    by_cases hi : i < 43
    · obtain ⟨q, h⟩ := one_str (args := args) (s := s) (tm := stT i) (T := rtx.getD i []) (tx_len i hi) (fun w hw => g4 w (List.mem_flatMap.mpr ⟨i, List.mem_range.mpr hi, hw⟩)) hA
      exact ⟨q, fun _ => h⟩
    · exact ⟨(0, 0), fun h => absurd h hi⟩
  obtain ⟨fs, hs⟩ := Classical.axiomOfChoice hs
  have hm : ∀ i : Nat, ∃ a : Nat, i < 9 → (fmT i).eval args s none [] s = some (.ref a) ∧ va_O "MapHall$Form" a (fun q : Nat => s.heap.size ≤ q) s s.heap ∧ va_OF "java/lang/Enum" "ordinal" "I" (.int (Int32.ofNat i)) a (fun q : Nat => s.heap.size ≤ q) s s.heap ∧ va_OF "MapHall$Form" "pattern" "Ljava/lang/String;" (.ref (fs (34 + i)).1) a (fun q : Nat => s.heap.size ≤ q) s s.heap := by
    intro i
    by_cases hi : i < 9
    · have p0 := g2 (.exactly (fmT i) "MapHall$Form") (List.mem_flatMap.mpr ⟨i, List.mem_range.mpr hi, List.mem_of_getElem? (i := 0) rfl⟩)
      have p1 := g2 (.eq (.field (fmT i) "java/lang/Enum" "ordinal" "I") (.int (Int32.ofNat i))) (List.mem_flatMap.mpr ⟨i, List.mem_range.mpr hi, List.mem_of_getElem? (i := 1) rfl⟩)
      have p2 := g2 (.eq (.field (fmT i) "MapHall$Form" "pattern" "Ljava/lang/String;") (stT (34 + i))) (List.mem_flatMap.mpr ⟨i, List.mem_range.mpr hi, List.mem_of_getElem? (i := 2) rfl⟩)
      obtain ⟨a, c, cA, kA, q1, q2, q3, q4, q5, q6, -⟩ := Cond.exactly_spec (args := args) (first := s) (o := none) (s := s) (idx := []) (t := fmT i) (cls := "MapHall$Form") p0
      exact ⟨a, fun _ => ⟨q1, ⟨cA, q3, q5, by rw [q6]; exact q2, hA a (Array.getElem?_eq_some_iff.mp q3).1⟩, vk_OFof q1 (va_eqt p1) hA, vk_OFof q1 (eq_rf p2 (hs (34 + i) (by omega)).1) hA⟩⟩
    · exact ⟨0, fun h => absurd h hi⟩
  obtain ⟨ff, hm⟩ := Classical.axiomOfChoice hm
  have m1 : ∀ w, w ∈ ned1 → w.before args s = true := g1
  obtain ⟨tF, eF, TF⟩ := va_Tof (tm := foT) (ty := .object "MapHall$Form") (N := 9) (f := fun j => .ref (ff j)) (A := fun q : Nat => s.heap.size ≤ q) (args := args) (s := s) (by decide) (g1 _ (by unfold ned1; simp only [List.mem_append, List.mem_cons, true_or, or_true])) (va_eqt (g1 (.eq (.length foT) (.int 9)) (by unfold ned1; simp only [List.mem_append, List.mem_cons, true_or, or_true]))) (fun j hj => eq_rf (g1 (.eq (.elem foT (.int (Int32.ofNat j))) (fmT j)) (by
    unfold ned1
    refine List.mem_append_left _ (List.mem_append_left _ (List.mem_append_left _ (List.mem_append_left _ (List.mem_append_right _ ?_))))
    exact List.mem_map.mpr ⟨j, List.mem_range.mpr hj, rfl⟩)) (hm j hj).1) hA
  obtain ⟨tW, eW, TW⟩ := va_Tof (tm := swT) (ty := .int) (N := 9) (f := fun j => .int (swV.getD j 0)) (A := fun q : Nat => s.heap.size ≤ q) (args := args) (s := s) (by decide) (g1 _ (by unfold ned1; simp only [List.mem_append, List.mem_cons, true_or, or_true])) (va_eqt (g1 (.eq (.length swT) (.int 9)) (by unfold ned1; simp only [List.mem_append, List.mem_cons, true_or, or_true]))) (fun j hj => va_eqt (g1 (.eq (.elem swT (.int (Int32.ofNat j))) (.int (swV.getD j 0))) (by
    unfold ned1
    refine List.mem_append_left _ (List.mem_append_left _ (List.mem_append_right _ ?_))
    exact List.mem_map.mpr ⟨j, List.mem_range.mpr hj, rfl⟩))) hA
  obtain ⟨tD, eD, TD⟩ := va_Tof (tm := dgT) (ty := .byte) (N := 100) (f := fun j => .int (Int32.ofNat (48 + j % 10))) (A := fun q : Nat => s.heap.size ≤ q) (args := args) (s := s) (by decide) (g1 _ (by unfold ned1; simp only [List.mem_append, List.mem_cons, true_or, or_true])) (va_eqt (g1 (.eq (.length dgT) (.int 100)) (by unfold ned1; simp only [List.mem_append, List.mem_cons, true_or, or_true]))) (fun j hj => va_eqt (g1 (.eq (.elem dgT (.int (Int32.ofNat j))) (.int (Int32.ofNat (48 + j % 10)))) (by
    unfold ned1
    refine List.mem_append_right _ ?_
    exact List.mem_map.mpr ⟨j, List.mem_range.mpr hj, rfl⟩))) hA
  have cs := va_eqi (g1 (.eq (.static "java/lang/String" "COMPACT_STRINGS" "Z") (.int 1)) (by unfold ned1; simp only [List.mem_append, List.mem_cons, true_or, or_true]))
  have zs : ∃ (v : Value) (tS : Nat), rob v ∧ ∀ ad : Nat → Nat, ad (ROB + 13) = tS → va_Z "jdk/internal/util/Preconditions" "SIOOBE_FORMATTER" "Ljava/util/function/BiFunction;" (cv ad (nrm v)) (fun q : Nat => s.heap.size ≤ q) s s.heap := by
    rcases va_Zqof (hts _ la6) (hts _ in5) (g1 (.isRef (.static "jdk/internal/util/Preconditions" "SIOOBE_FORMATTER" "Ljava/util/function/BiFunction;")) (by unfold ned1; simp only [List.mem_append, List.mem_cons, true_or, or_true])) hA with h | ⟨t, h⟩
    · exact ⟨.null, 0, trivial, fun _ _ => h⟩
    · exact ⟨.ref (ROB + 13), t, Nat.le_add_right _ _, fun ad e => by rw [show cv ad (nrm (.ref (ROB + 13))) = .ref (ad (ROB + 13)) from rfl, e]; exact h⟩
  obtain ⟨v, tS, hv, zs⟩ := zs
  refine ⟨v, adOf b tF tW tD tS ff (fun i => (fs i).1) (fun i => (fs i).2), hv, ado_0, vx_Zqof (hts _ la1) (hts _ in1) (g1 (.isRef (.static "java/lang/Throwable" "UNASSIGNED_STACK" "[Ljava/lang/StackTraceElement;")) (by unfold ned1; simp only [List.mem_append, List.mem_cons, true_or, or_true])) hA, vx_Zqof (hts _ la2) (hts _ in1) (g1 (.isRef (.static "java/lang/Throwable" "SUPPRESSED_SENTINEL" "Ljava/util/List;")) (by unfold ned1; simp only [List.mem_append, List.mem_cons, true_or, or_true])) hA, fun q hq => ?_, fun q hq => ?_, fun q hq => ?_, fun q hq => ?_, fun q hq => ?_, fun q hq => ?_, fun q hq => ?_, fun q hq => ?_, fun q hq => ?_, fun q hq => ?_, fun q hq => ?_⟩
  · have hq2 : q ∈ roZ v := hq
    simp only [roZ, List.mem_cons, List.not_mem_nil, or_false] at hq2
    rcases hq2 with rfl | rfl | rfl | rfl | rfl
    · show va_Z "MapHall" "FORMS" "[LMapHall$Form;" (.ref (adOf b tF tW tD tS ff (fun i => (fs i).1) (fun i => (fs i).2) (ROB + 1))) _ s s.heap
      rw [ado_1]
      exact va_Zref (hts _ la3) (hts _ in2) eF hA
    · show va_Z "MapHall$1" "$SwitchMap$MapHall$Form" "[I" (.ref (adOf b tF tW tD tS ff (fun i => (fs i).1) (fun i => (fs i).2) (ROB + 2))) _ s s.heap
      rw [ado_2]
      exact va_Zref (hts _ la4) (hts _ in3) eW hA
    · exact va_Zof (hts _ la5) (hts _ in4) cs hA
    · exact zs _ ado_13
    · show va_Z "java/lang/Integer" "DigitOnes" "[B" (.ref (adOf b tF tW tD tS ff (fun i => (fs i).1) (fun i => (fs i).2) (ROB + 12))) _ s s.heap
      rw [ado_12]
      exact va_Zref (hts _ la7) (hts _ in6) eD hA
  · rcases List.mem_cons.mp (show q ∈ ((FieldType.int, ROB, L, fun j => Value.int (xs j)) :: roT) from hq) with rfl | hq
    · show va_T .int (adOf b tF tW tD tS ff (fun i => (fs i).1) (fun i => (fs i).2) ROB) L (fun j => .int (xs j)) _ s s.heap
      rw [ado_0]
      obtain ⟨scr, h1, h2, h3, h4, h5⟩ := hX
      exact ⟨scr, h1, h2, h3, by omega, by rw [h4], h5, hA b hbl⟩
    · rw [roT_e] at hq
      rcases List.mem_append.mp hq with hq | hq
      · rcases List.mem_append.mp hq with hq | hq
        · simp only [List.mem_cons, List.not_mem_nil, or_false] at hq
          rcases hq with rfl | rfl
          · show va_T (.object "MapHall$Form") (adOf b tF tW tD tS ff (fun i => (fs i).1) (fun i => (fs i).2) (ROB + 1)) 9 (fun j => .ref (adOf b tF tW tD tS ff (fun i => (fs i).1) (fun i => (fs i).2) (ROB + 3 + j))) _ s s.heap
            rw [ado_1]
            exact va_T_cg TF (fun j hj => by rw [ado_f hj])
          · show va_T .int (adOf b tF tW tD tS ff (fun i => (fs i).1) (fun i => (fs i).2) (ROB + 2)) 9 (fun j => .int (swV.getD j 0)) _ s s.heap
            rw [ado_2]
            exact TW
        · obtain ⟨i, hi, rfl⟩ := List.mem_map.mp hq
          have hi := List.mem_range.mp hi
          show va_T .byte (adOf b tF tW tD tS ff (fun i => (fs i).1) (fun i => (fs i).2) (ROB + 100 + i)) (rtx.getD i []).length (fun j => .int ((rtx.getD i []).getD j 0)) _ s s.heap
          rw [ado_v hi]
          exact (hs i hi).2.2.2.2
      · simp only [List.mem_cons, List.not_mem_nil, or_false] at hq
        subst hq
        show va_T .byte (adOf b tF tW tD tS ff (fun i => (fs i).1) (fun i => (fs i).2) (ROB + 12)) 100 (fun j => .int (Int32.ofNat (48 + j % 10))) _ s s.heap
        rw [ado_12]
        exact TD
  · have hq2 : q ∈ roO := hq
    rw [roO_e] at hq2
    rcases List.mem_append.mp hq2 with hq2 | hq2
    · obtain ⟨i, hi, rfl⟩ := List.mem_map.mp hq2
      have hi := List.mem_range.mp hi
      show va_O "MapHall$Form" (adOf b tF tW tD tS ff (fun i => (fs i).1) (fun i => (fs i).2) (ROB + 3 + i)) _ s s.heap
      rw [ado_f hi]
      exact (hm i hi).2.1
    · obtain ⟨i, hi, rfl⟩ := List.mem_map.mp hq2
      have hi := List.mem_range.mp hi
      show va_O "java/lang/String" (adOf b tF tW tD tS ff (fun i => (fs i).1) (fun i => (fs i).2) (ROB + 20 + i)) _ s s.heap
      rw [ado_k hi]
      exact (hs i hi).2.1
  · have hq2 : q ∈ roF := hq
    rw [roF_e] at hq2
    rcases List.mem_append.mp hq2 with hq2 | hq2
    · obtain ⟨i, hi, hq2⟩ := List.mem_flatMap.mp hq2
      have hi := List.mem_range.mp hi
      simp only [List.mem_cons, List.not_mem_nil, or_false] at hq2
      rcases hq2 with rfl | rfl
      · show va_OF "java/lang/Enum" "ordinal" "I" (.int (Int32.ofNat i)) (adOf b tF tW tD tS ff (fun i => (fs i).1) (fun i => (fs i).2) (ROB + 3 + i)) _ s s.heap
        rw [ado_f hi]
        exact (hm i hi).2.2.1
      · show va_OF "MapHall$Form" "pattern" "Ljava/lang/String;" (.ref (adOf b tF tW tD tS ff (fun i => (fs i).1) (fun i => (fs i).2) (ROB + 54 + i))) (adOf b tF tW tD tS ff (fun i => (fs i).1) (fun i => (fs i).2) (ROB + 3 + i)) _ s s.heap
        rw [ado_f hi, show ROB + 54 + i = ROB + 20 + (34 + i) by omega, ado_k (by omega)]
        exact (hm i hi).2.2.2
    · obtain ⟨i, hi, hq2⟩ := List.mem_flatMap.mp hq2
      have hi := List.mem_range.mp hi
      simp only [List.mem_cons, List.not_mem_nil, or_false] at hq2
      rcases hq2 with rfl | rfl
      · show va_OF "java/lang/String" "value" "[B" (.ref (adOf b tF tW tD tS ff (fun i => (fs i).1) (fun i => (fs i).2) (ROB + 100 + i))) (adOf b tF tW tD tS ff (fun i => (fs i).1) (fun i => (fs i).2) (ROB + 20 + i)) _ s s.heap
        rw [ado_v hi, ado_k hi]
        exact (hs i hi).2.2.2.1
      · show va_OF "java/lang/String" "coder" "B" (.int 0) (adOf b tF tW tD tS ff (fun i => (fs i).1) (fun i => (fs i).2) (ROB + 20 + i)) _ s s.heap
        rw [ado_k hi]
        exact (hs i hi).2.2.1
  · have hq2 : q ∈ roS := hq
    rw [roS_e] at hq2
    obtain ⟨i, hi, rfl⟩ := List.mem_map.mp hq2
    have hi := List.mem_range.mp hi
    show vk_R (rs0 i).1 (rs0 i).2.1 (rs0 i).2.2.1 (adOf b tF tW tD tS ff (fun i => (fs i).1) (fun i => (fs i).2) (ROB + 20 + i)) s
    rw [ado_k hi]
    have e1 := (hs i hi).1
    have e2 := hts _ (ro_S i hi)
    exact vk_R.of e2 e1
  · exact va_Nc.of (g3 (.not (.castable q.1 q.2)) (List.mem_map.mpr ⟨q, hq, rfl⟩))
  · exact va_Nw.of rfl (hts _ (ro_M q hq))
  · exact va_Nw.of rfl (hts _ (ro_L q hq))
  · exact va_Nw.of rfl (hts _ (ro_C q hq))
  · exact va_AO.of (hts _ (ro_A q hq))
  · exact va_Nw.of rfl (hts _ (ro_D q hq))
end ZRO
