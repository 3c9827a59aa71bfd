/-! ===== pure: a hall ===== -/
/-- its state, the saved one, the ring, whether one was saved, the next place, how many are kept, the two positions, the text -/
abbrev Hs : Type := St × St × (Nat → St) × Bool × Nat × Nat × Int32 × Int32 × List Int32
def hC (h : Hs) : St := h.1
def hV (h : Hs) : St := h.2.1
def hL (h : Hs) : Nat → St := h.2.2.1
def hB (h : Hs) : Bool := h.2.2.2.1
def hN (h : Hs) : Nat := h.2.2.2.2.1
def hK (h : Hs) : Nat := h.2.2.2.2.2.1
def hM (h : Hs) : Int32 := h.2.2.2.2.2.2.1
def hF (h : Hs) : Int32 := h.2.2.2.2.2.2.2.1
def hT (h : Hs) : List Int32 := h.2.2.2.2.2.2.2.2
def LH (b : Nat) (M : Mem) : Prop :=
  b + 343 ≤ mN M ∧ mS M b = (10, 0) ∧ mP M b 0 = .ref (b + 1) ∧ mP M b 1 = .ref (b + 31) ∧ mP M b 3 = .ref (b + 61) ∧ mP M b 5 = .ref (b + 335) ∧ mP M b 6 = .ref (b + 337) ∧ mP M b 7 = .ref (b + 341) ∧
  mS M (b + 61) = (4, 0) ∧ mP M (b + 61) 0 = .ref (b + 62) ∧ mS M (b + 62) = (121, 9) ∧ (∀ i, i < 9 → mP M (b + 62) i = .ref (b + 63 + 30 * i)) ∧
  mS M (b + 335) = (8, 0) ∧ mP M (b + 335) 0 = .ref (b + 336) ∧ mS M (b + 336) = (100, 7) ∧
  mS M (b + 337) = (6, 0) ∧ mP M (b + 337) 0 = .ref (b + 338) ∧ mP M (b + 337) 1 = .ref (b + 339) ∧ mP M (b + 337) 2 = .ref (b + 340) ∧ mS M (b + 338) = (101, 60) ∧ mS M (b + 339) = (100, 60) ∧ mS M (b + 340) = (100, 60) ∧
  mS M (b + 341) = (5, 0) ∧ mP M (b + 341) 0 = .ref (b + 342) ∧ mS M (b + 342) = (101, 22)
theorem LH.sh {b : Nat} {M M' : Mem} (h : LH b M) (k : Sh M M') : LH b M' := by
  unfold LH
  simp only [k.N, k.S, k.P]
  exact h
def Hall (b : Nat) (h : Hs) (M : Mem) : Prop := LH b M ∧ At (b + 1) (hC h) M ∧ At (b + 31) (hV h) M ∧ (∀ i, i < 9 → At (b + 63 + 30 * i) (hL h i) M) ∧ mI M b 2 = b01 (hB h) ∧ mI M (b + 61) 1 = ni (hN h) ∧ mI M (b + 61) 2 = ni (hK h) ∧ mI M b 8 = hM h ∧ mI M b 9 = hF h ∧ mI M (b + 337) 3 = ni (hT h).length ∧ (∀ i, i < (hT h).length → mI M (b + 338) i = (hT h).getD i 0) ∧ ∃ n, n ≤ 22 ∧ mI M (b + 341) 1 = ni n
def WH (h : Hs) : Prop := WF (hC h) ∧ WF (hV h) ∧ (∀ i, i < 9 → WF (hL h i)) ∧ hN h < 9 ∧ hK h ≤ 8 ∧ (hT h).length ≤ 60
theorem At.dj {B n : Nat} {V : St} {B1 : Nat} {M M' : Mem} (h : At B V M) (o : Fo B1 n M M') (hd : B + 30 ≤ B1 ∨ B1 + n ≤ B) : At B V M' := h.keep o.1 (fun k j z1 z2 => o.2 k j (by omega))
section HL
variable {b : Nat} {h : Hs} {M : Mem}
theorem Hall.rc10 (H : Hall b h M) : rc M 10 b = some () := by
  obtain ⟨⟨q1, q2, -⟩, -⟩ := H
  unfold rc
  rw [q2, if_pos ⟨rfl, by omega⟩]
theorem LH.p (L : LH b M) : gP M 10 b 0 = some (b + 1) ∧ gP M 10 b 1 = some (b + 31) ∧ gP M 10 b 3 = some (b + 61) ∧ gP M 10 b 5 = some (b + 335) ∧ gP M 10 b 6 = some (b + 337) ∧ gP M 10 b 7 = some (b + 341) := by
  obtain ⟨q1, q2, q3, q4, q5, q6, q7, q8, -⟩ := L
  have hg : mS M b = (10, 0) ∧ b < mN M := ⟨q2, by omega⟩
  unfold gP
  rw [hg.1, q3, q4, q5, q6, q7, q8]
  simp only [hg.2, and_self, if_true]
theorem LH.rc4 (L : LH b M) : rc M 4 (b + 61) = some () := by
  obtain ⟨q1, -, -, -, -, -, -, -, q9, -⟩ := L
  unfold rc
  rw [q9, if_pos ⟨rfl, by omega⟩]
theorem LH.rc10 (L : LH b M) : rc M 10 b = some () := by
  obtain ⟨q1, q2, -⟩ := L
  unfold rc
  rw [q2, if_pos ⟨rfl, by omega⟩]
theorem LH.g4 (L : LH b M) (j : Nat) : gI M 4 (b + 61) j = some (mI M (b + 61) j) := by
  obtain ⟨q1, -, -, -, -, -, -, -, q9, -⟩ := L
  unfold gI
  rw [q9, if_pos ⟨rfl, by omega⟩]
theorem LH.s4 (L : LH b M) (j : Nat) (x : Int32) : sI M 4 (b + 61) j .int x = some (mUI M (b + 61) j x) := by
  obtain ⟨q1, -, -, -, -, -, -, -, q9, -⟩ := L
  unfold sI
  rw [q9]
  exact if_pos ⟨rfl, by omega, rfl, rfl⟩
theorem LH.p4 (L : LH b M) : gP M 4 (b + 61) 0 = some (b + 62) := by
  obtain ⟨q1, -, -, -, -, -, -, -, q9, q10, -⟩ := L
  unfold gP
  rw [q9, if_pos ⟨rfl, by omega⟩, q10]
theorem LH.sl (L : LH b M) {i : Nat} (hi : i < 9) : aP M 121 (b + 62) (ni i) = some (b + 63 + 30 * i) := by
  obtain ⟨q1, -, -, -, -, -, -, -, -, -, q11, q12, -⟩ := L
  unfold aP
  rw [q11, if_pos ⟨rfl, by omega, inr_ni (by omega) hi⟩, ni_nat i (by omega), q12 i hi]
theorem LH.gi (L : LH b M) (j : Nat) : gI M 10 b j = some (mI M b j) := by
  obtain ⟨q1, q2, -⟩ := L
  unfold gI
  rw [q2, if_pos ⟨rfl, by omega⟩]
theorem LH.si (L : LH b M) (j : Nat) (ty : FieldType) (x : Int32) (h1 : narrow ty (.int x) = .int x) (h2 : fits ty (.int x) = true) : sI M 10 b j ty x = some (mUI M b j x) := by
  obtain ⟨q1, q2, -⟩ := L
  unfold sI
  rw [q2]
  exact if_pos ⟨rfl, by omega, h1, h2⟩
/-- something changed in one state alone -/
theorem Hall.cur {M' : Mem} {V : St} (H : Hall b h M) (o : Fo (b + 1) 30 M M') (a : At (b + 1) V M') : Hall b (V, h.2) M' := by
  obtain ⟨q1, q2, q3, q4, q5, q6, q7, q8, q9, q10, q11, n12, z12, e12⟩ := H
  refine ⟨q1.sh o.1, a, q3.dj o (by omega), fun i hi => (q4 i hi).dj o (by omega), ?_, ?_, ?_, ?_, ?_, ?_, fun i hi => ?_, n12, z12, ?_⟩
  · rw [o.2 _ _ (by omega)]; exact q5
  · rw [o.2 _ _ (by omega)]; exact q6
  · rw [o.2 _ _ (by omega)]; exact q7
  · rw [o.2 _ _ (by omega)]; exact q8
  · rw [o.2 _ _ (by omega)]; exact q9
  · rw [o.2 _ _ (by omega)]; exact q10
  · rw [o.2 _ _ (by omega)]; exact q11 i hi
  · rw [o.2 _ _ (by omega)]; exact e12
def upL (L : Nat → St) (i : Nat) (V : St) : Nat → St := fun k => if k = i then V else L k
theorem Hall.slot {M' : Mem} {V : St} {i : Nat} (H : Hall b h M) (hi : i < 9) (o : Fo (b + 63 + 30 * i) 30 M M') (a : At (b + 63 + 30 * i) V M') : Hall b (hC h, hV h, upL (hL h) i V, h.2.2.2) M' := by
  obtain ⟨q1, q2, q3, q4, q5, q6, q7, q8, q9, q10, q11, n12, z12, e12⟩ := H
  refine ⟨q1.sh o.1, q2.dj o (by omega), q3.dj o (by omega), fun k hk => ?_, ?_, ?_, ?_, ?_, ?_, ?_, fun i hi => ?_, n12, z12, ?_⟩
  · show At _ (upL (hL h) i V k) M'
    unfold upL
    by_cases e : k = i
    · subst e
      rw [if_pos rfl]
      exact a
    · rw [if_neg e]
      exact (q4 k hk).dj o (by omega)
  · rw [o.2 _ _ (by omega)]; exact q5
  · rw [o.2 _ _ (by omega)]; exact q6
  · rw [o.2 _ _ (by omega)]; exact q7
  · rw [o.2 _ _ (by omega)]; exact q8
  · rw [o.2 _ _ (by omega)]; exact q9
  · rw [o.2 _ _ (by omega)]; exact q10
  · rw [o.2 _ _ (by omega)]; exact q11 i hi
  · rw [o.2 _ _ (by omega)]; exact e12
theorem At.ui {B : Nat} {V : St} {k j : Nat} {x : Int32} (a : At B V M) (hk : k < B ∨ B + 30 ≤ k) : At B V (mUI M k j x) := a.keep (Sh.UI M k j x) (fun k' j' z1 z2 => by rw [mI_UI, if_neg (by omega)])
/-- next and kept -/
theorem Hall.ring (H : Hall b h M) (n k : Nat) : Hall b (hC h, hV h, hL h, hB h, n, k, h.2.2.2.2.2.2) (mUI (mUI M (b + 61) 1 (ni n)) (b + 61) 2 (ni k)) := by
  obtain ⟨q1, q2, q3, q4, q5, q6, q7, q8, q9, q10, q11, n12, z12, e12⟩ := H
  refine ⟨(q1.sh (Sh.UI _ _ _ _)).sh (Sh.UI _ _ _ _), (q2.ui (by omega)).ui (by omega), (q3.ui (by omega)).ui (by omega), fun i hi => ((q4 i hi).ui (by omega)).ui (by omega), ?_, ?_, ?_, ?_, ?_, ?_, fun i hi => ?_, n12, z12, ?_⟩
  · rw [mI_UI, if_neg (by omega), mI_UI, if_neg (by omega)]; exact q5
  · rw [mI_UI, if_neg (by omega), mI_UI, if_pos ⟨rfl, rfl⟩]; rfl
  · rw [mI_UI, if_pos ⟨rfl, rfl⟩]; rfl
  · rw [mI_UI, if_neg (by omega), mI_UI, if_neg (by omega)]; exact q8
  · rw [mI_UI, if_neg (by omega), mI_UI, if_neg (by omega)]; exact q9
  · rw [mI_UI, if_neg (by omega), mI_UI, if_neg (by omega)]; exact q10
  · rw [mI_UI, if_neg (by omega), mI_UI, if_neg (by omega)]; exact q11 i hi
  · rw [mI_UI, if_neg (by omega), mI_UI, if_neg (by omega)]; exact e12
/-- before a change: the state into the ring's next place -/
def preH (h : Hs) : Hs := (hC h, hV h, upL (hL h) (hN h) (hC h), h.2.2.2)
theorem x_prepare (H : Hall b h M) (w : WH h) : ∃ M', f_X3_prepare (b + 61) (b + 1) M = some ((), M') ∧ Hall b (preH h) M' ∧ Fo b 343 M M' := by
  have q6 := H.2.2.2.2.2.1
  have hn := w.2.2.2.1
  obtain ⟨M1, f1, a1, a2, o1⟩ := c_state (H.2.2.2.1 (hN h) hn).1 H.2.1 w.1 (show Dj (b + 63 + 30 * hN h) (b + 1) by unfold Dj; omega)
  refine ⟨M1, ?_, H.slot hn o1 a1, o1.mono (by omega)⟩
  unfold f_X3_prepare
  simp only [H.1.p4, H.1.g4, q6, H.1.sl hn, (H.2.2.2.1 (hN h) hn).rc9, Option.bind_some, f1]
def keepH (h : Hs) : Hs := (hC h, hV h, hL h, hB h, (hN h + 1) % 9, min 8 (hK h + 1), h.2.2.2.2.2.2)
theorem mod9 : ∀ n, n < 9 → (ni n + 1) - (ni n + 1) / 9 * 9 = ni ((n + 1) % 9) := by decide +kernel
theorem min8 : ∀ k, k < 9 → (if ni k + 1 < 8 then ni k + 1 else 8) = ni (min 8 (k + 1)) := by decide +kernel
theorem x_keep (H : Hall b h M) (w : WH h) : ∃ M', f_X3_keepPrepared (b + 61) M = some ((), M') ∧ Hall b (keepH h) M' ∧ Fo b 343 M M' := by
  have q6 := H.2.2.2.2.2.1
  have q7 := H.2.2.2.2.2.2.1
  have L := H.1
  refine ⟨_, ?_, H.ring ((hN h + 1) % 9) (min 8 (hK h + 1)), (Fo.up M _ _ (by omega)).tr (Fo.up _ _ _ (by omega))⟩
  unfold f_X3_keepPrepared
  simp only [L.g4, q6, Option.bind_some, mod9 (hN h) w.2.2.2.1, L.s4]
  have L1 := L.sh (Sh.UI M (b + 61) 1 (ni ((hN h + 1) % 9)))
  have e2 : mI (mUI M (b + 61) 1 (ni ((hN h + 1) % 9))) (b + 61) 2 = ni (hK h) := by
    rw [mI_UI, if_neg (by omega)]
    exact q7
  simp only [L1.g4, Option.bind_some, x_min, e2]
  rw [min8 (hK h) (by have := w.2.2.2.2.1; omega), L1.s4]
  rfl
/-! a change as the face has it -/
def excOf (a : Int32) : String := if a = (-4) then "java/lang/UnsupportedOperationException" else if a = (-3) then "java/lang/IllegalStateException" else if a = (-2) then "java/lang/IllegalArgumentException" else if a = (-1) then "java/lang/IndexOutOfBoundsException" else "java/util/NoSuchElementException"
theorem x_refuse (a : Int32) (M : Mem) : f_X10_throwRefusal a M = some (.inr (excOf a)) := by
  unfold f_X10_throwRefusal excOf
  split
  · rfl
  split
  · rfl
  split
  · rfl
  split <;> rfl
def outR (a : Int32) : Int32 ⊕ String := if 0 ≤ a then .inl a else .inr (excOf a)
def recH (h : Hs) (res : Int32 × St) : Hs := if 0 ≤ res.1 then keepH (res.2, (preH h).2) else (res.2, (preH h).2)
theorem x_recorded (H : Hall b h M) (w : WH h) (a : Int32) : ∃ M', f_X10_recorded b a M = some (outR a, M') ∧ Hall b (if 0 ≤ a then keepH h else h) M' ∧ Fo b 343 M M' := by
  unfold f_X10_recorded outR
  by_cases ha : 0 ≤ a
  · obtain ⟨M1, f1, h1, o1⟩ := x_keep H w
    simp only [if_pos ha, H.1.p.2.2.1, H.1.rc4, Option.bind_some, f1]
    exact ⟨M1, rfl, h1, o1⟩
  · simp only [if_neg ha, x_refuse, Option.bind_some]
    exact ⟨M, rfl, H, Fo.rf _ _ _⟩
def gRec (p0a : Nat) (tr : Nat → Mem → Option (Int32 × Mem)) (M : Mem) : Option ((Int32 ⊕ String) × Mem) := (gP M 10 p0a 3).bind fun p1 => (gP M 10 p0a 0).bind fun p2 => (rc M 4 p1).bind fun _ => (f_X3_prepare p1 p2 M).bind fun r3 => (gP r3.2 10 p0a 0).bind fun p5 => (rc r3.2 9 p5).bind fun _ => (tr p5 r3.2).bind fun r6 => (rc r6.2 10 p0a).bind fun _ => (f_X10_recorded p0a r6.1 r6.2).bind fun r8 => (match r8 with | (.inl r8v, r8M) => (some ((.inl r8v), r8M)) | (.inr r8E, r8M) => (some ((.inr r8E), r8M)))
theorem w_pre (w : WH h) : WH (preH h) := ⟨w.1, w.2.1, fun i hi => by
  show WF (upL (hL h) (hN h) (hC h) i)
  unfold upL
  split
  · exact w.1
  · exact w.2.2.1 i hi, w.2.2.2.1, w.2.2.2.2.1, w.2.2.2.2.2⟩
theorem w_cur {V : St} (w : WH h) (wV : WF V) : WH (V, h.2) := ⟨wV, w.2.1, w.2.2.1, w.2.2.2.1, w.2.2.2.2.1, w.2.2.2.2.2⟩
theorem w_keep (w : WH h) : WH (keepH h) := ⟨w.1, w.2.1, w.2.2.1, Nat.mod_lt _ (by decide), Nat.min_le_left _ _, w.2.2.2.2.2⟩
theorem w_rec (w : WH h) {res : Int32 × St} (wV : WF res.2) : WH (recH h res) := by
  unfold recH
  split
  · exact w_keep (w_cur (w_pre w) wV)
  · exact w_cur (w_pre w) wV
theorem x_rec (H : Hall b h M) (w : WH h) {tr : Nat → Mem → Option (Int32 × Mem)} {res : Int32 × St} (ho : Op (b + 1) (hC h) (tr (b + 1)) res) (wV : WF res.2) : ∃ M', gRec b tr M = some (outR res.1, M') ∧ Hall b (recH h res) M' ∧ Fo b 343 M M' := by
  obtain ⟨M1, f1, h1, o1⟩ := x_prepare H w
  obtain ⟨M2, f2, a2, o2⟩ := ho M1 h1.2.1
  have h2 := h1.cur o2 a2
  obtain ⟨M3, f3, h3, o3⟩ := x_recorded h2 (w_cur (w_pre w) wV) res.1
  refine ⟨M3, ?_, ?_, (o1.tr (o2.mono (by omega))).tr o3⟩
  · unfold gRec
    simp only [H.1.p.2.2.1, H.1.p.1, H.1.rc4, Option.bind_some, f1, h1.1.p.1, h1.2.1.rc9, f2, h2.rc10, f3]
    cases outR res.1 <;> rfl
  · exact h3
end HL
