/-! ===== pure: undo, save, restore ===== -/
section UN
variable {b : Nat} {h : Hs} {M : Mem}
/-- a saved state copied -/
theorem Hall.sav {M' : Mem} {V : St} (H : Hall b h M) (o : Fo (b + 31) 30 M M') (a : At (b + 31) V M') : Hall b (hC h, V, h.2.2) M' := by
  obtain ⟨q1, q2, q3, q4, q5, q6, q7, q8, q9, q10, q11, n12, z12, e12⟩ := H
  refine ⟨q1.sh o.1, q2.dj o (by omega), a, fun i hi => (q4 i hi).dj o (by omega), ?_, ?_, ?_, ?_, ?_, ?_, fun i hi => ?_, n12, z12, ?_⟩
  · rw [o.2 _ _ (by omega)]; exact q5
  · rw [o.2 _ _ (by omega)]; exact q6
  · rw [o.2 _ _ (by omega)]; exact q7
  · rw [o.2 _ _ (by omega)]; exact q8
  · rw [o.2 _ _ (by omega)]; exact q9
  · rw [o.2 _ _ (by omega)]; exact q10
  · rw [o.2 _ _ (by omega)]; exact q11 i hi
  · rw [o.2 _ _ (by omega)]; exact e12
theorem Hall.kept (H : Hall b h M) (k : Nat) : Hall b (hC h, hV h, hL h, hB h, hN h, k, h.2.2.2.2.2.2) (mUI M (b + 61) 2 (ni k)) := by
  obtain ⟨q1, q2, q3, q4, q5, q6, q7, q8, q9, q10, q11, n12, z12, e12⟩ := H
  refine ⟨q1.sh (Sh.UI _ _ _ _), q2.ui (by omega), q3.ui (by omega), fun i hi => (q4 i hi).ui (by omega), ?_, ?_, ?_, ?_, ?_, ?_, fun i hi => ?_, n12, z12, ?_⟩
  · rw [mI_UI, if_neg (by omega)]; exact q5
  · rw [mI_UI, if_neg (by omega)]; exact q6
  · rw [mI_UI, if_pos ⟨rfl, rfl⟩]; rfl
  · rw [mI_UI, if_neg (by omega)]; exact q8
  · rw [mI_UI, if_neg (by omega)]; exact q9
  · rw [mI_UI, if_neg (by omega)]; exact q10
  · rw [mI_UI, if_neg (by omega)]; exact q11 i hi
  · rw [mI_UI, if_neg (by omega)]; exact e12
theorem Hall.wasSaved (H : Hall b h M) : Hall b (hC h, hV h, hL h, true, h.2.2.2.2) (mUI M b 2 1) := by
  obtain ⟨q1, q2, q3, q4, q5, q6, q7, q8, q9, q10, q11, n12, z12, e12⟩ := H
  refine ⟨q1.sh (Sh.UI _ _ _ _), q2.ui (by omega), q3.ui (by omega), fun i hi => (q4 i hi).ui (by omega), ?_, ?_, ?_, ?_, ?_, ?_, fun i hi => ?_, n12, z12, ?_⟩
  · rw [mI_UI, if_pos ⟨rfl, rfl⟩]; rfl
  · rw [mI_UI, if_neg (by omega)]; exact q6
  · rw [mI_UI, if_neg (by omega)]; exact q7
  · rw [mI_UI, if_neg (by omega)]; exact q8
  · rw [mI_UI, if_neg (by omega)]; exact q9
  · rw [mI_UI, if_neg (by omega)]; exact q10
  · rw [mI_UI, if_neg (by omega)]; exact q11 i hi
  · rw [mI_UI, if_neg (by omega)]; exact e12
def saveH (h : Hs) : Hs := (hC h, hC h, hL h, true, h.2.2.2.2)
theorem w_save (w : WH h) : WH (saveH h) := ⟨w.1, w.1, w.2.2.1, w.2.2.2.1, w.2.2.2.2.1, w.2.2.2.2.2⟩
theorem x_save (H : Hall b h M) (w : WH h) : ∃ M', f_X10_save b M = some (hC h 0 2, M') ∧ Hall b (saveH h) M' ∧ Fo b 343 M M' := by
  obtain ⟨M1, f1, a1, a2, o1⟩ := c_state H.2.2.1.1 H.2.1 w.1 (show Dj (b + 31) (b + 1) by unfold Dj; omega)
  have H1 := H.sav o1 a1
  have H2 := H1.wasSaved
  refine ⟨_, ?_, H2, (o1.mono (by omega)).tr (Fo.up _ _ _ (by omega))⟩
  unfold f_X10_save
  simp only [H.1.p.1, H.1.p.2.1, H.2.2.1.rc9, Option.bind_some, f1]
  rw [H1.1.si 2 .boolean 1 rfl rfl]
  simp only [Option.bind_some, H2.1.p.1, H2.2.1.g9 (j := 2) (by decide) (by decide)]
  rfl
def restH (h : Hs) : Hs := (hV h, hV h, hL h, hB h, hN h, 0, h.2.2.2.2.2.2)
theorem w_rest (w : WH h) : WH (restH h) := ⟨w.2.1, w.2.1, w.2.2.1, w.2.2.2.1, Nat.zero_le _, w.2.2.2.2.2⟩
theorem l_restore (H : Hall b h M) (w : WH h) (hs : hB h = true) : ∃ M', f_L_restore b M = some (hV h 0 2, M') ∧ Hall b (restH h) M' ∧ Fo b 343 M M' := by
  obtain ⟨M1, f1, a1, a2, o1⟩ := c_state H.2.1.1 H.2.2.1 w.2.1 (show Dj (b + 1) (b + 31) by unfold Dj; omega)
  have H1 := H.cur o1 a1
  have H2 := H1.kept 0
  have e0 : mI M b 2 = 1 := by
    have := H.2.2.2.2.1
    rw [hs] at this
    exact this
  refine ⟨_, ?_, H2, (o1.mono (by omega)).tr (Fo.up _ _ _ (by omega))⟩
  unfold f_L_restore f_X10_restore
  simp only [H.1.rc10, H.1.gi, e0, Option.bind_some, show ¬ (1 : Int32) = 0 by decide, if_false, H.1.p.1, H.1.p.2.1, H.2.1.rc9, f1, H1.1.p.2.2.1, H1.1.rc4]
  unfold f_X3_forget
  simp only [H1.1.s4, Option.bind_some]
  rw [show mUI M1 (b + 61) 2 0 = mUI M1 (b + 61) 2 (ni 0) from rfl, H2.1.p.1]
  simp only [Option.bind_some]
  rw [H2.2.1.g9 (j := 2) (by decide) (by decide)]
  rfl
theorem l_restore_no (H : Hall b h M) (hs : hB h = false) : f_L_restore b M = some (-1001, M) := by
  have e0 : mI M b 2 = 0 := by
    have := H.2.2.2.2.1
    rw [hs] at this
    exact this
  unfold f_L_restore f_X10_restore
  simp only [H.1.rc10, H.1.gi, e0, Option.bind_some, if_true]
def undoH (h : Hs) : Hs := (hL h ((hN h + 8) % 9), hV h, hL h, hB h, (hN h + 8) % 9, hK h - 1, h.2.2.2.2.2.2)
theorem w_undo (w : WH h) : WH (undoH h) := ⟨w.2.2.1 _ (Nat.mod_lt _ (by decide)), w.2.1, w.2.2.1, Nat.mod_lt _ (by decide), Nat.le_trans (Nat.sub_le _ _) w.2.2.2.2.1, w.2.2.2.2.2⟩
theorem mod8 : ∀ n, n < 9 → ((ni n + 9) - 1) - ((ni n + 9) - 1) / 9 * 9 = ni ((n + 8) % 9) := by decide +kernel
theorem sub1 : ∀ k, k < 9 → 0 < k → ni k - 1 = ni (k - 1) := by decide +kernel
theorem l_undo (H : Hall b h M) (w : WH h) (hk : hK h ≠ 0) : ∃ M', f_L_undo b M = some (ni (hK h - 1), M') ∧ Hall b (undoH h) M' ∧ Fo b 343 M M' := by
  have q6 := H.2.2.2.2.2.1
  have q7 := H.2.2.2.2.2.2.1
  have hn : (hN h + 8) % 9 < 9 := Nat.mod_lt _ (by decide)
  have H1 := H.ring ((hN h + 8) % 9) (hK h - 1)
  have o1 : Fo b 343 M (mUI (mUI M (b + 61) 1 (ni ((hN h + 8) % 9))) (b + 61) 2 (ni (hK h - 1))) := (Fo.up M _ _ (by omega)).tr (Fo.up _ _ _ (by omega))
  have L1 := H.1.sh (Sh.UI M (b + 61) 1 (ni ((hN h + 8) % 9)))
  generalize hM1 : mUI (mUI M (b + 61) 1 (ni ((hN h + 8) % 9))) (b + 61) 2 (ni (hK h - 1)) = M1 at H1 o1
  obtain ⟨M2, f2, a1, a2, o2⟩ := c_state H1.2.1.1 (H1.2.2.2.1 _ hn) (w.2.2.1 _ hn) (show Dj (b + 1) (b + 63 + 30 * ((hN h + 8) % 9)) by unfold Dj; omega)
  have H2 := H1.cur o2 a1
  refine ⟨M2, ?_, H2, o1.tr (o2.mono (by omega))⟩
  have k0 : ¬ ni (hK h) = 0 := fun z => hk ((ni_eq (j := 0) (by have := w.2.2.2.2.1; omega) (by omega)).mp z)
  have e2 : mI (mUI M (b + 61) 1 (ni ((hN h + 8) % 9))) (b + 61) 2 = ni (hK h) := by
    rw [mI_UI, if_neg (by omega)]
    exact q7
  have e1 : mI M1 (b + 61) 1 = ni ((hN h + 8) % 9) := H1.2.2.2.2.2.1
  have e3 : mI M2 (b + 61) 2 = ni (hK h - 1) := H2.2.2.2.2.2.2.1
  unfold f_L_undo f_X10_undo f_X3_stepBack
  simp only [H.1.rc10, H.1.p.2.2.1, H.1.g4, q7, Option.bind_some, if_neg k0, H.1.p.1, H.1.rc4, q6, mod8 (hN h) w.2.2.2.1, H.1.s4, L1.g4, e2, sub1 (hK h) (by have := w.2.2.2.2.1; omega) (by omega), L1.s4, hM1, H1.1.p4, H1.1.g4, e1, H1.1.sl hn, H1.2.1.rc9, f2, H2.1.p.2.2.1, H2.1.g4, e3]
theorem l_undo_no (H : Hall b h M) (hk : hK h = 0) : f_L_undo b M = some (-1001, M) := by
  have q7 := H.2.2.2.2.2.2.1
  rw [hk] at q7
  unfold f_L_undo f_X10_undo
  simp only [H.1.rc10, H.1.p.2.2.1, H.1.g4, q7, Option.bind_some]
  rw [if_pos (show ni 0 = 0 from rfl)]
  simp
end UN
