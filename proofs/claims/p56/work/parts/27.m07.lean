/-! ===== methods, 7: L_asks L_at X10_completionsBackwards L_backwards X10_demandSide X10_border L_border X10_isCell X10_demandCell X10_demandOccupied X10_borderIn ===== -/
def lp_L_asks_116 (p_0 : Nat) (x_1 : Int32) (x_4 : Int32) (M_ : Mem) : Nat → Int64 → Int32 → Option ((Int64 × Int32) ⊕ (Int64 × Mem))
  | 0, _, _ => none
  | n + 1, l_2, x_5 => if x_4 ≤ x_5 then (some (.inl (l_2, x_5))) else ((f_L_outputChar p_0 x_5 M_).bind fun r24 => lp_L_asks_116 p_0 x_1 x_4 M_ n ((31 * l_2) + (r24.toInt64)) (x_5 + 1))
def lp_L_asks_215 (p_0 : Nat) (x_1 : Int32) (x_4 : Int32) (x_5 : Int32) (M_ : Mem) : Nat → Int64 → Int32 → Option ((Int64 × Int32) ⊕ (Int64 × Mem))
  | 0, _, _ => none
  | n + 1, l_2, x_6 => if x_4 ≤ x_6 then (some (.inl (l_2, x_6))) else ((f_L_outputChar p_0 x_6 M_).bind fun r33 => lp_L_asks_215 p_0 x_1 x_4 x_5 M_ n ((31 * l_2) + (r33.toInt64)) (x_6 + 1))
def lp_L_asks_146 (p_0 : Nat) (x_1 : Int32) : Nat → Int64 → Int32 → Int32 → Mem → Option ((Int64 × Int32 × Int32 × Mem) ⊕ (Int64 × Mem))
  | 0, _, _, _, _ => none
  | n + 1, l_2, x_4, x_5, M_ => if x_1 ≤ x_5 then (some (.inl (l_2, x_4, x_5, M_))) else ((f_L_waysToPut p_0 x_5 M_).bind fun r27 => (f_L_byWear p_0 x_5 M_).bind fun r28 => (f_L_creaseCount p_0 x_5 M_).bind fun r29 => if 4 ≤ r29 then ((f_L_writeSheet p_0 x_5 M_).bind fun r31 => ((lp_L_asks_215 p_0 x_1 r31.1 x_5 r31.2 30 ((31 * ((31 * ((31 * l_2) + (r27.toInt64))) + (r28.toInt64))) + ((0 : Int32).toInt64)) 0).bind fun q34 => match q34 with | .inl (q34_2, q34_6) => (lp_L_asks_146 p_0 x_1 n q34_2 r31.1 (x_5 + 1) r31.2) | .inr q34_r => some (.inr q34_r))) else ((f_L_foldings p_0 x_5 M_).bind fun r35 => (f_L_writeSheet p_0 x_5 r35.2).bind fun r36 => ((lp_L_asks_215 p_0 x_1 r36.1 x_5 r36.2 30 ((31 * ((31 * ((31 * l_2) + (r27.toInt64))) + (r28.toInt64))) + (r35.1.toInt64)) 0).bind fun q37 => match q37 with | .inl (q37_2, q37_6) => (lp_L_asks_146 p_0 x_1 n q37_2 r36.1 (x_5 + 1) r36.2) | .inr q37_r => some (.inr q37_r))))
def f_L_asks (p0a : Nat) (M : Mem) : Option (Int64 × Mem) := (rc M 10 p0a).bind fun _ => (f_X10_sheetCount p0a M).bind fun r1 => (f_L_meanWear p0a M).bind fun r3 => (f_Jxe99ae_doubleToLongBits_ccdee r3 M).bind fun r4 => (rc M 10 p0a).bind fun _ => (f_X10_coveredShare p0a M).bind fun r5 => (f_Jxf58ca_floatToIntBits_5c35a r5 M).bind fun r7 => (rc M 10 p0a).bind fun _ => (f_X10_paste p0a M).bind fun r8 => (rc M 10 p0a).bind fun _ => (f_X10_foldCount p0a M).bind fun r10 => (rc M 10 p0a).bind fun _ => (f_X10_usedPaste p0a M).bind fun r12 => (rc M 10 p0a).bind fun _ => (f_X10_points p0a M).bind fun r14 => (rc M 10 p0a).bind fun _ => (f_X10_groups p0a M).bind fun r16 => (rc M 10 p0a).bind fun _ => (f_X10_matchedBorders p0a M).bind fun r18 => (f_L_completions p0a M).bind fun r20 => (rc r20.2 10 p0a).bind fun _ => (f_X10_writeTable p0a r20.2).bind fun r21 => ((lp_L_asks_116 p0a r1 r21.1 r21.2 30 ((31 * ((31 * ((31 * ((31 * ((31 * ((31 * ((31 * ((31 * ((31 * r4) + (r7.toInt64))) + (r1.toInt64))) + (r8.toInt64))) + (r10.toInt64))) + (r12.toInt64))) + (r14.toInt64))) + (r16.toInt64))) + (r18.toInt64))) + (r20.1.toInt64)) 0).bind fun q25 => match q25 with | .inl (q25_2, q25_5) => ((lp_L_asks_146 p0a r1 10 q25_2 r21.1 0 r21.2).bind fun q38 => match q38 with | .inl (q38_2, q38_4, q38_5, q38_M) => (some (q38_2, q38_M)) | .inr q38_r => some q38_r) | .inr q25_r => some q25_r)
set_option maxRecDepth 20000 in
theorem lp_L_asks_116_ok {G : Nat × (Nat → Int32) × Value} {P : Res → Mem → Prop} {n0 d ke : Nat} {p_0 : Nat} {x_1 : Int32} {x_4 : Int32} {M_ : Mem} (hd : 19 ≤ d) : ∀ (n : Nat) (l_2 : Int64) (x_5 : Int32) (res : (Int64 × Int32) ⊕ (Int64 × Mem)), lp_L_asks_116 p_0 x_1 x_4 M_ n l_2 x_5 = some res → (∀ (y_2 : Int64) (y_5 : Int32), res = .inl (y_2, y_5) → Fr (roG G) false n0 YL_asks d ke 143 [(0, .ref p_0), (1, .int x_1), (2, .long y_2), (4, .int x_4), (5, .int y_5)] [] M_ P) → (∀ r : Int64 × Mem, res = .inr r → P (wJ r.1) r.2) → Fr (roG G) false n0 YL_asks d (1 * n + ke) 116 [(0, .ref p_0), (1, .int x_1), (2, .long l_2), (4, .int x_4), (5, .int x_5)] [] M_ P := by
  intro n
  induction n with
  | zero => intro l_2 x_5 res h; unfold lp_L_asks_116 at h; cases h
  | succ n ih =>
    intro l_2 x_5 res h he hr
    unfold lp_L_asks_116 at h
    refine fr_room (Nat.le_refl _) (show (1 * n + 1 + ke) ≤ 1 * (n + 1) + ke by omega) ?_
    refine fr_iload 4 dL_asks_116 rfl ?_
    refine fr_iload 3 dL_asks_118 rfl ?_
    refine fr_icmp_ge 143 dL_asks_120 (by decide) (fun c23 => ?_) (fun c23 => ?_)
    · rw [if_pos c23] at h
      obtain rfl := Option.some.inj h
      refine fr_room (Nat.le_refl _) (show ke ≤ (1 * n + 1 + ke) by omega) ?_
      exact he _ _ rfl
    · rw [if_neg c23] at h
      refine fr_ldc2 (v := 31) dL_asks_123 w_883 ?_
      refine fr_lload_n 2 dL_asks_126 rfl ?_
      refine fr_lmul dL_asks_127 ?_
      refine fr_aload_n 0 dL_asks_128 rfl ?_
      refine fr_iload 4 dL_asks_129 rfl ?_
      obtain ⟨r24, er24, h⟩ := ob h
      try dsimp only at h
      refine fr_callSX (g1 := false) (k2 := (1 * n + 0 + ke)) (ev_L_outputChar er24) rfl cyL_outputChar w_1037 w_1038 (by rfl) (by omega) (by omega) (by rfl) (Nat.le_of_ble_eq_true rfl) dL_asks_131 (Or.inl rfl) (fun v M9 q _ => ?_) (fun E M9 q _ => (Sum.inr_ne_inl q.1).elim)
      obtain rfl : v = some (.int r24) := Sum.inl.inj q.1
      obtain rfl := q.2.symm
      refine fr_st (S' := [.int r24, .long (31 * l_2)]) rfl ?_
      refine fr_i2l dL_asks_134 ?_
      refine fr_ladd dL_asks_135 ?_
      refine fr_lstore_n (L' := [(0, .ref p_0), (1, .int x_1), (2, .long ((31 * l_2) + (r24.toInt64))), (4, .int x_4), (5, .int x_5)]) dL_asks_136 (by decide) rfl ?_
      refine fr_iinc (v := (x_5 + 1)) (L' := [(0, .ref p_0), (1, .int x_1), (2, .long ((31 * l_2) + (r24.toInt64))), (4, .int x_4), (5, .int (x_5 + 1))]) 4 dL_asks_137 rfl rfl (by decide) rfl ?_
      refine fr_goto 116 dL_asks_140 (by decide) ?_
      exact ih _ _ _ h he hr
set_option maxRecDepth 20000 in
theorem lp_L_asks_215_ok {G : Nat × (Nat → Int32) × Value} {P : Res → Mem → Prop} {n0 d ke : Nat} {p_0 : Nat} {x_1 : Int32} {x_4 : Int32} {x_5 : Int32} {M_ : Mem} (hd : 19 ≤ d) : ∀ (n : Nat) (l_2 : Int64) (x_6 : Int32) (res : (Int64 × Int32) ⊕ (Int64 × Mem)), lp_L_asks_215 p_0 x_1 x_4 x_5 M_ n l_2 x_6 = some res → (∀ (y_2 : Int64) (y_6 : Int32), res = .inl (y_2, y_6) → Fr (roG G) false n0 YL_asks d ke 242 [(0, .ref p_0), (1, .int x_1), (2, .long y_2), (4, .int x_4), (5, .int x_5), (6, .int y_6)] [] M_ P) → (∀ r : Int64 × Mem, res = .inr r → P (wJ r.1) r.2) → Fr (roG G) false n0 YL_asks d (1 * n + ke) 215 [(0, .ref p_0), (1, .int x_1), (2, .long l_2), (4, .int x_4), (5, .int x_5), (6, .int x_6)] [] M_ P := by
  intro n
  induction n with
  | zero => intro l_2 x_6 res h; unfold lp_L_asks_215 at h; cases h
  | succ n ih =>
    intro l_2 x_6 res h he hr
    unfold lp_L_asks_215 at h
    refine fr_room (Nat.le_refl _) (show (1 * n + 1 + ke) ≤ 1 * (n + 1) + ke by omega) ?_
    refine fr_iload 5 dL_asks_215 rfl ?_
    refine fr_iload 3 dL_asks_217 rfl ?_
    refine fr_icmp_ge 242 dL_asks_219 (by decide) (fun c32 => ?_) (fun c32 => ?_)
    · rw [if_pos c32] at h
      obtain rfl := Option.some.inj h
      refine fr_room (Nat.le_refl _) (show ke ≤ (1 * n + 1 + ke) by omega) ?_
      exact he _ _ rfl
    · rw [if_neg c32] at h
      refine fr_ldc2 (v := 31) dL_asks_222 w_883 ?_
      refine fr_lload_n 2 dL_asks_225 rfl ?_
      refine fr_lmul dL_asks_226 ?_
      refine fr_aload_n 0 dL_asks_227 rfl ?_
      refine fr_iload 5 dL_asks_228 rfl ?_
      obtain ⟨r33, er33, h⟩ := ob h
      try dsimp only at h
      refine fr_callSX (g1 := false) (k2 := (1 * n + 0 + ke)) (ev_L_outputChar er33) rfl cyL_outputChar w_1037 w_1038 (by rfl) (by omega) (by omega) (by rfl) (Nat.le_of_ble_eq_true rfl) dL_asks_230 (Or.inl rfl) (fun v M9 q _ => ?_) (fun E M9 q _ => (Sum.inr_ne_inl q.1).elim)
      obtain rfl : v = some (.int r33) := Sum.inl.inj q.1
      obtain rfl := q.2.symm
      refine fr_st (S' := [.int r33, .long (31 * l_2)]) rfl ?_
      refine fr_i2l dL_asks_233 ?_
      refine fr_ladd dL_asks_234 ?_
      refine fr_lstore_n (L' := [(0, .ref p_0), (1, .int x_1), (2, .long ((31 * l_2) + (r33.toInt64))), (4, .int x_4), (5, .int x_5), (6, .int x_6)]) dL_asks_235 (by decide) rfl ?_
      refine fr_iinc (v := (x_6 + 1)) (L' := [(0, .ref p_0), (1, .int x_1), (2, .long ((31 * l_2) + (r33.toInt64))), (4, .int x_4), (5, .int x_5), (6, .int (x_6 + 1))]) 5 dL_asks_236 rfl rfl (by decide) rfl ?_
      refine fr_goto 215 dL_asks_239 (by decide) ?_
      exact ih _ _ _ h he hr
set_option maxRecDepth 20000 in
theorem lp_L_asks_146_ok {G : Nat × (Nat → Int32) × Value} {P : Res → Mem → Prop} {n0 d ke : Nat} {p_0 : Nat} {x_1 : Int32} (hd : 19 ≤ d) : ∀ (n : Nat) (l_2 : Int64) (x_4 : Int32) (x_5 : Int32) (M_ : Mem) (res : (Int64 × Int32 × Int32 × Mem) ⊕ (Int64 × Mem)), lp_L_asks_146 p_0 x_1 n l_2 x_4 x_5 M_ = some res → (∀ (y_2 : Int64) (y_4 : Int32) (y_5 : Int32) (M9 : Mem), res = .inl (y_2, y_4, y_5, M9) → Fr (roG G) false n0 YL_asks d ke 248 [(0, .ref p_0), (1, .int x_1), (2, .long y_2), (4, .int y_4), (5, .int y_5)] [] M9 P) → (∀ r : Int64 × Mem, res = .inr r → P (wJ r.1) r.2) → Fr (roG G) false n0 YL_asks d (35 * n + ke) 146 [(0, .ref p_0), (1, .int x_1), (2, .long l_2), (4, .int x_4), (5, .int x_5)] [] M_ P := by
  intro n
  induction n with
  | zero => intro l_2 x_4 x_5 M_ res h; unfold lp_L_asks_146 at h; cases h
  | succ n ih =>
    intro l_2 x_4 x_5 M_ res h he hr
    unfold lp_L_asks_146 at h
    refine fr_room (Nat.le_refl _) (show (35 * n + 35 + ke) ≤ 35 * (n + 1) + ke by omega) ?_
    refine fr_iload 4 dL_asks_146 rfl ?_
    refine fr_iload_n 1 dL_asks_148 rfl ?_
    refine fr_icmp_ge 248 dL_asks_149 (by decide) (fun c26 => ?_) (fun c26 => ?_)
    · rw [if_pos c26] at h
      obtain rfl := Option.some.inj h
      refine fr_room (Nat.le_refl _) (show ke ≤ (35 * n + 35 + ke) by omega) ?_
      exact he _ _ _ _ rfl
    · rw [if_neg c26] at h
      refine fr_ldc2 (v := 31) dL_asks_152 w_883 ?_
      refine fr_ldc2 (v := 31) dL_asks_155 w_883 ?_
      refine fr_ldc2 (v := 31) dL_asks_158 w_883 ?_
      refine fr_lload_n 2 dL_asks_161 rfl ?_
      refine fr_lmul dL_asks_162 ?_
      refine fr_aload_n 0 dL_asks_163 rfl ?_
      refine fr_iload 4 dL_asks_164 rfl ?_
      obtain ⟨r27, er27, h⟩ := ob h
      try dsimp only at h
      refine fr_callSX (g1 := false) (k2 := (35 * n + 34 + ke)) (ev_L_waysToPut er27) rfl cyL_waysToPut w_1045 w_1046 (by rfl) (by omega) (by omega) (by rfl) (Nat.le_of_ble_eq_true rfl) dL_asks_166 (Or.inl rfl) (fun v M9 q _ => ?_) (fun E M9 q _ => (Sum.inr_ne_inl q.1).elim)
      obtain rfl : v = some (.int r27) := Sum.inl.inj q.1
      obtain rfl := q.2.symm
      refine fr_st (S' := [.int r27, .long (31 * l_2), .long 31, .long 31]) rfl ?_
      refine fr_i2l dL_asks_169 ?_
      refine fr_ladd dL_asks_170 ?_
      refine fr_lmul dL_asks_171 ?_
      refine fr_aload_n 0 dL_asks_172 rfl ?_
      refine fr_iload 4 dL_asks_173 rfl ?_
      obtain ⟨r28, er28, h⟩ := ob h
      try dsimp only at h
      refine fr_callSX (g1 := false) (k2 := (35 * n + 33 + ke)) (ev_L_byWear er28) rfl cyL_byWear w_1056 w_1057 (by rfl) (by omega) (by omega) (by rfl) (Nat.le_of_ble_eq_true rfl) dL_asks_175 (Or.inl rfl) (fun v M9 q _ => ?_) (fun E M9 q _ => (Sum.inr_ne_inl q.1).elim)
      obtain rfl : v = some (.int r28) := Sum.inl.inj q.1
      obtain rfl := q.2.symm
      refine fr_st (S' := [.int r28, .long (31 * ((31 * l_2) + (r27.toInt64))), .long 31]) rfl ?_
      refine fr_i2l dL_asks_178 ?_
      refine fr_ladd dL_asks_179 ?_
      refine fr_lmul dL_asks_180 ?_
      refine fr_aload_n 0 dL_asks_181 rfl ?_
      refine fr_iload 4 dL_asks_182 rfl ?_
      obtain ⟨r29, er29, h⟩ := ob h
      try dsimp only at h
      refine fr_callSX (g1 := false) (k2 := (35 * n + 32 + ke)) (ev_L_creaseCount er29) rfl cyL_creaseCount w_668 w_669 (by rfl) (by omega) (by omega) (by rfl) (Nat.le_of_ble_eq_true rfl) dL_asks_184 (Or.inl rfl) (fun v M9 q _ => ?_) (fun E M9 q _ => (Sum.inr_ne_inl q.1).elim)
      obtain rfl : v = some (.int r29) := Sum.inl.inj q.1
      obtain rfl := q.2.symm
      refine fr_st (S' := [.int r29, .long (31 * ((31 * ((31 * l_2) + (r27.toInt64))) + (r28.toInt64)))]) rfl ?_
      refine fr_iconst (v := 4) dL_asks_187 (by decide) ?_
      refine fr_icmp_ge 200 dL_asks_188 (by decide) (fun c30 => ?_) (fun c30 => ?_)
      · rw [if_pos c30] at h
        refine fr_iconst (v := 0) dL_asks_200 (by decide) ?_
        refine fr_i2l dL_asks_201 ?_
        refine fr_ladd dL_asks_202 ?_
        refine fr_lstore_n (L' := [(0, .ref p_0), (1, .int x_1), (2, .long ((31 * ((31 * ((31 * l_2) + (r27.toInt64))) + (r28.toInt64))) + ((0 : Int32).toInt64))), (4, .int x_4), (5, .int x_5)]) dL_asks_203 (by decide) rfl ?_
        refine fr_aload_n 0 dL_asks_204 rfl ?_
        refine fr_iload 4 dL_asks_205 rfl ?_
        obtain ⟨r31, er31, h⟩ := ob h
        try dsimp only at h
        refine fr_callSX (g1 := false) (k2 := (35 * n + 31 + ke)) (ev_L_writeSheet er31) rfl cyL_writeSheet w_1107 w_1108 (by rfl) (by omega) (by omega) (by rfl) (Nat.le_of_ble_eq_true rfl) dL_asks_207 (Or.inl rfl) (fun v M9 q _ => ?_) (fun E M9 q _ => (Sum.inr_ne_inl q.1).elim)
        obtain rfl : v = some (.int r31.1) := Sum.inl.inj q.1
        obtain rfl := q.2.symm
        refine fr_st (S' := [.int r31.1]) rfl ?_
        refine fr_istore (L' := [(0, .ref p_0), (1, .int x_1), (2, .long ((31 * ((31 * ((31 * l_2) + (r27.toInt64))) + (r28.toInt64))) + ((0 : Int32).toInt64))), (4, .int r31.1), (5, .int x_5)]) dL_asks_210 (by decide) rfl ?_
        refine fr_iconst (v := 0) dL_asks_212 (by decide) ?_
        refine fr_istore (L' := [(0, .ref p_0), (1, .int x_1), (2, .long ((31 * ((31 * ((31 * l_2) + (r27.toInt64))) + (r28.toInt64))) + ((0 : Int32).toInt64))), (4, .int r31.1), (5, .int x_5), (6, .int 0)]) dL_asks_213 (by decide) rfl ?_
        obtain ⟨q34, eq34, h⟩ := ob h
        try dsimp only at h
        refine fr_room (k' := 1 * 30 + (35 * n + 1 + ke)) (Nat.le_refl _) (by omega) ?_
        refine lp_L_asks_215_ok (by omega) 30 _ _ q34 eq34 (fun q34_2 q34_6 e9 => ?_) (fun q34_r e9 => ?_)
        · subst e9
          try dsimp only at h
          refine fr_iinc (v := (x_5 + 1)) (L' := [(0, .ref p_0), (1, .int x_1), (2, .long q34_2), (4, .int r31.1), (5, .int (x_5 + 1)), (6, .int q34_6)]) 4 dL_asks_242 rfl rfl (by decide) rfl ?_
          refine fr_goto 146 dL_asks_245 (by decide) ?_
          refine fr_loc [0, 1, 2, 3, 4] (L' := [(0, .ref p_0), (1, .int x_1), (2, .long q34_2), (4, .int r31.1), (5, .int (x_5 + 1))]) rfl ?_
          refine fr_room (Nat.le_refl _) (show (35 * n + 0 + ke) ≤ (35 * n + 1 + ke) by omega) ?_
          exact ih _ _ _ _ _ h he hr
        · subst e9
          try dsimp only at h
          obtain rfl := Option.some.inj h
          exact hr _ rfl
      · rw [if_neg c30] at h
        refine fr_aload_n 0 dL_asks_191 rfl ?_
        refine fr_iload 4 dL_asks_192 rfl ?_
        obtain ⟨r35, er35, h⟩ := ob h
        try dsimp only at h
        refine fr_callSX (g1 := false) (k2 := (35 * n + 31 + ke)) (ev_L_foldings er35) rfl cyL_foldings w_1076 w_1077 (by rfl) (by omega) (by omega) (by rfl) (Nat.le_of_ble_eq_true rfl) dL_asks_194 (Or.inl rfl) (fun v M9 q _ => ?_) (fun E M9 q _ => (Sum.inr_ne_inl q.1).elim)
        obtain rfl : v = some (.int r35.1) := Sum.inl.inj q.1
        obtain rfl := q.2.symm
        refine fr_st (S' := [.int r35.1, .long (31 * ((31 * ((31 * l_2) + (r27.toInt64))) + (r28.toInt64)))]) rfl ?_
        refine fr_goto 201 dL_asks_197 (by decide) ?_
        refine fr_i2l dL_asks_201 ?_
        refine fr_ladd dL_asks_202 ?_
        refine fr_lstore_n (L' := [(0, .ref p_0), (1, .int x_1), (2, .long ((31 * ((31 * ((31 * l_2) + (r27.toInt64))) + (r28.toInt64))) + (r35.1.toInt64))), (4, .int x_4), (5, .int x_5)]) dL_asks_203 (by decide) rfl ?_
        refine fr_aload_n 0 dL_asks_204 rfl ?_
        refine fr_iload 4 dL_asks_205 rfl ?_
        obtain ⟨r36, er36, h⟩ := ob h
        try dsimp only at h
        refine fr_callSX (g1 := false) (k2 := (35 * n + 30 + ke)) (ev_L_writeSheet er36) rfl cyL_writeSheet w_1107 w_1108 (by rfl) (by omega) (by omega) (by rfl) (Nat.le_of_ble_eq_true rfl) dL_asks_207 (Or.inl rfl) (fun v M9 q _ => ?_) (fun E M9 q _ => (Sum.inr_ne_inl q.1).elim)
        obtain rfl : v = some (.int r36.1) := Sum.inl.inj q.1
        obtain rfl := q.2.symm
        refine fr_st (S' := [.int r36.1]) rfl ?_
        refine fr_istore (L' := [(0, .ref p_0), (1, .int x_1), (2, .long ((31 * ((31 * ((31 * l_2) + (r27.toInt64))) + (r28.toInt64))) + (r35.1.toInt64))), (4, .int r36.1), (5, .int x_5)]) dL_asks_210 (by decide) rfl ?_
        refine fr_iconst (v := 0) dL_asks_212 (by decide) ?_
        refine fr_istore (L' := [(0, .ref p_0), (1, .int x_1), (2, .long ((31 * ((31 * ((31 * l_2) + (r27.toInt64))) + (r28.toInt64))) + (r35.1.toInt64))), (4, .int r36.1), (5, .int x_5), (6, .int 0)]) dL_asks_213 (by decide) rfl ?_
        obtain ⟨q37, eq37, h⟩ := ob h
        try dsimp only at h
        refine fr_room (k' := 1 * 30 + (35 * n + 0 + ke)) (Nat.le_refl _) (by omega) ?_
        refine lp_L_asks_215_ok (by omega) 30 _ _ q37 eq37 (fun q37_2 q37_6 e9 => ?_) (fun q37_r e9 => ?_)
        · subst e9
          try dsimp only at h
          refine fr_iinc (v := (x_5 + 1)) (L' := [(0, .ref p_0), (1, .int x_1), (2, .long q37_2), (4, .int r36.1), (5, .int (x_5 + 1)), (6, .int q37_6)]) 4 dL_asks_242 rfl rfl (by decide) rfl ?_
          refine fr_goto 146 dL_asks_245 (by decide) ?_
          refine fr_loc [0, 1, 2, 3, 4] (L' := [(0, .ref p_0), (1, .int x_1), (2, .long q37_2), (4, .int r36.1), (5, .int (x_5 + 1))]) rfl ?_
          exact ih _ _ _ _ _ h he hr
        · subst e9
          try dsimp only at h
          obtain rfl := Option.some.inj h
          exact hr _ rfl
set_option maxRecDepth 20000 in
theorem ev_L_asks {G : Nat × (Nat → Int32) × Value} {p0a : Nat} {M : Mem} {r : Int64 × Mem} (h : f_L_asks p0a M = some r) : Ev (roG G) false YL_asks 19 382 [.ref p0a] M (fun a b => a = wJ r.1 ∧ b = r.2) := by
  refine ev_of cyL_asks.2.2.2.2 (Nat.le_of_ble_eq_true rfl) ?_
  show Fr _ _ _ _ _ _ 0 [(0, .ref p0a)] [] M _
  unfold f_L_asks at h
  refine fr_aload_n 0 dL_asks_0 rfl ?_
  obtain ⟨u2, eu2, h⟩ := ob h
  try dsimp only at h
  obtain ⟨r1, er1, h⟩ := ob h
  try dsimp only at h
  refine fr_callV (g1 := false) (k2 := 382) (ev_X10_sheetCount er1) rfl cyX10_sheetCount w_258 w_259 w_260 (rc_ok eu2 rfl (by decide)) (by rfl) (by omega) (by omega) (by rfl) (Nat.le_of_ble_eq_true rfl) dL_asks_1 (Or.inl rfl) (fun v M9 q _ => ?_) (fun E M9 q _ => (Sum.inr_ne_inl q.1).elim)
  obtain rfl : v = some (.int r1) := Sum.inl.inj q.1
  obtain rfl := q.2.symm
  refine fr_st (S' := [.int r1]) rfl ?_
  refine fr_istore_n (L' := [(0, .ref p0a), (1, .int r1)]) dL_asks_4 (by decide) rfl ?_
  refine fr_ldc2 (v := 31) dL_asks_5 w_883 ?_
  refine fr_aload_n 0 dL_asks_8 rfl ?_
  obtain ⟨r3, er3, h⟩ := ob h
  try dsimp only at h
  refine fr_callSX (g1 := false) (k2 := 381) (ev_L_meanWear er3) rfl cyL_meanWear w_884 w_885 (by rfl) (by omega) (by omega) (by rfl) (Nat.le_of_ble_eq_true rfl) dL_asks_9 (Or.inl rfl) (fun v M9 q _ => ?_) (fun E M9 q _ => (Sum.inr_ne_inl q.1).elim)
  obtain rfl : v = some (.double r3) := Sum.inl.inj q.1
  obtain rfl := q.2.symm
  refine fr_st (S' := [.double r3, .long 31]) rfl ?_
  obtain ⟨r4, er4, h⟩ := ob h
  try dsimp only at h
  refine fr_callS (g1 := false) (k2 := 381) (ev_Jxe99ae_doubleToLongBits_ccdee er4) rfl cyJxe99ae_doubleToLongBits_ccdee w_913 w_914 (by rfl) (by omega) (by omega) (by rfl) (Nat.le_of_ble_eq_true rfl) dL_asks_12 (Or.inl rfl) (fun v M9 q _ => ?_) (fun E M9 q _ => (Sum.inr_ne_inl q.1).elim)
  obtain rfl : v = some (.long r4) := Sum.inl.inj q.1
  obtain rfl := q.2.symm
  refine fr_st (S' := [.long r4, .long 31]) rfl ?_
  refine fr_lmul dL_asks_15 ?_
  refine fr_aload_n 0 dL_asks_16 rfl ?_
  obtain ⟨u6, eu6, h⟩ := ob h
  try dsimp only at h
  obtain ⟨r5, er5, h⟩ := ob h
  try dsimp only at h
  refine fr_callV (g1 := false) (k2 := 381) (ev_X10_coveredShare er5) rfl cyX10_coveredShare w_923 w_924 w_925 (rc_ok eu6 rfl (by decide)) (by rfl) (by omega) (by omega) (by rfl) (Nat.le_of_ble_eq_true rfl) dL_asks_17 (Or.inl rfl) (fun v M9 q _ => ?_) (fun E M9 q _ => (Sum.inr_ne_inl q.1).elim)
  obtain rfl : v = some (.float r5) := Sum.inl.inj q.1
  obtain rfl := q.2.symm
  refine fr_st (S' := [.float r5, .long (31 * r4)]) rfl ?_
  obtain ⟨r7, er7, h⟩ := ob h
  try dsimp only at h
  refine fr_callS (g1 := false) (k2 := 381) (ev_Jxf58ca_floatToIntBits_5c35a er7) rfl cyJxf58ca_floatToIntBits_5c35a w_932 w_933 (by rfl) (by omega) (by omega) (by rfl) (Nat.le_of_ble_eq_true rfl) dL_asks_20 (Or.inl rfl) (fun v M9 q _ => ?_) (fun E M9 q _ => (Sum.inr_ne_inl q.1).elim)
  obtain rfl : v = some (.int r7) := Sum.inl.inj q.1
  obtain rfl := q.2.symm
  refine fr_st (S' := [.int r7, .long (31 * r4)]) rfl ?_
  refine fr_i2l dL_asks_23 ?_
  refine fr_ladd dL_asks_24 ?_
  refine fr_lstore_n (L' := [(0, .ref p0a), (1, .int r1), (2, .long ((31 * r4) + (r7.toInt64)))]) dL_asks_25 (by decide) rfl ?_
  refine fr_ldc2 (v := 31) dL_asks_26 w_883 ?_
  refine fr_ldc2 (v := 31) dL_asks_29 w_883 ?_
  refine fr_ldc2 (v := 31) dL_asks_32 w_883 ?_
  refine fr_ldc2 (v := 31) dL_asks_35 w_883 ?_
  refine fr_ldc2 (v := 31) dL_asks_38 w_883 ?_
  refine fr_lload_n 2 dL_asks_41 rfl ?_
  refine fr_lmul dL_asks_42 ?_
  refine fr_iload_n 1 dL_asks_43 rfl ?_
  refine fr_i2l dL_asks_44 ?_
  refine fr_ladd dL_asks_45 ?_
  refine fr_lmul dL_asks_46 ?_
  refine fr_aload_n 0 dL_asks_47 rfl ?_
  obtain ⟨u9, eu9, h⟩ := ob h
  try dsimp only at h
  obtain ⟨r8, er8, h⟩ := ob h
  try dsimp only at h
  refine fr_callV (g1 := false) (k2 := 381) (ev_X10_paste er8) rfl cyX10_paste w_262 w_263 w_264 (rc_ok eu9 rfl (by decide)) (by rfl) (by omega) (by omega) (by rfl) (Nat.le_of_ble_eq_true rfl) dL_asks_48 (Or.inl rfl) (fun v M9 q _ => ?_) (fun E M9 q _ => (Sum.inr_ne_inl q.1).elim)
  obtain rfl : v = some (.int r8) := Sum.inl.inj q.1
  obtain rfl := q.2.symm
  refine fr_st (S' := [.int r8, .long (31 * ((31 * ((31 * r4) + (r7.toInt64))) + (r1.toInt64))), .long 31, .long 31, .long 31]) rfl ?_
  refine fr_i2l dL_asks_51 ?_
  refine fr_ladd dL_asks_52 ?_
  refine fr_lmul dL_asks_53 ?_
  refine fr_aload_n 0 dL_asks_54 rfl ?_
  obtain ⟨u11, eu11, h⟩ := ob h
  try dsimp only at h
  obtain ⟨r10, er10, h⟩ := ob h
  try dsimp only at h
  refine fr_callV (g1 := false) (k2 := 381) (ev_X10_foldCount er10) rfl cyX10_foldCount w_266 w_267 w_268 (rc_ok eu11 rfl (by decide)) (by rfl) (by omega) (by omega) (by rfl) (Nat.le_of_ble_eq_true rfl) dL_asks_55 (Or.inl rfl) (fun v M9 q _ => ?_) (fun E M9 q _ => (Sum.inr_ne_inl q.1).elim)
  obtain rfl : v = some (.int r10) := Sum.inl.inj q.1
  obtain rfl := q.2.symm
  refine fr_st (S' := [.int r10, .long (31 * ((31 * ((31 * ((31 * r4) + (r7.toInt64))) + (r1.toInt64))) + (r8.toInt64))), .long 31, .long 31]) rfl ?_
  refine fr_i2l dL_asks_58 ?_
  refine fr_ladd dL_asks_59 ?_
  refine fr_lmul dL_asks_60 ?_
  refine fr_aload_n 0 dL_asks_61 rfl ?_
  obtain ⟨u13, eu13, h⟩ := ob h
  try dsimp only at h
  obtain ⟨r12, er12, h⟩ := ob h
  try dsimp only at h
  refine fr_callV (g1 := false) (k2 := 381) (ev_X10_usedPaste er12) rfl cyX10_usedPaste w_942 w_943 w_944 (rc_ok eu13 rfl (by decide)) (by rfl) (by omega) (by omega) (by rfl) (Nat.le_of_ble_eq_true rfl) dL_asks_62 (Or.inl rfl) (fun v M9 q _ => ?_) (fun E M9 q _ => (Sum.inr_ne_inl q.1).elim)
  obtain rfl : v = some (.int r12) := Sum.inl.inj q.1
  obtain rfl := q.2.symm
  refine fr_st (S' := [.int r12, .long (31 * ((31 * ((31 * ((31 * ((31 * r4) + (r7.toInt64))) + (r1.toInt64))) + (r8.toInt64))) + (r10.toInt64))), .long 31]) rfl ?_
  refine fr_i2l dL_asks_65 ?_
  refine fr_ladd dL_asks_66 ?_
  refine fr_lmul dL_asks_67 ?_
  refine fr_aload_n 0 dL_asks_68 rfl ?_
  obtain ⟨u15, eu15, h⟩ := ob h
  try dsimp only at h
  obtain ⟨r14, er14, h⟩ := ob h
  try dsimp only at h
  refine fr_callV (g1 := false) (k2 := 381) (ev_X10_points er14) rfl cyX10_points w_946 w_947 w_948 (rc_ok eu15 rfl (by decide)) (by rfl) (by omega) (by omega) (by rfl) (Nat.le_of_ble_eq_true rfl) dL_asks_69 (Or.inl rfl) (fun v M9 q _ => ?_) (fun E M9 q _ => (Sum.inr_ne_inl q.1).elim)
  obtain rfl : v = some (.int r14) := Sum.inl.inj q.1
  obtain rfl := q.2.symm
  refine fr_st (S' := [.int r14, .long (31 * ((31 * ((31 * ((31 * ((31 * ((31 * r4) + (r7.toInt64))) + (r1.toInt64))) + (r8.toInt64))) + (r10.toInt64))) + (r12.toInt64)))]) rfl ?_
  refine fr_i2l dL_asks_72 ?_
  refine fr_ladd dL_asks_73 ?_
  refine fr_lstore_n (L' := [(0, .ref p0a), (1, .int r1), (2, .long ((31 * ((31 * ((31 * ((31 * ((31 * ((31 * r4) + (r7.toInt64))) + (r1.toInt64))) + (r8.toInt64))) + (r10.toInt64))) + (r12.toInt64))) + (r14.toInt64)))]) dL_asks_74 (by decide) rfl ?_
  refine fr_ldc2 (v := 31) dL_asks_75 w_883 ?_
  refine fr_ldc2 (v := 31) dL_asks_78 w_883 ?_
  refine fr_ldc2 (v := 31) dL_asks_81 w_883 ?_
  refine fr_lload_n 2 dL_asks_84 rfl ?_
  refine fr_lmul dL_asks_85 ?_
  refine fr_aload_n 0 dL_asks_86 rfl ?_
  obtain ⟨u17, eu17, h⟩ := ob h
  try dsimp only at h
  obtain ⟨r16, er16, h⟩ := ob h
  try dsimp only at h
  refine fr_callV (g1 := false) (k2 := 381) (ev_X10_groups er16) rfl cyX10_groups w_969 w_970 w_971 (rc_ok eu17 rfl (by decide)) (by rfl) (by omega) (by omega) (by rfl) (Nat.le_of_ble_eq_true rfl) dL_asks_87 (Or.inl rfl) (fun v M9 q _ => ?_) (fun E M9 q _ => (Sum.inr_ne_inl q.1).elim)
  obtain rfl : v = some (.int r16) := Sum.inl.inj q.1
  obtain rfl := q.2.symm
  refine fr_st (S' := [.int r16, .long (31 * ((31 * ((31 * ((31 * ((31 * ((31 * ((31 * r4) + (r7.toInt64))) + (r1.toInt64))) + (r8.toInt64))) + (r10.toInt64))) + (r12.toInt64))) + (r14.toInt64))), .long 31, .long 31]) rfl ?_
  refine fr_i2l dL_asks_90 ?_
  refine fr_ladd dL_asks_91 ?_
  refine fr_lmul dL_asks_92 ?_
  refine fr_aload_n 0 dL_asks_93 rfl ?_
  obtain ⟨u19, eu19, h⟩ := ob h
  try dsimp only at h
  obtain ⟨r18, er18, h⟩ := ob h
  try dsimp only at h
  refine fr_callV (g1 := false) (k2 := 381) (ev_X10_matchedBorders er18) rfl cyX10_matchedBorders w_988 w_989 w_990 (rc_ok eu19 rfl (by decide)) (by rfl) (by omega) (by omega) (by rfl) (Nat.le_of_ble_eq_true rfl) dL_asks_94 (Or.inl rfl) (fun v M9 q _ => ?_) (fun E M9 q _ => (Sum.inr_ne_inl q.1).elim)
  obtain rfl : v = some (.int r18) := Sum.inl.inj q.1
  obtain rfl := q.2.symm
  refine fr_st (S' := [.int r18, .long (31 * ((31 * ((31 * ((31 * ((31 * ((31 * ((31 * ((31 * r4) + (r7.toInt64))) + (r1.toInt64))) + (r8.toInt64))) + (r10.toInt64))) + (r12.toInt64))) + (r14.toInt64))) + (r16.toInt64))), .long 31]) rfl ?_
  refine fr_i2l dL_asks_97 ?_
  refine fr_ladd dL_asks_98 ?_
  refine fr_lmul dL_asks_99 ?_
  refine fr_aload_n 0 dL_asks_100 rfl ?_
  obtain ⟨r20, er20, h⟩ := ob h
  try dsimp only at h
  refine fr_callSX (g1 := false) (k2 := 380) (ev_L_completions er20) rfl cyL_completions w_996 w_997 (by rfl) (by omega) (by omega) (by rfl) (Nat.le_of_ble_eq_true rfl) dL_asks_101 (Or.inl rfl) (fun v M9 q _ => ?_) (fun E M9 q _ => (Sum.inr_ne_inl q.1).elim)
  obtain rfl : v = some (.int r20.1) := Sum.inl.inj q.1
  obtain rfl := q.2.symm
  refine fr_st (S' := [.int r20.1, .long (31 * ((31 * ((31 * ((31 * ((31 * ((31 * ((31 * ((31 * ((31 * r4) + (r7.toInt64))) + (r1.toInt64))) + (r8.toInt64))) + (r10.toInt64))) + (r12.toInt64))) + (r14.toInt64))) + (r16.toInt64))) + (r18.toInt64)))]) rfl ?_
  refine fr_i2l dL_asks_104 ?_
  refine fr_ladd dL_asks_105 ?_
  refine fr_lstore_n (L' := [(0, .ref p0a), (1, .int r1), (2, .long ((31 * ((31 * ((31 * ((31 * ((31 * ((31 * ((31 * ((31 * ((31 * r4) + (r7.toInt64))) + (r1.toInt64))) + (r8.toInt64))) + (r10.toInt64))) + (r12.toInt64))) + (r14.toInt64))) + (r16.toInt64))) + (r18.toInt64))) + (r20.1.toInt64)))]) dL_asks_106 (by decide) rfl ?_
  refine fr_aload_n 0 dL_asks_107 rfl ?_
  obtain ⟨u22, eu22, h⟩ := ob h
  try dsimp only at h
  obtain ⟨r21, er21, h⟩ := ob h
  try dsimp only at h
  refine fr_callV (g1 := false) (k2 := 380) (ev_X10_writeTable er21) rfl cyX10_writeTable w_1015 w_1016 w_1017 (rc_ok eu22 rfl (by decide)) (by rfl) (by omega) (by omega) (by rfl) (Nat.le_of_ble_eq_true rfl) dL_asks_108 (Or.inl rfl) (fun v M9 q _ => ?_) (fun E M9 q _ => (Sum.inr_ne_inl q.1).elim)
  obtain rfl : v = some (.int r21.1) := Sum.inl.inj q.1
  obtain rfl := q.2.symm
  refine fr_st (S' := [.int r21.1]) rfl ?_
  refine fr_istore (L' := [(0, .ref p0a), (1, .int r1), (2, .long ((31 * ((31 * ((31 * ((31 * ((31 * ((31 * ((31 * ((31 * ((31 * r4) + (r7.toInt64))) + (r1.toInt64))) + (r8.toInt64))) + (r10.toInt64))) + (r12.toInt64))) + (r14.toInt64))) + (r16.toInt64))) + (r18.toInt64))) + (r20.1.toInt64))), (4, .int r21.1)]) dL_asks_111 (by decide) rfl ?_
  refine fr_iconst (v := 0) dL_asks_113 (by decide) ?_
  refine fr_istore (L' := [(0, .ref p0a), (1, .int r1), (2, .long ((31 * ((31 * ((31 * ((31 * ((31 * ((31 * ((31 * ((31 * ((31 * r4) + (r7.toInt64))) + (r1.toInt64))) + (r8.toInt64))) + (r10.toInt64))) + (r12.toInt64))) + (r14.toInt64))) + (r16.toInt64))) + (r18.toInt64))) + (r20.1.toInt64))), (4, .int r21.1), (5, .int 0)]) dL_asks_114 (by decide) rfl ?_
  obtain ⟨q25, eq25, h⟩ := ob h
  try dsimp only at h
  refine fr_room (k' := 1 * 30 + 350) (Nat.le_refl _) (by omega) ?_
  refine lp_L_asks_116_ok (by omega) 30 _ _ q25 eq25 (fun q25_2 q25_5 e9 => ?_) (fun q25_r e9 => ?_)
  · subst e9
    try dsimp only at h
    refine fr_iconst (v := 0) dL_asks_143 (by decide) ?_
    refine fr_istore (L' := [(0, .ref p0a), (1, .int r1), (2, .long q25_2), (4, .int r21.1), (5, .int 0)]) dL_asks_144 (by decide) rfl ?_
    obtain ⟨q38, eq38, h⟩ := ob h
    try dsimp only at h
    refine fr_room (k' := 35 * 10 + 0) (Nat.le_refl _) (by omega) ?_
    refine lp_L_asks_146_ok (by omega) 10 _ _ _ _ q38 eq38 (fun q38_2 q38_4 q38_5 q38_M e9 => ?_) (fun q38_r e9 => ?_)
    · subst e9
      try dsimp only at h
      refine fr_lload_n 2 dL_asks_248 rfl ?_
      obtain rfl := Option.some.inj h
      exact fr_lret rfl dL_asks_249 ⟨rfl, rfl⟩
    · subst e9
      try dsimp only at h
      obtain rfl := Option.some.inj h
      exact ⟨rfl, rfl⟩
  · subst e9
    try dsimp only at h
    obtain rfl := Option.some.inj h
    exact ⟨rfl, rfl⟩
def f_L_at (G : Nat × (Nat → Int32) × Value) (p0a : Nat) (x1a : Int32) (M : Mem) : Option (Int32) := (iL G M p0a).bind fun x1 => if x1 ≤ x1a then (some 0) else ((iG G M p0a x1a).bind fun x3 => some x3)
set_option maxRecDepth 20000 in
theorem ev_L_at {G : Nat × (Nat → Int32) × Value} {p0a : Nat} {x1a : Int32} {M : Mem} {r : Int32} (h : f_L_at G p0a x1a M = some r) : Ev (roG G) false YL_at 0 0 [.ref p0a, .int x1a] M (fun a b => a = wI r ∧ b = M) := by
  refine ev_of cyL_at.2.2.2.2 (Nat.le_of_ble_eq_true rfl) ?_
  show Fr _ _ _ _ _ _ 0 [(0, .ref p0a), (1, .int x1a)] [] M _
  unfold f_L_at at h
  refine fr_iload_n 1 dL_at_0 rfl ?_
  refine fr_aload_n 0 dL_at_1 rfl ?_
  obtain ⟨x1, ex1, h⟩ := ob h
  try dsimp only at h
  refine fr_iL ex1 dL_at_2 ?_
  refine fr_icmp_ge 12 dL_at_3 (by decide) (fun c2 => ?_) (fun c2 => ?_)
  · rw [if_pos c2] at h
    refine fr_iconst (v := 0) dL_at_12 (by decide) ?_
    obtain rfl := Option.some.inj h
    exact fr_iret rfl dL_at_13 ⟨rfl, rfl⟩
  · rw [if_neg c2] at h
    refine fr_aload_n 0 dL_at_6 rfl ?_
    refine fr_iload_n 1 dL_at_7 rfl ?_
    obtain ⟨x3, ex3, h⟩ := ob h
    try dsimp only at h
    refine fr_iG ex3 dL_at_8 ?_
    refine fr_goto 13 dL_at_9 (by decide) ?_
    obtain rfl := Option.some.inj h
    exact fr_iret rfl dL_at_13 ⟨rfl, rfl⟩
def f_X10_completionsBackwards (p0a : Nat) (M : Mem) : Option ((Int32 ⊕ String) × Mem) := (rc M 10 p0a).bind fun _ => (f_X10_demandFewEmptyCells p0a M).bind fun r1 => (match r1 with | .inl r1v => ((gP M 10 p0a 0).bind fun p3 => (f_X10_waysFrom 12 p3 0 1 M).bind fun r4 => some ((.inl r4.1), r4.2)) | .inr r1E => (some ((.inr r1E), M)))
set_option maxRecDepth 20000 in
theorem ev_X10_completionsBackwards {G : Nat × (Nat → Int32) × Value} {p0a : Nat} {M : Mem} {r : (Int32 ⊕ String) × Mem} (h : f_X10_completionsBackwards p0a M = some r) : Ev (roG G) false YX10_completionsBackwards 17 1 [.ref p0a] M (fun a b => a = (wE wI) r.1 ∧ b = r.2) := by
  refine ev_of cyX10_completionsBackwards.2.2.2.2 (Nat.le_of_ble_eq_true rfl) ?_
  show Fr _ _ _ _ _ _ 0 [(0, .ref p0a)] [] M _
  unfold f_X10_completionsBackwards at h
  refine fr_aload_n 0 dX10_completionsBackwards_0 rfl ?_
  obtain ⟨u2, eu2, h⟩ := ob h
  try dsimp only at h
  obtain ⟨r1, er1, h⟩ := ob h
  try dsimp only at h
  rcases r1 with r1v | r1E
  · try dsimp only at h
    refine fr_callV (g1 := false) (k2 := 0) (ev_X10_demandFewEmptyCells er1) rfl cyX10_demandFewEmptyCells w_1003 w_1005 w_7 (rc_ok eu2 rfl (by decide)) (by rfl) (by omega) (by omega) (by rfl) (Nat.le_of_ble_eq_true rfl) dX10_completionsBackwards_1 (Or.inl rfl) (fun v M9 q _ => ?_) (fun E M9 q _ => (Sum.inr_ne_inl q.1).elim)
    obtain rfl : v = none := Sum.inl.inj q.1
    obtain rfl := q.2.symm
    refine fr_st (S' := []) rfl ?_
    refine fr_aload_n 0 dX10_completionsBackwards_4 rfl ?_
    obtain ⟨p3, ep3, h⟩ := ob h
    try dsimp only at h
    refine fr_gP cb10 0 (by decide) rfl w_227 dX10_completionsBackwards_5 ep3 ?_
    refine fr_iconst (v := 0) dX10_completionsBackwards_8 (by decide) ?_
    refine fr_iconst (v := 1) dX10_completionsBackwards_9 (by decide) ?_
    obtain ⟨r4, er4, h⟩ := ob h
    try dsimp only at h
    refine fr_callS (g1 := false) (k2 := 0) (ev_X10_waysFrom _ _ _ _ _ _ er4) rfl cyX10_waysFrom w_1008 w_1009 (by rfl) (by omega) (by omega) (by rfl) (Nat.le_of_ble_eq_true rfl) dX10_completionsBackwards_10 (Or.inl rfl) (fun v M9 q _ => ?_) (fun E M9 q _ => (Sum.inr_ne_inl q.1).elim)
    obtain rfl : v = some (.int r4.1) := Sum.inl.inj q.1
    obtain rfl := q.2.symm
    refine fr_st (S' := [.int r4.1]) rfl ?_
    obtain rfl := Option.some.inj h
    exact fr_iret rfl dX10_completionsBackwards_13 ⟨rfl, rfl⟩
  · try dsimp only at h
    refine fr_callV (g1 := false) (k2 := 0) (ev_X10_demandFewEmptyCells er1) rfl cyX10_demandFewEmptyCells w_1003 w_1005 w_7 (rc_ok eu2 rfl (by decide)) (by rfl) (by omega) (by omega) (by rfl) (Nat.le_of_ble_eq_true rfl) dX10_completionsBackwards_1 (Or.inl rfl) (fun v M9 q _ => (Sum.inl_ne_inr q.1).elim) (fun E M9 q _ => ?_)
    obtain rfl : r1E = E := (Sum.inr.inj q.1).symm
    obtain rfl := q.2.symm
    obtain rfl := Option.some.inj h
    exact fx_no rfl ⟨rfl, rfl⟩
def f_L_backwards (p0a : Nat) (M : Mem) : Option (Int32 × Mem) := (rc M 10 p0a).bind fun _ => (f_X10_completionsBackwards p0a M).bind fun r1 => (match r1 with | (.inl r1v, r1M) => (some (r1v, r1M)) | (.inr r1E, r1M) => (if r1E = "java/lang/UnsupportedOperationException" then (some ((-1001), r1M)) else none))
set_option maxRecDepth 20000 in
theorem ev_L_backwards {G : Nat × (Nat → Int32) × Value} {p0a : Nat} {M : Mem} {r : Int32 × Mem} (h : f_L_backwards p0a M = some r) : Ev (roG G) false YL_backwards 18 1 [.ref p0a] M (fun a b => a = wI r.1 ∧ b = r.2) := by
  refine ev_of cyL_backwards.2.2.2.2 (Nat.le_of_ble_eq_true rfl) ?_
  show Fr _ _ _ _ _ _ 0 [(0, .ref p0a)] [] M _
  unfold f_L_backwards at h
  refine fr_aload_n 0 dL_backwards_0 rfl ?_
  obtain ⟨u2, eu2, h⟩ := ob h
  try dsimp only at h
  obtain ⟨r1, er1, h⟩ := ob h
  try dsimp only at h
  obtain ⟨r1v | r1E, r1M⟩ := r1
  · try dsimp only at h
    refine fr_callV (g1 := false) (k2 := 0) (ev_X10_completionsBackwards er1) rfl cyX10_completionsBackwards w_1463 w_1464 w_1465 (rc_ok eu2 rfl (by decide)) (by rfl) (by omega) (by omega) (by rfl) (Nat.le_of_ble_eq_true rfl) dL_backwards_1 (Or.inl rfl) (fun v M9 q _ => ?_) (fun E M9 q _ => (Sum.inr_ne_inl q.1).elim)
    obtain rfl : v = some (.int r1v) := Sum.inl.inj q.1
    obtain rfl := q.2.symm
    refine fr_st (S' := [.int r1v]) rfl ?_
    obtain rfl := Option.some.inj h
    exact fr_iret rfl dL_backwards_4 ⟨rfl, rfl⟩
  · try dsimp only at h
    refine fr_callV (g1 := false) (k2 := 0) (ev_X10_completionsBackwards er1) rfl cyX10_completionsBackwards w_1463 w_1464 w_1465 (rc_ok eu2 rfl (by decide)) (by rfl) (by omega) (by omega) (by rfl) (Nat.le_of_ble_eq_true rfl) dL_backwards_1 (Or.inl rfl) (fun v M9 q _ => (Sum.inl_ne_inr q.1).elim) (fun E M9 q _ => ?_)
    obtain rfl : r1E = E := (Sum.inr.inj q.1).symm
    obtain rfl := q.2.symm
    by_cases e3_0 : r1E = "java/lang/UnsupportedOperationException"
    · rw [if_pos e3_0] at h
      subst e3_0
      refine fx_catch (E := "java/lang/UnsupportedOperationException") (name := "java/lang/UnsupportedOperationException") (L' := [(0, .ref p0a)]) [] { startPc := 0, endPc := 4, handlerPc := 5, catchType := 33 } [] rfl ?_ (by decide) (by decide) w_544 (show _ ∈ roC from List.mem_of_getElem? (i := 3) rfl) 1 1 (by decide) (Or.inl ⟨1, rfl, rfl, dL_backwards_5⟩) rfl ?_
      · intro z hz; cases hz
      refine fr_sipush (v := (-1001)) dL_backwards_6 (by decide) ?_
      obtain rfl := Option.some.inj h
      exact fr_iret rfl dL_backwards_9 ⟨rfl, rfl⟩
    rw [if_neg e3_0] at h
    cases h
def f_X10_demandSide (x0a : Int32) (M : Mem) : Option ((Unit ⊕ String)) := if x0a < 0 then (some (.inr "java/lang/IllegalArgumentException")) else (if x0a < 4 then (some (.inl ())) else (some (.inr "java/lang/IllegalArgumentException")))
set_option maxRecDepth 20000 in
theorem ev_X10_demandSide {G : Nat × (Nat → Int32) × Value} {x0a : Int32} {M : Mem} {r : (Unit ⊕ String)} (h : f_X10_demandSide x0a M = some r) : Ev (roG G) false YX10_demandSide 7 1 [.int x0a] M (fun a b => a = (wE wU) r ∧ b = M) := by
  refine ev_of cyX10_demandSide.2.2.2.2 (Nat.le_of_ble_eq_true rfl) ?_
  show Fr _ _ _ _ _ _ 0 [(0, .int x0a)] [] M _
  unfold f_X10_demandSide at h
  refine fr_iload_n 0 dX10_demandSide_0 rfl ?_
  refine fr_if_lt 9 dX10_demandSide_1 (by decide) (fun c1 => ?_) (fun c1 => ?_)
  · rw [if_pos c1] at h
    obtain rfl := Option.some.inj h
    exact fr_throwW (names := ["java/lang/RuntimeException", "java/lang/Exception"]) rfl thX10_187 w_400 w_28 (sa := ROB + 49) (show _ ∈ roS from List.mem_of_getElem? (i := 29) rfl) dX10_demandSide_9 dX10_demandSide_12 dX10_demandSide_13 dX10_demandSide_16 dX10_demandSide_19 (by omega) (by omega) (Nat.le_of_ble_eq_true rfl) ⟨rfl, rfl⟩
  · rw [if_neg c1] at h
    refine fr_iload_n 0 dX10_demandSide_4 rfl ?_
    refine fr_iconst (v := 4) dX10_demandSide_5 (by decide) ?_
    refine fr_icmp_lt 20 dX10_demandSide_6 (by decide) (fun c2 => ?_) (fun c2 => ?_)
    · rw [if_pos c2] at h
      obtain rfl := Option.some.inj h
      exact fr_vret rfl dX10_demandSide_20 ⟨rfl, rfl⟩
    · rw [if_neg c2] at h
      obtain rfl := Option.some.inj h
      exact fr_throwW (names := ["java/lang/RuntimeException", "java/lang/Exception"]) rfl thX10_187 w_400 w_28 (sa := ROB + 49) (show _ ∈ roS from List.mem_of_getElem? (i := 29) rfl) dX10_demandSide_9 dX10_demandSide_12 dX10_demandSide_13 dX10_demandSide_16 dX10_demandSide_19 (by omega) (by omega) (Nat.le_of_ble_eq_true rfl) ⟨rfl, rfl⟩
def f_X10_border (p0a : Nat) (x1a : Int32) (x2a : Int32) (M : Mem) : Option ((Int32 ⊕ String)) := (rc M 10 p0a).bind fun _ => (f_X10_demandedSheet p0a x1a M).bind fun r1 => (match r1 with | .inl r1v => ((f_X10_demandSide x2a M).bind fun r3 => (match r3 with | .inl r3v => ((rc M 7 r1v).bind fun _ => (f_X7_borderWhenTurned r1v x2a 0 M).bind fun r4 => some (.inl r4)) | .inr r3E => (some (.inr r3E)))) | .inr r1E => (some (.inr r1E)))
set_option maxRecDepth 20000 in
theorem ev_X10_border {G : Nat × (Nat → Int32) × Value} {p0a : Nat} {x1a : Int32} {x2a : Int32} {M : Mem} {r : (Int32 ⊕ String)} (h : f_X10_border p0a x1a x2a M = some r) : Ev (roG G) false YX10_border 8 2 [.ref p0a, .int x1a, .int x2a] M (fun a b => a = (wE wI) r ∧ b = M) := by
  refine ev_of cyX10_border.2.2.2.2 (Nat.le_of_ble_eq_true rfl) ?_
  show Fr _ _ _ _ _ _ 0 [(0, .ref p0a), (1, .int x1a), (2, .int x2a)] [] M _
  unfold f_X10_border at h
  refine fr_aload_n 0 dX10_border_0 rfl ?_
  refine fr_iload_n 1 dX10_border_1 rfl ?_
  obtain ⟨u2, eu2, h⟩ := ob h
  try dsimp only at h
  obtain ⟨r1, er1, h⟩ := ob h
  try dsimp only at h
  rcases r1 with r1v | r1E
  · try dsimp only at h
    refine fr_callV (g1 := false) (k2 := 1) (ev_X10_demandedSheet er1) rfl cyX10_demandedSheet w_655 w_657 w_2 (rc_ok eu2 rfl (by decide)) (by rfl) (by omega) (by omega) (by rfl) (Nat.le_of_ble_eq_true rfl) dX10_border_2 (Or.inl rfl) (fun v M9 q _ => ?_) (fun E M9 q _ => (Sum.inr_ne_inl q.1).elim)
    obtain rfl : v = some (.ref r1v) := Sum.inl.inj q.1
    obtain rfl := q.2.symm
    refine fr_st (S' := [.ref r1v]) rfl ?_
    refine fr_astore_n (L' := [(0, .ref p0a), (1, .int x1a), (2, .int x2a), (3, .ref r1v)]) dX10_border_5 (by decide) rfl ?_
    refine fr_iload_n 2 dX10_border_6 rfl ?_
    obtain ⟨r3, er3, h⟩ := ob h
    try dsimp only at h
    rcases r3 with r3v | r3E
    · try dsimp only at h
      refine fr_callS (g1 := false) (k2 := 0) (ev_X10_demandSide er3) rfl cyX10_demandSide w_1386 w_1387 (by rfl) (by omega) (by omega) (by rfl) (Nat.le_of_ble_eq_true rfl) dX10_border_7 (Or.inl rfl) (fun v M9 q _ => ?_) (fun E M9 q _ => (Sum.inr_ne_inl q.1).elim)
      obtain rfl : v = none := Sum.inl.inj q.1
      obtain rfl := q.2.symm
      refine fr_st (S' := []) rfl ?_
      refine fr_aload_n 3 dX10_border_10 rfl ?_
      refine fr_iload_n 2 dX10_border_11 rfl ?_
      refine fr_iconst (v := 0) dX10_border_12 (by decide) ?_
      obtain ⟨u5, eu5, h⟩ := ob h
      try dsimp only at h
      obtain ⟨r4, er4, h⟩ := ob h
      try dsimp only at h
      refine fr_callV (g1 := false) (k2 := 0) (ev_X7_borderWhenTurned er4) rfl cyX7_borderWhenTurned w_1390 w_599 w_600 (rc_ok eu5 rfl (by decide)) (by rfl) (by omega) (by omega) (by rfl) (Nat.le_of_ble_eq_true rfl) dX10_border_13 (Or.inl rfl) (fun v M9 q _ => ?_) (fun E M9 q _ => (Sum.inr_ne_inl q.1).elim)
      obtain rfl : v = some (.int r4) := Sum.inl.inj q.1
      obtain rfl := q.2.symm
      refine fr_st (S' := [.int r4]) rfl ?_
      obtain rfl := Option.some.inj h
      exact fr_iret rfl dX10_border_16 ⟨rfl, rfl⟩
    · try dsimp only at h
      refine fr_callS (g1 := false) (k2 := 0) (ev_X10_demandSide er3) rfl cyX10_demandSide w_1386 w_1387 (by rfl) (by omega) (by omega) (by rfl) (Nat.le_of_ble_eq_true rfl) dX10_border_7 (Or.inl rfl) (fun v M9 q _ => (Sum.inl_ne_inr q.1).elim) (fun E M9 q _ => ?_)
      obtain rfl : r3E = E := (Sum.inr.inj q.1).symm
      obtain rfl := q.2.symm
      obtain rfl := Option.some.inj h
      exact fx_no rfl ⟨rfl, rfl⟩
  · try dsimp only at h
    refine fr_callV (g1 := false) (k2 := 1) (ev_X10_demandedSheet er1) rfl cyX10_demandedSheet w_655 w_657 w_2 (rc_ok eu2 rfl (by decide)) (by rfl) (by omega) (by omega) (by rfl) (Nat.le_of_ble_eq_true rfl) dX10_border_2 (Or.inl rfl) (fun v M9 q _ => (Sum.inl_ne_inr q.1).elim) (fun E M9 q _ => ?_)
    obtain rfl : r1E = E := (Sum.inr.inj q.1).symm
    obtain rfl := q.2.symm
    obtain rfl := Option.some.inj h
    exact fx_no rfl ⟨rfl, rfl⟩
def f_L_border (p0a : Nat) (x1a : Int32) (x2a : Int32) (M : Mem) : Option (Int32) := (rc M 10 p0a).bind fun _ => (f_X10_border p0a x1a x2a M).bind fun r1 => (match r1 with | .inl r1v => (some r1v) | .inr r1E => (if r1E = "java/lang/IndexOutOfBoundsException" then (some (-1001)) else (if r1E = "java/lang/IllegalArgumentException" then (some (-1002)) else none)))
set_option maxRecDepth 20000 in
theorem ev_L_border {G : Nat × (Nat → Int32) × Value} {p0a : Nat} {x1a : Int32} {x2a : Int32} {M : Mem} {r : Int32} (h : f_L_border p0a x1a x2a M = some r) : Ev (roG G) false YL_border 9 2 [.ref p0a, .int x1a, .int x2a] M (fun a b => a = wI r ∧ b = M) := by
  refine ev_of cyL_border.2.2.2.2 (Nat.le_of_ble_eq_true rfl) ?_
  show Fr _ _ _ _ _ _ 0 [(0, .ref p0a), (1, .int x1a), (2, .int x2a)] [] M _
  unfold f_L_border at h
  refine fr_aload_n 0 dL_border_0 rfl ?_
  refine fr_iload_n 1 dL_border_1 rfl ?_
  refine fr_iload_n 2 dL_border_2 rfl ?_
  obtain ⟨u2, eu2, h⟩ := ob h
  try dsimp only at h
  obtain ⟨r1, er1, h⟩ := ob h
  try dsimp only at h
  rcases r1 with r1v | r1E
  · try dsimp only at h
    refine fr_callV (g1 := false) (k2 := 0) (ev_X10_border er1) rfl cyX10_border w_1382 w_1383 w_1384 (rc_ok eu2 rfl (by decide)) (by rfl) (by omega) (by omega) (by rfl) (Nat.le_of_ble_eq_true rfl) dL_border_3 (Or.inl rfl) (fun v M9 q _ => ?_) (fun E M9 q _ => (Sum.inr_ne_inl q.1).elim)
    obtain rfl : v = some (.int r1v) := Sum.inl.inj q.1
    obtain rfl := q.2.symm
    refine fr_st (S' := [.int r1v]) rfl ?_
    obtain rfl := Option.some.inj h
    exact fr_iret rfl dL_border_6 ⟨rfl, rfl⟩
  · try dsimp only at h
    refine fr_callV (g1 := false) (k2 := 0) (ev_X10_border er1) rfl cyX10_border w_1382 w_1383 w_1384 (rc_ok eu2 rfl (by decide)) (by rfl) (by omega) (by omega) (by rfl) (Nat.le_of_ble_eq_true rfl) dL_border_3 (Or.inl rfl) (fun v M9 q _ => (Sum.inl_ne_inr q.1).elim) (fun E M9 q _ => ?_)
    obtain rfl : r1E = E := (Sum.inr.inj q.1).symm
    obtain rfl := q.2.symm
    by_cases e3_0 : r1E = "java/lang/IndexOutOfBoundsException"
    · rw [if_pos e3_0] at h
      subst e3_0
      refine fx_catch (E := "java/lang/IndexOutOfBoundsException") (name := "java/lang/IndexOutOfBoundsException") (L' := [(0, .ref p0a), (1, .int x1a), (2, .int x2a)]) [] { startPc := 0, endPc := 6, handlerPc := 7, catchType := 21 } [{ startPc := 0, endPc := 6, handlerPc := 12, catchType := 13 }] rfl ?_ (by decide) (by decide) w_474 (show _ ∈ roC from List.mem_of_getElem? (i := 0) rfl) 3 1 (by decide) (Or.inl ⟨3, rfl, rfl, dL_border_7⟩) rfl ?_
      · intro z hz; cases hz
      refine fr_sipush (v := (-1001)) dL_border_8 (by decide) ?_
      obtain rfl := Option.some.inj h
      exact fr_iret rfl dL_border_11 ⟨rfl, rfl⟩
    rw [if_neg e3_0] at h
    by_cases e3_1 : r1E = "java/lang/IllegalArgumentException"
    · rw [if_pos e3_1] at h
      subst e3_1
      refine fx_catch (E := "java/lang/IllegalArgumentException") (name := "java/lang/IllegalArgumentException") (L' := [(0, .ref p0a), (1, .int x1a), (2, .int x2a)]) [{ startPc := 0, endPc := 6, handlerPc := 7, catchType := 21 }] { startPc := 0, endPc := 6, handlerPc := 12, catchType := 13 } [] rfl ?_ (by decide) (by decide) w_296 (show _ ∈ roC from List.mem_of_getElem? (i := 1) rfl) 3 1 (by decide) (Or.inl ⟨3, rfl, rfl, dL_border_12⟩) rfl ?_
      · intro z hz
        simp only [List.mem_cons, List.not_mem_nil, or_false] at hz
        subst hz
        exact Or.inr ⟨by decide, "java/lang/IndexOutOfBoundsException", w_474, show _ ∈ roN from List.mem_of_getElem? (i := 43) rfl⟩
      refine fr_sipush (v := (-1002)) dL_border_13 (by decide) ?_
      obtain rfl := Option.some.inj h
      exact fr_iret rfl dL_border_16 ⟨rfl, rfl⟩
    rw [if_neg e3_1] at h
    cases h
def f_X10_isCell (x0a : Int32) (M : Mem) : Option (Int32) := if x0a < 0 then (some 0) else (if 9 ≤ x0a then (some 0) else (some 1))
set_option maxRecDepth 20000 in
theorem ev_X10_isCell {G : Nat × (Nat → Int32) × Value} {x0a : Int32} {M : Mem} {r : Int32} (h : f_X10_isCell x0a M = some r) : Ev (roG G) false YX10_isCell 0 0 [.int x0a] M (fun a b => a = wI r ∧ b = M) := by
  refine ev_of cyX10_isCell.2.2.2.2 (Nat.le_of_ble_eq_true rfl) ?_
  show Fr _ _ _ _ _ _ 0 [(0, .int x0a)] [] M _
  unfold f_X10_isCell at h
  refine fr_iload_n 0 dX10_isCell_0 rfl ?_
  refine fr_if_lt 14 dX10_isCell_1 (by decide) (fun c1 => ?_) (fun c1 => ?_)
  · rw [if_pos c1] at h
    refine fr_iconst (v := 0) dX10_isCell_14 (by decide) ?_
    obtain rfl := Option.some.inj h
    exact fr_zret (ty := .boolean) rfl rfl dX10_isCell_15 ⟨rfl, rfl⟩
  · rw [if_neg c1] at h
    refine fr_iload_n 0 dX10_isCell_4 rfl ?_
    refine fr_bipush (v := 9) dX10_isCell_5 (by decide) ?_
    refine fr_icmp_ge 14 dX10_isCell_7 (by decide) (fun c2 => ?_) (fun c2 => ?_)
    · rw [if_pos c2] at h
      refine fr_iconst (v := 0) dX10_isCell_14 (by decide) ?_
      obtain rfl := Option.some.inj h
      exact fr_zret (ty := .boolean) rfl rfl dX10_isCell_15 ⟨rfl, rfl⟩
    · rw [if_neg c2] at h
      refine fr_iconst (v := 1) dX10_isCell_10 (by decide) ?_
      refine fr_goto 15 dX10_isCell_11 (by decide) ?_
      obtain rfl := Option.some.inj h
      exact fr_zret (ty := .boolean) rfl rfl dX10_isCell_15 ⟨rfl, rfl⟩
def f_X10_demandCell (x0a : Int32) (M : Mem) : Option ((Unit ⊕ String)) := (f_X10_isCell x0a M).bind fun r1 => if r1 = 0 then (some (.inr "java/lang/IndexOutOfBoundsException")) else (some (.inl ()))
set_option maxRecDepth 20000 in
theorem ev_X10_demandCell {G : Nat × (Nat → Int32) × Value} {x0a : Int32} {M : Mem} {r : (Unit ⊕ String)} (h : f_X10_demandCell x0a M = some r) : Ev (roG G) false YX10_demandCell 7 1 [.int x0a] M (fun a b => a = (wE wU) r ∧ b = M) := by
  refine ev_of cyX10_demandCell.2.2.2.2 (Nat.le_of_ble_eq_true rfl) ?_
  show Fr _ _ _ _ _ _ 0 [(0, .int x0a)] [] M _
  unfold f_X10_demandCell at h
  refine fr_iload_n 0 dX10_demandCell_0 rfl ?_
  obtain ⟨r1, er1, h⟩ := ob h
  try dsimp only at h
  refine fr_callS (g1 := false) (k2 := 1) (ev_X10_isCell er1) rfl cyX10_isCell w_685 w_565 (by rfl) (by omega) (by omega) (by rfl) (Nat.le_of_ble_eq_true rfl) dX10_demandCell_1 (Or.inl rfl) (fun v M9 q _ => ?_) (fun E M9 q _ => (Sum.inr_ne_inl q.1).elim)
  obtain rfl : v = some (.int r1) := Sum.inl.inj q.1
  obtain rfl := q.2.symm
  refine fr_st (S' := [.int r1]) rfl ?_
  refine fr_if_ne 18 dX10_demandCell_4 (by decide) (fun c2 => ?_) (fun c2 => ?_)
  · rw [if_neg c2] at h
    obtain rfl := Option.some.inj h
    exact fr_vret rfl dX10_demandCell_18 ⟨rfl, rfl⟩
  · rw [if_pos c2] at h
    obtain rfl := Option.some.inj h
    exact fr_throwW (names := ["java/lang/RuntimeException", "java/lang/Exception"]) rfl thX10_135 w_328 w_27 (sa := ROB + 26) (show _ ∈ roS from List.mem_of_getElem? (i := 6) rfl) dX10_demandCell_7 dX10_demandCell_10 dX10_demandCell_11 dX10_demandCell_14 dX10_demandCell_17 (by omega) (by omega) (Nat.le_of_ble_eq_true rfl) ⟨rfl, rfl⟩
def f_X10_demandOccupied (p0a : Nat) (x1a : Int32) (M : Mem) : Option ((Unit ⊕ String)) := (gP M 10 p0a 0).bind fun p1 => (rc M 9 p1).bind fun _ => (f_X9_isOccupied p1 x1a M).bind fun r2 => if r2 = 0 then (some (.inr "java/util/NoSuchElementException")) else (some (.inl ()))
set_option maxRecDepth 20000 in
theorem ev_X10_demandOccupied {G : Nat × (Nat → Int32) × Value} {p0a : Nat} {x1a : Int32} {M : Mem} {r : (Unit ⊕ String)} (h : f_X10_demandOccupied p0a x1a M = some r) : Ev (roG G) false YX10_demandOccupied 7 1 [.ref p0a, .int x1a] M (fun a b => a = (wE wU) r ∧ b = M) := by
  refine ev_of cyX10_demandOccupied.2.2.2.2 (Nat.le_of_ble_eq_true rfl) ?_
  show Fr _ _ _ _ _ _ 0 [(0, .ref p0a), (1, .int x1a)] [] M _
  unfold f_X10_demandOccupied at h
  refine fr_aload_n 0 dX10_demandOccupied_0 rfl ?_
  obtain ⟨p1, ep1, h⟩ := ob h
  try dsimp only at h
  refine fr_gP cb10 0 (by decide) rfl w_227 dX10_demandOccupied_1 ep1 ?_
  refine fr_iload_n 1 dX10_demandOccupied_4 rfl ?_
  obtain ⟨u3, eu3, h⟩ := ob h
  try dsimp only at h
  obtain ⟨r2, er2, h⟩ := ob h
  try dsimp only at h
  refine fr_callV (g1 := false) (k2 := 1) (ev_X9_isOccupied er2) rfl cyX9_isOccupied w_691 w_580 w_581 (rc_ok eu3 rfl (by decide)) (by rfl) (by omega) (by omega) (by rfl) (Nat.le_of_ble_eq_true rfl) dX10_demandOccupied_5 (Or.inl rfl) (fun v M9 q _ => ?_) (fun E M9 q _ => (Sum.inr_ne_inl q.1).elim)
  obtain rfl : v = some (.int r2) := Sum.inl.inj q.1
  obtain rfl := q.2.symm
  refine fr_st (S' := [.int r2]) rfl ?_
  refine fr_if_ne 22 dX10_demandOccupied_8 (by decide) (fun c4 => ?_) (fun c4 => ?_)
  · rw [if_neg c4] at h
    obtain rfl := Option.some.inj h
    exact fr_vret rfl dX10_demandOccupied_22 ⟨rfl, rfl⟩
  · rw [if_pos c4] at h
    obtain rfl := Option.some.inj h
    exact fr_throwWX rfl thX10_149 w_448 w_30 (sa := ROB + 24) (show _ ∈ roS from List.mem_of_getElem? (i := 4) rfl) dX10_demandOccupied_11 dX10_demandOccupied_14 dX10_demandOccupied_15 dX10_demandOccupied_18 dX10_demandOccupied_21 (by omega) (by omega) (Nat.le_of_ble_eq_true rfl) ⟨rfl, rfl⟩
def f_X10_borderIn (p0a : Nat) (x1a : Int32) (x2a : Int32) (M : Mem) : Option ((Int32 ⊕ String)) := (f_X10_demandCell x1a M).bind fun r1 => (match r1 with | .inl r1v => ((f_X10_demandSide x2a M).bind fun r2 => (match r2 with | .inl r2v => ((rc M 10 p0a).bind fun _ => (f_X10_demandOccupied p0a x1a M).bind fun r3 => (match r3 with | .inl r3v => ((gP M 10 p0a 0).bind fun p5 => (rc M 9 p5).bind fun _ => (f_X9_sheetLaidIn p5 x1a M).bind fun r6 => (rc M 7 r6).bind fun _ => (f_X7_borderAsLaid r6 x2a M).bind fun r8 => some (.inl r8)) | .inr r3E => (some (.inr r3E)))) | .inr r2E => (some (.inr r2E)))) | .inr r1E => (some (.inr r1E)))
set_option maxRecDepth 20000 in
theorem ev_X10_borderIn {G : Nat × (Nat → Int32) × Value} {p0a : Nat} {x1a : Int32} {x2a : Int32} {M : Mem} {r : (Int32 ⊕ String)} (h : f_X10_borderIn p0a x1a x2a M = some r) : Ev (roG G) false YX10_borderIn 8 3 [.ref p0a, .int x1a, .int x2a] M (fun a b => a = (wE wI) r ∧ b = M) := by
  refine ev_of cyX10_borderIn.2.2.2.2 (Nat.le_of_ble_eq_true rfl) ?_
  show Fr _ _ _ _ _ _ 0 [(0, .ref p0a), (1, .int x1a), (2, .int x2a)] [] M _
  unfold f_X10_borderIn at h
  refine fr_iload_n 1 dX10_borderIn_0 rfl ?_
  obtain ⟨r1, er1, h⟩ := ob h
  try dsimp only at h
  rcases r1 with r1v | r1E
  · try dsimp only at h
    refine fr_callS (g1 := false) (k2 := 2) (ev_X10_demandCell er1) rfl cyX10_demandCell w_682 w_683 (by rfl) (by omega) (by omega) (by rfl) (Nat.le_of_ble_eq_true rfl) dX10_borderIn_1 (Or.inl rfl) (fun v M9 q _ => ?_) (fun E M9 q _ => (Sum.inr_ne_inl q.1).elim)
    obtain rfl : v = none := Sum.inl.inj q.1
    obtain rfl := q.2.symm
    refine fr_st (S' := []) rfl ?_
    refine fr_iload_n 2 dX10_borderIn_4 rfl ?_
    obtain ⟨r2, er2, h⟩ := ob h
    try dsimp only at h
    rcases r2 with r2v | r2E
    · try dsimp only at h
      refine fr_callS (g1 := false) (k2 := 1) (ev_X10_demandSide er2) rfl cyX10_demandSide w_1386 w_1387 (by rfl) (by omega) (by omega) (by rfl) (Nat.le_of_ble_eq_true rfl) dX10_borderIn_5 (Or.inl rfl) (fun v M9 q _ => ?_) (fun E M9 q _ => (Sum.inr_ne_inl q.1).elim)
      obtain rfl : v = none := Sum.inl.inj q.1
      obtain rfl := q.2.symm
      refine fr_st (S' := []) rfl ?_
      refine fr_aload_n 0 dX10_borderIn_8 rfl ?_
      refine fr_iload_n 1 dX10_borderIn_9 rfl ?_
      obtain ⟨u4, eu4, h⟩ := ob h
      try dsimp only at h
      obtain ⟨r3, er3, h⟩ := ob h
      try dsimp only at h
      rcases r3 with r3v | r3E
      · try dsimp only at h
        refine fr_callV (g1 := false) (k2 := 0) (ev_X10_demandOccupied er3) rfl cyX10_demandOccupied w_687 w_689 w_3 (rc_ok eu4 rfl (by decide)) (by rfl) (by omega) (by omega) (by rfl) (Nat.le_of_ble_eq_true rfl) dX10_borderIn_10 (Or.inl rfl) (fun v M9 q _ => ?_) (fun E M9 q _ => (Sum.inr_ne_inl q.1).elim)
        obtain rfl : v = none := Sum.inl.inj q.1
        obtain rfl := q.2.symm
        refine fr_st (S' := []) rfl ?_
        refine fr_aload_n 0 dX10_borderIn_13 rfl ?_
        obtain ⟨p5, ep5, h⟩ := ob h
        try dsimp only at h
        refine fr_gP cb10 0 (by decide) rfl w_227 dX10_borderIn_14 ep5 ?_
        refine fr_iload_n 1 dX10_borderIn_17 rfl ?_
        obtain ⟨u7, eu7, h⟩ := ob h
        try dsimp only at h
        obtain ⟨r6, er6, h⟩ := ob h
        try dsimp only at h
        refine fr_callV (g1 := false) (k2 := 0) (ev_X9_sheetLaidIn er6) rfl cyX9_sheetLaidIn w_699 w_595 w_596 (rc_ok eu7 rfl (by decide)) (by rfl) (by omega) (by omega) (by rfl) (Nat.le_of_ble_eq_true rfl) dX10_borderIn_18 (Or.inl rfl) (fun v M9 q _ => ?_) (fun E M9 q _ => (Sum.inr_ne_inl q.1).elim)
        obtain rfl : v = some (.ref r6) := Sum.inl.inj q.1
        obtain rfl := q.2.symm
        refine fr_st (S' := [.ref r6]) rfl ?_
        refine fr_iload_n 2 dX10_borderIn_21 rfl ?_
        obtain ⟨u9, eu9, h⟩ := ob h
        try dsimp only at h
        obtain ⟨r8, er8, h⟩ := ob h
        try dsimp only at h
        refine fr_callV (g1 := false) (k2 := 0) (ev_X7_borderAsLaid er8) rfl cyX7_borderAsLaid w_1398 w_609 w_610 (rc_ok eu9 rfl (by decide)) (by rfl) (by omega) (by omega) (by rfl) (Nat.le_of_ble_eq_true rfl) dX10_borderIn_22 (Or.inl rfl) (fun v M9 q _ => ?_) (fun E M9 q _ => (Sum.inr_ne_inl q.1).elim)
        obtain rfl : v = some (.int r8) := Sum.inl.inj q.1
        obtain rfl := q.2.symm
        refine fr_st (S' := [.int r8]) rfl ?_
        obtain rfl := Option.some.inj h
        exact fr_iret rfl dX10_borderIn_25 ⟨rfl, rfl⟩
      · try dsimp only at h
        refine fr_callV (g1 := false) (k2 := 0) (ev_X10_demandOccupied er3) rfl cyX10_demandOccupied w_687 w_689 w_3 (rc_ok eu4 rfl (by decide)) (by rfl) (by omega) (by omega) (by rfl) (Nat.le_of_ble_eq_true rfl) dX10_borderIn_10 (Or.inl rfl) (fun v M9 q _ => (Sum.inl_ne_inr q.1).elim) (fun E M9 q _ => ?_)
        obtain rfl : r3E = E := (Sum.inr.inj q.1).symm
        obtain rfl := q.2.symm
        obtain rfl := Option.some.inj h
        exact fx_no rfl ⟨rfl, rfl⟩
    · try dsimp only at h
      refine fr_callS (g1 := false) (k2 := 1) (ev_X10_demandSide er2) rfl cyX10_demandSide w_1386 w_1387 (by rfl) (by omega) (by omega) (by rfl) (Nat.le_of_ble_eq_true rfl) dX10_borderIn_5 (Or.inl rfl) (fun v M9 q _ => (Sum.inl_ne_inr q.1).elim) (fun E M9 q _ => ?_)
      obtain rfl : r2E = E := (Sum.inr.inj q.1).symm
      obtain rfl := q.2.symm
      obtain rfl := Option.some.inj h
      exact fx_no rfl ⟨rfl, rfl⟩
  · try dsimp only at h
    refine fr_callS (g1 := false) (k2 := 2) (ev_X10_demandCell er1) rfl cyX10_demandCell w_682 w_683 (by rfl) (by omega) (by omega) (by rfl) (Nat.le_of_ble_eq_true rfl) dX10_borderIn_1 (Or.inl rfl) (fun v M9 q _ => (Sum.inl_ne_inr q.1).elim) (fun E M9 q _ => ?_)
    obtain rfl : r1E = E := (Sum.inr.inj q.1).symm
    obtain rfl := q.2.symm
    obtain rfl := Option.some.inj h
    exact fx_no rfl ⟨rfl, rfl⟩
