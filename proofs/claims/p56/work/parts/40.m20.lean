/-! ===== methods, 20: L_law ===== -/
def lp_L_law_50 (G : Nat × (Nat → Int32) × Value) (p_0 : Nat) (p_1 : Nat) : Nat → Int32 → Mem → Option ((Int32 × Mem) ⊕ (Int32 × Mem))
  | 0, _, _ => none
  | n + 1, x_2, M_ => if 60 ≤ x_2 then (some (.inl (x_2, M_))) else ((f_L_feed p_1 (((65 + x_2).toUInt32 % 65536).toInt32) M_).bind fun r15 => if r15.1 = (x_2 + 1) then (lp_L_law_50 G p_0 p_1 n (x_2 + 1) r15.2) else none)
def rg_L_law_8 (G : Nat × (Nat → Int32) × Value) (p_0 : Nat) (p_1 : Nat) (M_ : Mem) : Option ((Mem) ⊕ (Int32 × Mem)) := (f_L_undo p_1 M_).bind fun r5 => if r5.1 = (-1001) then ((f_L_restore p_1 r5.2).bind fun r7 => if r7.1 = (-1001) then ((rc r7.2 10 p_1).bind fun _ => (f_X10_save p_1 r7.2).bind fun r9 => if r9.1 = 0 then ((f_L_addPaste p_1 20 r9.2).bind fun r12 => if r12.1 = 20 then ((lp_L_law_50 G p_0 p_1 61 0 r12.2).bind fun q17 => match q17 with | .inl (q17_2, q17_M) => ((f_L_feed p_1 109 q17_M).bind fun r18 => if r18.1 = (-1001) then ((f_L_run p_1 r18.2).bind fun r20 => if r20.1 = (-1001) then ((f_L_errorPosition p_1 r20.2).bind fun r22 => if r22 = 0 then ((f_L_feed p_1 109 r20.2).bind fun r24 => if r24.1 = 1 then ((f_L_run p_1 r24.2).bind fun r26 => if r26.1 = (-1001) then ((f_L_errorPosition p_1 r26.2).bind fun r28 => if r28 = 1 then (some (.inl r26.2)) else none) else none) else none) else none) else none) else none) | .inr q17_r => some (.inr q17_r)) else none) else none) else none) else none
def lp_L_law_140 (G : Nat × (Nat → Int32) × Value) (p_0 : Nat) (p_1 : Nat) : Nat → Int32 → Mem → Option ((Int32 × Mem) ⊕ (Int32 × Mem))
  | 0, _, _ => none
  | n + 1, x_2, M_ => if 9 ≤ x_2 then (some (.inl (x_2, M_))) else ((f_L_addSheet p_1 x_2 x_2 x_2 x_2 99 M_).bind fun r32 => if r32.1 = x_2 then (lp_L_law_140 G p_0 p_1 n (x_2 + 1) r32.2) else none)
def lp_L_law_188 (G : Nat × (Nat → Int32) × Value) (p_0 : Nat) (p_1 : Nat) : Nat → Int32 → Mem → Option ((Int32 × Mem) ⊕ (Int32 × Mem))
  | 0, _, _ => none
  | n + 1, x_2, M_ => if 6 ≤ x_2 then (some (.inl (x_2, M_))) else ((f_L_addCrease p_1 8 118 M_).bind fun r38 => if r38.1 = (x_2 + 1) then (lp_L_law_188 G p_0 p_1 n (x_2 + 1) r38.2) else none)
def rg_L_law_138 (G : Nat × (Nat → Int32) × Value) (p_0 : Nat) (p_1 : Nat) (M_ : Mem) : Option ((Mem) ⊕ (Int32 × Mem)) := ((lp_L_law_140 G p_0 p_1 10 0 M_).bind fun q34 => match q34 with | .inl (q34_2, q34_M) => ((f_L_addSheet p_1 0 0 0 0 99 q34_M).bind fun r35 => if r35.1 = (-1002) then ((lp_L_law_188 G p_0 p_1 7 0 r35.2).bind fun q40 => match q40 with | .inl (q40_2, q40_M) => ((f_L_addCrease p_1 8 109 q40_M).bind fun r41 => if r41.1 = (-1003) then ((f_L_fold p_1 8 r41.2).bind fun r43 => if r43.1 = 6 then ((f_L_unfold p_1 8 r43.2).bind fun r45 => if r45.1 = 9 then ((f_L_mend p_1 8 r45.2).bind fun r47 => if r47.1 = 14 then ((f_L_put p_1 8 4 3 r47.2).bind fun r49 => if r49.1 = 0 then ((f_L_put p_1 7 4 0 r49.2).bind fun r51 => if r51.1 = (-1003) then ((f_L_put p_1 7 5 0 r51.2).bind fun r53 => if r53.1 = (-1004) then ((f_L_put p_1 7 8 2 r53.2).bind fun r55 => if r55.1 = 0 then ((f_L_take p_1 4 r55.2).bind fun r57 => if r57.1 = 8 then ((rc r57.2 10 p_1).bind fun _ => (f_X10_undoCount p_1 r57.2).bind fun r59 => if r59 = 8 then (some (.inl r57.2)) else none) else none) else none) else none) else none) else none) else none) else none) else none) else none) | .inr q40_r => some (.inr q40_r)) else none) | .inr q34_r => some (.inr q34_r))
def rg_L_law_335 (G : Nat × (Nat → Int32) × Value) (p_0 : Nat) (p_1 : Nat) (M_ : Mem) : Option ((Mem) ⊕ (Int32 × Mem)) := (f_L_undo p_1 M_).bind fun r63 => if r63.1 = 7 then ((f_L_sheetIn p_1 4 r63.2).bind fun r65 => if r65 = 8 then ((f_L_turnsIn p_1 4 r63.2).bind fun r67 => if r67 = 3 then ((f_L_undo p_1 r63.2).bind fun r69 => if r69.1 = 6 then ((f_L_sheetIn p_1 8 r69.2).bind fun r71 => if r71 = (-1002) then ((f_L_undo p_1 r69.2).bind fun r73 => if r73.1 = 5 then ((f_L_sheetIn p_1 4 r73.2).bind fun r75 => if r75 = (-1002) then ((f_L_undo p_1 r73.2).bind fun r77 => if r77.1 = 4 then ((f_L_wear p_1 8 r77.2).bind fun r79 => if r79 = 6 then ((rc r77.2 10 p_1).bind fun _ => (f_X10_paste p_1 r77.2).bind fun r81 => if r81 = 20 then ((f_L_undo p_1 r77.2).bind fun r84 => if r84.1 = 3 then ((f_L_isFolded p_1 8 r84.2).bind fun r86 => if r86 = 1 then ((f_L_undo p_1 r84.2).bind fun r88 => if r88.1 = 2 then ((rc r88.2 10 p_1).bind fun _ => (f_X10_foldCount p_1 r88.2).bind fun r90 => if r90 = 0 then ((f_L_undo p_1 r88.2).bind fun r93 => if r93.1 = 1 then ((f_L_creaseCount p_1 8 r93.2).bind fun r95 => if r95 = 5 then ((f_L_undo p_1 r93.2).bind fun r97 => if r97.1 = 0 then ((f_L_creaseCount p_1 8 r97.2).bind fun r99 => if r99 = 4 then ((f_L_undo p_1 r97.2).bind fun r101 => if r101.1 = (-1001) then ((f_L_restore p_1 r101.2).bind fun r103 => if r103.1 = 0 then ((rc r103.2 10 p_1).bind fun _ => (f_X10_sheetCount p_1 r103.2).bind fun r105 => if r105 = 0 then ((rc r103.2 10 p_1).bind fun _ => (f_X10_paste p_1 r103.2).bind fun r108 => if r108 = 0 then ((f_L_undo p_1 r103.2).bind fun r111 => if r111.1 = (-1001) then (some (.inl r111.2)) else none) else none) else none) else none) else none) else none) else none) else none) else none) else none) else none) else none) else none) else none) else none) else none) else none) else none) else none) else none) else none) else none) else none
def lp_L_law_639 (G : Nat × (Nat → Int32) × Value) (p_0 : Nat) (p_1 : Nat) (p_2 : Nat) (l_3 : Int64) (x_5 : Int32) (p_6 : Nat) : Nat → Int32 → Int32 → Mem → Option ((Int32 × Int32 × Mem) ⊕ (Int32 × Mem))
  | 0, _, _, _ => none
  | n + 1, x_7, x_8, M_ => if 8 ≤ x_8 then (some (.inl (x_7, x_8, M_))) else ((f_L_asks p_2 M_).bind fun r140 => (f_L_at G p_0 (20 + x_8) r140.2).bind fun r141 => (gd r140.2 [(0, .ref p_0), (1, .ref p_1), (2, .ref p_2), (3, .long l_3), (5, .int x_5), (6, .ref p_6), (7, .int x_7), (8, .int x_8), (9, .long r140.1)] []).bind fun _ => (f_L_changes p_2 (r141 ^^^ (x_8 * 977)) r140.2).bind fun r142 => if r142.1 = 0 then ((f_L_asks p_2 r142.2).bind fun r145 => if (lg_cmp r145.1 r140.1) = 0 then ((rc r145.2 10 p_2).bind fun _ => (f_X10_undoCount p_2 r145.2).bind fun r147 => if r147 = x_7 then (lp_L_law_639 G p_0 p_1 p_2 l_3 x_5 p_6 n x_7 (x_8 + 1) r145.2) else none) else none) else ((asL r142.2 p_6 x_7 r140.1).bind fun M150 => (rc M150 10 p_2).bind fun _ => (f_X10_undoCount p_2 M150).bind fun r151 => if r151 = (x_7 + 1) then (lp_L_law_639 G p_0 p_1 p_2 l_3 x_5 p_6 n (x_7 + 1) (x_8 + 1) M150) else none))
def lp_L_law_720 (G : Nat × (Nat → Int32) × Value) (p_0 : Nat) (p_1 : Nat) (p_2 : Nat) (l_3 : Int64) (x_5 : Int32) (p_6 : Nat) (x_7 : Int32) : Nat → Int32 → Mem → Option ((Int32 × Mem) ⊕ (Int32 × Mem))
  | 0, _, _ => none
  | n + 1, x_8, M_ => if x_7 < x_8 then (some (.inl (x_8, M_))) else ((f_L_undo p_2 M_).bind fun r156 => if r156.1 = (x_7 - x_8) then ((f_L_asks p_2 r156.2).bind fun r158 => (aL r158.2 p_6 (x_7 - x_8)).bind fun l159 => if (lg_cmp r158.1 l159) = 0 then (lp_L_law_720 G p_0 p_1 p_2 l_3 x_5 p_6 x_7 n (x_8 + 1) r158.2) else none) else none)
def f_L_law (G : Nat × (Nat → Int32) × Value) (p0a : Nat) (M : Mem) : Option (Int32 × Mem) := (gd M [(0, .ref p0a)] []).bind fun _ => (some (mNew M 10 0)).bind fun M2 => (gd M2 [(0, .ref p0a)] [.ref (mN M)]).bind fun _ => (f_X10_init (mN M) M2).bind fun r3 => ((rg_L_law_8 G p0a (mN M) r3.2).bind fun q30 => match q30 with | .inl q30_M => ((rg_L_law_138 G p0a (mN M) q30_M).bind fun q62 => match q62 with | .inl q62_M => ((rg_L_law_335 G p0a (mN M) q62_M).bind fun q113 => match q113 with | .inl q113_M => ((gd q113_M [(0, .ref p0a), (1, .ref (mN M))] []).bind fun _ => (some (mNew q113_M 10 0)).bind fun M115 => (gd M115 [(0, .ref p0a), (1, .ref (mN M))] [.ref (mN q113_M)]).bind fun _ => (f_X10_init (mN q113_M) M115).bind fun r116 => (f_L_makes G (mN q113_M) p0a r116.2).bind fun r118 => if r118.1 = 0 then none else ((f_L_asks (mN q113_M) r118.2).bind fun r120 => (f_L_asks (mN q113_M) r120.2).bind fun r121 => if (lg_cmp r121.1 r120.1) = 0 then ((f_L_thrown (mN q113_M) r121.2).bind fun r123 => if r123.1 = 0 then none else ((rc r123.2 10 (mN q113_M)).bind fun _ => (f_X10_save (mN q113_M) r123.2).bind fun r125 => (rc r125.2 10 (mN q113_M)).bind fun _ => (f_X10_sheetCount (mN q113_M) r125.2).bind fun r127 => if r125.1 = r127 then ((f_L_asks (mN q113_M) r125.2).bind fun r130 => if (lg_cmp r130.1 r120.1) = 0 then ((f_L_restore (mN q113_M) r130.2).bind fun r132 => if r132.1 = r125.1 then ((rc r132.2 10 (mN q113_M)).bind fun _ => (f_X10_undoCount (mN q113_M) r132.2).bind fun r134 => if r134 = 0 then ((gd r132.2 [(0, .ref p0a), (1, .ref (mN M)), (2, .ref (mN q113_M)), (3, .long r120.1), (5, .int r125.1)] []).bind fun _ => (na 9).bind fun _ => (some (mNew r132.2 110 (Int32.toNatClampNeg 9))).bind fun M138 => ((lp_L_law_639 G p0a (mN M) (mN q113_M) r120.1 r125.1 (mN r132.2) 9 0 0 M138).bind fun q154 => match q154 with | .inl (q154_7, q154_8, q154_M) => ((lp_L_law_720 G p0a (mN M) (mN q113_M) r120.1 r125.1 (mN r132.2) q154_7 10 1 q154_M).bind fun q161 => match q161 with | .inl (q161_8, q161_M) => ((f_L_undo (mN q113_M) q161_M).bind fun r162 => if r162.1 = (-1001) then ((f_L_restore (mN q113_M) r162.2).bind fun r164 => if r164.1 = r125.1 then ((f_L_asks (mN q113_M) r164.2).bind fun r166 => if (lg_cmp r166.1 r120.1) = 0 then ((f_L_undo (mN q113_M) r166.2).bind fun r168 => if r168.1 = (-1001) then (some (1, r168.2)) else none) else none) else none) else none) | .inr q161_r => some q161_r) | .inr q154_r => some q154_r)) else none) else none) else none) else none)) else none)) | .inr q113_r => some q113_r) | .inr q62_r => some q62_r) | .inr q30_r => some q30_r)
set_option maxRecDepth 20000 in
theorem lp_L_law_50_ok {G : Nat × (Nat → Int32) × Value} (hv : rob G.2.2) {P : Res → Mem → Prop} {n0 d ke : Nat} {p_0 : Nat} {p_1 : Nat} (hd : 21 ≤ d) : ∀ (n : Nat) (x_2 : Int32) (M_ : Mem) (res : (Int32 × Mem) ⊕ (Int32 × Mem)), lp_L_law_50 G p_0 p_1 n x_2 M_ = some res → (∀ (y_2 : Int32) (M9 : Mem), res = .inl (y_2, M9) → Fr (roG G) true n0 YL_law d ke 79 [(0, .ref p_0), (1, .ref p_1), (2, .int y_2)] [] M9 P) → (∀ r : Int32 × Mem, res = .inr r → P (wI r.1) r.2) → Fr (roG G) true n0 YL_law d (1 * n + ke) 50 [(0, .ref p_0), (1, .ref p_1), (2, .int x_2)] [] M_ P := by
  intro n
  induction n with
  | zero => intro x_2 M_ res h; unfold lp_L_law_50 at h; cases h
  | succ n ih =>
    intro x_2 M_ res h he hr
    unfold lp_L_law_50 at h
    refine fr_room (Nat.le_refl _) (show (1 * n + 1 + ke) ≤ 1 * (n + 1) + ke by omega) ?_
    refine fr_iload_n 2 dL_law_50 rfl ?_
    refine fr_bipush (v := 60) dL_law_51 (by decide) ?_
    refine fr_icmp_ge 79 dL_law_53 (by decide) (fun c14 => ?_) (fun c14 => ?_)
    · rw [if_pos c14] at h
      obtain rfl := Option.some.inj h
      refine fr_room (Nat.le_refl _) (show ke ≤ (1 * n + 1 + ke) by omega) ?_
      exact he _ _ rfl
    · rw [if_neg c14] at h
      refine fr_aload_n 1 dL_law_56 rfl ?_
      refine fr_bipush (v := 65) dL_law_57 (by decide) ?_
      refine fr_iload_n 2 dL_law_59 rfl ?_
      refine fr_iadd dL_law_60 ?_
      refine fr_i2c dL_law_61 ?_
      obtain ⟨r15, er15, h⟩ := ob h
      try dsimp only at h
      refine fr_callSX (g1 := false) (k2 := (1 * n + 0 + ke)) (ev_L_feed er15) rfl cyL_feed w_700 w_701 (by rfl) (by omega) (by omega) (by rfl) (Nat.le_of_ble_eq_true rfl) dL_law_62 (Or.inl rfl) (fun v M9 q _ => ?_) (fun E M9 q _ => (Sum.inr_ne_inl q.1).elim)
      obtain rfl : v = some (.int r15.1) := Sum.inl.inj q.1
      obtain rfl := q.2.symm
      refine fr_st (S' := [.int r15.1]) rfl ?_
      refine fr_iload_n 2 dL_law_65 rfl ?_
      refine fr_iconst (v := 1) dL_law_66 (by decide) ?_
      refine fr_iadd dL_law_67 ?_
      refine fr_icmp_eq 73 dL_law_68 (by decide) (fun c16 => ?_) (fun c16 => by rw [if_neg c16] at h; cases h)
      rw [if_pos c16] at h
      refine fr_iinc (v := (x_2 + 1)) (L' := [(0, .ref p_0), (1, .ref p_1), (2, .int (x_2 + 1))]) 2 dL_law_73 rfl rfl (by decide) rfl ?_
      refine fr_goto 50 dL_law_76 (by decide) ?_
      exact ih _ _ _ h he hr
set_option maxRecDepth 20000 in
theorem rg_L_law_8_ok {G : Nat × (Nat → Int32) × Value} {P : Res → Mem → Prop} {n0 d ke : Nat} (hv : rob G.2.2) {p_0 : Nat} {p_1 : Nat} {M_ : Mem} (hd : 21 ≤ d) {res : (Mem) ⊕ (Int32 × Mem)} (h : rg_L_law_8 G p_0 p_1 M_ = some res) (he : ∀ (M9 : Mem), res = .inl M9 → Fr (roG G) true n0 YL_law d ke 138 [(0, .ref p_0), (1, .ref p_1)] [] M9 P) (hr : ∀ r : Int32 × Mem, res = .inr r → P (wI r.1) r.2) : Fr (roG G) true n0 YL_law d (70 + ke) 8 [(0, .ref p_0), (1, .ref p_1)] [] M_ P := by
  unfold rg_L_law_8 at h
  refine fr_aload_n 1 dL_law_8 rfl ?_
  obtain ⟨r5, er5, h⟩ := ob h
  try dsimp only at h
  refine fr_callSX (g1 := false) (k2 := (69 + ke)) (ev_L_undo er5) rfl cyL_undo w_848 w_849 (by rfl) (by omega) (by omega) (by rfl) (Nat.le_of_ble_eq_true rfl) dL_law_9 (Or.inl rfl) (fun v M9 q _ => ?_) (fun E M9 q _ => (Sum.inr_ne_inl q.1).elim)
  obtain rfl : v = some (.int r5.1) := Sum.inl.inj q.1
  obtain rfl := q.2.symm
  refine fr_st (S' := [.int r5.1]) rfl ?_
  refine fr_sipush (v := (-1001)) dL_law_12 (by decide) ?_
  refine fr_icmp_ne 46 dL_law_15 (by decide) (fun c6 => by rw [if_neg c6] at h; cases h) (fun c6 => ?_)
  rw [if_pos c6] at h
  refine fr_aload_n 1 dL_law_18 rfl ?_
  obtain ⟨r7, er7, h⟩ := ob h
  try dsimp only at h
  refine fr_callSX (g1 := false) (k2 := (68 + ke)) (ev_L_restore er7) rfl cyL_restore w_860 w_861 (by rfl) (by omega) (by omega) (by rfl) (Nat.le_of_ble_eq_true rfl) dL_law_19 (Or.inl rfl) (fun v M9 q _ => ?_) (fun E M9 q _ => (Sum.inr_ne_inl q.1).elim)
  obtain rfl : v = some (.int r7.1) := Sum.inl.inj q.1
  obtain rfl := q.2.symm
  refine fr_st (S' := [.int r7.1]) rfl ?_
  refine fr_sipush (v := (-1001)) dL_law_22 (by decide) ?_
  refine fr_icmp_ne 46 dL_law_25 (by decide) (fun c8 => by rw [if_neg c8] at h; cases h) (fun c8 => ?_)
  rw [if_pos c8] at h
  refine fr_aload_n 1 dL_law_28 rfl ?_
  obtain ⟨u10, eu10, h⟩ := ob h
  try dsimp only at h
  obtain ⟨r9, er9, h⟩ := ob h
  try dsimp only at h
  refine fr_callV (g1 := false) (k2 := (68 + ke)) (ev_X10_save er9) rfl cyX10_save w_274 w_275 w_276 (rc_ok eu10 rfl (by decide)) (by rfl) (by omega) (by omega) (by rfl) (Nat.le_of_ble_eq_true rfl) dL_law_29 (Or.inl rfl) (fun v M9 q _ => ?_) (fun E M9 q _ => (Sum.inr_ne_inl q.1).elim)
  obtain rfl : v = some (.int r9.1) := Sum.inl.inj q.1
  obtain rfl := q.2.symm
  refine fr_st (S' := [.int r9.1]) rfl ?_
  refine fr_if_ne 46 dL_law_32 (by decide) (fun c11 => by rw [if_neg c11] at h; cases h) (fun c11 => ?_)
  rw [if_pos c11] at h
  refine fr_aload_n 1 dL_law_35 rfl ?_
  refine fr_bipush (v := 20) dL_law_36 (by decide) ?_
  obtain ⟨r12, er12, h⟩ := ob h
  try dsimp only at h
  refine fr_callSX (g1 := false) (k2 := (67 + ke)) (ev_L_addPaste er12) rfl cyL_addPaste w_637 w_638 (by rfl) (by omega) (by omega) (by rfl) (Nat.le_of_ble_eq_true rfl) dL_law_38 (Or.inl rfl) (fun v M9 q _ => ?_) (fun E M9 q _ => (Sum.inr_ne_inl q.1).elim)
  obtain rfl : v = some (.int r12.1) := Sum.inl.inj q.1
  obtain rfl := q.2.symm
  refine fr_st (S' := [.int r12.1]) rfl ?_
  refine fr_bipush (v := 20) dL_law_41 (by decide) ?_
  refine fr_icmp_eq 48 dL_law_43 (by decide) (fun c13 => ?_) (fun c13 => by rw [if_neg c13] at h; cases h)
  rw [if_pos c13] at h
  refine fr_iconst (v := 0) dL_law_48 (by decide) ?_
  refine fr_istore_n (L' := [(0, .ref p_0), (1, .ref p_1), (2, .int 0)]) dL_law_49 (by decide) rfl ?_
  obtain ⟨q17, eq17, h⟩ := ob h
  try dsimp only at h
  refine fr_room (k' := 1 * 61 + (6 + ke)) (Nat.le_refl _) (by omega) ?_
  refine lp_L_law_50_ok hv (by omega) 61 _ _ q17 eq17 (fun q17_2 q17_M e9 => ?_) (fun q17_r e9 => ?_)
  · subst e9
    try dsimp only at h
    refine fr_aload_n 1 dL_law_79 rfl ?_
    refine fr_bipush (v := 109) dL_law_80 (by decide) ?_
    obtain ⟨r18, er18, h⟩ := ob h
    try dsimp only at h
    refine fr_callSX (g1 := false) (k2 := (5 + ke)) (ev_L_feed er18) rfl cyL_feed w_700 w_701 (by rfl) (by omega) (by omega) (by rfl) (Nat.le_of_ble_eq_true rfl) dL_law_82 (Or.inl rfl) (fun v M9 q _ => ?_) (fun E M9 q _ => (Sum.inr_ne_inl q.1).elim)
    obtain rfl : v = some (.int r18.1) := Sum.inl.inj q.1
    obtain rfl := q.2.symm
    refine fr_st (S' := [.int r18.1]) rfl ?_
    refine fr_sipush (v := (-1001)) dL_law_85 (by decide) ?_
    refine fr_icmp_ne 136 dL_law_88 (by decide) (fun c19 => by rw [if_neg c19] at h; cases h) (fun c19 => ?_)
    rw [if_pos c19] at h
    refine fr_aload_n 1 dL_law_91 rfl ?_
    obtain ⟨r20, er20, h⟩ := ob h
    try dsimp only at h
    refine fr_callSX (g1 := false) (k2 := (4 + ke)) (ev_L_run er20) rfl cyL_run w_716 w_717 (by rfl) (by omega) (by omega) (by rfl) (Nat.le_of_ble_eq_true rfl) dL_law_92 (Or.inl rfl) (fun v M9 q _ => ?_) (fun E M9 q _ => (Sum.inr_ne_inl q.1).elim)
    obtain rfl : v = some (.int r20.1) := Sum.inl.inj q.1
    obtain rfl := q.2.symm
    refine fr_st (S' := [.int r20.1]) rfl ?_
    refine fr_sipush (v := (-1001)) dL_law_95 (by decide) ?_
    refine fr_icmp_ne 136 dL_law_98 (by decide) (fun c21 => by rw [if_neg c21] at h; cases h) (fun c21 => ?_)
    rw [if_pos c21] at h
    refine fr_aload_n 1 dL_law_101 rfl ?_
    obtain ⟨r22, er22, h⟩ := ob h
    try dsimp only at h
    refine fr_callSX (g1 := false) (k2 := (3 + ke)) (ev_L_errorPosition er22) rfl cyL_errorPosition w_840 w_841 (by rfl) (by omega) (by omega) (by rfl) (Nat.le_of_ble_eq_true rfl) dL_law_102 (Or.inl rfl) (fun v M9 q _ => ?_) (fun E M9 q _ => (Sum.inr_ne_inl q.1).elim)
    obtain rfl : v = some (.int r22) := Sum.inl.inj q.1
    obtain rfl := q.2.symm
    refine fr_st (S' := [.int r22]) rfl ?_
    refine fr_if_ne 136 dL_law_105 (by decide) (fun c23 => by rw [if_neg c23] at h; cases h) (fun c23 => ?_)
    rw [if_pos c23] at h
    refine fr_aload_n 1 dL_law_108 rfl ?_
    refine fr_bipush (v := 109) dL_law_109 (by decide) ?_
    obtain ⟨r24, er24, h⟩ := ob h
    try dsimp only at h
    refine fr_callSX (g1 := false) (k2 := (2 + ke)) (ev_L_feed er24) rfl cyL_feed w_700 w_701 (by rfl) (by omega) (by omega) (by rfl) (Nat.le_of_ble_eq_true rfl) dL_law_111 (Or.inl rfl) (fun v M9 q _ => ?_) (fun E M9 q _ => (Sum.inr_ne_inl q.1).elim)
    obtain rfl : v = some (.int r24.1) := Sum.inl.inj q.1
    obtain rfl := q.2.symm
    refine fr_st (S' := [.int r24.1]) rfl ?_
    refine fr_iconst (v := 1) dL_law_114 (by decide) ?_
    refine fr_icmp_ne 136 dL_law_115 (by decide) (fun c25 => by rw [if_neg c25] at h; cases h) (fun c25 => ?_)
    rw [if_pos c25] at h
    refine fr_aload_n 1 dL_law_118 rfl ?_
    obtain ⟨r26, er26, h⟩ := ob h
    try dsimp only at h
    refine fr_callSX (g1 := false) (k2 := (1 + ke)) (ev_L_run er26) rfl cyL_run w_716 w_717 (by rfl) (by omega) (by omega) (by rfl) (Nat.le_of_ble_eq_true rfl) dL_law_119 (Or.inl rfl) (fun v M9 q _ => ?_) (fun E M9 q _ => (Sum.inr_ne_inl q.1).elim)
    obtain rfl : v = some (.int r26.1) := Sum.inl.inj q.1
    obtain rfl := q.2.symm
    refine fr_st (S' := [.int r26.1]) rfl ?_
    refine fr_sipush (v := (-1001)) dL_law_122 (by decide) ?_
    refine fr_icmp_ne 136 dL_law_125 (by decide) (fun c27 => by rw [if_neg c27] at h; cases h) (fun c27 => ?_)
    rw [if_pos c27] at h
    refine fr_aload_n 1 dL_law_128 rfl ?_
    obtain ⟨r28, er28, h⟩ := ob h
    try dsimp only at h
    refine fr_callSX (g1 := false) (k2 := ke) (ev_L_errorPosition er28) rfl cyL_errorPosition w_840 w_841 (by rfl) (by omega) (by omega) (by rfl) (Nat.le_of_ble_eq_true rfl) dL_law_129 (Or.inl rfl) (fun v M9 q _ => ?_) (fun E M9 q _ => (Sum.inr_ne_inl q.1).elim)
    obtain rfl : v = some (.int r28) := Sum.inl.inj q.1
    obtain rfl := q.2.symm
    refine fr_st (S' := [.int r28]) rfl ?_
    refine fr_iconst (v := 1) dL_law_132 (by decide) ?_
    refine fr_icmp_eq 138 dL_law_133 (by decide) (fun c29 => ?_) (fun c29 => by rw [if_neg c29] at h; cases h)
    rw [if_pos c29] at h
    obtain rfl := Option.some.inj h
    refine fr_loc [0, 1] (L' := [(0, .ref p_0), (1, .ref p_1)]) rfl ?_
    exact he _ rfl
  · subst e9
    try dsimp only at h
    obtain rfl := Option.some.inj h
    exact hr _ rfl
set_option maxRecDepth 20000 in
theorem lp_L_law_140_ok {G : Nat × (Nat → Int32) × Value} (hv : rob G.2.2) {P : Res → Mem → Prop} {n0 d ke : Nat} {p_0 : Nat} {p_1 : Nat} (hd : 21 ≤ d) : ∀ (n : Nat) (x_2 : Int32) (M_ : Mem) (res : (Int32 × Mem) ⊕ (Int32 × Mem)), lp_L_law_140 G p_0 p_1 n x_2 M_ = some res → (∀ (y_2 : Int32) (M9 : Mem), res = .inl (y_2, M9) → Fr (roG G) true n0 YL_law d ke 168 [(0, .ref p_0), (1, .ref p_1), (2, .int y_2)] [] M9 P) → (∀ r : Int32 × Mem, res = .inr r → P (wI r.1) r.2) → Fr (roG G) true n0 YL_law d (1 * n + ke) 140 [(0, .ref p_0), (1, .ref p_1), (2, .int x_2)] [] M_ P := by
  intro n
  induction n with
  | zero => intro x_2 M_ res h; unfold lp_L_law_140 at h; cases h
  | succ n ih =>
    intro x_2 M_ res h he hr
    unfold lp_L_law_140 at h
    refine fr_room (Nat.le_refl _) (show (1 * n + 1 + ke) ≤ 1 * (n + 1) + ke by omega) ?_
    refine fr_iload_n 2 dL_law_140 rfl ?_
    refine fr_bipush (v := 9) dL_law_141 (by decide) ?_
    refine fr_icmp_ge 168 dL_law_143 (by decide) (fun c31 => ?_) (fun c31 => ?_)
    · rw [if_pos c31] at h
      obtain rfl := Option.some.inj h
      refine fr_room (Nat.le_refl _) (show ke ≤ (1 * n + 1 + ke) by omega) ?_
      exact he _ _ rfl
    · rw [if_neg c31] at h
      refine fr_aload_n 1 dL_law_146 rfl ?_
      refine fr_iload_n 2 dL_law_147 rfl ?_
      refine fr_iload_n 2 dL_law_148 rfl ?_
      refine fr_iload_n 2 dL_law_149 rfl ?_
      refine fr_iload_n 2 dL_law_150 rfl ?_
      refine fr_bipush (v := 99) dL_law_151 (by decide) ?_
      obtain ⟨r32, er32, h⟩ := ob h
      try dsimp only at h
      refine fr_callSX (g1 := false) (k2 := (1 * n + 0 + ke)) (ev_L_addSheet er32) rfl cyL_addSheet w_293 w_294 (by rfl) (by omega) (by omega) (by rfl) (Nat.le_of_ble_eq_true rfl) dL_law_153 (Or.inl rfl) (fun v M9 q _ => ?_) (fun E M9 q _ => (Sum.inr_ne_inl q.1).elim)
      obtain rfl : v = some (.int r32.1) := Sum.inl.inj q.1
      obtain rfl := q.2.symm
      refine fr_st (S' := [.int r32.1]) rfl ?_
      refine fr_iload_n 2 dL_law_156 rfl ?_
      refine fr_icmp_eq 162 dL_law_157 (by decide) (fun c33 => ?_) (fun c33 => by rw [if_neg c33] at h; cases h)
      rw [if_pos c33] at h
      refine fr_iinc (v := (x_2 + 1)) (L' := [(0, .ref p_0), (1, .ref p_1), (2, .int (x_2 + 1))]) 2 dL_law_162 rfl rfl (by decide) rfl ?_
      refine fr_goto 140 dL_law_165 (by decide) ?_
      exact ih _ _ _ h he hr
set_option maxRecDepth 20000 in
theorem lp_L_law_188_ok {G : Nat × (Nat → Int32) × Value} (hv : rob G.2.2) {P : Res → Mem → Prop} {n0 d ke : Nat} {p_0 : Nat} {p_1 : Nat} (hd : 21 ≤ d) : ∀ (n : Nat) (x_2 : Int32) (M_ : Mem) (res : (Int32 × Mem) ⊕ (Int32 × Mem)), lp_L_law_188 G p_0 p_1 n x_2 M_ = some res → (∀ (y_2 : Int32) (M9 : Mem), res = .inl (y_2, M9) → Fr (roG G) true n0 YL_law d ke 216 [(0, .ref p_0), (1, .ref p_1), (2, .int y_2)] [] M9 P) → (∀ r : Int32 × Mem, res = .inr r → P (wI r.1) r.2) → Fr (roG G) true n0 YL_law d (1 * n + ke) 188 [(0, .ref p_0), (1, .ref p_1), (2, .int x_2)] [] M_ P := by
  intro n
  induction n with
  | zero => intro x_2 M_ res h; unfold lp_L_law_188 at h; cases h
  | succ n ih =>
    intro x_2 M_ res h he hr
    unfold lp_L_law_188 at h
    refine fr_room (Nat.le_refl _) (show (1 * n + 1 + ke) ≤ 1 * (n + 1) + ke by omega) ?_
    refine fr_iload_n 2 dL_law_188 rfl ?_
    refine fr_bipush (v := 6) dL_law_189 (by decide) ?_
    refine fr_icmp_ge 216 dL_law_191 (by decide) (fun c37 => ?_) (fun c37 => ?_)
    · rw [if_pos c37] at h
      obtain rfl := Option.some.inj h
      refine fr_room (Nat.le_refl _) (show ke ≤ (1 * n + 1 + ke) by omega) ?_
      exact he _ _ rfl
    · rw [if_neg c37] at h
      refine fr_aload_n 1 dL_law_194 rfl ?_
      refine fr_bipush (v := 8) dL_law_195 (by decide) ?_
      refine fr_bipush (v := 118) dL_law_197 (by decide) ?_
      obtain ⟨r38, er38, h⟩ := ob h
      try dsimp only at h
      refine fr_callSX (g1 := false) (k2 := (1 * n + 0 + ke)) (ev_L_addCrease er38) rfl cyL_addCrease w_471 w_472 (by rfl) (by omega) (by omega) (by rfl) (Nat.le_of_ble_eq_true rfl) dL_law_199 (Or.inl rfl) (fun v M9 q _ => ?_) (fun E M9 q _ => (Sum.inr_ne_inl q.1).elim)
      obtain rfl : v = some (.int r38.1) := Sum.inl.inj q.1
      obtain rfl := q.2.symm
      refine fr_st (S' := [.int r38.1]) rfl ?_
      refine fr_iload_n 2 dL_law_202 rfl ?_
      refine fr_iconst (v := 1) dL_law_203 (by decide) ?_
      refine fr_iadd dL_law_204 ?_
      refine fr_icmp_eq 210 dL_law_205 (by decide) (fun c39 => ?_) (fun c39 => by rw [if_neg c39] at h; cases h)
      rw [if_pos c39] at h
      refine fr_iinc (v := (x_2 + 1)) (L' := [(0, .ref p_0), (1, .ref p_1), (2, .int (x_2 + 1))]) 2 dL_law_210 rfl rfl (by decide) rfl ?_
      refine fr_goto 188 dL_law_213 (by decide) ?_
      exact ih _ _ _ h he hr
set_option maxRecDepth 20000 in
theorem rg_L_law_138_ok {G : Nat × (Nat → Int32) × Value} {P : Res → Mem → Prop} {n0 d ke : Nat} (hv : rob G.2.2) {p_0 : Nat} {p_1 : Nat} {M_ : Mem} (hd : 21 ≤ d) {res : (Mem) ⊕ (Int32 × Mem)} (h : rg_L_law_138 G p_0 p_1 M_ = some res) (he : ∀ (M9 : Mem), res = .inl M9 → Fr (roG G) true n0 YL_law d ke 335 [(0, .ref p_0), (1, .ref p_1)] [] M9 P) (hr : ∀ r : Int32 × Mem, res = .inr r → P (wI r.1) r.2) : Fr (roG G) true n0 YL_law d (27 + ke) 138 [(0, .ref p_0), (1, .ref p_1)] [] M_ P := by
  unfold rg_L_law_138 at h
  refine fr_iconst (v := 0) dL_law_138 (by decide) ?_
  refine fr_istore_n (L' := [(0, .ref p_0), (1, .ref p_1), (2, .int 0)]) dL_law_139 (by decide) rfl ?_
  obtain ⟨q34, eq34, h⟩ := ob h
  try dsimp only at h
  refine fr_room (k' := 1 * 10 + (17 + ke)) (Nat.le_refl _) (by omega) ?_
  refine lp_L_law_140_ok hv (by omega) 10 _ _ q34 eq34 (fun q34_2 q34_M e9 => ?_) (fun q34_r e9 => ?_)
  · subst e9
    try dsimp only at h
    refine fr_aload_n 1 dL_law_168 rfl ?_
    refine fr_iconst (v := 0) dL_law_169 (by decide) ?_
    refine fr_iconst (v := 0) dL_law_170 (by decide) ?_
    refine fr_iconst (v := 0) dL_law_171 (by decide) ?_
    refine fr_iconst (v := 0) dL_law_172 (by decide) ?_
    refine fr_bipush (v := 99) dL_law_173 (by decide) ?_
    obtain ⟨r35, er35, h⟩ := ob h
    try dsimp only at h
    refine fr_callSX (g1 := false) (k2 := (16 + ke)) (ev_L_addSheet er35) rfl cyL_addSheet w_293 w_294 (by rfl) (by omega) (by omega) (by rfl) (Nat.le_of_ble_eq_true rfl) dL_law_175 (Or.inl rfl) (fun v M9 q _ => ?_) (fun E M9 q _ => (Sum.inr_ne_inl q.1).elim)
    obtain rfl : v = some (.int r35.1) := Sum.inl.inj q.1
    obtain rfl := q.2.symm
    refine fr_st (S' := [.int r35.1]) rfl ?_
    refine fr_sipush (v := (-1002)) dL_law_178 (by decide) ?_
    refine fr_icmp_eq 186 dL_law_181 (by decide) (fun c36 => ?_) (fun c36 => by rw [if_neg c36] at h; cases h)
    rw [if_pos c36] at h
    refine fr_iconst (v := 0) dL_law_186 (by decide) ?_
    refine fr_istore_n (L' := [(0, .ref p_0), (1, .ref p_1), (2, .int 0)]) dL_law_187 (by decide) rfl ?_
    obtain ⟨q40, eq40, h⟩ := ob h
    try dsimp only at h
    refine fr_room (k' := 1 * 7 + (9 + ke)) (Nat.le_refl _) (by omega) ?_
    refine lp_L_law_188_ok hv (by omega) 7 _ _ q40 eq40 (fun q40_2 q40_M e9 => ?_) (fun q40_r e9 => ?_)
    · subst e9
      try dsimp only at h
      refine fr_aload_n 1 dL_law_216 rfl ?_
      refine fr_bipush (v := 8) dL_law_217 (by decide) ?_
      refine fr_bipush (v := 109) dL_law_219 (by decide) ?_
      obtain ⟨r41, er41, h⟩ := ob h
      try dsimp only at h
      refine fr_callSX (g1 := false) (k2 := (8 + ke)) (ev_L_addCrease er41) rfl cyL_addCrease w_471 w_472 (by rfl) (by omega) (by omega) (by rfl) (Nat.le_of_ble_eq_true rfl) dL_law_221 (Or.inl rfl) (fun v M9 q _ => ?_) (fun E M9 q _ => (Sum.inr_ne_inl q.1).elim)
      obtain rfl : v = some (.int r41.1) := Sum.inl.inj q.1
      obtain rfl := q.2.symm
      refine fr_st (S' := [.int r41.1]) rfl ?_
      refine fr_sipush (v := (-1003)) dL_law_224 (by decide) ?_
      refine fr_icmp_ne 333 dL_law_227 (by decide) (fun c42 => by rw [if_neg c42] at h; cases h) (fun c42 => ?_)
      rw [if_pos c42] at h
      refine fr_aload_n 1 dL_law_230 rfl ?_
      refine fr_bipush (v := 8) dL_law_231 (by decide) ?_
      obtain ⟨r43, er43, h⟩ := ob h
      try dsimp only at h
      refine fr_callSX (g1 := false) (k2 := (7 + ke)) (ev_L_fold er43) rfl cyL_fold w_510 w_511 (by rfl) (by omega) (by omega) (by rfl) (Nat.le_of_ble_eq_true rfl) dL_law_233 (Or.inl rfl) (fun v M9 q _ => ?_) (fun E M9 q _ => (Sum.inr_ne_inl q.1).elim)
      obtain rfl : v = some (.int r43.1) := Sum.inl.inj q.1
      obtain rfl := q.2.symm
      refine fr_st (S' := [.int r43.1]) rfl ?_
      refine fr_bipush (v := 6) dL_law_236 (by decide) ?_
      refine fr_icmp_ne 333 dL_law_238 (by decide) (fun c44 => by rw [if_neg c44] at h; cases h) (fun c44 => ?_)
      rw [if_pos c44] at h
      refine fr_aload_n 1 dL_law_241 rfl ?_
      refine fr_bipush (v := 8) dL_law_242 (by decide) ?_
      obtain ⟨r45, er45, h⟩ := ob h
      try dsimp only at h
      refine fr_callSX (g1 := false) (k2 := (6 + ke)) (ev_L_unfold er45) rfl cyL_unfold w_526 w_527 (by rfl) (by omega) (by omega) (by rfl) (Nat.le_of_ble_eq_true rfl) dL_law_244 (Or.inl rfl) (fun v M9 q _ => ?_) (fun E M9 q _ => (Sum.inr_ne_inl q.1).elim)
      obtain rfl : v = some (.int r45.1) := Sum.inl.inj q.1
      obtain rfl := q.2.symm
      refine fr_st (S' := [.int r45.1]) rfl ?_
      refine fr_bipush (v := 9) dL_law_247 (by decide) ?_
      refine fr_icmp_ne 333 dL_law_249 (by decide) (fun c46 => by rw [if_neg c46] at h; cases h) (fun c46 => ?_)
      rw [if_pos c46] at h
      refine fr_aload_n 1 dL_law_252 rfl ?_
      refine fr_bipush (v := 8) dL_law_253 (by decide) ?_
      obtain ⟨r47, er47, h⟩ := ob h
      try dsimp only at h
      refine fr_callSX (g1 := false) (k2 := (5 + ke)) (ev_L_mend er47) rfl cyL_mend w_541 w_542 (by rfl) (by omega) (by omega) (by rfl) (Nat.le_of_ble_eq_true rfl) dL_law_255 (Or.inl rfl) (fun v M9 q _ => ?_) (fun E M9 q _ => (Sum.inr_ne_inl q.1).elim)
      obtain rfl : v = some (.int r47.1) := Sum.inl.inj q.1
      obtain rfl := q.2.symm
      refine fr_st (S' := [.int r47.1]) rfl ?_
      refine fr_bipush (v := 14) dL_law_258 (by decide) ?_
      refine fr_icmp_ne 333 dL_law_260 (by decide) (fun c48 => by rw [if_neg c48] at h; cases h) (fun c48 => ?_)
      rw [if_pos c48] at h
      refine fr_aload_n 1 dL_law_263 rfl ?_
      refine fr_bipush (v := 8) dL_law_264 (by decide) ?_
      refine fr_iconst (v := 4) dL_law_266 (by decide) ?_
      refine fr_iconst (v := 3) dL_law_267 (by decide) ?_
      obtain ⟨r49, er49, h⟩ := ob h
      try dsimp only at h
      refine fr_callSX (g1 := false) (k2 := (4 + ke)) (ev_L_put er49) rfl cyL_put w_553 w_554 (by rfl) (by omega) (by omega) (by rfl) (Nat.le_of_ble_eq_true rfl) dL_law_268 (Or.inl rfl) (fun v M9 q _ => ?_) (fun E M9 q _ => (Sum.inr_ne_inl q.1).elim)
      obtain rfl : v = some (.int r49.1) := Sum.inl.inj q.1
      obtain rfl := q.2.symm
      refine fr_st (S' := [.int r49.1]) rfl ?_
      refine fr_if_ne 333 dL_law_271 (by decide) (fun c50 => by rw [if_neg c50] at h; cases h) (fun c50 => ?_)
      rw [if_pos c50] at h
      refine fr_aload_n 1 dL_law_274 rfl ?_
      refine fr_bipush (v := 7) dL_law_275 (by decide) ?_
      refine fr_iconst (v := 4) dL_law_277 (by decide) ?_
      refine fr_iconst (v := 0) dL_law_278 (by decide) ?_
      obtain ⟨r51, er51, h⟩ := ob h
      try dsimp only at h
      refine fr_callSX (g1 := false) (k2 := (3 + ke)) (ev_L_put er51) rfl cyL_put w_553 w_554 (by rfl) (by omega) (by omega) (by rfl) (Nat.le_of_ble_eq_true rfl) dL_law_279 (Or.inl rfl) (fun v M9 q _ => ?_) (fun E M9 q _ => (Sum.inr_ne_inl q.1).elim)
      obtain rfl : v = some (.int r51.1) := Sum.inl.inj q.1
      obtain rfl := q.2.symm
      refine fr_st (S' := [.int r51.1]) rfl ?_
      refine fr_sipush (v := (-1003)) dL_law_282 (by decide) ?_
      refine fr_icmp_ne 333 dL_law_285 (by decide) (fun c52 => by rw [if_neg c52] at h; cases h) (fun c52 => ?_)
      rw [if_pos c52] at h
      refine fr_aload_n 1 dL_law_288 rfl ?_
      refine fr_bipush (v := 7) dL_law_289 (by decide) ?_
      refine fr_iconst (v := 5) dL_law_291 (by decide) ?_
      refine fr_iconst (v := 0) dL_law_292 (by decide) ?_
      obtain ⟨r53, er53, h⟩ := ob h
      try dsimp only at h
      refine fr_callSX (g1 := false) (k2 := (2 + ke)) (ev_L_put er53) rfl cyL_put w_553 w_554 (by rfl) (by omega) (by omega) (by rfl) (Nat.le_of_ble_eq_true rfl) dL_law_293 (Or.inl rfl) (fun v M9 q _ => ?_) (fun E M9 q _ => (Sum.inr_ne_inl q.1).elim)
      obtain rfl : v = some (.int r53.1) := Sum.inl.inj q.1
      obtain rfl := q.2.symm
      refine fr_st (S' := [.int r53.1]) rfl ?_
      refine fr_sipush (v := (-1004)) dL_law_296 (by decide) ?_
      refine fr_icmp_ne 333 dL_law_299 (by decide) (fun c54 => by rw [if_neg c54] at h; cases h) (fun c54 => ?_)
      rw [if_pos c54] at h
      refine fr_aload_n 1 dL_law_302 rfl ?_
      refine fr_bipush (v := 7) dL_law_303 (by decide) ?_
      refine fr_bipush (v := 8) dL_law_305 (by decide) ?_
      refine fr_iconst (v := 2) dL_law_307 (by decide) ?_
      obtain ⟨r55, er55, h⟩ := ob h
      try dsimp only at h
      refine fr_callSX (g1 := false) (k2 := (1 + ke)) (ev_L_put er55) rfl cyL_put w_553 w_554 (by rfl) (by omega) (by omega) (by rfl) (Nat.le_of_ble_eq_true rfl) dL_law_308 (Or.inl rfl) (fun v M9 q _ => ?_) (fun E M9 q _ => (Sum.inr_ne_inl q.1).elim)
      obtain rfl : v = some (.int r55.1) := Sum.inl.inj q.1
      obtain rfl := q.2.symm
      refine fr_st (S' := [.int r55.1]) rfl ?_
      refine fr_if_ne 333 dL_law_311 (by decide) (fun c56 => by rw [if_neg c56] at h; cases h) (fun c56 => ?_)
      rw [if_pos c56] at h
      refine fr_aload_n 1 dL_law_314 rfl ?_
      refine fr_iconst (v := 4) dL_law_315 (by decide) ?_
      obtain ⟨r57, er57, h⟩ := ob h
      try dsimp only at h
      refine fr_callSX (g1 := false) (k2 := ke) (ev_L_take er57) rfl cyL_take w_621 w_622 (by rfl) (by omega) (by omega) (by rfl) (Nat.le_of_ble_eq_true rfl) dL_law_316 (Or.inl rfl) (fun v M9 q _ => ?_) (fun E M9 q _ => (Sum.inr_ne_inl q.1).elim)
      obtain rfl : v = some (.int r57.1) := Sum.inl.inj q.1
      obtain rfl := q.2.symm
      refine fr_st (S' := [.int r57.1]) rfl ?_
      refine fr_bipush (v := 8) dL_law_319 (by decide) ?_
      refine fr_icmp_ne 333 dL_law_321 (by decide) (fun c58 => by rw [if_neg c58] at h; cases h) (fun c58 => ?_)
      rw [if_pos c58] at h
      refine fr_aload_n 1 dL_law_324 rfl ?_
      obtain ⟨u60, eu60, h⟩ := ob h
      try dsimp only at h
      obtain ⟨r59, er59, h⟩ := ob h
      try dsimp only at h
      refine fr_callV (g1 := false) (k2 := ke) (ev_X10_undoCount er59) rfl cyX10_undoCount w_270 w_271 w_272 (rc_ok eu60 rfl (by decide)) (by rfl) (by omega) (by omega) (by rfl) (Nat.le_of_ble_eq_true rfl) dL_law_325 (Or.inl rfl) (fun v M9 q _ => ?_) (fun E M9 q _ => (Sum.inr_ne_inl q.1).elim)
      obtain rfl : v = some (.int r59) := Sum.inl.inj q.1
      obtain rfl := q.2.symm
      refine fr_st (S' := [.int r59]) rfl ?_
      refine fr_bipush (v := 8) dL_law_328 (by decide) ?_
      refine fr_icmp_eq 335 dL_law_330 (by decide) (fun c61 => ?_) (fun c61 => by rw [if_neg c61] at h; cases h)
      rw [if_pos c61] at h
      obtain rfl := Option.some.inj h
      refine fr_loc [0, 1] (L' := [(0, .ref p_0), (1, .ref p_1)]) rfl ?_
      exact he _ rfl
    · subst e9
      try dsimp only at h
      obtain rfl := Option.some.inj h
      exact hr _ rfl
  · subst e9
    try dsimp only at h
    obtain rfl := Option.some.inj h
    exact hr _ rfl
set_option maxRecDepth 20000 in
theorem rg_L_law_335_ok {G : Nat × (Nat → Int32) × Value} {P : Res → Mem → Prop} {n0 d ke : Nat} (hv : rob G.2.2) {p_0 : Nat} {p_1 : Nat} {M_ : Mem} (hd : 21 ≤ d) {res : (Mem) ⊕ (Int32 × Mem)} (h : rg_L_law_335 G p_0 p_1 M_ = some res) (he : ∀ (M9 : Mem), res = .inl M9 → Fr (roG G) true n0 YL_law d ke 544 [(0, .ref p_0), (1, .ref p_1)] [] M9 P) (hr : ∀ r : Int32 × Mem, res = .inr r → P (wI r.1) r.2) : Fr (roG G) true n0 YL_law d (23 + ke) 335 [(0, .ref p_0), (1, .ref p_1)] [] M_ P := by
  unfold rg_L_law_335 at h
  refine fr_aload_n 1 dL_law_335 rfl ?_
  obtain ⟨r63, er63, h⟩ := ob h
  try dsimp only at h
  refine fr_callSX (g1 := false) (k2 := (22 + ke)) (ev_L_undo er63) rfl cyL_undo w_848 w_849 (by rfl) (by omega) (by omega) (by rfl) (Nat.le_of_ble_eq_true rfl) dL_law_336 (Or.inl rfl) (fun v M9 q _ => ?_) (fun E M9 q _ => (Sum.inr_ne_inl q.1).elim)
  obtain rfl : v = some (.int r63.1) := Sum.inl.inj q.1
  obtain rfl := q.2.symm
  refine fr_st (S' := [.int r63.1]) rfl ?_
  refine fr_bipush (v := 7) dL_law_339 (by decide) ?_
  refine fr_icmp_ne 509 dL_law_341 (by decide) (fun c64 => by rw [if_neg c64] at h; cases h) (fun c64 => ?_)
  rw [if_pos c64] at h
  refine fr_aload_n 1 dL_law_344 rfl ?_
  refine fr_iconst (v := 4) dL_law_345 (by decide) ?_
  obtain ⟨r65, er65, h⟩ := ob h
  try dsimp only at h
  refine fr_callSX (g1 := false) (k2 := (20 + ke)) (ev_L_sheetIn er65) rfl cyL_sheetIn w_675 w_676 (by rfl) (by omega) (by omega) (by rfl) (Nat.le_of_ble_eq_true rfl) dL_law_346 (Or.inl rfl) (fun v M9 q _ => ?_) (fun E M9 q _ => (Sum.inr_ne_inl q.1).elim)
  obtain rfl : v = some (.int r65) := Sum.inl.inj q.1
  obtain rfl := q.2.symm
  refine fr_st (S' := [.int r65]) rfl ?_
  refine fr_bipush (v := 8) dL_law_349 (by decide) ?_
  refine fr_icmp_ne 509 dL_law_351 (by decide) (fun c66 => by rw [if_neg c66] at h; cases h) (fun c66 => ?_)
  rw [if_pos c66] at h
  refine fr_aload_n 1 dL_law_354 rfl ?_
  refine fr_iconst (v := 4) dL_law_355 (by decide) ?_
  obtain ⟨r67, er67, h⟩ := ob h
  try dsimp only at h
  refine fr_callSX (g1 := false) (k2 := (18 + ke)) (ev_L_turnsIn er67) rfl cyL_turnsIn w_692 w_693 (by rfl) (by omega) (by omega) (by rfl) (Nat.le_of_ble_eq_true rfl) dL_law_356 (Or.inl rfl) (fun v M9 q _ => ?_) (fun E M9 q _ => (Sum.inr_ne_inl q.1).elim)
  obtain rfl : v = some (.int r67) := Sum.inl.inj q.1
  obtain rfl := q.2.symm
  refine fr_st (S' := [.int r67]) rfl ?_
  refine fr_iconst (v := 3) dL_law_359 (by decide) ?_
  refine fr_icmp_ne 509 dL_law_360 (by decide) (fun c68 => by rw [if_neg c68] at h; cases h) (fun c68 => ?_)
  rw [if_pos c68] at h
  refine fr_aload_n 1 dL_law_363 rfl ?_
  obtain ⟨r69, er69, h⟩ := ob h
  try dsimp only at h
  refine fr_callSX (g1 := false) (k2 := (17 + ke)) (ev_L_undo er69) rfl cyL_undo w_848 w_849 (by rfl) (by omega) (by omega) (by rfl) (Nat.le_of_ble_eq_true rfl) dL_law_364 (Or.inl rfl) (fun v M9 q _ => ?_) (fun E M9 q _ => (Sum.inr_ne_inl q.1).elim)
  obtain rfl : v = some (.int r69.1) := Sum.inl.inj q.1
  obtain rfl := q.2.symm
  refine fr_st (S' := [.int r69.1]) rfl ?_
  refine fr_bipush (v := 6) dL_law_367 (by decide) ?_
  refine fr_icmp_ne 509 dL_law_369 (by decide) (fun c70 => by rw [if_neg c70] at h; cases h) (fun c70 => ?_)
  rw [if_pos c70] at h
  refine fr_aload_n 1 dL_law_372 rfl ?_
  refine fr_bipush (v := 8) dL_law_373 (by decide) ?_
  obtain ⟨r71, er71, h⟩ := ob h
  try dsimp only at h
  refine fr_callSX (g1 := false) (k2 := (15 + ke)) (ev_L_sheetIn er71) rfl cyL_sheetIn w_675 w_676 (by rfl) (by omega) (by omega) (by rfl) (Nat.le_of_ble_eq_true rfl) dL_law_375 (Or.inl rfl) (fun v M9 q _ => ?_) (fun E M9 q _ => (Sum.inr_ne_inl q.1).elim)
  obtain rfl : v = some (.int r71) := Sum.inl.inj q.1
  obtain rfl := q.2.symm
  refine fr_st (S' := [.int r71]) rfl ?_
  refine fr_sipush (v := (-1002)) dL_law_378 (by decide) ?_
  refine fr_icmp_ne 509 dL_law_381 (by decide) (fun c72 => by rw [if_neg c72] at h; cases h) (fun c72 => ?_)
  rw [if_pos c72] at h
  refine fr_aload_n 1 dL_law_384 rfl ?_
  obtain ⟨r73, er73, h⟩ := ob h
  try dsimp only at h
  refine fr_callSX (g1 := false) (k2 := (14 + ke)) (ev_L_undo er73) rfl cyL_undo w_848 w_849 (by rfl) (by omega) (by omega) (by rfl) (Nat.le_of_ble_eq_true rfl) dL_law_385 (Or.inl rfl) (fun v M9 q _ => ?_) (fun E M9 q _ => (Sum.inr_ne_inl q.1).elim)
  obtain rfl : v = some (.int r73.1) := Sum.inl.inj q.1
  obtain rfl := q.2.symm
  refine fr_st (S' := [.int r73.1]) rfl ?_
  refine fr_iconst (v := 5) dL_law_388 (by decide) ?_
  refine fr_icmp_ne 509 dL_law_389 (by decide) (fun c74 => by rw [if_neg c74] at h; cases h) (fun c74 => ?_)
  rw [if_pos c74] at h
  refine fr_aload_n 1 dL_law_392 rfl ?_
  refine fr_iconst (v := 4) dL_law_393 (by decide) ?_
  obtain ⟨r75, er75, h⟩ := ob h
  try dsimp only at h
  refine fr_callSX (g1 := false) (k2 := (12 + ke)) (ev_L_sheetIn er75) rfl cyL_sheetIn w_675 w_676 (by rfl) (by omega) (by omega) (by rfl) (Nat.le_of_ble_eq_true rfl) dL_law_394 (Or.inl rfl) (fun v M9 q _ => ?_) (fun E M9 q _ => (Sum.inr_ne_inl q.1).elim)
  obtain rfl : v = some (.int r75) := Sum.inl.inj q.1
  obtain rfl := q.2.symm
  refine fr_st (S' := [.int r75]) rfl ?_
  refine fr_sipush (v := (-1002)) dL_law_397 (by decide) ?_
  refine fr_icmp_ne 509 dL_law_400 (by decide) (fun c76 => by rw [if_neg c76] at h; cases h) (fun c76 => ?_)
  rw [if_pos c76] at h
  refine fr_aload_n 1 dL_law_403 rfl ?_
  obtain ⟨r77, er77, h⟩ := ob h
  try dsimp only at h
  refine fr_callSX (g1 := false) (k2 := (11 + ke)) (ev_L_undo er77) rfl cyL_undo w_848 w_849 (by rfl) (by omega) (by omega) (by rfl) (Nat.le_of_ble_eq_true rfl) dL_law_404 (Or.inl rfl) (fun v M9 q _ => ?_) (fun E M9 q _ => (Sum.inr_ne_inl q.1).elim)
  obtain rfl : v = some (.int r77.1) := Sum.inl.inj q.1
  obtain rfl := q.2.symm
  refine fr_st (S' := [.int r77.1]) rfl ?_
  refine fr_iconst (v := 4) dL_law_407 (by decide) ?_
  refine fr_icmp_ne 509 dL_law_408 (by decide) (fun c78 => by rw [if_neg c78] at h; cases h) (fun c78 => ?_)
  rw [if_pos c78] at h
  refine fr_aload_n 1 dL_law_411 rfl ?_
  refine fr_bipush (v := 8) dL_law_412 (by decide) ?_
  obtain ⟨r79, er79, h⟩ := ob h
  try dsimp only at h
  refine fr_callSX (g1 := false) (k2 := (10 + ke)) (ev_L_wear er79) rfl cyL_wear w_648 w_649 (by rfl) (by omega) (by omega) (by rfl) (Nat.le_of_ble_eq_true rfl) dL_law_414 (Or.inl rfl) (fun v M9 q _ => ?_) (fun E M9 q _ => (Sum.inr_ne_inl q.1).elim)
  obtain rfl : v = some (.int r79) := Sum.inl.inj q.1
  obtain rfl := q.2.symm
  refine fr_st (S' := [.int r79]) rfl ?_
  refine fr_bipush (v := 6) dL_law_417 (by decide) ?_
  refine fr_icmp_ne 509 dL_law_419 (by decide) (fun c80 => by rw [if_neg c80] at h; cases h) (fun c80 => ?_)
  rw [if_pos c80] at h
  refine fr_aload_n 1 dL_law_422 rfl ?_
  obtain ⟨u82, eu82, h⟩ := ob h
  try dsimp only at h
  obtain ⟨r81, er81, h⟩ := ob h
  try dsimp only at h
  refine fr_callV (g1 := false) (k2 := (10 + ke)) (ev_X10_paste er81) rfl cyX10_paste w_262 w_263 w_264 (rc_ok eu82 rfl (by decide)) (by rfl) (by omega) (by omega) (by rfl) (Nat.le_of_ble_eq_true rfl) dL_law_423 (Or.inl rfl) (fun v M9 q _ => ?_) (fun E M9 q _ => (Sum.inr_ne_inl q.1).elim)
  obtain rfl : v = some (.int r81) := Sum.inl.inj q.1
  obtain rfl := q.2.symm
  refine fr_st (S' := [.int r81]) rfl ?_
  refine fr_bipush (v := 20) dL_law_426 (by decide) ?_
  refine fr_icmp_ne 509 dL_law_428 (by decide) (fun c83 => by rw [if_neg c83] at h; cases h) (fun c83 => ?_)
  rw [if_pos c83] at h
  refine fr_aload_n 1 dL_law_431 rfl ?_
  obtain ⟨r84, er84, h⟩ := ob h
  try dsimp only at h
  refine fr_callSX (g1 := false) (k2 := (9 + ke)) (ev_L_undo er84) rfl cyL_undo w_848 w_849 (by rfl) (by omega) (by omega) (by rfl) (Nat.le_of_ble_eq_true rfl) dL_law_432 (Or.inl rfl) (fun v M9 q _ => ?_) (fun E M9 q _ => (Sum.inr_ne_inl q.1).elim)
  obtain rfl : v = some (.int r84.1) := Sum.inl.inj q.1
  obtain rfl := q.2.symm
  refine fr_st (S' := [.int r84.1]) rfl ?_
  refine fr_iconst (v := 3) dL_law_435 (by decide) ?_
  refine fr_icmp_ne 509 dL_law_436 (by decide) (fun c85 => by rw [if_neg c85] at h; cases h) (fun c85 => ?_)
  rw [if_pos c85] at h
  refine fr_aload_n 1 dL_law_439 rfl ?_
  refine fr_bipush (v := 8) dL_law_440 (by decide) ?_
  obtain ⟨r86, er86, h⟩ := ob h
  try dsimp only at h
  refine fr_callSX (g1 := false) (k2 := (8 + ke)) (ev_L_isFolded er86) rfl cyL_isFolded w_661 w_662 (by rfl) (by omega) (by omega) (by rfl) (Nat.le_of_ble_eq_true rfl) dL_law_442 (Or.inl rfl) (fun v M9 q _ => ?_) (fun E M9 q _ => (Sum.inr_ne_inl q.1).elim)
  obtain rfl : v = some (.int r86) := Sum.inl.inj q.1
  obtain rfl := q.2.symm
  refine fr_st (S' := [.int r86]) rfl ?_
  refine fr_iconst (v := 1) dL_law_445 (by decide) ?_
  refine fr_icmp_ne 509 dL_law_446 (by decide) (fun c87 => by rw [if_neg c87] at h; cases h) (fun c87 => ?_)
  rw [if_pos c87] at h
  refine fr_aload_n 1 dL_law_449 rfl ?_
  obtain ⟨r88, er88, h⟩ := ob h
  try dsimp only at h
  refine fr_callSX (g1 := false) (k2 := (7 + ke)) (ev_L_undo er88) rfl cyL_undo w_848 w_849 (by rfl) (by omega) (by omega) (by rfl) (Nat.le_of_ble_eq_true rfl) dL_law_450 (Or.inl rfl) (fun v M9 q _ => ?_) (fun E M9 q _ => (Sum.inr_ne_inl q.1).elim)
  obtain rfl : v = some (.int r88.1) := Sum.inl.inj q.1
  obtain rfl := q.2.symm
  refine fr_st (S' := [.int r88.1]) rfl ?_
  refine fr_iconst (v := 2) dL_law_453 (by decide) ?_
  refine fr_icmp_ne 509 dL_law_454 (by decide) (fun c89 => by rw [if_neg c89] at h; cases h) (fun c89 => ?_)
  rw [if_pos c89] at h
  refine fr_aload_n 1 dL_law_457 rfl ?_
  obtain ⟨u91, eu91, h⟩ := ob h
  try dsimp only at h
  obtain ⟨r90, er90, h⟩ := ob h
  try dsimp only at h
  refine fr_callV (g1 := false) (k2 := (7 + ke)) (ev_X10_foldCount er90) rfl cyX10_foldCount w_266 w_267 w_268 (rc_ok eu91 rfl (by decide)) (by rfl) (by omega) (by omega) (by rfl) (Nat.le_of_ble_eq_true rfl) dL_law_458 (Or.inl rfl) (fun v M9 q _ => ?_) (fun E M9 q _ => (Sum.inr_ne_inl q.1).elim)
  obtain rfl : v = some (.int r90) := Sum.inl.inj q.1
  obtain rfl := q.2.symm
  refine fr_st (S' := [.int r90]) rfl ?_
  refine fr_if_ne 509 dL_law_461 (by decide) (fun c92 => by rw [if_neg c92] at h; cases h) (fun c92 => ?_)
  rw [if_pos c92] at h
  refine fr_aload_n 1 dL_law_464 rfl ?_
  obtain ⟨r93, er93, h⟩ := ob h
  try dsimp only at h
  refine fr_callSX (g1 := false) (k2 := (6 + ke)) (ev_L_undo er93) rfl cyL_undo w_848 w_849 (by rfl) (by omega) (by omega) (by rfl) (Nat.le_of_ble_eq_true rfl) dL_law_465 (Or.inl rfl) (fun v M9 q _ => ?_) (fun E M9 q _ => (Sum.inr_ne_inl q.1).elim)
  obtain rfl : v = some (.int r93.1) := Sum.inl.inj q.1
  obtain rfl := q.2.symm
  refine fr_st (S' := [.int r93.1]) rfl ?_
  refine fr_iconst (v := 1) dL_law_468 (by decide) ?_
  refine fr_icmp_ne 509 dL_law_469 (by decide) (fun c94 => by rw [if_neg c94] at h; cases h) (fun c94 => ?_)
  rw [if_pos c94] at h
  refine fr_aload_n 1 dL_law_472 rfl ?_
  refine fr_bipush (v := 8) dL_law_473 (by decide) ?_
  obtain ⟨r95, er95, h⟩ := ob h
  try dsimp only at h
  refine fr_callSX (g1 := false) (k2 := (5 + ke)) (ev_L_creaseCount er95) rfl cyL_creaseCount w_668 w_669 (by rfl) (by omega) (by omega) (by rfl) (Nat.le_of_ble_eq_true rfl) dL_law_475 (Or.inl rfl) (fun v M9 q _ => ?_) (fun E M9 q _ => (Sum.inr_ne_inl q.1).elim)
  obtain rfl : v = some (.int r95) := Sum.inl.inj q.1
  obtain rfl := q.2.symm
  refine fr_st (S' := [.int r95]) rfl ?_
  refine fr_iconst (v := 5) dL_law_478 (by decide) ?_
  refine fr_icmp_ne 509 dL_law_479 (by decide) (fun c96 => by rw [if_neg c96] at h; cases h) (fun c96 => ?_)
  rw [if_pos c96] at h
  refine fr_aload_n 1 dL_law_482 rfl ?_
  obtain ⟨r97, er97, h⟩ := ob h
  try dsimp only at h
  refine fr_callSX (g1 := false) (k2 := (4 + ke)) (ev_L_undo er97) rfl cyL_undo w_848 w_849 (by rfl) (by omega) (by omega) (by rfl) (Nat.le_of_ble_eq_true rfl) dL_law_483 (Or.inl rfl) (fun v M9 q _ => ?_) (fun E M9 q _ => (Sum.inr_ne_inl q.1).elim)
  obtain rfl : v = some (.int r97.1) := Sum.inl.inj q.1
  obtain rfl := q.2.symm
  refine fr_st (S' := [.int r97.1]) rfl ?_
  refine fr_if_ne 509 dL_law_486 (by decide) (fun c98 => by rw [if_neg c98] at h; cases h) (fun c98 => ?_)
  rw [if_pos c98] at h
  refine fr_aload_n 1 dL_law_489 rfl ?_
  refine fr_bipush (v := 8) dL_law_490 (by decide) ?_
  obtain ⟨r99, er99, h⟩ := ob h
  try dsimp only at h
  refine fr_callSX (g1 := false) (k2 := (3 + ke)) (ev_L_creaseCount er99) rfl cyL_creaseCount w_668 w_669 (by rfl) (by omega) (by omega) (by rfl) (Nat.le_of_ble_eq_true rfl) dL_law_492 (Or.inl rfl) (fun v M9 q _ => ?_) (fun E M9 q _ => (Sum.inr_ne_inl q.1).elim)
  obtain rfl : v = some (.int r99) := Sum.inl.inj q.1
  obtain rfl := q.2.symm
  refine fr_st (S' := [.int r99]) rfl ?_
  refine fr_iconst (v := 4) dL_law_495 (by decide) ?_
  refine fr_icmp_ne 509 dL_law_496 (by decide) (fun c100 => by rw [if_neg c100] at h; cases h) (fun c100 => ?_)
  rw [if_pos c100] at h
  refine fr_aload_n 1 dL_law_499 rfl ?_
  obtain ⟨r101, er101, h⟩ := ob h
  try dsimp only at h
  refine fr_callSX (g1 := false) (k2 := (2 + ke)) (ev_L_undo er101) rfl cyL_undo w_848 w_849 (by rfl) (by omega) (by omega) (by rfl) (Nat.le_of_ble_eq_true rfl) dL_law_500 (Or.inl rfl) (fun v M9 q _ => ?_) (fun E M9 q _ => (Sum.inr_ne_inl q.1).elim)
  obtain rfl : v = some (.int r101.1) := Sum.inl.inj q.1
  obtain rfl := q.2.symm
  refine fr_st (S' := [.int r101.1]) rfl ?_
  refine fr_sipush (v := (-1001)) dL_law_503 (by decide) ?_
  refine fr_icmp_eq 511 dL_law_506 (by decide) (fun c102 => ?_) (fun c102 => by rw [if_neg c102] at h; cases h)
  rw [if_pos c102] at h
  refine fr_aload_n 1 dL_law_511 rfl ?_
  obtain ⟨r103, er103, h⟩ := ob h
  try dsimp only at h
  refine fr_callSX (g1 := false) (k2 := (1 + ke)) (ev_L_restore er103) rfl cyL_restore w_860 w_861 (by rfl) (by omega) (by omega) (by rfl) (Nat.le_of_ble_eq_true rfl) dL_law_512 (Or.inl rfl) (fun v M9 q _ => ?_) (fun E M9 q _ => (Sum.inr_ne_inl q.1).elim)
  obtain rfl : v = some (.int r103.1) := Sum.inl.inj q.1
  obtain rfl := q.2.symm
  refine fr_st (S' := [.int r103.1]) rfl ?_
  refine fr_if_ne 542 dL_law_515 (by decide) (fun c104 => by rw [if_neg c104] at h; cases h) (fun c104 => ?_)
  rw [if_pos c104] at h
  refine fr_aload_n 1 dL_law_518 rfl ?_
  obtain ⟨u106, eu106, h⟩ := ob h
  try dsimp only at h
  obtain ⟨r105, er105, h⟩ := ob h
  try dsimp only at h
  refine fr_callV (g1 := false) (k2 := (1 + ke)) (ev_X10_sheetCount er105) rfl cyX10_sheetCount w_258 w_259 w_260 (rc_ok eu106 rfl (by decide)) (by rfl) (by omega) (by omega) (by rfl) (Nat.le_of_ble_eq_true rfl) dL_law_519 (Or.inl rfl) (fun v M9 q _ => ?_) (fun E M9 q _ => (Sum.inr_ne_inl q.1).elim)
  obtain rfl : v = some (.int r105) := Sum.inl.inj q.1
  obtain rfl := q.2.symm
  refine fr_st (S' := [.int r105]) rfl ?_
  refine fr_if_ne 542 dL_law_522 (by decide) (fun c107 => by rw [if_neg c107] at h; cases h) (fun c107 => ?_)
  rw [if_pos c107] at h
  refine fr_aload_n 1 dL_law_525 rfl ?_
  obtain ⟨u109, eu109, h⟩ := ob h
  try dsimp only at h
  obtain ⟨r108, er108, h⟩ := ob h
  try dsimp only at h
  refine fr_callV (g1 := false) (k2 := (1 + ke)) (ev_X10_paste er108) rfl cyX10_paste w_262 w_263 w_264 (rc_ok eu109 rfl (by decide)) (by rfl) (by omega) (by omega) (by rfl) (Nat.le_of_ble_eq_true rfl) dL_law_526 (Or.inl rfl) (fun v M9 q _ => ?_) (fun E M9 q _ => (Sum.inr_ne_inl q.1).elim)
  obtain rfl : v = some (.int r108) := Sum.inl.inj q.1
  obtain rfl := q.2.symm
  refine fr_st (S' := [.int r108]) rfl ?_
  refine fr_if_ne 542 dL_law_529 (by decide) (fun c110 => by rw [if_neg c110] at h; cases h) (fun c110 => ?_)
  rw [if_pos c110] at h
  refine fr_aload_n 1 dL_law_532 rfl ?_
  obtain ⟨r111, er111, h⟩ := ob h
  try dsimp only at h
  refine fr_callSX (g1 := false) (k2 := ke) (ev_L_undo er111) rfl cyL_undo w_848 w_849 (by rfl) (by omega) (by omega) (by rfl) (Nat.le_of_ble_eq_true rfl) dL_law_533 (Or.inl rfl) (fun v M9 q _ => ?_) (fun E M9 q _ => (Sum.inr_ne_inl q.1).elim)
  obtain rfl : v = some (.int r111.1) := Sum.inl.inj q.1
  obtain rfl := q.2.symm
  refine fr_st (S' := [.int r111.1]) rfl ?_
  refine fr_sipush (v := (-1001)) dL_law_536 (by decide) ?_
  refine fr_icmp_eq 544 dL_law_539 (by decide) (fun c112 => ?_) (fun c112 => by rw [if_neg c112] at h; cases h)
  rw [if_pos c112] at h
  obtain rfl := Option.some.inj h
  exact he _ rfl
set_option maxRecDepth 20000 in
theorem lp_L_law_639_ok {G : Nat × (Nat → Int32) × Value} (hv : rob G.2.2) {P : Res → Mem → Prop} {n0 d ke : Nat} {p_0 : Nat} {p_1 : Nat} {p_2 : Nat} {l_3 : Int64} {x_5 : Int32} {p_6 : Nat} (hd : 21 ≤ d) : ∀ (n : Nat) (x_7 : Int32) (x_8 : Int32) (M_ : Mem) (res : (Int32 × Int32 × Mem) ⊕ (Int32 × Mem)), lp_L_law_639 G p_0 p_1 p_2 l_3 x_5 p_6 n x_7 x_8 M_ = some res → (∀ (y_7 : Int32) (y_8 : Int32) (M9 : Mem), res = .inl (y_7, y_8, M9) → Fr (roG G) true n0 YL_law d ke 717 [(0, .ref p_0), (1, .ref p_1), (2, .ref p_2), (3, .long l_3), (5, .int x_5), (6, .ref p_6), (7, .int y_7), (8, .int y_8)] [] M9 P) → (∀ r : Int32 × Mem, res = .inr r → P (wI r.1) r.2) → Fr (roG G) true n0 YL_law d (801 * n + ke) 639 [(0, .ref p_0), (1, .ref p_1), (2, .ref p_2), (3, .long l_3), (5, .int x_5), (6, .ref p_6), (7, .int x_7), (8, .int x_8)] [] M_ P := by
  intro n
  induction n with
  | zero => intro x_7 x_8 M_ res h; unfold lp_L_law_639 at h; cases h
  | succ n ih =>
    intro x_7 x_8 M_ res h he hr
    unfold lp_L_law_639 at h
    refine fr_room (Nat.le_refl _) (show (801 * n + 801 + ke) ≤ 801 * (n + 1) + ke by omega) ?_
    refine fr_iload 7 dL_law_639 rfl ?_
    refine fr_bipush (v := 8) dL_law_641 (by decide) ?_
    refine fr_icmp_ge 717 dL_law_643 (by decide) (fun c139 => ?_) (fun c139 => ?_)
    · rw [if_pos c139] at h
      obtain rfl := Option.some.inj h
      refine fr_room (Nat.le_refl _) (show ke ≤ (801 * n + 801 + ke) by omega) ?_
      exact he _ _ _ rfl
    · rw [if_neg c139] at h
      refine fr_aload_n 2 dL_law_646 rfl ?_
      obtain ⟨r140, er140, h⟩ := ob h
      try dsimp only at h
      refine fr_callS (g1 := false) (k2 := (801 * n + 419 + ke)) (ev_L_asks er140) rfl cyL_asks w_880 w_881 (by rfl) (by omega) (by omega) (by rfl) (Nat.le_of_ble_eq_true rfl) dL_law_647 (Or.inl rfl) (fun v M9 q _ => ?_) (fun E M9 q _ => (Sum.inr_ne_inl q.1).elim)
      obtain rfl : v = some (.long r140.1) := Sum.inl.inj q.1
      obtain rfl := q.2.symm
      refine fr_st (S' := [.long r140.1]) rfl ?_
      refine fr_lstore (L' := [(0, .ref p_0), (1, .ref p_1), (2, .ref p_2), (3, .long l_3), (5, .int x_5), (6, .ref p_6), (7, .int x_7), (8, .int x_8), (9, .long r140.1)]) dL_law_650 (by decide) rfl ?_
      refine fr_aload_n 2 dL_law_652 rfl ?_
      refine fr_aload_n 0 dL_law_653 rfl ?_
      refine fr_bipush (v := 20) dL_law_654 (by decide) ?_
      refine fr_iload 7 dL_law_656 rfl ?_
      refine fr_iadd dL_law_658 ?_
      obtain ⟨r141, er141, h⟩ := ob h
      try dsimp only at h
      refine fr_callS (g1 := false) (k2 := (801 * n + 419 + ke)) (ev_L_at er141) rfl cyL_at w_290 w_291 (by rfl) (by omega) (by omega) (by rfl) (Nat.le_of_ble_eq_true rfl) dL_law_659 (Or.inl rfl) (fun v M9 q _ => ?_) (fun E M9 q _ => (Sum.inr_ne_inl q.1).elim)
      obtain rfl : v = some (.int r141) := Sum.inl.inj q.1
      obtain rfl := q.2.symm
      refine fr_st (S' := [.int r141, .ref p_2]) rfl ?_
      refine fr_iload 7 dL_law_662 rfl ?_
      refine fr_sipush (v := 977) dL_law_664 (by decide) ?_
      refine fr_imul dL_law_667 ?_
      refine fr_ixor dL_law_668 ?_
      obtain ⟨u143, eu143, h⟩ := ob h
      try dsimp only at h
      obtain ⟨r142, er142, h⟩ := ob h
      try dsimp only at h
      refine fr_callS (g1 := true) (k2 := (801 * n + 382 + ke)) (ev_L_changes hv er142) rfl cyL_changes w_1119 w_1120 (by rfl) (by omega) (by omega) (by rfl) (Nat.le_of_ble_eq_true rfl) dL_law_669 (Or.inr ⟨rfl, gd_L eu143, roG_ok hv⟩) (fun v M9 q _ => ?_) (fun E M9 q _ => (Sum.inr_ne_inl q.1).elim)
      obtain rfl : v = some (.int r142.1) := Sum.inl.inj q.1
      obtain rfl := q.2.symm
      refine fr_st (S' := [.int r142.1]) rfl ?_
      refine fr_if_eq 688 dL_law_672 (by decide) (fun c144 => ?_) (fun c144 => ?_)
      · rw [if_pos c144] at h
        refine fr_aload_n 2 dL_law_688 rfl ?_
        obtain ⟨r145, er145, h⟩ := ob h
        try dsimp only at h
        refine fr_callS (g1 := false) (k2 := (801 * n + 0 + ke)) (ev_L_asks er145) rfl cyL_asks w_880 w_881 (by rfl) (by omega) (by omega) (by rfl) (Nat.le_of_ble_eq_true rfl) dL_law_689 (Or.inl rfl) (fun v M9 q _ => ?_) (fun E M9 q _ => (Sum.inr_ne_inl q.1).elim)
        obtain rfl : v = some (.long r145.1) := Sum.inl.inj q.1
        obtain rfl := q.2.symm
        refine fr_st (S' := [.long r145.1]) rfl ?_
        refine fr_lload 8 dL_law_692 rfl ?_
        refine fr_lcmp dL_law_694 ?_
        refine fr_if_eq 700 dL_law_695 (by decide) (fun c146 => ?_) (fun c146 => by rw [if_neg c146] at h; cases h)
        rw [if_pos c146] at h
        refine fr_aload_n 2 dL_law_700 rfl ?_
        obtain ⟨u148, eu148, h⟩ := ob h
        try dsimp only at h
        obtain ⟨r147, er147, h⟩ := ob h
        try dsimp only at h
        refine fr_callV (g1 := false) (k2 := (801 * n + 0 + ke)) (ev_X10_undoCount er147) rfl cyX10_undoCount w_270 w_271 w_272 (rc_ok eu148 rfl (by decide)) (by rfl) (by omega) (by omega) (by rfl) (Nat.le_of_ble_eq_true rfl) dL_law_701 (Or.inl rfl) (fun v M9 q _ => ?_) (fun E M9 q _ => (Sum.inr_ne_inl q.1).elim)
        obtain rfl : v = some (.int r147) := Sum.inl.inj q.1
        obtain rfl := q.2.symm
        refine fr_st (S' := [.int r147]) rfl ?_
        refine fr_iload 6 dL_law_704 rfl ?_
        refine fr_icmp_eq 711 dL_law_706 (by decide) (fun c149 => ?_) (fun c149 => by rw [if_neg c149] at h; cases h)
        rw [if_pos c149] at h
        refine fr_iinc (v := (x_8 + 1)) (L' := [(0, .ref p_0), (1, .ref p_1), (2, .ref p_2), (3, .long l_3), (5, .int x_5), (6, .ref p_6), (7, .int x_7), (8, .int (x_8 + 1)), (9, .long r140.1)]) 7 dL_law_711 rfl rfl (by decide) rfl ?_
        refine fr_goto 639 dL_law_714 (by decide) ?_
        refine fr_loc [0, 1, 2, 3, 4, 5, 6, 7] (L' := [(0, .ref p_0), (1, .ref p_1), (2, .ref p_2), (3, .long l_3), (5, .int x_5), (6, .ref p_6), (7, .int x_7), (8, .int (x_8 + 1))]) rfl ?_
        exact ih _ _ _ _ h he hr
      · rw [if_neg c144] at h
        refine fr_aload 5 dL_law_675 rfl ?_
        refine fr_iload 6 dL_law_677 rfl ?_
        refine fr_iinc (v := (x_7 + 1)) (L' := [(0, .ref p_0), (1, .ref p_1), (2, .ref p_2), (3, .long l_3), (5, .int x_5), (6, .ref p_6), (7, .int (x_7 + 1)), (8, .int x_8), (9, .long r140.1)]) 6 dL_law_679 rfl rfl (by decide) rfl ?_
        refine fr_lload 8 dL_law_682 rfl ?_
        obtain ⟨M150, eM150, h⟩ := ob h
        try dsimp only at h
        refine fr_asL eM150 dL_law_684 ?_
        refine fr_goto 700 dL_law_685 (by decide) ?_
        refine fr_aload_n 2 dL_law_700 rfl ?_
        obtain ⟨u152, eu152, h⟩ := ob h
        try dsimp only at h
        obtain ⟨r151, er151, h⟩ := ob h
        try dsimp only at h
        refine fr_callV (g1 := false) (k2 := (801 * n + 382 + ke)) (ev_X10_undoCount er151) rfl cyX10_undoCount w_270 w_271 w_272 (rc_ok eu152 rfl (by decide)) (by rfl) (by omega) (by omega) (by rfl) (Nat.le_of_ble_eq_true rfl) dL_law_701 (Or.inl rfl) (fun v M9 q _ => ?_) (fun E M9 q _ => (Sum.inr_ne_inl q.1).elim)
        obtain rfl : v = some (.int r151) := Sum.inl.inj q.1
        obtain rfl := q.2.symm
        refine fr_st (S' := [.int r151]) rfl ?_
        refine fr_iload 6 dL_law_704 rfl ?_
        refine fr_icmp_eq 711 dL_law_706 (by decide) (fun c153 => ?_) (fun c153 => by rw [if_neg c153] at h; cases h)
        rw [if_pos c153] at h
        refine fr_iinc (v := (x_8 + 1)) (L' := [(0, .ref p_0), (1, .ref p_1), (2, .ref p_2), (3, .long l_3), (5, .int x_5), (6, .ref p_6), (7, .int (x_7 + 1)), (8, .int (x_8 + 1)), (9, .long r140.1)]) 7 dL_law_711 rfl rfl (by decide) rfl ?_
        refine fr_goto 639 dL_law_714 (by decide) ?_
        refine fr_loc [0, 1, 2, 3, 4, 5, 6, 7] (L' := [(0, .ref p_0), (1, .ref p_1), (2, .ref p_2), (3, .long l_3), (5, .int x_5), (6, .ref p_6), (7, .int (x_7 + 1)), (8, .int (x_8 + 1))]) rfl ?_
        refine fr_room (Nat.le_refl _) (show (801 * n + 0 + ke) ≤ (801 * n + 382 + ke) by omega) ?_
        exact ih _ _ _ _ h he hr
set_option maxRecDepth 20000 in
theorem lp_L_law_720_ok {G : Nat × (Nat → Int32) × Value} (hv : rob G.2.2) {P : Res → Mem → Prop} {n0 d ke : Nat} {p_0 : Nat} {p_1 : Nat} {p_2 : Nat} {l_3 : Int64} {x_5 : Int32} {p_6 : Nat} {x_7 : Int32} (hd : 21 ≤ d) : ∀ (n : Nat) (x_8 : Int32) (M_ : Mem) (res : (Int32 × Mem) ⊕ (Int32 × Mem)), lp_L_law_720 G p_0 p_1 p_2 l_3 x_5 p_6 x_7 n x_8 M_ = some res → (∀ (y_8 : Int32) (M9 : Mem), res = .inl (y_8, M9) → Fr (roG G) true n0 YL_law d ke 763 [(0, .ref p_0), (1, .ref p_1), (2, .ref p_2), (3, .long l_3), (5, .int x_5), (6, .ref p_6), (7, .int x_7), (8, .int y_8)] [] M9 P) → (∀ r : Int32 × Mem, res = .inr r → P (wI r.1) r.2) → Fr (roG G) true n0 YL_law d (383 * n + ke) 720 [(0, .ref p_0), (1, .ref p_1), (2, .ref p_2), (3, .long l_3), (5, .int x_5), (6, .ref p_6), (7, .int x_7), (8, .int x_8)] [] M_ P := by
  intro n
  induction n with
  | zero => intro x_8 M_ res h; unfold lp_L_law_720 at h; cases h
  | succ n ih =>
    intro x_8 M_ res h he hr
    unfold lp_L_law_720 at h
    refine fr_room (Nat.le_refl _) (show (383 * n + 383 + ke) ≤ 383 * (n + 1) + ke by omega) ?_
    refine fr_iload 7 dL_law_720 rfl ?_
    refine fr_iload 6 dL_law_722 rfl ?_
    refine fr_icmp_gt 763 dL_law_724 (by decide) (fun c155 => ?_) (fun c155 => ?_)
    · rw [if_pos c155] at h
      obtain rfl := Option.some.inj h
      refine fr_room (Nat.le_refl _) (show ke ≤ (383 * n + 383 + ke) by omega) ?_
      exact he _ _ rfl
    · rw [if_neg c155] at h
      refine fr_aload_n 2 dL_law_727 rfl ?_
      obtain ⟨r156, er156, h⟩ := ob h
      try dsimp only at h
      refine fr_callSX (g1 := false) (k2 := (383 * n + 382 + ke)) (ev_L_undo er156) rfl cyL_undo w_848 w_849 (by rfl) (by omega) (by omega) (by rfl) (Nat.le_of_ble_eq_true rfl) dL_law_728 (Or.inl rfl) (fun v M9 q _ => ?_) (fun E M9 q _ => (Sum.inr_ne_inl q.1).elim)
      obtain rfl : v = some (.int r156.1) := Sum.inl.inj q.1
      obtain rfl := q.2.symm
      refine fr_st (S' := [.int r156.1]) rfl ?_
      refine fr_iload 6 dL_law_731 rfl ?_
      refine fr_iload 7 dL_law_733 rfl ?_
      refine fr_isub dL_law_735 ?_
      refine fr_icmp_ne 755 dL_law_736 (by decide) (fun c157 => by rw [if_neg c157] at h; cases h) (fun c157 => ?_)
      rw [if_pos c157] at h
      refine fr_aload_n 2 dL_law_739 rfl ?_
      obtain ⟨r158, er158, h⟩ := ob h
      try dsimp only at h
      refine fr_callS (g1 := false) (k2 := (383 * n + 0 + ke)) (ev_L_asks er158) rfl cyL_asks w_880 w_881 (by rfl) (by omega) (by omega) (by rfl) (Nat.le_of_ble_eq_true rfl) dL_law_740 (Or.inl rfl) (fun v M9 q _ => ?_) (fun E M9 q _ => (Sum.inr_ne_inl q.1).elim)
      obtain rfl : v = some (.long r158.1) := Sum.inl.inj q.1
      obtain rfl := q.2.symm
      refine fr_st (S' := [.long r158.1]) rfl ?_
      refine fr_aload 5 dL_law_743 rfl ?_
      refine fr_iload 6 dL_law_745 rfl ?_
      refine fr_iload 7 dL_law_747 rfl ?_
      refine fr_isub dL_law_749 ?_
      obtain ⟨l159, el159, h⟩ := ob h
      try dsimp only at h
      refine fr_aL el159 dL_law_750 ?_
      refine fr_lcmp dL_law_751 ?_
      refine fr_if_eq 757 dL_law_752 (by decide) (fun c160 => ?_) (fun c160 => by rw [if_neg c160] at h; cases h)
      rw [if_pos c160] at h
      refine fr_iinc (v := (x_8 + 1)) (L' := [(0, .ref p_0), (1, .ref p_1), (2, .ref p_2), (3, .long l_3), (5, .int x_5), (6, .ref p_6), (7, .int x_7), (8, .int (x_8 + 1))]) 7 dL_law_757 rfl rfl (by decide) rfl ?_
      refine fr_goto 720 dL_law_760 (by decide) ?_
      exact ih _ _ _ h he hr
set_option maxRecDepth 20000 in
theorem fr_L_law {G : Nat × (Nat → Int32) × Value} (hv : rob G.2.2) {n0 : Nat} {p0a : Nat} {M : Mem} {r : Int32 × Mem} {P : Res → Mem → Prop} (h : f_L_law G p0a M = some r) (hr : P (wI r.1) r.2) : Fr (roG G) true n0 YL_law 21 76047 0 [(0, .ref p0a)] [] M P := by
  unfold f_L_law at h
  obtain ⟨u1, eu1, h⟩ := ob h
  try dsimp only at h
  obtain ⟨M2, eM2, h⟩ := ob h
  try dsimp only at h
  obtain rfl := Option.some.inj eM2
  refine fr_newg (k2 := 76046) cb10 w_50 w_51 w_14 (gd_N eu1) (gd_L eu1) (roG_ok hv) (by decide) dL_law_0 (by omega) ?_
  refine fr_dup dL_law_3 rfl ?_
  obtain ⟨u4, eu4, h⟩ := ob h
  try dsimp only at h
  obtain ⟨r3, er3, h⟩ := ob h
  try dsimp only at h
  refine fr_callI (g1 := true) (k2 := 45128) (ev_X10_init hv er3) rfl cyX10_init rfl rfl w_52 w_53 (by rfl) (by omega) (by omega) (by rfl) (Nat.le_of_ble_eq_true rfl) dL_law_4 (Or.inr ⟨rfl, gd_L eu4, roG_ok hv⟩) (fun v M9 q _ => ?_) (fun E M9 q _ => (Sum.inr_ne_inl q.1).elim)
  obtain rfl : v = none := Sum.inl.inj q.1
  obtain rfl := q.2.symm
  refine fr_st (S' := [.ref (mN M)]) rfl ?_
  refine fr_astore_n (L' := [(0, .ref p0a), (1, .ref (mN M))]) dL_law_7 (by decide) rfl ?_
  obtain ⟨q30, eq30, h⟩ := ob h
  try dsimp only at h
  refine fr_room (k' := 70 + 45058) (Nat.le_refl _) (by omega) ?_
  refine rg_L_law_8_ok hv (by omega) eq30 (fun q30_M e9 => ?_) (fun q30_r e9 => ?_)
  · subst e9
    try dsimp only at h
    obtain ⟨q62, eq62, h⟩ := ob h
    try dsimp only at h
    refine fr_room (k' := 27 + 45031) (Nat.le_refl _) (by omega) ?_
    refine rg_L_law_138_ok hv (by omega) eq62 (fun q62_M e9 => ?_) (fun q62_r e9 => ?_)
    · subst e9
      try dsimp only at h
      obtain ⟨q113, eq113, h⟩ := ob h
      try dsimp only at h
      refine fr_room (k' := 23 + 45008) (Nat.le_refl _) (by omega) ?_
      refine rg_L_law_335_ok hv (by omega) eq113 (fun q113_M e9 => ?_) (fun q113_r e9 => ?_)
      · subst e9
        try dsimp only at h
        obtain ⟨u114, eu114, h⟩ := ob h
        try dsimp only at h
        obtain ⟨M115, eM115, h⟩ := ob h
        try dsimp only at h
        obtain rfl := Option.some.inj eM115
        refine fr_newg (k2 := 45007) cb10 w_50 w_51 w_14 (gd_N eu114) (gd_L eu114) (roG_ok hv) (by decide) dL_law_544 (by omega) ?_
        refine fr_dup dL_law_547 rfl ?_
        obtain ⟨u117, eu117, h⟩ := ob h
        try dsimp only at h
        obtain ⟨r116, er116, h⟩ := ob h
        try dsimp only at h
        refine fr_callI (g1 := true) (k2 := 14089) (ev_X10_init hv er116) rfl cyX10_init rfl rfl w_52 w_53 (by rfl) (by omega) (by omega) (by rfl) (Nat.le_of_ble_eq_true rfl) dL_law_548 (Or.inr ⟨rfl, gd_L eu117, roG_ok hv⟩) (fun v M9 q _ => ?_) (fun E M9 q _ => (Sum.inr_ne_inl q.1).elim)
        obtain rfl : v = none := Sum.inl.inj q.1
        obtain rfl := q.2.symm
        refine fr_st (S' := [.ref (mN q113_M)]) rfl ?_
        refine fr_astore_n (L' := [(0, .ref p0a), (1, .ref (mN M)), (2, .ref (mN q113_M))]) dL_law_551 (by decide) rfl ?_
        refine fr_aload_n 2 dL_law_552 rfl ?_
        refine fr_aload_n 0 dL_law_553 rfl ?_
        obtain ⟨r118, er118, h⟩ := ob h
        try dsimp only at h
        refine fr_callS (g1 := false) (k2 := 14011) (ev_L_makes er118) rfl cyL_makes w_872 w_873 (by rfl) (by omega) (by omega) (by rfl) (Nat.le_of_ble_eq_true rfl) dL_law_554 (Or.inl rfl) (fun v M9 q _ => ?_) (fun E M9 q _ => (Sum.inr_ne_inl q.1).elim)
        obtain rfl : v = some (.int r118.1) := Sum.inl.inj q.1
        obtain rfl := q.2.symm
        refine fr_st (S' := [.int r118.1]) rfl ?_
        refine fr_if_ne 562 dL_law_557 (by decide) (fun c119 => ?_) (fun c119 => by rw [if_pos c119] at h; cases h)
        rw [if_neg c119] at h
        refine fr_aload_n 2 dL_law_562 rfl ?_
        obtain ⟨r120, er120, h⟩ := ob h
        try dsimp only at h
        refine fr_callS (g1 := false) (k2 := 13629) (ev_L_asks er120) rfl cyL_asks w_880 w_881 (by rfl) (by omega) (by omega) (by rfl) (Nat.le_of_ble_eq_true rfl) dL_law_563 (Or.inl rfl) (fun v M9 q _ => ?_) (fun E M9 q _ => (Sum.inr_ne_inl q.1).elim)
        obtain rfl : v = some (.long r120.1) := Sum.inl.inj q.1
        obtain rfl := q.2.symm
        refine fr_st (S' := [.long r120.1]) rfl ?_
        refine fr_lstore_n (L' := [(0, .ref p0a), (1, .ref (mN M)), (2, .ref (mN q113_M)), (3, .long r120.1)]) dL_law_566 (by decide) rfl ?_
        refine fr_aload_n 2 dL_law_567 rfl ?_
        obtain ⟨r121, er121, h⟩ := ob h
        try dsimp only at h
        refine fr_callS (g1 := false) (k2 := 13247) (ev_L_asks er121) rfl cyL_asks w_880 w_881 (by rfl) (by omega) (by omega) (by rfl) (Nat.le_of_ble_eq_true rfl) dL_law_568 (Or.inl rfl) (fun v M9 q _ => ?_) (fun E M9 q _ => (Sum.inr_ne_inl q.1).elim)
        obtain rfl : v = some (.long r121.1) := Sum.inl.inj q.1
        obtain rfl := q.2.symm
        refine fr_st (S' := [.long r121.1]) rfl ?_
        refine fr_lload_n 3 dL_law_571 rfl ?_
        refine fr_lcmp dL_law_572 ?_
        refine fr_if_ne 583 dL_law_573 (by decide) (fun c122 => by rw [if_neg c122] at h; cases h) (fun c122 => ?_)
        rw [if_pos c122] at h
        refine fr_aload_n 2 dL_law_576 rfl ?_
        obtain ⟨r123, er123, h⟩ := ob h
        try dsimp only at h
        refine fr_callS (g1 := false) (k2 := 11808) (ev_L_thrown er123) rfl cyL_thrown w_1341 w_1342 (by rfl) (by omega) (by omega) (by rfl) (Nat.le_of_ble_eq_true rfl) dL_law_577 (Or.inl rfl) (fun v M9 q _ => ?_) (fun E M9 q _ => (Sum.inr_ne_inl q.1).elim)
        obtain rfl : v = some (.int r123.1) := Sum.inl.inj q.1
        obtain rfl := q.2.symm
        refine fr_st (S' := [.int r123.1]) rfl ?_
        refine fr_if_ne 585 dL_law_580 (by decide) (fun c124 => ?_) (fun c124 => by rw [if_pos c124] at h; cases h)
        rw [if_neg c124] at h
        refine fr_aload_n 2 dL_law_585 rfl ?_
        obtain ⟨u126, eu126, h⟩ := ob h
        try dsimp only at h
        obtain ⟨r125, er125, h⟩ := ob h
        try dsimp only at h
        refine fr_callV (g1 := false) (k2 := 11808) (ev_X10_save er125) rfl cyX10_save w_274 w_275 w_276 (rc_ok eu126 rfl (by decide)) (by rfl) (by omega) (by omega) (by rfl) (Nat.le_of_ble_eq_true rfl) dL_law_586 (Or.inl rfl) (fun v M9 q _ => ?_) (fun E M9 q _ => (Sum.inr_ne_inl q.1).elim)
        obtain rfl : v = some (.int r125.1) := Sum.inl.inj q.1
        obtain rfl := q.2.symm
        refine fr_st (S' := [.int r125.1]) rfl ?_
        refine fr_istore (L' := [(0, .ref p0a), (1, .ref (mN M)), (2, .ref (mN q113_M)), (3, .long r120.1), (5, .int r125.1)]) dL_law_589 (by decide) rfl ?_
        refine fr_iload 4 dL_law_591 rfl ?_
        refine fr_aload_n 2 dL_law_593 rfl ?_
        obtain ⟨u128, eu128, h⟩ := ob h
        try dsimp only at h
        obtain ⟨r127, er127, h⟩ := ob h
        try dsimp only at h
        refine fr_callV (g1 := false) (k2 := 11808) (ev_X10_sheetCount er127) rfl cyX10_sheetCount w_258 w_259 w_260 (rc_ok eu128 rfl (by decide)) (by rfl) (by omega) (by omega) (by rfl) (Nat.le_of_ble_eq_true rfl) dL_law_594 (Or.inl rfl) (fun v M9 q _ => ?_) (fun E M9 q _ => (Sum.inr_ne_inl q.1).elim)
        obtain rfl : v = some (.int r127) := Sum.inl.inj q.1
        obtain rfl := q.2.symm
        refine fr_st (S' := [.int r127, .int r125.1]) rfl ?_
        refine fr_icmp_ne 625 dL_law_597 (by decide) (fun c129 => by rw [if_neg c129] at h; cases h) (fun c129 => ?_)
        rw [if_pos c129] at h
        refine fr_aload_n 2 dL_law_600 rfl ?_
        obtain ⟨r130, er130, h⟩ := ob h
        try dsimp only at h
        refine fr_callS (g1 := false) (k2 := 11426) (ev_L_asks er130) rfl cyL_asks w_880 w_881 (by rfl) (by omega) (by omega) (by rfl) (Nat.le_of_ble_eq_true rfl) dL_law_601 (Or.inl rfl) (fun v M9 q _ => ?_) (fun E M9 q _ => (Sum.inr_ne_inl q.1).elim)
        obtain rfl : v = some (.long r130.1) := Sum.inl.inj q.1
        obtain rfl := q.2.symm
        refine fr_st (S' := [.long r130.1]) rfl ?_
        refine fr_lload_n 3 dL_law_604 rfl ?_
        refine fr_lcmp dL_law_605 ?_
        refine fr_if_ne 625 dL_law_606 (by decide) (fun c131 => by rw [if_neg c131] at h; cases h) (fun c131 => ?_)
        rw [if_pos c131] at h
        refine fr_aload_n 2 dL_law_609 rfl ?_
        obtain ⟨r132, er132, h⟩ := ob h
        try dsimp only at h
        refine fr_callSX (g1 := false) (k2 := 11425) (ev_L_restore er132) rfl cyL_restore w_860 w_861 (by rfl) (by omega) (by omega) (by rfl) (Nat.le_of_ble_eq_true rfl) dL_law_610 (Or.inl rfl) (fun v M9 q _ => ?_) (fun E M9 q _ => (Sum.inr_ne_inl q.1).elim)
        obtain rfl : v = some (.int r132.1) := Sum.inl.inj q.1
        obtain rfl := q.2.symm
        refine fr_st (S' := [.int r132.1]) rfl ?_
        refine fr_iload 4 dL_law_613 rfl ?_
        refine fr_icmp_ne 625 dL_law_615 (by decide) (fun c133 => by rw [if_neg c133] at h; cases h) (fun c133 => ?_)
        rw [if_pos c133] at h
        refine fr_aload_n 2 dL_law_618 rfl ?_
        obtain ⟨u135, eu135, h⟩ := ob h
        try dsimp only at h
        obtain ⟨r134, er134, h⟩ := ob h
        try dsimp only at h
        refine fr_callV (g1 := false) (k2 := 11425) (ev_X10_undoCount er134) rfl cyX10_undoCount w_270 w_271 w_272 (rc_ok eu135 rfl (by decide)) (by rfl) (by omega) (by omega) (by rfl) (Nat.le_of_ble_eq_true rfl) dL_law_619 (Or.inl rfl) (fun v M9 q _ => ?_) (fun E M9 q _ => (Sum.inr_ne_inl q.1).elim)
        obtain rfl : v = some (.int r134) := Sum.inl.inj q.1
        obtain rfl := q.2.symm
        refine fr_st (S' := [.int r134]) rfl ?_
        refine fr_if_eq 627 dL_law_622 (by decide) (fun c136 => ?_) (fun c136 => by rw [if_neg c136] at h; cases h)
        rw [if_pos c136] at h
        refine fr_bipush (v := 9) dL_law_627 (by decide) ?_
        obtain ⟨u137, eu137, h⟩ := ob h
        try dsimp only at h
        obtain ⟨u137b, eu137b, h⟩ := ob h
        try dsimp only at h
        obtain ⟨M138, eM138, h⟩ := ob h
        try dsimp only at h
        obtain rfl := Option.some.inj eM138
        refine fr_newarrL (k2 := 11424) w_1478 (gd_N eu137) (gd_L eu137) (roG_ok hv) (na_0 eu137b) (na_1 eu137b) dL_law_629 (by omega) ?_
        refine fr_astore (L' := [(0, .ref p0a), (1, .ref (mN M)), (2, .ref (mN q113_M)), (3, .long r120.1), (5, .int r125.1), (6, .ref (mN r132.2))]) dL_law_631 (by decide) rfl ?_
        refine fr_iconst (v := 0) dL_law_633 (by decide) ?_
        refine fr_istore (L' := [(0, .ref p0a), (1, .ref (mN M)), (2, .ref (mN q113_M)), (3, .long r120.1), (5, .int r125.1), (6, .ref (mN r132.2)), (7, .int 0)]) dL_law_634 (by decide) rfl ?_
        refine fr_iconst (v := 0) dL_law_636 (by decide) ?_
        refine fr_istore (L' := [(0, .ref p0a), (1, .ref (mN M)), (2, .ref (mN q113_M)), (3, .long r120.1), (5, .int r125.1), (6, .ref (mN r132.2)), (7, .int 0), (8, .int 0)]) dL_law_637 (by decide) rfl ?_
        obtain ⟨q154, eq154, h⟩ := ob h
        try dsimp only at h
        refine fr_room (k' := 801 * 9 + 4215) (Nat.le_refl _) (by omega) ?_
        refine lp_L_law_639_ok hv (by omega) 9 _ _ _ q154 eq154 (fun q154_7 q154_8 q154_M e9 => ?_) (fun q154_r e9 => ?_)
        · subst e9
          try dsimp only at h
          refine fr_iconst (v := 1) dL_law_717 (by decide) ?_
          refine fr_istore (L' := [(0, .ref p0a), (1, .ref (mN M)), (2, .ref (mN q113_M)), (3, .long r120.1), (5, .int r125.1), (6, .ref (mN r132.2)), (7, .int q154_7), (8, .int 1)]) dL_law_718 (by decide) rfl ?_
          obtain ⟨q161, eq161, h⟩ := ob h
          try dsimp only at h
          refine fr_room (k' := 383 * 10 + 385) (Nat.le_refl _) (by omega) ?_
          refine lp_L_law_720_ok hv (by omega) 10 _ _ q161 eq161 (fun q161_8 q161_M e9 => ?_) (fun q161_r e9 => ?_)
          · subst e9
            try dsimp only at h
            refine fr_aload_n 2 dL_law_763 rfl ?_
            obtain ⟨r162, er162, h⟩ := ob h
            try dsimp only at h
            refine fr_callSX (g1 := false) (k2 := 384) (ev_L_undo er162) rfl cyL_undo w_848 w_849 (by rfl) (by omega) (by omega) (by rfl) (Nat.le_of_ble_eq_true rfl) dL_law_764 (Or.inl rfl) (fun v M9 q _ => ?_) (fun E M9 q _ => (Sum.inr_ne_inl q.1).elim)
            obtain rfl : v = some (.int r162.1) := Sum.inl.inj q.1
            obtain rfl := q.2.symm
            refine fr_st (S' := [.int r162.1]) rfl ?_
            refine fr_sipush (v := (-1001)) dL_law_767 (by decide) ?_
            refine fr_icmp_ne 805 dL_law_770 (by decide) (fun c163 => by rw [if_neg c163] at h; cases h) (fun c163 => ?_)
            rw [if_pos c163] at h
            refine fr_aload_n 2 dL_law_773 rfl ?_
            obtain ⟨r164, er164, h⟩ := ob h
            try dsimp only at h
            refine fr_callSX (g1 := false) (k2 := 383) (ev_L_restore er164) rfl cyL_restore w_860 w_861 (by rfl) (by omega) (by omega) (by rfl) (Nat.le_of_ble_eq_true rfl) dL_law_774 (Or.inl rfl) (fun v M9 q _ => ?_) (fun E M9 q _ => (Sum.inr_ne_inl q.1).elim)
            obtain rfl : v = some (.int r164.1) := Sum.inl.inj q.1
            obtain rfl := q.2.symm
            refine fr_st (S' := [.int r164.1]) rfl ?_
            refine fr_iload 4 dL_law_777 rfl ?_
            refine fr_icmp_ne 805 dL_law_779 (by decide) (fun c165 => by rw [if_neg c165] at h; cases h) (fun c165 => ?_)
            rw [if_pos c165] at h
            refine fr_aload_n 2 dL_law_782 rfl ?_
            obtain ⟨r166, er166, h⟩ := ob h
            try dsimp only at h
            refine fr_callS (g1 := false) (k2 := 1) (ev_L_asks er166) rfl cyL_asks w_880 w_881 (by rfl) (by omega) (by omega) (by rfl) (Nat.le_of_ble_eq_true rfl) dL_law_783 (Or.inl rfl) (fun v M9 q _ => ?_) (fun E M9 q _ => (Sum.inr_ne_inl q.1).elim)
            obtain rfl : v = some (.long r166.1) := Sum.inl.inj q.1
            obtain rfl := q.2.symm
            refine fr_st (S' := [.long r166.1]) rfl ?_
            refine fr_lload_n 3 dL_law_786 rfl ?_
            refine fr_lcmp dL_law_787 ?_
            refine fr_if_ne 805 dL_law_788 (by decide) (fun c167 => by rw [if_neg c167] at h; cases h) (fun c167 => ?_)
            rw [if_pos c167] at h
            refine fr_aload_n 2 dL_law_791 rfl ?_
            obtain ⟨r168, er168, h⟩ := ob h
            try dsimp only at h
            refine fr_callSX (g1 := false) (k2 := 0) (ev_L_undo er168) rfl cyL_undo w_848 w_849 (by rfl) (by omega) (by omega) (by rfl) (Nat.le_of_ble_eq_true rfl) dL_law_792 (Or.inl rfl) (fun v M9 q _ => ?_) (fun E M9 q _ => (Sum.inr_ne_inl q.1).elim)
            obtain rfl : v = some (.int r168.1) := Sum.inl.inj q.1
            obtain rfl := q.2.symm
            refine fr_st (S' := [.int r168.1]) rfl ?_
            refine fr_sipush (v := (-1001)) dL_law_795 (by decide) ?_
            refine fr_icmp_ne 805 dL_law_798 (by decide) (fun c169 => by rw [if_neg c169] at h; cases h) (fun c169 => ?_)
            rw [if_pos c169] at h
            refine fr_iconst (v := 1) dL_law_801 (by decide) ?_
            refine fr_goto 806 dL_law_802 (by decide) ?_
            obtain rfl := Option.some.inj h
            exact fr_zret (ty := .boolean) rfl rfl dL_law_806 hr
          · subst e9
            try dsimp only at h
            obtain rfl := Option.some.inj h
            exact hr
        · subst e9
          try dsimp only at h
          obtain rfl := Option.some.inj h
          exact hr
      · subst e9
        try dsimp only at h
        obtain rfl := Option.some.inj h
        exact hr
    · subst e9
      try dsimp only at h
      obtain rfl := Option.some.inj h
      exact hr
  · subst e9
    try dsimp only at h
    obtain rfl := Option.some.inj h
    exact hr
