/-! ===== methods, 13: L_changes ===== -/
def f_L_changes (p0a : Nat) (x1a : Int32) (M : Mem) : Option (Int32 × Mem) := (f_L_some (x1a >>> (4 &&& 31)) 10 M).bind fun r1 => (f_L_some (x1a >>> (8 &&& 31)) 10 M).bind fun r2 => (f_L_some x1a 24 M).bind fun r3 => (if r3 = 0 then ((f_L_some (x1a >>> (4 &&& 31)) 11 M).bind fun r8 => (f_L_some (x1a >>> (5 &&& 31)) 3 M).bind fun r9 => (f_L_some (x1a >>> (7 &&& 31)) 3 M).bind fun r10 => (f_L_some (x1a >>> (9 &&& 31)) 3 M).bind fun r11 => (f_L_some (x1a >>> (11 &&& 31)) 4 M).bind fun r12 => (rcS M (ROB + 38)).bind fun _ => (f_J0_charAt_5068e (ROB + 38) r12 M).bind fun r13 => (f_L_addSheet p0a r8 r9 r10 r11 r13 M).bind fun r15 => if r15.1 < 0 then (some (0, r15.2)) else (some (1, r15.2))) else (if r3 = 1 then ((f_L_some (x1a >>> (8 &&& 31)) 3 M).bind fun r17 => (rcS M (ROB + 39)).bind fun _ => (f_J0_charAt_5068e (ROB + 39) r17 M).bind fun r18 => (f_L_addCrease p0a r1 r18 M).bind fun r20 => if r20.1 < 0 then (some (0, r20.2)) else (some (1, r20.2))) else (if r3 = 2 then ((f_L_some (x1a >>> (8 &&& 31)) 3 M).bind fun r22 => (rcS M (ROB + 39)).bind fun _ => (f_J0_charAt_5068e (ROB + 39) r22 M).bind fun r23 => (f_L_addCrease p0a r1 r23 M).bind fun r25 => if r25.1 < 0 then (some (0, r25.2)) else (some (1, r25.2))) else (if r3 = 3 then ((f_L_some (x1a >>> (8 &&& 31)) 3 M).bind fun r27 => (rcS M (ROB + 39)).bind fun _ => (f_J0_charAt_5068e (ROB + 39) r27 M).bind fun r28 => (f_L_addCrease p0a r1 r28 M).bind fun r30 => if r30.1 < 0 then (some (0, r30.2)) else (some (1, r30.2))) else (if r3 = 4 then ((f_L_fold p0a r1 M).bind fun r32 => if r32.1 < 0 then (some (0, r32.2)) else (some (1, r32.2))) else (if r3 = 5 then ((f_L_fold p0a r1 M).bind fun r34 => if r34.1 < 0 then (some (0, r34.2)) else (some (1, r34.2))) else (if r3 = 6 then ((f_L_fold p0a r1 M).bind fun r36 => if r36.1 < 0 then (some (0, r36.2)) else (some (1, r36.2))) else (if r3 = 7 then ((f_L_unfold p0a r1 M).bind fun r38 => if r38.1 < 0 then (some (0, r38.2)) else (some (1, r38.2))) else (if r3 = 8 then ((f_L_unfold p0a r1 M).bind fun r40 => if r40.1 < 0 then (some (0, r40.2)) else (some (1, r40.2))) else (if r3 = 9 then ((f_L_mend p0a r1 M).bind fun r42 => if r42.1 < 0 then (some (0, r42.2)) else (some (1, r42.2))) else (if r3 = 10 then ((f_L_mend p0a r1 M).bind fun r44 => if r44.1 < 0 then (some (0, r44.2)) else (some (1, r44.2))) else (if r3 = 11 then ((f_L_some (x1a >>> (4 &&& 31)) 23 M).bind fun r46 => (f_L_addPaste p0a r46 M).bind fun r47 => if r47.1 < 0 then (some (0, r47.2)) else (some (1, r47.2))) else (if r3 = 12 then ((f_L_some (x1a >>> (4 &&& 31)) 23 M).bind fun r49 => (f_L_addPaste p0a r49 M).bind fun r50 => if r50.1 < 0 then (some (0, r50.2)) else (some (1, r50.2))) else (if r3 = 13 then ((f_L_take p0a r2 M).bind fun r52 => if r52.1 < 0 then (some (0, r52.2)) else (some (1, r52.2))) else (if r3 = 14 then ((f_L_take p0a r2 M).bind fun r54 => if r54.1 < 0 then (some (0, r54.2)) else (some (1, r54.2))) else (if r3 = 15 then ((f_L_take p0a r2 M).bind fun r56 => if r56.1 < 0 then (some (0, r56.2)) else (some (1, r56.2))) else (if r3 = 16 then (if ((x1a >>> (6 &&& 31)) &&& 1) = 0 then ((gd M [(0, .ref p0a), (1, .int x1a), (2, .int r1), (3, .int r2)] [.ref p0a]).bind fun _ => (some (mNew M 1 0)).bind fun M75 => (gd M75 [(0, .ref p0a), (1, .int x1a), (2, .int r1), (3, .int r2)] [.ref (mN M), .ref p0a]).bind fun _ => (f_J4_init_da8c8 (mN M) M75).bind fun r76 => (rc r76.2 1 (mN M)).bind fun _ => (f_J4_append_15ec4 (mN M) (ROB + 40) r76.2).bind fun r78 => (rc r78.2 1 r78.1).bind fun _ => (f_J4_append_bf812 r78.1 r1 r78.2).bind fun r80 => (rc r80.2 1 r80.1).bind fun _ => (gd r80.2 [(0, .ref p0a), (1, .int x1a), (2, .int r1), (3, .int r2)] [.ref p0a]).bind fun _ => (f_J4_toString_0e30d r80.1 r80.2).bind fun r82 => (f_L_runs p0a r82.1 r82.2).bind fun r85 => if r85.1 < 0 then (some (0, r85.2)) else (some (1, r85.2))) else ((gd M [(0, .ref p0a), (1, .int x1a), (2, .int r1), (3, .int r2)] [.ref p0a]).bind fun _ => (some (mNew M 1 0)).bind fun M60 => (gd M60 [(0, .ref p0a), (1, .int x1a), (2, .int r1), (3, .int r2)] [.ref (mN M), .ref p0a]).bind fun _ => (f_J4_init_da8c8 (mN M) M60).bind fun r61 => (rc r61.2 1 (mN M)).bind fun _ => (f_J4_append_15ec4 (mN M) (ROB + 42) r61.2).bind fun r63 => (rc r63.2 1 r63.1).bind fun _ => (f_J4_append_bf812 r63.1 r1 r63.2).bind fun r65 => (rc r65.2 1 r65.1).bind fun _ => (f_J4_append_15ec4 r65.1 (ROB + 43) r65.2).bind fun r67 => (rc r67.2 1 r67.1).bind fun _ => (gd r67.2 [(0, .ref p0a), (1, .int x1a), (2, .int r1), (3, .int r2)] [.ref p0a]).bind fun _ => (f_J4_toString_0e30d r67.1 r67.2).bind fun r69 => (f_L_runs p0a r69.1 r69.2).bind fun r72 => if r72.1 < 0 then (some (0, r72.2)) else (some (1, r72.2)))) else (if r3 = 17 then (if ((x1a >>> (6 &&& 31)) &&& 1) = 0 then ((gd M [(0, .ref p0a), (1, .int x1a), (2, .int r1), (3, .int r2)] [.ref p0a]).bind fun _ => (some (mNew M 1 0)).bind fun M104 => (gd M104 [(0, .ref p0a), (1, .int x1a), (2, .int r1), (3, .int r2)] [.ref (mN M), .ref p0a]).bind fun _ => (f_J4_init_da8c8 (mN M) M104).bind fun r105 => (rc r105.2 1 (mN M)).bind fun _ => (f_J4_append_15ec4 (mN M) (ROB + 40) r105.2).bind fun r107 => (rc r107.2 1 r107.1).bind fun _ => (f_J4_append_bf812 r107.1 r1 r107.2).bind fun r109 => (rc r109.2 1 r109.1).bind fun _ => (gd r109.2 [(0, .ref p0a), (1, .int x1a), (2, .int r1), (3, .int r2)] [.ref p0a]).bind fun _ => (f_J4_toString_0e30d r109.1 r109.2).bind fun r111 => (f_L_runs p0a r111.1 r111.2).bind fun r114 => if r114.1 < 0 then (some (0, r114.2)) else (some (1, r114.2))) else ((gd M [(0, .ref p0a), (1, .int x1a), (2, .int r1), (3, .int r2)] [.ref p0a]).bind fun _ => (some (mNew M 1 0)).bind fun M89 => (gd M89 [(0, .ref p0a), (1, .int x1a), (2, .int r1), (3, .int r2)] [.ref (mN M), .ref p0a]).bind fun _ => (f_J4_init_da8c8 (mN M) M89).bind fun r90 => (rc r90.2 1 (mN M)).bind fun _ => (f_J4_append_15ec4 (mN M) (ROB + 42) r90.2).bind fun r92 => (rc r92.2 1 r92.1).bind fun _ => (f_J4_append_bf812 r92.1 r1 r92.2).bind fun r94 => (rc r94.2 1 r94.1).bind fun _ => (f_J4_append_15ec4 r94.1 (ROB + 43) r94.2).bind fun r96 => (rc r96.2 1 r96.1).bind fun _ => (gd r96.2 [(0, .ref p0a), (1, .int x1a), (2, .int r1), (3, .int r2)] [.ref p0a]).bind fun _ => (f_J4_toString_0e30d r96.1 r96.2).bind fun r98 => (f_L_runs p0a r98.1 r98.2).bind fun r101 => if r101.1 < 0 then (some (0, r101.2)) else (some (1, r101.2)))) else ((f_L_some (x1a >>> (12 &&& 31)) 5 M).bind fun r4 => (f_L_put p0a r1 r2 r4 M).bind fun r5 => if r5.1 < 0 then (some (0, r5.2)) else (some (1, r5.2)))))))))))))))))))))
set_option maxRecDepth 20000 in
theorem ev_L_changes {G : Nat × (Nat → Int32) × Value} (hv : rob G.2.2) {p0a : Nat} {x1a : Int32} {M : Mem} {r : Int32 × Mem} (h : f_L_changes p0a x1a M = some r) : Ev (roG G) true YL_changes 12 37 [.ref p0a, .int x1a] M (fun a b => a = wI r.1 ∧ b = r.2) := by
  refine ev_of cyL_changes.2.2.2.2 (Nat.le_of_ble_eq_true rfl) ?_
  show Fr _ _ _ _ _ _ 0 [(0, .ref p0a), (1, .int x1a)] [] M _
  unfold f_L_changes at h
  refine fr_iload_n 1 dL_changes_0 rfl ?_
  refine fr_iconst (v := 4) dL_changes_1 (by decide) ?_
  refine fr_ishr dL_changes_2 ?_
  refine fr_bipush (v := 10) dL_changes_3 (by decide) ?_
  obtain ⟨r1, er1, h⟩ := ob h
  try dsimp only at h
  refine fr_callS (g1 := false) (k2 := 37) (ev_L_some er1) rfl cyL_some w_875 w_876 (by rfl) (by omega) (by omega) (by rfl) (Nat.le_of_ble_eq_true rfl) dL_changes_5 (Or.inl rfl) (fun v M9 q _ => ?_) (fun E M9 q _ => (Sum.inr_ne_inl q.1).elim)
  obtain rfl : v = some (.int r1) := Sum.inl.inj q.1
  obtain rfl := q.2.symm
  refine fr_st (S' := [.int r1]) rfl ?_
  refine fr_istore_n (L' := [(0, .ref p0a), (1, .int x1a), (2, .int r1)]) dL_changes_8 (by decide) rfl ?_
  refine fr_iload_n 1 dL_changes_9 rfl ?_
  refine fr_bipush (v := 8) dL_changes_10 (by decide) ?_
  refine fr_ishr dL_changes_12 ?_
  refine fr_bipush (v := 10) dL_changes_13 (by decide) ?_
  obtain ⟨r2, er2, h⟩ := ob h
  try dsimp only at h
  refine fr_callS (g1 := false) (k2 := 37) (ev_L_some er2) rfl cyL_some w_875 w_876 (by rfl) (by omega) (by omega) (by rfl) (Nat.le_of_ble_eq_true rfl) dL_changes_15 (Or.inl rfl) (fun v M9 q _ => ?_) (fun E M9 q _ => (Sum.inr_ne_inl q.1).elim)
  obtain rfl : v = some (.int r2) := Sum.inl.inj q.1
  obtain rfl := q.2.symm
  refine fr_st (S' := [.int r2]) rfl ?_
  refine fr_istore_n (L' := [(0, .ref p0a), (1, .int x1a), (2, .int r1), (3, .int r2)]) dL_changes_18 (by decide) rfl ?_
  refine fr_iload_n 1 dL_changes_19 rfl ?_
  refine fr_bipush (v := 24) dL_changes_20 (by decide) ?_
  obtain ⟨r3, er3, h⟩ := ob h
  try dsimp only at h
  refine fr_callS (g1 := false) (k2 := 37) (ev_L_some er3) rfl cyL_some w_875 w_876 (by rfl) (by omega) (by omega) (by rfl) (Nat.le_of_ble_eq_true rfl) dL_changes_22 (Or.inl rfl) (fun v M9 q _ => ?_) (fun E M9 q _ => (Sum.inr_ne_inl q.1).elim)
  obtain rfl : v = some (.int r3) := Sum.inl.inj q.1
  obtain rfl := q.2.symm
  refine fr_st (S' := [.int r3]) rfl ?_
  by_cases c7_0 : r3 = 0
  · rw [if_pos c7_0] at h
    refine fr_swIn (off := 87) 112 dL_changes_25 (by rw [c7_0]; decide) (by rw [c7_0]; decide) (by rw [c7_0]; rfl) (by decide) ?_
    refine fr_aload_n 0 dL_changes_112 rfl ?_
    refine fr_iload_n 1 dL_changes_113 rfl ?_
    refine fr_iconst (v := 4) dL_changes_114 (by decide) ?_
    refine fr_ishr dL_changes_115 ?_
    refine fr_bipush (v := 11) dL_changes_116 (by decide) ?_
    obtain ⟨r8, er8, h⟩ := ob h
    try dsimp only at h
    refine fr_callS (g1 := false) (k2 := 37) (ev_L_some er8) rfl cyL_some w_875 w_876 (by rfl) (by omega) (by omega) (by rfl) (Nat.le_of_ble_eq_true rfl) dL_changes_118 (Or.inl rfl) (fun v M9 q _ => ?_) (fun E M9 q _ => (Sum.inr_ne_inl q.1).elim)
    obtain rfl : v = some (.int r8) := Sum.inl.inj q.1
    obtain rfl := q.2.symm
    refine fr_st (S' := [.int r8, .ref p0a]) rfl ?_
    refine fr_iload_n 1 dL_changes_121 rfl ?_
    refine fr_iconst (v := 5) dL_changes_122 (by decide) ?_
    refine fr_ishr dL_changes_123 ?_
    refine fr_iconst (v := 3) dL_changes_124 (by decide) ?_
    obtain ⟨r9, er9, h⟩ := ob h
    try dsimp only at h
    refine fr_callS (g1 := false) (k2 := 37) (ev_L_some er9) rfl cyL_some w_875 w_876 (by rfl) (by omega) (by omega) (by rfl) (Nat.le_of_ble_eq_true rfl) dL_changes_125 (Or.inl rfl) (fun v M9 q _ => ?_) (fun E M9 q _ => (Sum.inr_ne_inl q.1).elim)
    obtain rfl : v = some (.int r9) := Sum.inl.inj q.1
    obtain rfl := q.2.symm
    refine fr_st (S' := [.int r9, .int r8, .ref p0a]) rfl ?_
    refine fr_iload_n 1 dL_changes_128 rfl ?_
    refine fr_bipush (v := 7) dL_changes_129 (by decide) ?_
    refine fr_ishr dL_changes_131 ?_
    refine fr_iconst (v := 3) dL_changes_132 (by decide) ?_
    obtain ⟨r10, er10, h⟩ := ob h
    try dsimp only at h
    refine fr_callS (g1 := false) (k2 := 37) (ev_L_some er10) rfl cyL_some w_875 w_876 (by rfl) (by omega) (by omega) (by rfl) (Nat.le_of_ble_eq_true rfl) dL_changes_133 (Or.inl rfl) (fun v M9 q _ => ?_) (fun E M9 q _ => (Sum.inr_ne_inl q.1).elim)
    obtain rfl : v = some (.int r10) := Sum.inl.inj q.1
    obtain rfl := q.2.symm
    refine fr_st (S' := [.int r10, .int r9, .int r8, .ref p0a]) rfl ?_
    refine fr_iload_n 1 dL_changes_136 rfl ?_
    refine fr_bipush (v := 9) dL_changes_137 (by decide) ?_
    refine fr_ishr dL_changes_139 ?_
    refine fr_iconst (v := 3) dL_changes_140 (by decide) ?_
    obtain ⟨r11, er11, h⟩ := ob h
    try dsimp only at h
    refine fr_callS (g1 := false) (k2 := 37) (ev_L_some er11) rfl cyL_some w_875 w_876 (by rfl) (by omega) (by omega) (by rfl) (Nat.le_of_ble_eq_true rfl) dL_changes_141 (Or.inl rfl) (fun v M9 q _ => ?_) (fun E M9 q _ => (Sum.inr_ne_inl q.1).elim)
    obtain rfl : v = some (.int r11) := Sum.inl.inj q.1
    obtain rfl := q.2.symm
    refine fr_st (S' := [.int r11, .int r10, .int r9, .int r8, .ref p0a]) rfl ?_
    refine fr_ldcS (q := ROB + 38) (show _ ∈ roS from List.mem_of_getElem? (i := 18) rfl) dL_changes_144 ?_
    refine fr_iload_n 1 dL_changes_146 rfl ?_
    refine fr_bipush (v := 11) dL_changes_147 (by decide) ?_
    refine fr_ishr dL_changes_149 ?_
    refine fr_iconst (v := 4) dL_changes_150 (by decide) ?_
    obtain ⟨r12, er12, h⟩ := ob h
    try dsimp only at h
    refine fr_callS (g1 := false) (k2 := 37) (ev_L_some er12) rfl cyL_some w_875 w_876 (by rfl) (by omega) (by omega) (by rfl) (Nat.le_of_ble_eq_true rfl) dL_changes_151 (Or.inl rfl) (fun v M9 q _ => ?_) (fun E M9 q _ => (Sum.inr_ne_inl q.1).elim)
    obtain rfl : v = some (.int r12) := Sum.inl.inj q.1
    obtain rfl := q.2.symm
    refine fr_st (S' := [.int r12, .ref (ROB + 38), .int r11, .int r10, .int r9, .int r8, .ref p0a]) rfl ?_
    obtain ⟨u14, eu14, h⟩ := ob h
    try dsimp only at h
    obtain ⟨r13, er13, h⟩ := ob h
    try dsimp only at h
    refine fr_callV (g1 := false) (k2 := 37) (ev_J0_charAt_5068e er13) rfl cyJ0_charAt_5068e w_879 w_758 w_759 (rcS_ok eu14) (by rfl) (by omega) (by omega) (by rfl) (Nat.le_of_ble_eq_true rfl) dL_changes_154 (Or.inl rfl) (fun v M9 q _ => ?_) (fun E M9 q _ => (Sum.inr_ne_inl q.1).elim)
    obtain rfl : v = some (.int r13) := Sum.inl.inj q.1
    obtain rfl := q.2.symm
    refine fr_st (S' := [.int r13, .int r11, .int r10, .int r9, .int r8, .ref p0a]) rfl ?_
    obtain ⟨r15, er15, h⟩ := ob h
    try dsimp only at h
    refine fr_callSX (g1 := false) (k2 := 36) (ev_L_addSheet er15) rfl cyL_addSheet w_293 w_294 (by rfl) (by omega) (by omega) (by rfl) (Nat.le_of_ble_eq_true rfl) dL_changes_157 (Or.inl rfl) (fun v M9 q _ => ?_) (fun E M9 q _ => (Sum.inr_ne_inl q.1).elim)
    obtain rfl : v = some (.int r15.1) := Sum.inl.inj q.1
    obtain rfl := q.2.symm
    refine fr_st (S' := [.int r15.1]) rfl ?_
    refine fr_if_lt 167 dL_changes_160 (by decide) (fun c16 => ?_) (fun c16 => ?_)
    · rw [if_pos c16] at h
      refine fr_iconst (v := 0) dL_changes_167 (by decide) ?_
      obtain rfl := Option.some.inj h
      exact fr_zret (ty := .boolean) rfl rfl dL_changes_168 ⟨rfl, rfl⟩
    · rw [if_neg c16] at h
      refine fr_iconst (v := 1) dL_changes_163 (by decide) ?_
      refine fr_goto 168 dL_changes_164 (by decide) ?_
      obtain rfl := Option.some.inj h
      exact fr_zret (ty := .boolean) rfl rfl dL_changes_168 ⟨rfl, rfl⟩
  rw [if_neg c7_0] at h
  by_cases c7_1 : r3 = 1
  · rw [if_pos c7_1] at h
    refine fr_swIn (off := 144) 169 dL_changes_25 (by rw [c7_1]; decide) (by rw [c7_1]; decide) (by rw [c7_1]; rfl) (by decide) ?_
    refine fr_aload_n 0 dL_changes_169 rfl ?_
    refine fr_iload_n 2 dL_changes_170 rfl ?_
    refine fr_ldcS (q := ROB + 39) (show _ ∈ roS from List.mem_of_getElem? (i := 19) rfl) dL_changes_171 ?_
    refine fr_iload_n 1 dL_changes_173 rfl ?_
    refine fr_bipush (v := 8) dL_changes_174 (by decide) ?_
    refine fr_ishr dL_changes_176 ?_
    refine fr_iconst (v := 3) dL_changes_177 (by decide) ?_
    obtain ⟨r17, er17, h⟩ := ob h
    try dsimp only at h
    refine fr_callS (g1 := false) (k2 := 37) (ev_L_some er17) rfl cyL_some w_875 w_876 (by rfl) (by omega) (by omega) (by rfl) (Nat.le_of_ble_eq_true rfl) dL_changes_178 (Or.inl rfl) (fun v M9 q _ => ?_) (fun E M9 q _ => (Sum.inr_ne_inl q.1).elim)
    obtain rfl : v = some (.int r17) := Sum.inl.inj q.1
    obtain rfl := q.2.symm
    refine fr_st (S' := [.int r17, .ref (ROB + 39), .int r1, .ref p0a]) rfl ?_
    obtain ⟨u19, eu19, h⟩ := ob h
    try dsimp only at h
    obtain ⟨r18, er18, h⟩ := ob h
    try dsimp only at h
    refine fr_callV (g1 := false) (k2 := 37) (ev_J0_charAt_5068e er18) rfl cyJ0_charAt_5068e w_879 w_758 w_759 (rcS_ok eu19) (by rfl) (by omega) (by omega) (by rfl) (Nat.le_of_ble_eq_true rfl) dL_changes_181 (Or.inl rfl) (fun v M9 q _ => ?_) (fun E M9 q _ => (Sum.inr_ne_inl q.1).elim)
    obtain rfl : v = some (.int r18) := Sum.inl.inj q.1
    obtain rfl := q.2.symm
    refine fr_st (S' := [.int r18, .int r1, .ref p0a]) rfl ?_
    obtain ⟨r20, er20, h⟩ := ob h
    try dsimp only at h
    refine fr_callSX (g1 := false) (k2 := 36) (ev_L_addCrease er20) rfl cyL_addCrease w_471 w_472 (by rfl) (by omega) (by omega) (by rfl) (Nat.le_of_ble_eq_true rfl) dL_changes_184 (Or.inl rfl) (fun v M9 q _ => ?_) (fun E M9 q _ => (Sum.inr_ne_inl q.1).elim)
    obtain rfl : v = some (.int r20.1) := Sum.inl.inj q.1
    obtain rfl := q.2.symm
    refine fr_st (S' := [.int r20.1]) rfl ?_
    refine fr_if_lt 194 dL_changes_187 (by decide) (fun c21 => ?_) (fun c21 => ?_)
    · rw [if_pos c21] at h
      refine fr_iconst (v := 0) dL_changes_194 (by decide) ?_
      obtain rfl := Option.some.inj h
      exact fr_zret (ty := .boolean) rfl rfl dL_changes_195 ⟨rfl, rfl⟩
    · rw [if_neg c21] at h
      refine fr_iconst (v := 1) dL_changes_190 (by decide) ?_
      refine fr_goto 195 dL_changes_191 (by decide) ?_
      obtain rfl := Option.some.inj h
      exact fr_zret (ty := .boolean) rfl rfl dL_changes_195 ⟨rfl, rfl⟩
  rw [if_neg c7_1] at h
  by_cases c7_2 : r3 = 2
  · rw [if_pos c7_2] at h
    refine fr_swIn (off := 144) 169 dL_changes_25 (by rw [c7_2]; decide) (by rw [c7_2]; decide) (by rw [c7_2]; rfl) (by decide) ?_
    refine fr_aload_n 0 dL_changes_169 rfl ?_
    refine fr_iload_n 2 dL_changes_170 rfl ?_
    refine fr_ldcS (q := ROB + 39) (show _ ∈ roS from List.mem_of_getElem? (i := 19) rfl) dL_changes_171 ?_
    refine fr_iload_n 1 dL_changes_173 rfl ?_
    refine fr_bipush (v := 8) dL_changes_174 (by decide) ?_
    refine fr_ishr dL_changes_176 ?_
    refine fr_iconst (v := 3) dL_changes_177 (by decide) ?_
    obtain ⟨r22, er22, h⟩ := ob h
    try dsimp only at h
    refine fr_callS (g1 := false) (k2 := 37) (ev_L_some er22) rfl cyL_some w_875 w_876 (by rfl) (by omega) (by omega) (by rfl) (Nat.le_of_ble_eq_true rfl) dL_changes_178 (Or.inl rfl) (fun v M9 q _ => ?_) (fun E M9 q _ => (Sum.inr_ne_inl q.1).elim)
    obtain rfl : v = some (.int r22) := Sum.inl.inj q.1
    obtain rfl := q.2.symm
    refine fr_st (S' := [.int r22, .ref (ROB + 39), .int r1, .ref p0a]) rfl ?_
    obtain ⟨u24, eu24, h⟩ := ob h
    try dsimp only at h
    obtain ⟨r23, er23, h⟩ := ob h
    try dsimp only at h
    refine fr_callV (g1 := false) (k2 := 37) (ev_J0_charAt_5068e er23) rfl cyJ0_charAt_5068e w_879 w_758 w_759 (rcS_ok eu24) (by rfl) (by omega) (by omega) (by rfl) (Nat.le_of_ble_eq_true rfl) dL_changes_181 (Or.inl rfl) (fun v M9 q _ => ?_) (fun E M9 q _ => (Sum.inr_ne_inl q.1).elim)
    obtain rfl : v = some (.int r23) := Sum.inl.inj q.1
    obtain rfl := q.2.symm
    refine fr_st (S' := [.int r23, .int r1, .ref p0a]) rfl ?_
    obtain ⟨r25, er25, h⟩ := ob h
    try dsimp only at h
    refine fr_callSX (g1 := false) (k2 := 36) (ev_L_addCrease er25) rfl cyL_addCrease w_471 w_472 (by rfl) (by omega) (by omega) (by rfl) (Nat.le_of_ble_eq_true rfl) dL_changes_184 (Or.inl rfl) (fun v M9 q _ => ?_) (fun E M9 q _ => (Sum.inr_ne_inl q.1).elim)
    obtain rfl : v = some (.int r25.1) := Sum.inl.inj q.1
    obtain rfl := q.2.symm
    refine fr_st (S' := [.int r25.1]) rfl ?_
    refine fr_if_lt 194 dL_changes_187 (by decide) (fun c26 => ?_) (fun c26 => ?_)
    · rw [if_pos c26] at h
      refine fr_iconst (v := 0) dL_changes_194 (by decide) ?_
      obtain rfl := Option.some.inj h
      exact fr_zret (ty := .boolean) rfl rfl dL_changes_195 ⟨rfl, rfl⟩
    · rw [if_neg c26] at h
      refine fr_iconst (v := 1) dL_changes_190 (by decide) ?_
      refine fr_goto 195 dL_changes_191 (by decide) ?_
      obtain rfl := Option.some.inj h
      exact fr_zret (ty := .boolean) rfl rfl dL_changes_195 ⟨rfl, rfl⟩
  rw [if_neg c7_2] at h
  by_cases c7_3 : r3 = 3
  · rw [if_pos c7_3] at h
    refine fr_swIn (off := 144) 169 dL_changes_25 (by rw [c7_3]; decide) (by rw [c7_3]; decide) (by rw [c7_3]; rfl) (by decide) ?_
    refine fr_aload_n 0 dL_changes_169 rfl ?_
    refine fr_iload_n 2 dL_changes_170 rfl ?_
    refine fr_ldcS (q := ROB + 39) (show _ ∈ roS from List.mem_of_getElem? (i := 19) rfl) dL_changes_171 ?_
    refine fr_iload_n 1 dL_changes_173 rfl ?_
    refine fr_bipush (v := 8) dL_changes_174 (by decide) ?_
    refine fr_ishr dL_changes_176 ?_
    refine fr_iconst (v := 3) dL_changes_177 (by decide) ?_
    obtain ⟨r27, er27, h⟩ := ob h
    try dsimp only at h
    refine fr_callS (g1 := false) (k2 := 37) (ev_L_some er27) rfl cyL_some w_875 w_876 (by rfl) (by omega) (by omega) (by rfl) (Nat.le_of_ble_eq_true rfl) dL_changes_178 (Or.inl rfl) (fun v M9 q _ => ?_) (fun E M9 q _ => (Sum.inr_ne_inl q.1).elim)
    obtain rfl : v = some (.int r27) := Sum.inl.inj q.1
    obtain rfl := q.2.symm
    refine fr_st (S' := [.int r27, .ref (ROB + 39), .int r1, .ref p0a]) rfl ?_
    obtain ⟨u29, eu29, h⟩ := ob h
    try dsimp only at h
    obtain ⟨r28, er28, h⟩ := ob h
    try dsimp only at h
    refine fr_callV (g1 := false) (k2 := 37) (ev_J0_charAt_5068e er28) rfl cyJ0_charAt_5068e w_879 w_758 w_759 (rcS_ok eu29) (by rfl) (by omega) (by omega) (by rfl) (Nat.le_of_ble_eq_true rfl) dL_changes_181 (Or.inl rfl) (fun v M9 q _ => ?_) (fun E M9 q _ => (Sum.inr_ne_inl q.1).elim)
    obtain rfl : v = some (.int r28) := Sum.inl.inj q.1
    obtain rfl := q.2.symm
    refine fr_st (S' := [.int r28, .int r1, .ref p0a]) rfl ?_
    obtain ⟨r30, er30, h⟩ := ob h
    try dsimp only at h
    refine fr_callSX (g1 := false) (k2 := 36) (ev_L_addCrease er30) rfl cyL_addCrease w_471 w_472 (by rfl) (by omega) (by omega) (by rfl) (Nat.le_of_ble_eq_true rfl) dL_changes_184 (Or.inl rfl) (fun v M9 q _ => ?_) (fun E M9 q _ => (Sum.inr_ne_inl q.1).elim)
    obtain rfl : v = some (.int r30.1) := Sum.inl.inj q.1
    obtain rfl := q.2.symm
    refine fr_st (S' := [.int r30.1]) rfl ?_
    refine fr_if_lt 194 dL_changes_187 (by decide) (fun c31 => ?_) (fun c31 => ?_)
    · rw [if_pos c31] at h
      refine fr_iconst (v := 0) dL_changes_194 (by decide) ?_
      obtain rfl := Option.some.inj h
      exact fr_zret (ty := .boolean) rfl rfl dL_changes_195 ⟨rfl, rfl⟩
    · rw [if_neg c31] at h
      refine fr_iconst (v := 1) dL_changes_190 (by decide) ?_
      refine fr_goto 195 dL_changes_191 (by decide) ?_
      obtain rfl := Option.some.inj h
      exact fr_zret (ty := .boolean) rfl rfl dL_changes_195 ⟨rfl, rfl⟩
  rw [if_neg c7_3] at h
  by_cases c7_4 : r3 = 4
  · rw [if_pos c7_4] at h
    refine fr_swIn (off := 171) 196 dL_changes_25 (by rw [c7_4]; decide) (by rw [c7_4]; decide) (by rw [c7_4]; rfl) (by decide) ?_
    refine fr_aload_n 0 dL_changes_196 rfl ?_
    refine fr_iload_n 2 dL_changes_197 rfl ?_
    obtain ⟨r32, er32, h⟩ := ob h
    try dsimp only at h
    refine fr_callSX (g1 := false) (k2 := 36) (ev_L_fold er32) rfl cyL_fold w_510 w_511 (by rfl) (by omega) (by omega) (by rfl) (Nat.le_of_ble_eq_true rfl) dL_changes_198 (Or.inl rfl) (fun v M9 q _ => ?_) (fun E M9 q _ => (Sum.inr_ne_inl q.1).elim)
    obtain rfl : v = some (.int r32.1) := Sum.inl.inj q.1
    obtain rfl := q.2.symm
    refine fr_st (S' := [.int r32.1]) rfl ?_
    refine fr_if_lt 208 dL_changes_201 (by decide) (fun c33 => ?_) (fun c33 => ?_)
    · rw [if_pos c33] at h
      refine fr_iconst (v := 0) dL_changes_208 (by decide) ?_
      obtain rfl := Option.some.inj h
      exact fr_zret (ty := .boolean) rfl rfl dL_changes_209 ⟨rfl, rfl⟩
    · rw [if_neg c33] at h
      refine fr_iconst (v := 1) dL_changes_204 (by decide) ?_
      refine fr_goto 209 dL_changes_205 (by decide) ?_
      obtain rfl := Option.some.inj h
      exact fr_zret (ty := .boolean) rfl rfl dL_changes_209 ⟨rfl, rfl⟩
  rw [if_neg c7_4] at h
  by_cases c7_5 : r3 = 5
  · rw [if_pos c7_5] at h
    refine fr_swIn (off := 171) 196 dL_changes_25 (by rw [c7_5]; decide) (by rw [c7_5]; decide) (by rw [c7_5]; rfl) (by decide) ?_
    refine fr_aload_n 0 dL_changes_196 rfl ?_
    refine fr_iload_n 2 dL_changes_197 rfl ?_
    obtain ⟨r34, er34, h⟩ := ob h
    try dsimp only at h
    refine fr_callSX (g1 := false) (k2 := 36) (ev_L_fold er34) rfl cyL_fold w_510 w_511 (by rfl) (by omega) (by omega) (by rfl) (Nat.le_of_ble_eq_true rfl) dL_changes_198 (Or.inl rfl) (fun v M9 q _ => ?_) (fun E M9 q _ => (Sum.inr_ne_inl q.1).elim)
    obtain rfl : v = some (.int r34.1) := Sum.inl.inj q.1
    obtain rfl := q.2.symm
    refine fr_st (S' := [.int r34.1]) rfl ?_
    refine fr_if_lt 208 dL_changes_201 (by decide) (fun c35 => ?_) (fun c35 => ?_)
    · rw [if_pos c35] at h
      refine fr_iconst (v := 0) dL_changes_208 (by decide) ?_
      obtain rfl := Option.some.inj h
      exact fr_zret (ty := .boolean) rfl rfl dL_changes_209 ⟨rfl, rfl⟩
    · rw [if_neg c35] at h
      refine fr_iconst (v := 1) dL_changes_204 (by decide) ?_
      refine fr_goto 209 dL_changes_205 (by decide) ?_
      obtain rfl := Option.some.inj h
      exact fr_zret (ty := .boolean) rfl rfl dL_changes_209 ⟨rfl, rfl⟩
  rw [if_neg c7_5] at h
  by_cases c7_6 : r3 = 6
  · rw [if_pos c7_6] at h
    refine fr_swIn (off := 171) 196 dL_changes_25 (by rw [c7_6]; decide) (by rw [c7_6]; decide) (by rw [c7_6]; rfl) (by decide) ?_
    refine fr_aload_n 0 dL_changes_196 rfl ?_
    refine fr_iload_n 2 dL_changes_197 rfl ?_
    obtain ⟨r36, er36, h⟩ := ob h
    try dsimp only at h
    refine fr_callSX (g1 := false) (k2 := 36) (ev_L_fold er36) rfl cyL_fold w_510 w_511 (by rfl) (by omega) (by omega) (by rfl) (Nat.le_of_ble_eq_true rfl) dL_changes_198 (Or.inl rfl) (fun v M9 q _ => ?_) (fun E M9 q _ => (Sum.inr_ne_inl q.1).elim)
    obtain rfl : v = some (.int r36.1) := Sum.inl.inj q.1
    obtain rfl := q.2.symm
    refine fr_st (S' := [.int r36.1]) rfl ?_
    refine fr_if_lt 208 dL_changes_201 (by decide) (fun c37 => ?_) (fun c37 => ?_)
    · rw [if_pos c37] at h
      refine fr_iconst (v := 0) dL_changes_208 (by decide) ?_
      obtain rfl := Option.some.inj h
      exact fr_zret (ty := .boolean) rfl rfl dL_changes_209 ⟨rfl, rfl⟩
    · rw [if_neg c37] at h
      refine fr_iconst (v := 1) dL_changes_204 (by decide) ?_
      refine fr_goto 209 dL_changes_205 (by decide) ?_
      obtain rfl := Option.some.inj h
      exact fr_zret (ty := .boolean) rfl rfl dL_changes_209 ⟨rfl, rfl⟩
  rw [if_neg c7_6] at h
  by_cases c7_7 : r3 = 7
  · rw [if_pos c7_7] at h
    refine fr_swIn (off := 185) 210 dL_changes_25 (by rw [c7_7]; decide) (by rw [c7_7]; decide) (by rw [c7_7]; rfl) (by decide) ?_
    refine fr_aload_n 0 dL_changes_210 rfl ?_
    refine fr_iload_n 2 dL_changes_211 rfl ?_
    obtain ⟨r38, er38, h⟩ := ob h
    try dsimp only at h
    refine fr_callSX (g1 := false) (k2 := 36) (ev_L_unfold er38) rfl cyL_unfold w_526 w_527 (by rfl) (by omega) (by omega) (by rfl) (Nat.le_of_ble_eq_true rfl) dL_changes_212 (Or.inl rfl) (fun v M9 q _ => ?_) (fun E M9 q _ => (Sum.inr_ne_inl q.1).elim)
    obtain rfl : v = some (.int r38.1) := Sum.inl.inj q.1
    obtain rfl := q.2.symm
    refine fr_st (S' := [.int r38.1]) rfl ?_
    refine fr_if_lt 222 dL_changes_215 (by decide) (fun c39 => ?_) (fun c39 => ?_)
    · rw [if_pos c39] at h
      refine fr_iconst (v := 0) dL_changes_222 (by decide) ?_
      obtain rfl := Option.some.inj h
      exact fr_zret (ty := .boolean) rfl rfl dL_changes_223 ⟨rfl, rfl⟩
    · rw [if_neg c39] at h
      refine fr_iconst (v := 1) dL_changes_218 (by decide) ?_
      refine fr_goto 223 dL_changes_219 (by decide) ?_
      obtain rfl := Option.some.inj h
      exact fr_zret (ty := .boolean) rfl rfl dL_changes_223 ⟨rfl, rfl⟩
  rw [if_neg c7_7] at h
  by_cases c7_8 : r3 = 8
  · rw [if_pos c7_8] at h
    refine fr_swIn (off := 185) 210 dL_changes_25 (by rw [c7_8]; decide) (by rw [c7_8]; decide) (by rw [c7_8]; rfl) (by decide) ?_
    refine fr_aload_n 0 dL_changes_210 rfl ?_
    refine fr_iload_n 2 dL_changes_211 rfl ?_
    obtain ⟨r40, er40, h⟩ := ob h
    try dsimp only at h
    refine fr_callSX (g1 := false) (k2 := 36) (ev_L_unfold er40) rfl cyL_unfold w_526 w_527 (by rfl) (by omega) (by omega) (by rfl) (Nat.le_of_ble_eq_true rfl) dL_changes_212 (Or.inl rfl) (fun v M9 q _ => ?_) (fun E M9 q _ => (Sum.inr_ne_inl q.1).elim)
    obtain rfl : v = some (.int r40.1) := Sum.inl.inj q.1
    obtain rfl := q.2.symm
    refine fr_st (S' := [.int r40.1]) rfl ?_
    refine fr_if_lt 222 dL_changes_215 (by decide) (fun c41 => ?_) (fun c41 => ?_)
    · rw [if_pos c41] at h
      refine fr_iconst (v := 0) dL_changes_222 (by decide) ?_
      obtain rfl := Option.some.inj h
      exact fr_zret (ty := .boolean) rfl rfl dL_changes_223 ⟨rfl, rfl⟩
    · rw [if_neg c41] at h
      refine fr_iconst (v := 1) dL_changes_218 (by decide) ?_
      refine fr_goto 223 dL_changes_219 (by decide) ?_
      obtain rfl := Option.some.inj h
      exact fr_zret (ty := .boolean) rfl rfl dL_changes_223 ⟨rfl, rfl⟩
  rw [if_neg c7_8] at h
  by_cases c7_9 : r3 = 9
  · rw [if_pos c7_9] at h
    refine fr_swIn (off := 199) 224 dL_changes_25 (by rw [c7_9]; decide) (by rw [c7_9]; decide) (by rw [c7_9]; rfl) (by decide) ?_
    refine fr_aload_n 0 dL_changes_224 rfl ?_
    refine fr_iload_n 2 dL_changes_225 rfl ?_
    obtain ⟨r42, er42, h⟩ := ob h
    try dsimp only at h
    refine fr_callSX (g1 := false) (k2 := 36) (ev_L_mend er42) rfl cyL_mend w_541 w_542 (by rfl) (by omega) (by omega) (by rfl) (Nat.le_of_ble_eq_true rfl) dL_changes_226 (Or.inl rfl) (fun v M9 q _ => ?_) (fun E M9 q _ => (Sum.inr_ne_inl q.1).elim)
    obtain rfl : v = some (.int r42.1) := Sum.inl.inj q.1
    obtain rfl := q.2.symm
    refine fr_st (S' := [.int r42.1]) rfl ?_
    refine fr_if_lt 236 dL_changes_229 (by decide) (fun c43 => ?_) (fun c43 => ?_)
    · rw [if_pos c43] at h
      refine fr_iconst (v := 0) dL_changes_236 (by decide) ?_
      obtain rfl := Option.some.inj h
      exact fr_zret (ty := .boolean) rfl rfl dL_changes_237 ⟨rfl, rfl⟩
    · rw [if_neg c43] at h
      refine fr_iconst (v := 1) dL_changes_232 (by decide) ?_
      refine fr_goto 237 dL_changes_233 (by decide) ?_
      obtain rfl := Option.some.inj h
      exact fr_zret (ty := .boolean) rfl rfl dL_changes_237 ⟨rfl, rfl⟩
  rw [if_neg c7_9] at h
  by_cases c7_10 : r3 = 10
  · rw [if_pos c7_10] at h
    refine fr_swIn (off := 199) 224 dL_changes_25 (by rw [c7_10]; decide) (by rw [c7_10]; decide) (by rw [c7_10]; rfl) (by decide) ?_
    refine fr_aload_n 0 dL_changes_224 rfl ?_
    refine fr_iload_n 2 dL_changes_225 rfl ?_
    obtain ⟨r44, er44, h⟩ := ob h
    try dsimp only at h
    refine fr_callSX (g1 := false) (k2 := 36) (ev_L_mend er44) rfl cyL_mend w_541 w_542 (by rfl) (by omega) (by omega) (by rfl) (Nat.le_of_ble_eq_true rfl) dL_changes_226 (Or.inl rfl) (fun v M9 q _ => ?_) (fun E M9 q _ => (Sum.inr_ne_inl q.1).elim)
    obtain rfl : v = some (.int r44.1) := Sum.inl.inj q.1
    obtain rfl := q.2.symm
    refine fr_st (S' := [.int r44.1]) rfl ?_
    refine fr_if_lt 236 dL_changes_229 (by decide) (fun c45 => ?_) (fun c45 => ?_)
    · rw [if_pos c45] at h
      refine fr_iconst (v := 0) dL_changes_236 (by decide) ?_
      obtain rfl := Option.some.inj h
      exact fr_zret (ty := .boolean) rfl rfl dL_changes_237 ⟨rfl, rfl⟩
    · rw [if_neg c45] at h
      refine fr_iconst (v := 1) dL_changes_232 (by decide) ?_
      refine fr_goto 237 dL_changes_233 (by decide) ?_
      obtain rfl := Option.some.inj h
      exact fr_zret (ty := .boolean) rfl rfl dL_changes_237 ⟨rfl, rfl⟩
  rw [if_neg c7_10] at h
  by_cases c7_11 : r3 = 11
  · rw [if_pos c7_11] at h
    refine fr_swIn (off := 213) 238 dL_changes_25 (by rw [c7_11]; decide) (by rw [c7_11]; decide) (by rw [c7_11]; rfl) (by decide) ?_
    refine fr_aload_n 0 dL_changes_238 rfl ?_
    refine fr_iload_n 1 dL_changes_239 rfl ?_
    refine fr_iconst (v := 4) dL_changes_240 (by decide) ?_
    refine fr_ishr dL_changes_241 ?_
    refine fr_bipush (v := 23) dL_changes_242 (by decide) ?_
    obtain ⟨r46, er46, h⟩ := ob h
    try dsimp only at h
    refine fr_callS (g1 := false) (k2 := 37) (ev_L_some er46) rfl cyL_some w_875 w_876 (by rfl) (by omega) (by omega) (by rfl) (Nat.le_of_ble_eq_true rfl) dL_changes_244 (Or.inl rfl) (fun v M9 q _ => ?_) (fun E M9 q _ => (Sum.inr_ne_inl q.1).elim)
    obtain rfl : v = some (.int r46) := Sum.inl.inj q.1
    obtain rfl := q.2.symm
    refine fr_st (S' := [.int r46, .ref p0a]) rfl ?_
    obtain ⟨r47, er47, h⟩ := ob h
    try dsimp only at h
    refine fr_callSX (g1 := false) (k2 := 36) (ev_L_addPaste er47) rfl cyL_addPaste w_637 w_638 (by rfl) (by omega) (by omega) (by rfl) (Nat.le_of_ble_eq_true rfl) dL_changes_247 (Or.inl rfl) (fun v M9 q _ => ?_) (fun E M9 q _ => (Sum.inr_ne_inl q.1).elim)
    obtain rfl : v = some (.int r47.1) := Sum.inl.inj q.1
    obtain rfl := q.2.symm
    refine fr_st (S' := [.int r47.1]) rfl ?_
    refine fr_if_lt 257 dL_changes_250 (by decide) (fun c48 => ?_) (fun c48 => ?_)
    · rw [if_pos c48] at h
      refine fr_iconst (v := 0) dL_changes_257 (by decide) ?_
      obtain rfl := Option.some.inj h
      exact fr_zret (ty := .boolean) rfl rfl dL_changes_258 ⟨rfl, rfl⟩
    · rw [if_neg c48] at h
      refine fr_iconst (v := 1) dL_changes_253 (by decide) ?_
      refine fr_goto 258 dL_changes_254 (by decide) ?_
      obtain rfl := Option.some.inj h
      exact fr_zret (ty := .boolean) rfl rfl dL_changes_258 ⟨rfl, rfl⟩
  rw [if_neg c7_11] at h
  by_cases c7_12 : r3 = 12
  · rw [if_pos c7_12] at h
    refine fr_swIn (off := 213) 238 dL_changes_25 (by rw [c7_12]; decide) (by rw [c7_12]; decide) (by rw [c7_12]; rfl) (by decide) ?_
    refine fr_aload_n 0 dL_changes_238 rfl ?_
    refine fr_iload_n 1 dL_changes_239 rfl ?_
    refine fr_iconst (v := 4) dL_changes_240 (by decide) ?_
    refine fr_ishr dL_changes_241 ?_
    refine fr_bipush (v := 23) dL_changes_242 (by decide) ?_
    obtain ⟨r49, er49, h⟩ := ob h
    try dsimp only at h
    refine fr_callS (g1 := false) (k2 := 37) (ev_L_some er49) rfl cyL_some w_875 w_876 (by rfl) (by omega) (by omega) (by rfl) (Nat.le_of_ble_eq_true rfl) dL_changes_244 (Or.inl rfl) (fun v M9 q _ => ?_) (fun E M9 q _ => (Sum.inr_ne_inl q.1).elim)
    obtain rfl : v = some (.int r49) := Sum.inl.inj q.1
    obtain rfl := q.2.symm
    refine fr_st (S' := [.int r49, .ref p0a]) rfl ?_
    obtain ⟨r50, er50, h⟩ := ob h
    try dsimp only at h
    refine fr_callSX (g1 := false) (k2 := 36) (ev_L_addPaste er50) rfl cyL_addPaste w_637 w_638 (by rfl) (by omega) (by omega) (by rfl) (Nat.le_of_ble_eq_true rfl) dL_changes_247 (Or.inl rfl) (fun v M9 q _ => ?_) (fun E M9 q _ => (Sum.inr_ne_inl q.1).elim)
    obtain rfl : v = some (.int r50.1) := Sum.inl.inj q.1
    obtain rfl := q.2.symm
    refine fr_st (S' := [.int r50.1]) rfl ?_
    refine fr_if_lt 257 dL_changes_250 (by decide) (fun c51 => ?_) (fun c51 => ?_)
    · rw [if_pos c51] at h
      refine fr_iconst (v := 0) dL_changes_257 (by decide) ?_
      obtain rfl := Option.some.inj h
      exact fr_zret (ty := .boolean) rfl rfl dL_changes_258 ⟨rfl, rfl⟩
    · rw [if_neg c51] at h
      refine fr_iconst (v := 1) dL_changes_253 (by decide) ?_
      refine fr_goto 258 dL_changes_254 (by decide) ?_
      obtain rfl := Option.some.inj h
      exact fr_zret (ty := .boolean) rfl rfl dL_changes_258 ⟨rfl, rfl⟩
  rw [if_neg c7_12] at h
  by_cases c7_13 : r3 = 13
  · rw [if_pos c7_13] at h
    refine fr_swIn (off := 234) 259 dL_changes_25 (by rw [c7_13]; decide) (by rw [c7_13]; decide) (by rw [c7_13]; rfl) (by decide) ?_
    refine fr_aload_n 0 dL_changes_259 rfl ?_
    refine fr_iload_n 3 dL_changes_260 rfl ?_
    obtain ⟨r52, er52, h⟩ := ob h
    try dsimp only at h
    refine fr_callSX (g1 := false) (k2 := 36) (ev_L_take er52) rfl cyL_take w_621 w_622 (by rfl) (by omega) (by omega) (by rfl) (Nat.le_of_ble_eq_true rfl) dL_changes_261 (Or.inl rfl) (fun v M9 q _ => ?_) (fun E M9 q _ => (Sum.inr_ne_inl q.1).elim)
    obtain rfl : v = some (.int r52.1) := Sum.inl.inj q.1
    obtain rfl := q.2.symm
    refine fr_st (S' := [.int r52.1]) rfl ?_
    refine fr_if_lt 271 dL_changes_264 (by decide) (fun c53 => ?_) (fun c53 => ?_)
    · rw [if_pos c53] at h
      refine fr_iconst (v := 0) dL_changes_271 (by decide) ?_
      obtain rfl := Option.some.inj h
      exact fr_zret (ty := .boolean) rfl rfl dL_changes_272 ⟨rfl, rfl⟩
    · rw [if_neg c53] at h
      refine fr_iconst (v := 1) dL_changes_267 (by decide) ?_
      refine fr_goto 272 dL_changes_268 (by decide) ?_
      obtain rfl := Option.some.inj h
      exact fr_zret (ty := .boolean) rfl rfl dL_changes_272 ⟨rfl, rfl⟩
  rw [if_neg c7_13] at h
  by_cases c7_14 : r3 = 14
  · rw [if_pos c7_14] at h
    refine fr_swIn (off := 234) 259 dL_changes_25 (by rw [c7_14]; decide) (by rw [c7_14]; decide) (by rw [c7_14]; rfl) (by decide) ?_
    refine fr_aload_n 0 dL_changes_259 rfl ?_
    refine fr_iload_n 3 dL_changes_260 rfl ?_
    obtain ⟨r54, er54, h⟩ := ob h
    try dsimp only at h
    refine fr_callSX (g1 := false) (k2 := 36) (ev_L_take er54) rfl cyL_take w_621 w_622 (by rfl) (by omega) (by omega) (by rfl) (Nat.le_of_ble_eq_true rfl) dL_changes_261 (Or.inl rfl) (fun v M9 q _ => ?_) (fun E M9 q _ => (Sum.inr_ne_inl q.1).elim)
    obtain rfl : v = some (.int r54.1) := Sum.inl.inj q.1
    obtain rfl := q.2.symm
    refine fr_st (S' := [.int r54.1]) rfl ?_
    refine fr_if_lt 271 dL_changes_264 (by decide) (fun c55 => ?_) (fun c55 => ?_)
    · rw [if_pos c55] at h
      refine fr_iconst (v := 0) dL_changes_271 (by decide) ?_
      obtain rfl := Option.some.inj h
      exact fr_zret (ty := .boolean) rfl rfl dL_changes_272 ⟨rfl, rfl⟩
    · rw [if_neg c55] at h
      refine fr_iconst (v := 1) dL_changes_267 (by decide) ?_
      refine fr_goto 272 dL_changes_268 (by decide) ?_
      obtain rfl := Option.some.inj h
      exact fr_zret (ty := .boolean) rfl rfl dL_changes_272 ⟨rfl, rfl⟩
  rw [if_neg c7_14] at h
  by_cases c7_15 : r3 = 15
  · rw [if_pos c7_15] at h
    refine fr_swIn (off := 234) 259 dL_changes_25 (by rw [c7_15]; decide) (by rw [c7_15]; decide) (by rw [c7_15]; rfl) (by decide) ?_
    refine fr_aload_n 0 dL_changes_259 rfl ?_
    refine fr_iload_n 3 dL_changes_260 rfl ?_
    obtain ⟨r56, er56, h⟩ := ob h
    try dsimp only at h
    refine fr_callSX (g1 := false) (k2 := 36) (ev_L_take er56) rfl cyL_take w_621 w_622 (by rfl) (by omega) (by omega) (by rfl) (Nat.le_of_ble_eq_true rfl) dL_changes_261 (Or.inl rfl) (fun v M9 q _ => ?_) (fun E M9 q _ => (Sum.inr_ne_inl q.1).elim)
    obtain rfl : v = some (.int r56.1) := Sum.inl.inj q.1
    obtain rfl := q.2.symm
    refine fr_st (S' := [.int r56.1]) rfl ?_
    refine fr_if_lt 271 dL_changes_264 (by decide) (fun c57 => ?_) (fun c57 => ?_)
    · rw [if_pos c57] at h
      refine fr_iconst (v := 0) dL_changes_271 (by decide) ?_
      obtain rfl := Option.some.inj h
      exact fr_zret (ty := .boolean) rfl rfl dL_changes_272 ⟨rfl, rfl⟩
    · rw [if_neg c57] at h
      refine fr_iconst (v := 1) dL_changes_267 (by decide) ?_
      refine fr_goto 272 dL_changes_268 (by decide) ?_
      obtain rfl := Option.some.inj h
      exact fr_zret (ty := .boolean) rfl rfl dL_changes_272 ⟨rfl, rfl⟩
  rw [if_neg c7_15] at h
  by_cases c7_16 : r3 = 16
  · rw [if_pos c7_16] at h
    refine fr_swIn (off := 248) 273 dL_changes_25 (by rw [c7_16]; decide) (by rw [c7_16]; decide) (by rw [c7_16]; rfl) (by decide) ?_
    refine fr_aload_n 0 dL_changes_273 rfl ?_
    refine fr_iload_n 1 dL_changes_274 rfl ?_
    refine fr_bipush (v := 6) dL_changes_275 (by decide) ?_
    refine fr_ishr dL_changes_277 ?_
    refine fr_iconst (v := 1) dL_changes_278 (by decide) ?_
    refine fr_iand dL_changes_279 ?_
    refine fr_if_ne 306 dL_changes_280 (by decide) (fun c58 => ?_) (fun c58 => ?_)
    · rw [if_neg c58] at h
      obtain ⟨u59, eu59, h⟩ := ob h
      try dsimp only at h
      obtain ⟨M60, eM60, h⟩ := ob h
      try dsimp only at h
      obtain rfl := Option.some.inj eM60
      refine fr_newg (k2 := 36) cb1 w_1124 w_1125 w_47 (gd_N eu59) (gd_L eu59) (roG_ok hv) (by decide) dL_changes_306 (by omega) ?_
      refine fr_dup dL_changes_309 rfl ?_
      obtain ⟨u62, eu62, h⟩ := ob h
      try dsimp only at h
      obtain ⟨r61, er61, h⟩ := ob h
      try dsimp only at h
      refine fr_callI (g1 := true) (k2 := 35) (ev_J4_init_da8c8 hv er61) rfl cyJ4_init_da8c8 rfl rfl w_1126 w_1127 (by rfl) (by omega) (by omega) (by rfl) (Nat.le_of_ble_eq_true rfl) dL_changes_310 (Or.inr ⟨rfl, gd_L eu62, roG_ok hv⟩) (fun v M9 q _ => ?_) (fun E M9 q _ => (Sum.inr_ne_inl q.1).elim)
      obtain rfl : v = none := Sum.inl.inj q.1
      obtain rfl := q.2.symm
      refine fr_st (S' := [.ref (mN M), .ref p0a]) rfl ?_
      refine fr_ldcSW (q := ROB + 42) (show _ ∈ roS from List.mem_of_getElem? (i := 22) rfl) dL_changes_313 ?_
      obtain ⟨u64, eu64, h⟩ := ob h
      try dsimp only at h
      obtain ⟨r63, er63, h⟩ := ob h
      try dsimp only at h
      refine fr_callV (g1 := false) (k2 := 35) (ev_J4_append_15ec4 er63) rfl cyJ4_append_15ec4 w_1155 w_1156 w_1157 (rc_ok eu64 rfl (by decide)) (by rfl) (by omega) (by omega) (by rfl) (Nat.le_of_ble_eq_true rfl) dL_changes_316 (Or.inl rfl) (fun v M9 q _ => ?_) (fun E M9 q _ => (Sum.inr_ne_inl q.1).elim)
      obtain rfl : v = some (.ref r63.1) := Sum.inl.inj q.1
      obtain rfl := q.2.symm
      refine fr_st (S' := [.ref r63.1, .ref p0a]) rfl ?_
      refine fr_iload_n 2 dL_changes_319 rfl ?_
      obtain ⟨u66, eu66, h⟩ := ob h
      try dsimp only at h
      obtain ⟨r65, er65, h⟩ := ob h
      try dsimp only at h
      refine fr_callV (g1 := false) (k2 := 35) (ev_J4_append_bf812 er65) rfl cyJ4_append_bf812 w_1250 w_1251 w_1252 (rc_ok eu66 rfl (by decide)) (by rfl) (by omega) (by omega) (by rfl) (Nat.le_of_ble_eq_true rfl) dL_changes_320 (Or.inl rfl) (fun v M9 q _ => ?_) (fun E M9 q _ => (Sum.inr_ne_inl q.1).elim)
      obtain rfl : v = some (.ref r65.1) := Sum.inl.inj q.1
      obtain rfl := q.2.symm
      refine fr_st (S' := [.ref r65.1, .ref p0a]) rfl ?_
      refine fr_ldcSW (q := ROB + 43) (show _ ∈ roS from List.mem_of_getElem? (i := 23) rfl) dL_changes_323 ?_
      obtain ⟨u68, eu68, h⟩ := ob h
      try dsimp only at h
      obtain ⟨r67, er67, h⟩ := ob h
      try dsimp only at h
      refine fr_callV (g1 := false) (k2 := 35) (ev_J4_append_15ec4 er67) rfl cyJ4_append_15ec4 w_1155 w_1156 w_1157 (rc_ok eu68 rfl (by decide)) (by rfl) (by omega) (by omega) (by rfl) (Nat.le_of_ble_eq_true rfl) dL_changes_326 (Or.inl rfl) (fun v M9 q _ => ?_) (fun E M9 q _ => (Sum.inr_ne_inl q.1).elim)
      obtain rfl : v = some (.ref r67.1) := Sum.inl.inj q.1
      obtain rfl := q.2.symm
      refine fr_st (S' := [.ref r67.1, .ref p0a]) rfl ?_
      obtain ⟨u71, eu71, h⟩ := ob h
      try dsimp only at h
      obtain ⟨u70, eu70, h⟩ := ob h
      try dsimp only at h
      obtain ⟨r69, er69, h⟩ := ob h
      try dsimp only at h
      refine fr_callV (g1 := true) (k2 := 33) (ev_J4_toString_0e30d hv er69) rfl cyJ4_toString_0e30d w_1275 w_1276 w_1277 (rc_ok eu71 rfl (by decide)) (by rfl) (by omega) (by omega) (by rfl) (Nat.le_of_ble_eq_true rfl) dL_changes_329 (Or.inr ⟨rfl, gd_L eu70, roG_ok hv⟩) (fun v M9 q _ => ?_) (fun E M9 q _ => (Sum.inr_ne_inl q.1).elim)
      obtain rfl : v = some (.ref r69.1) := Sum.inl.inj q.1
      obtain rfl := q.2.symm
      refine fr_st (S' := [.ref r69.1, .ref p0a]) rfl ?_
      obtain ⟨r72, er72, h⟩ := ob h
      try dsimp only at h
      refine fr_callS (g1 := false) (k2 := 12) (ev_L_runs er72) rfl cyL_runs w_1337 w_1338 (by rfl) (by omega) (by omega) (by rfl) (Nat.le_of_ble_eq_true rfl) dL_changes_332 (Or.inl rfl) (fun v M9 q _ => ?_) (fun E M9 q _ => (Sum.inr_ne_inl q.1).elim)
      obtain rfl : v = some (.int r72.1) := Sum.inl.inj q.1
      obtain rfl := q.2.symm
      refine fr_st (S' := [.int r72.1]) rfl ?_
      refine fr_if_lt 342 dL_changes_335 (by decide) (fun c73 => ?_) (fun c73 => ?_)
      · rw [if_pos c73] at h
        refine fr_iconst (v := 0) dL_changes_342 (by decide) ?_
        obtain rfl := Option.some.inj h
        exact fr_zret (ty := .boolean) rfl rfl dL_changes_343 ⟨rfl, rfl⟩
      · rw [if_neg c73] at h
        refine fr_iconst (v := 1) dL_changes_338 (by decide) ?_
        refine fr_goto 343 dL_changes_339 (by decide) ?_
        obtain rfl := Option.some.inj h
        exact fr_zret (ty := .boolean) rfl rfl dL_changes_343 ⟨rfl, rfl⟩
    · rw [if_pos c58] at h
      obtain ⟨u74, eu74, h⟩ := ob h
      try dsimp only at h
      obtain ⟨M75, eM75, h⟩ := ob h
      try dsimp only at h
      obtain rfl := Option.some.inj eM75
      refine fr_newg (k2 := 36) cb1 w_1124 w_1125 w_47 (gd_N eu74) (gd_L eu74) (roG_ok hv) (by decide) dL_changes_283 (by omega) ?_
      refine fr_dup dL_changes_286 rfl ?_
      obtain ⟨u77, eu77, h⟩ := ob h
      try dsimp only at h
      obtain ⟨r76, er76, h⟩ := ob h
      try dsimp only at h
      refine fr_callI (g1 := true) (k2 := 35) (ev_J4_init_da8c8 hv er76) rfl cyJ4_init_da8c8 rfl rfl w_1126 w_1127 (by rfl) (by omega) (by omega) (by rfl) (Nat.le_of_ble_eq_true rfl) dL_changes_287 (Or.inr ⟨rfl, gd_L eu77, roG_ok hv⟩) (fun v M9 q _ => ?_) (fun E M9 q _ => (Sum.inr_ne_inl q.1).elim)
      obtain rfl : v = none := Sum.inl.inj q.1
      obtain rfl := q.2.symm
      refine fr_st (S' := [.ref (mN M), .ref p0a]) rfl ?_
      refine fr_ldcSW (q := ROB + 40) (show _ ∈ roS from List.mem_of_getElem? (i := 20) rfl) dL_changes_290 ?_
      obtain ⟨u79, eu79, h⟩ := ob h
      try dsimp only at h
      obtain ⟨r78, er78, h⟩ := ob h
      try dsimp only at h
      refine fr_callV (g1 := false) (k2 := 35) (ev_J4_append_15ec4 er78) rfl cyJ4_append_15ec4 w_1155 w_1156 w_1157 (rc_ok eu79 rfl (by decide)) (by rfl) (by omega) (by omega) (by rfl) (Nat.le_of_ble_eq_true rfl) dL_changes_293 (Or.inl rfl) (fun v M9 q _ => ?_) (fun E M9 q _ => (Sum.inr_ne_inl q.1).elim)
      obtain rfl : v = some (.ref r78.1) := Sum.inl.inj q.1
      obtain rfl := q.2.symm
      refine fr_st (S' := [.ref r78.1, .ref p0a]) rfl ?_
      refine fr_iload_n 2 dL_changes_296 rfl ?_
      obtain ⟨u81, eu81, h⟩ := ob h
      try dsimp only at h
      obtain ⟨r80, er80, h⟩ := ob h
      try dsimp only at h
      refine fr_callV (g1 := false) (k2 := 35) (ev_J4_append_bf812 er80) rfl cyJ4_append_bf812 w_1250 w_1251 w_1252 (rc_ok eu81 rfl (by decide)) (by rfl) (by omega) (by omega) (by rfl) (Nat.le_of_ble_eq_true rfl) dL_changes_297 (Or.inl rfl) (fun v M9 q _ => ?_) (fun E M9 q _ => (Sum.inr_ne_inl q.1).elim)
      obtain rfl : v = some (.ref r80.1) := Sum.inl.inj q.1
      obtain rfl := q.2.symm
      refine fr_st (S' := [.ref r80.1, .ref p0a]) rfl ?_
      obtain ⟨u84, eu84, h⟩ := ob h
      try dsimp only at h
      obtain ⟨u83, eu83, h⟩ := ob h
      try dsimp only at h
      obtain ⟨r82, er82, h⟩ := ob h
      try dsimp only at h
      refine fr_callV (g1 := true) (k2 := 33) (ev_J4_toString_0e30d hv er82) rfl cyJ4_toString_0e30d w_1275 w_1276 w_1277 (rc_ok eu84 rfl (by decide)) (by rfl) (by omega) (by omega) (by rfl) (Nat.le_of_ble_eq_true rfl) dL_changes_300 (Or.inr ⟨rfl, gd_L eu83, roG_ok hv⟩) (fun v M9 q _ => ?_) (fun E M9 q _ => (Sum.inr_ne_inl q.1).elim)
      obtain rfl : v = some (.ref r82.1) := Sum.inl.inj q.1
      obtain rfl := q.2.symm
      refine fr_st (S' := [.ref r82.1, .ref p0a]) rfl ?_
      refine fr_goto 332 dL_changes_303 (by decide) ?_
      obtain ⟨r85, er85, h⟩ := ob h
      try dsimp only at h
      refine fr_callS (g1 := false) (k2 := 12) (ev_L_runs er85) rfl cyL_runs w_1337 w_1338 (by rfl) (by omega) (by omega) (by rfl) (Nat.le_of_ble_eq_true rfl) dL_changes_332 (Or.inl rfl) (fun v M9 q _ => ?_) (fun E M9 q _ => (Sum.inr_ne_inl q.1).elim)
      obtain rfl : v = some (.int r85.1) := Sum.inl.inj q.1
      obtain rfl := q.2.symm
      refine fr_st (S' := [.int r85.1]) rfl ?_
      refine fr_if_lt 342 dL_changes_335 (by decide) (fun c86 => ?_) (fun c86 => ?_)
      · rw [if_pos c86] at h
        refine fr_iconst (v := 0) dL_changes_342 (by decide) ?_
        obtain rfl := Option.some.inj h
        exact fr_zret (ty := .boolean) rfl rfl dL_changes_343 ⟨rfl, rfl⟩
      · rw [if_neg c86] at h
        refine fr_iconst (v := 1) dL_changes_338 (by decide) ?_
        refine fr_goto 343 dL_changes_339 (by decide) ?_
        obtain rfl := Option.some.inj h
        exact fr_zret (ty := .boolean) rfl rfl dL_changes_343 ⟨rfl, rfl⟩
  rw [if_neg c7_16] at h
  by_cases c7_17 : r3 = 17
  · rw [if_pos c7_17] at h
    refine fr_swIn (off := 248) 273 dL_changes_25 (by rw [c7_17]; decide) (by rw [c7_17]; decide) (by rw [c7_17]; rfl) (by decide) ?_
    refine fr_aload_n 0 dL_changes_273 rfl ?_
    refine fr_iload_n 1 dL_changes_274 rfl ?_
    refine fr_bipush (v := 6) dL_changes_275 (by decide) ?_
    refine fr_ishr dL_changes_277 ?_
    refine fr_iconst (v := 1) dL_changes_278 (by decide) ?_
    refine fr_iand dL_changes_279 ?_
    refine fr_if_ne 306 dL_changes_280 (by decide) (fun c87 => ?_) (fun c87 => ?_)
    · rw [if_neg c87] at h
      obtain ⟨u88, eu88, h⟩ := ob h
      try dsimp only at h
      obtain ⟨M89, eM89, h⟩ := ob h
      try dsimp only at h
      obtain rfl := Option.some.inj eM89
      refine fr_newg (k2 := 36) cb1 w_1124 w_1125 w_47 (gd_N eu88) (gd_L eu88) (roG_ok hv) (by decide) dL_changes_306 (by omega) ?_
      refine fr_dup dL_changes_309 rfl ?_
      obtain ⟨u91, eu91, h⟩ := ob h
      try dsimp only at h
      obtain ⟨r90, er90, h⟩ := ob h
      try dsimp only at h
      refine fr_callI (g1 := true) (k2 := 35) (ev_J4_init_da8c8 hv er90) rfl cyJ4_init_da8c8 rfl rfl w_1126 w_1127 (by rfl) (by omega) (by omega) (by rfl) (Nat.le_of_ble_eq_true rfl) dL_changes_310 (Or.inr ⟨rfl, gd_L eu91, roG_ok hv⟩) (fun v M9 q _ => ?_) (fun E M9 q _ => (Sum.inr_ne_inl q.1).elim)
      obtain rfl : v = none := Sum.inl.inj q.1
      obtain rfl := q.2.symm
      refine fr_st (S' := [.ref (mN M), .ref p0a]) rfl ?_
      refine fr_ldcSW (q := ROB + 42) (show _ ∈ roS from List.mem_of_getElem? (i := 22) rfl) dL_changes_313 ?_
      obtain ⟨u93, eu93, h⟩ := ob h
      try dsimp only at h
      obtain ⟨r92, er92, h⟩ := ob h
      try dsimp only at h
      refine fr_callV (g1 := false) (k2 := 35) (ev_J4_append_15ec4 er92) rfl cyJ4_append_15ec4 w_1155 w_1156 w_1157 (rc_ok eu93 rfl (by decide)) (by rfl) (by omega) (by omega) (by rfl) (Nat.le_of_ble_eq_true rfl) dL_changes_316 (Or.inl rfl) (fun v M9 q _ => ?_) (fun E M9 q _ => (Sum.inr_ne_inl q.1).elim)
      obtain rfl : v = some (.ref r92.1) := Sum.inl.inj q.1
      obtain rfl := q.2.symm
      refine fr_st (S' := [.ref r92.1, .ref p0a]) rfl ?_
      refine fr_iload_n 2 dL_changes_319 rfl ?_
      obtain ⟨u95, eu95, h⟩ := ob h
      try dsimp only at h
      obtain ⟨r94, er94, h⟩ := ob h
      try dsimp only at h
      refine fr_callV (g1 := false) (k2 := 35) (ev_J4_append_bf812 er94) rfl cyJ4_append_bf812 w_1250 w_1251 w_1252 (rc_ok eu95 rfl (by decide)) (by rfl) (by omega) (by omega) (by rfl) (Nat.le_of_ble_eq_true rfl) dL_changes_320 (Or.inl rfl) (fun v M9 q _ => ?_) (fun E M9 q _ => (Sum.inr_ne_inl q.1).elim)
      obtain rfl : v = some (.ref r94.1) := Sum.inl.inj q.1
      obtain rfl := q.2.symm
      refine fr_st (S' := [.ref r94.1, .ref p0a]) rfl ?_
      refine fr_ldcSW (q := ROB + 43) (show _ ∈ roS from List.mem_of_getElem? (i := 23) rfl) dL_changes_323 ?_
      obtain ⟨u97, eu97, h⟩ := ob h
      try dsimp only at h
      obtain ⟨r96, er96, h⟩ := ob h
      try dsimp only at h
      refine fr_callV (g1 := false) (k2 := 35) (ev_J4_append_15ec4 er96) rfl cyJ4_append_15ec4 w_1155 w_1156 w_1157 (rc_ok eu97 rfl (by decide)) (by rfl) (by omega) (by omega) (by rfl) (Nat.le_of_ble_eq_true rfl) dL_changes_326 (Or.inl rfl) (fun v M9 q _ => ?_) (fun E M9 q _ => (Sum.inr_ne_inl q.1).elim)
      obtain rfl : v = some (.ref r96.1) := Sum.inl.inj q.1
      obtain rfl := q.2.symm
      refine fr_st (S' := [.ref r96.1, .ref p0a]) rfl ?_
      obtain ⟨u100, eu100, h⟩ := ob h
      try dsimp only at h
      obtain ⟨u99, eu99, h⟩ := ob h
      try dsimp only at h
      obtain ⟨r98, er98, h⟩ := ob h
      try dsimp only at h
      refine fr_callV (g1 := true) (k2 := 33) (ev_J4_toString_0e30d hv er98) rfl cyJ4_toString_0e30d w_1275 w_1276 w_1277 (rc_ok eu100 rfl (by decide)) (by rfl) (by omega) (by omega) (by rfl) (Nat.le_of_ble_eq_true rfl) dL_changes_329 (Or.inr ⟨rfl, gd_L eu99, roG_ok hv⟩) (fun v M9 q _ => ?_) (fun E M9 q _ => (Sum.inr_ne_inl q.1).elim)
      obtain rfl : v = some (.ref r98.1) := Sum.inl.inj q.1
      obtain rfl := q.2.symm
      refine fr_st (S' := [.ref r98.1, .ref p0a]) rfl ?_
      obtain ⟨r101, er101, h⟩ := ob h
      try dsimp only at h
      refine fr_callS (g1 := false) (k2 := 12) (ev_L_runs er101) rfl cyL_runs w_1337 w_1338 (by rfl) (by omega) (by omega) (by rfl) (Nat.le_of_ble_eq_true rfl) dL_changes_332 (Or.inl rfl) (fun v M9 q _ => ?_) (fun E M9 q _ => (Sum.inr_ne_inl q.1).elim)
      obtain rfl : v = some (.int r101.1) := Sum.inl.inj q.1
      obtain rfl := q.2.symm
      refine fr_st (S' := [.int r101.1]) rfl ?_
      refine fr_if_lt 342 dL_changes_335 (by decide) (fun c102 => ?_) (fun c102 => ?_)
      · rw [if_pos c102] at h
        refine fr_iconst (v := 0) dL_changes_342 (by decide) ?_
        obtain rfl := Option.some.inj h
        exact fr_zret (ty := .boolean) rfl rfl dL_changes_343 ⟨rfl, rfl⟩
      · rw [if_neg c102] at h
        refine fr_iconst (v := 1) dL_changes_338 (by decide) ?_
        refine fr_goto 343 dL_changes_339 (by decide) ?_
        obtain rfl := Option.some.inj h
        exact fr_zret (ty := .boolean) rfl rfl dL_changes_343 ⟨rfl, rfl⟩
    · rw [if_pos c87] at h
      obtain ⟨u103, eu103, h⟩ := ob h
      try dsimp only at h
      obtain ⟨M104, eM104, h⟩ := ob h
      try dsimp only at h
      obtain rfl := Option.some.inj eM104
      refine fr_newg (k2 := 36) cb1 w_1124 w_1125 w_47 (gd_N eu103) (gd_L eu103) (roG_ok hv) (by decide) dL_changes_283 (by omega) ?_
      refine fr_dup dL_changes_286 rfl ?_
      obtain ⟨u106, eu106, h⟩ := ob h
      try dsimp only at h
      obtain ⟨r105, er105, h⟩ := ob h
      try dsimp only at h
      refine fr_callI (g1 := true) (k2 := 35) (ev_J4_init_da8c8 hv er105) rfl cyJ4_init_da8c8 rfl rfl w_1126 w_1127 (by rfl) (by omega) (by omega) (by rfl) (Nat.le_of_ble_eq_true rfl) dL_changes_287 (Or.inr ⟨rfl, gd_L eu106, roG_ok hv⟩) (fun v M9 q _ => ?_) (fun E M9 q _ => (Sum.inr_ne_inl q.1).elim)
      obtain rfl : v = none := Sum.inl.inj q.1
      obtain rfl := q.2.symm
      refine fr_st (S' := [.ref (mN M), .ref p0a]) rfl ?_
      refine fr_ldcSW (q := ROB + 40) (show _ ∈ roS from List.mem_of_getElem? (i := 20) rfl) dL_changes_290 ?_
      obtain ⟨u108, eu108, h⟩ := ob h
      try dsimp only at h
      obtain ⟨r107, er107, h⟩ := ob h
      try dsimp only at h
      refine fr_callV (g1 := false) (k2 := 35) (ev_J4_append_15ec4 er107) rfl cyJ4_append_15ec4 w_1155 w_1156 w_1157 (rc_ok eu108 rfl (by decide)) (by rfl) (by omega) (by omega) (by rfl) (Nat.le_of_ble_eq_true rfl) dL_changes_293 (Or.inl rfl) (fun v M9 q _ => ?_) (fun E M9 q _ => (Sum.inr_ne_inl q.1).elim)
      obtain rfl : v = some (.ref r107.1) := Sum.inl.inj q.1
      obtain rfl := q.2.symm
      refine fr_st (S' := [.ref r107.1, .ref p0a]) rfl ?_
      refine fr_iload_n 2 dL_changes_296 rfl ?_
      obtain ⟨u110, eu110, h⟩ := ob h
      try dsimp only at h
      obtain ⟨r109, er109, h⟩ := ob h
      try dsimp only at h
      refine fr_callV (g1 := false) (k2 := 35) (ev_J4_append_bf812 er109) rfl cyJ4_append_bf812 w_1250 w_1251 w_1252 (rc_ok eu110 rfl (by decide)) (by rfl) (by omega) (by omega) (by rfl) (Nat.le_of_ble_eq_true rfl) dL_changes_297 (Or.inl rfl) (fun v M9 q _ => ?_) (fun E M9 q _ => (Sum.inr_ne_inl q.1).elim)
      obtain rfl : v = some (.ref r109.1) := Sum.inl.inj q.1
      obtain rfl := q.2.symm
      refine fr_st (S' := [.ref r109.1, .ref p0a]) rfl ?_
      obtain ⟨u113, eu113, h⟩ := ob h
      try dsimp only at h
      obtain ⟨u112, eu112, h⟩ := ob h
      try dsimp only at h
      obtain ⟨r111, er111, h⟩ := ob h
      try dsimp only at h
      refine fr_callV (g1 := true) (k2 := 33) (ev_J4_toString_0e30d hv er111) rfl cyJ4_toString_0e30d w_1275 w_1276 w_1277 (rc_ok eu113 rfl (by decide)) (by rfl) (by omega) (by omega) (by rfl) (Nat.le_of_ble_eq_true rfl) dL_changes_300 (Or.inr ⟨rfl, gd_L eu112, roG_ok hv⟩) (fun v M9 q _ => ?_) (fun E M9 q _ => (Sum.inr_ne_inl q.1).elim)
      obtain rfl : v = some (.ref r111.1) := Sum.inl.inj q.1
      obtain rfl := q.2.symm
      refine fr_st (S' := [.ref r111.1, .ref p0a]) rfl ?_
      refine fr_goto 332 dL_changes_303 (by decide) ?_
      obtain ⟨r114, er114, h⟩ := ob h
      try dsimp only at h
      refine fr_callS (g1 := false) (k2 := 12) (ev_L_runs er114) rfl cyL_runs w_1337 w_1338 (by rfl) (by omega) (by omega) (by rfl) (Nat.le_of_ble_eq_true rfl) dL_changes_332 (Or.inl rfl) (fun v M9 q _ => ?_) (fun E M9 q _ => (Sum.inr_ne_inl q.1).elim)
      obtain rfl : v = some (.int r114.1) := Sum.inl.inj q.1
      obtain rfl := q.2.symm
      refine fr_st (S' := [.int r114.1]) rfl ?_
      refine fr_if_lt 342 dL_changes_335 (by decide) (fun c115 => ?_) (fun c115 => ?_)
      · rw [if_pos c115] at h
        refine fr_iconst (v := 0) dL_changes_342 (by decide) ?_
        obtain rfl := Option.some.inj h
        exact fr_zret (ty := .boolean) rfl rfl dL_changes_343 ⟨rfl, rfl⟩
      · rw [if_neg c115] at h
        refine fr_iconst (v := 1) dL_changes_338 (by decide) ?_
        refine fr_goto 343 dL_changes_339 (by decide) ?_
        obtain rfl := Option.some.inj h
        exact fr_zret (ty := .boolean) rfl rfl dL_changes_343 ⟨rfl, rfl⟩
  rw [if_neg c7_17] at h
  refine fr_swOut 344 dL_changes_25 (sw_out (l := [0, 1, 2, 3, 4, 5, 6, 7, 8, 9, 10, 11, 12, 13, 14, 15, 16, 17]) (by decide) (by simp only [List.mem_cons, List.not_mem_nil, or_false, not_or]; exact ⟨c7_0, c7_1, c7_2, c7_3, c7_4, c7_5, c7_6, c7_7, c7_8, c7_9, c7_10, c7_11, c7_12, c7_13, c7_14, c7_15, c7_16, c7_17⟩)) (by decide) ?_
  refine fr_aload_n 0 dL_changes_344 rfl ?_
  refine fr_iload_n 2 dL_changes_345 rfl ?_
  refine fr_iload_n 3 dL_changes_346 rfl ?_
  refine fr_iload_n 1 dL_changes_347 rfl ?_
  refine fr_bipush (v := 12) dL_changes_348 (by decide) ?_
  refine fr_ishr dL_changes_350 ?_
  refine fr_iconst (v := 5) dL_changes_351 (by decide) ?_
  obtain ⟨r4, er4, h⟩ := ob h
  try dsimp only at h
  refine fr_callS (g1 := false) (k2 := 37) (ev_L_some er4) rfl cyL_some w_875 w_876 (by rfl) (by omega) (by omega) (by rfl) (Nat.le_of_ble_eq_true rfl) dL_changes_352 (Or.inl rfl) (fun v M9 q _ => ?_) (fun E M9 q _ => (Sum.inr_ne_inl q.1).elim)
  obtain rfl : v = some (.int r4) := Sum.inl.inj q.1
  obtain rfl := q.2.symm
  refine fr_st (S' := [.int r4, .int r2, .int r1, .ref p0a]) rfl ?_
  obtain ⟨r5, er5, h⟩ := ob h
  try dsimp only at h
  refine fr_callSX (g1 := false) (k2 := 36) (ev_L_put er5) rfl cyL_put w_553 w_554 (by rfl) (by omega) (by omega) (by rfl) (Nat.le_of_ble_eq_true rfl) dL_changes_355 (Or.inl rfl) (fun v M9 q _ => ?_) (fun E M9 q _ => (Sum.inr_ne_inl q.1).elim)
  obtain rfl : v = some (.int r5.1) := Sum.inl.inj q.1
  obtain rfl := q.2.symm
  refine fr_st (S' := [.int r5.1]) rfl ?_
  refine fr_if_lt 365 dL_changes_358 (by decide) (fun c6 => ?_) (fun c6 => ?_)
  · rw [if_pos c6] at h
    refine fr_iconst (v := 0) dL_changes_365 (by decide) ?_
    obtain rfl := Option.some.inj h
    exact fr_zret (ty := .boolean) rfl rfl dL_changes_366 ⟨rfl, rfl⟩
  · rw [if_neg c6] at h
    refine fr_iconst (v := 1) dL_changes_361 (by decide) ?_
    refine fr_goto 366 dL_changes_362 (by decide) ?_
    obtain rfl := Option.some.inj h
    exact fr_zret (ty := .boolean) rfl rfl dL_changes_366 ⟨rfl, rfl⟩
