/-! ===== methods, 10: X10_answerOfCommand X10_carryOutAll X3_returnToPrepared X6_empty X6_allForms X1_size X6_noteCommand X1_accepts X6_stillAlive ===== -/
def f_X10_answerOfCommand (p0a : Nat) (x1a : Int32) (M : Mem) : Option (Int32 × Mem) := (gP M 10 p0a 6).bind fun p1 => (rc M 6 p1).bind fun _ => (f_X6_numberIn p1 x1a 0 M).bind fun r2 => (gP M 10 p0a 6).bind fun p4 => (rc M 6 p4).bind fun _ => (f_X6_numberIn p4 x1a 1 M).bind fun r5 => (gP M 10 p0a 6).bind fun p7 => (rc M 6 p7).bind fun _ => (f_X6_numberIn p7 x1a 2 M).bind fun r8 => (gP M 10 p0a 6).bind fun p10 => (gP M 6 p10 2).bind fun p11 => (aI M 100 p11 x1a).bind fun x12 => (oG (ROB + 1) x12).bind fun p13 => (rcF p13).bind fun _ => (f_Jx29ce0_ordinal_8abf5 p13 M).bind fun r14 => (sG (ROB + 2) r14).bind fun x16 => (if x16 = 1 then ((gP M 10 p0a 0).bind fun p21 => (gP M 10 p0a 6).bind fun p22 => (rc M 6 p22).bind fun _ => (f_X6_numberIn p22 x1a 3 M).bind fun r23 => (gP M 10 p0a 6).bind fun p25 => (rc M 6 p25).bind fun _ => (f_X6_signIn p25 x1a 4 M).bind fun r26 => (rc M 9 p21).bind fun _ => (f_X9_tryAddSheet p21 r2 r5 r8 r23 r26 M).bind fun r28 => some (r28.1, r28.2)) else (if x16 = 2 then ((gP M 10 p0a 0).bind fun p30 => (gP M 10 p0a 6).bind fun p31 => (rc M 6 p31).bind fun _ => (f_X6_signIn p31 x1a 1 M).bind fun r32 => (rc M 9 p30).bind fun _ => (f_X9_tryAddCrease p30 r2 r32 M).bind fun r34 => some (r34.1, r34.2)) else (if x16 = 3 then ((gP M 10 p0a 0).bind fun p36 => (rc M 9 p36).bind fun _ => (f_X9_tryFold p36 r2 M).bind fun r37 => some (r37.1, r37.2)) else (if x16 = 4 then ((gP M 10 p0a 0).bind fun p39 => (rc M 9 p39).bind fun _ => (f_X9_tryUnfold p39 r2 M).bind fun r40 => some (r40.1, r40.2)) else (if x16 = 5 then ((gP M 10 p0a 0).bind fun p42 => (rc M 9 p42).bind fun _ => (f_X9_tryMend p42 r2 M).bind fun r43 => some (r43.1, r43.2)) else (if x16 = 6 then ((gP M 10 p0a 0).bind fun p45 => (rc M 9 p45).bind fun _ => (f_X9_tryPut p45 r2 r5 r8 M).bind fun r46 => some (r46.1, r46.2)) else (if x16 = 7 then ((gP M 10 p0a 0).bind fun p48 => (rc M 9 p48).bind fun _ => (f_X9_tryTake p48 r2 M).bind fun r49 => some (r49.1, r49.2)) else (if x16 = 8 then ((gP M 10 p0a 0).bind fun p51 => (rc M 9 p51).bind fun _ => (f_X9_tryAddPaste p51 r2 M).bind fun r52 => some (r52.1, r52.2)) else ((gP M 10 p0a 0).bind fun p17 => (rc M 9 p17).bind fun _ => (f_X9_tryAddPaste p17 ((10 * r2) + r5) M).bind fun r18 => some (r18.1, r18.2))))))))))
set_option maxRecDepth 20000 in
theorem ev_X10_answerOfCommand {G : Nat × (Nat → Int32) × Value} {p0a : Nat} {x1a : Int32} {M : Mem} {r : Int32 × Mem} (h : f_X10_answerOfCommand p0a x1a M = some r) : Ev (roG G) false YX10_answerOfCommand 7 0 [.ref p0a, .int x1a] M (fun a b => a = wI r.1 ∧ b = r.2) := by
  refine ev_of cyX10_answerOfCommand.2.2.2.2 (Nat.le_of_ble_eq_true rfl) ?_
  show Fr _ _ _ _ _ _ 0 [(0, .ref p0a), (1, .int x1a)] [] M _
  unfold f_X10_answerOfCommand at h
  refine fr_aload_n 0 dX10_answerOfCommand_0 rfl ?_
  obtain ⟨p1, ep1, h⟩ := ob h
  try dsimp only at h
  refine fr_gP cb10 6 (by decide) rfl w_233 dX10_answerOfCommand_1 ep1 ?_
  refine fr_iload_n 1 dX10_answerOfCommand_4 rfl ?_
  refine fr_iconst (v := 0) dX10_answerOfCommand_5 (by decide) ?_
  obtain ⟨u3, eu3, h⟩ := ob h
  try dsimp only at h
  obtain ⟨r2, er2, h⟩ := ob h
  try dsimp only at h
  refine fr_callV (g1 := false) (k2 := 0) (ev_X6_numberIn er2) rfl cyX6_numberIn w_810 w_811 w_812 (rc_ok eu3 rfl (by decide)) (by rfl) (by omega) (by omega) (by rfl) (Nat.le_of_ble_eq_true rfl) dX10_answerOfCommand_6 (Or.inl rfl) (fun v M9 q _ => ?_) (fun E M9 q _ => (Sum.inr_ne_inl q.1).elim)
  obtain rfl : v = some (.int r2) := Sum.inl.inj q.1
  obtain rfl := q.2.symm
  refine fr_st (S' := [.int r2]) rfl ?_
  refine fr_istore_n (L' := [(0, .ref p0a), (1, .int x1a), (2, .int r2)]) dX10_answerOfCommand_9 (by decide) rfl ?_
  refine fr_aload_n 0 dX10_answerOfCommand_10 rfl ?_
  obtain ⟨p4, ep4, h⟩ := ob h
  try dsimp only at h
  refine fr_gP cb10 6 (by decide) rfl w_233 dX10_answerOfCommand_11 ep4 ?_
  refine fr_iload_n 1 dX10_answerOfCommand_14 rfl ?_
  refine fr_iconst (v := 1) dX10_answerOfCommand_15 (by decide) ?_
  obtain ⟨u6, eu6, h⟩ := ob h
  try dsimp only at h
  obtain ⟨r5, er5, h⟩ := ob h
  try dsimp only at h
  refine fr_callV (g1 := false) (k2 := 0) (ev_X6_numberIn er5) rfl cyX6_numberIn w_810 w_811 w_812 (rc_ok eu6 rfl (by decide)) (by rfl) (by omega) (by omega) (by rfl) (Nat.le_of_ble_eq_true rfl) dX10_answerOfCommand_16 (Or.inl rfl) (fun v M9 q _ => ?_) (fun E M9 q _ => (Sum.inr_ne_inl q.1).elim)
  obtain rfl : v = some (.int r5) := Sum.inl.inj q.1
  obtain rfl := q.2.symm
  refine fr_st (S' := [.int r5]) rfl ?_
  refine fr_istore_n (L' := [(0, .ref p0a), (1, .int x1a), (2, .int r2), (3, .int r5)]) dX10_answerOfCommand_19 (by decide) rfl ?_
  refine fr_aload_n 0 dX10_answerOfCommand_20 rfl ?_
  obtain ⟨p7, ep7, h⟩ := ob h
  try dsimp only at h
  refine fr_gP cb10 6 (by decide) rfl w_233 dX10_answerOfCommand_21 ep7 ?_
  refine fr_iload_n 1 dX10_answerOfCommand_24 rfl ?_
  refine fr_iconst (v := 2) dX10_answerOfCommand_25 (by decide) ?_
  obtain ⟨u9, eu9, h⟩ := ob h
  try dsimp only at h
  obtain ⟨r8, er8, h⟩ := ob h
  try dsimp only at h
  refine fr_callV (g1 := false) (k2 := 0) (ev_X6_numberIn er8) rfl cyX6_numberIn w_810 w_811 w_812 (rc_ok eu9 rfl (by decide)) (by rfl) (by omega) (by omega) (by rfl) (Nat.le_of_ble_eq_true rfl) dX10_answerOfCommand_26 (Or.inl rfl) (fun v M9 q _ => ?_) (fun E M9 q _ => (Sum.inr_ne_inl q.1).elim)
  obtain rfl : v = some (.int r8) := Sum.inl.inj q.1
  obtain rfl := q.2.symm
  refine fr_st (S' := [.int r8]) rfl ?_
  refine fr_istore (L' := [(0, .ref p0a), (1, .int x1a), (2, .int r2), (3, .int r5), (4, .int r8)]) dX10_answerOfCommand_29 (by decide) rfl ?_
  refine fr_gets (show _ ∈ roZ _ from List.mem_of_getElem? (i := 1) rfl) w_825 dX10_answerOfCommand_31 ?_
  refine fr_gets (show _ ∈ roZ _ from List.mem_of_getElem? (i := 0) rfl) w_827 dX10_answerOfCommand_34 ?_
  refine fr_aload_n 0 dX10_answerOfCommand_37 rfl ?_
  obtain ⟨p10, ep10, h⟩ := ob h
  try dsimp only at h
  refine fr_gP cb10 6 (by decide) rfl w_233 dX10_answerOfCommand_38 ep10 ?_
  obtain ⟨p11, ep11, h⟩ := ob h
  try dsimp only at h
  refine fr_gP cb6 2 (by decide) rfl w_196 dX10_answerOfCommand_41 ep11 ?_
  refine fr_iload_n 1 dX10_answerOfCommand_44 rfl ?_
  obtain ⟨x12, ex12, h⟩ := ob h
  try dsimp only at h
  refine fr_aI0 ex12 dX10_answerOfCommand_45 ?_
  obtain ⟨p13, ep13, h⟩ := ob h
  try dsimp only at h
  refine fr_oG ep13 dX10_answerOfCommand_46 ?_
  obtain ⟨u15, eu15, h⟩ := ob h
  try dsimp only at h
  obtain ⟨r14, er14, h⟩ := ob h
  try dsimp only at h
  refine fr_callVU (g1 := false) (k2 := 0) (ev_Jx29ce0_ordinal_8abf5 er14) rfl cyJx29ce0_ordinal_8abf5 w_828 w_832 w_91016 w_832 w_833 (fun _ _ h => h _ w_831) (by decide) rfl (rcF_ok eu15) (by rfl) (by omega) (by omega) (by rfl) (Nat.le_of_ble_eq_true rfl) dX10_answerOfCommand_47 (Or.inl rfl) (fun v M9 q _ => ?_) (fun E M9 q _ => (Sum.inr_ne_inl q.1).elim)
  obtain rfl : v = some (.int r14) := Sum.inl.inj q.1
  obtain rfl := q.2.symm
  refine fr_st (S' := [.int r14, .ref (ROB + 2)]) rfl ?_
  obtain ⟨x16, ex16, h⟩ := ob h
  try dsimp only at h
  refine fr_sG ex16 dX10_answerOfCommand_50 ?_
  by_cases c20_0 : x16 = 1
  · rw [if_pos c20_0] at h
    refine fr_swIn (off := 45) 96 dX10_answerOfCommand_51 (by rw [c20_0]; decide) (by rw [c20_0]; decide) (by rw [c20_0]; rfl) (by decide) ?_
    refine fr_aload_n 0 dX10_answerOfCommand_96 rfl ?_
    obtain ⟨p21, ep21, h⟩ := ob h
    try dsimp only at h
    refine fr_gP cb10 0 (by decide) rfl w_227 dX10_answerOfCommand_97 ep21 ?_
    refine fr_iload_n 2 dX10_answerOfCommand_100 rfl ?_
    refine fr_iload_n 3 dX10_answerOfCommand_101 rfl ?_
    refine fr_iload 4 dX10_answerOfCommand_102 rfl ?_
    refine fr_aload_n 0 dX10_answerOfCommand_104 rfl ?_
    obtain ⟨p22, ep22, h⟩ := ob h
    try dsimp only at h
    refine fr_gP cb10 6 (by decide) rfl w_233 dX10_answerOfCommand_105 ep22 ?_
    refine fr_iload_n 1 dX10_answerOfCommand_108 rfl ?_
    refine fr_iconst (v := 3) dX10_answerOfCommand_109 (by decide) ?_
    obtain ⟨u24, eu24, h⟩ := ob h
    try dsimp only at h
    obtain ⟨r23, er23, h⟩ := ob h
    try dsimp only at h
    refine fr_callV (g1 := false) (k2 := 0) (ev_X6_numberIn er23) rfl cyX6_numberIn w_810 w_811 w_812 (rc_ok eu24 rfl (by decide)) (by rfl) (by omega) (by omega) (by rfl) (Nat.le_of_ble_eq_true rfl) dX10_answerOfCommand_110 (Or.inl rfl) (fun v M9 q _ => ?_) (fun E M9 q _ => (Sum.inr_ne_inl q.1).elim)
    obtain rfl : v = some (.int r23) := Sum.inl.inj q.1
    obtain rfl := q.2.symm
    refine fr_st (S' := [.int r23, .int r8, .int r5, .int r2, .ref p21]) rfl ?_
    refine fr_aload_n 0 dX10_answerOfCommand_113 rfl ?_
    obtain ⟨p25, ep25, h⟩ := ob h
    try dsimp only at h
    refine fr_gP cb10 6 (by decide) rfl w_233 dX10_answerOfCommand_114 ep25 ?_
    refine fr_iload_n 1 dX10_answerOfCommand_117 rfl ?_
    refine fr_iconst (v := 4) dX10_answerOfCommand_118 (by decide) ?_
    obtain ⟨u27, eu27, h⟩ := ob h
    try dsimp only at h
    obtain ⟨r26, er26, h⟩ := ob h
    try dsimp only at h
    refine fr_callV (g1 := false) (k2 := 0) (ev_X6_signIn er26) rfl cyX6_signIn w_834 w_815 w_816 (rc_ok eu27 rfl (by decide)) (by rfl) (by omega) (by omega) (by rfl) (Nat.le_of_ble_eq_true rfl) dX10_answerOfCommand_119 (Or.inl rfl) (fun v M9 q _ => ?_) (fun E M9 q _ => (Sum.inr_ne_inl q.1).elim)
    obtain rfl : v = some (.int r26) := Sum.inl.inj q.1
    obtain rfl := q.2.symm
    refine fr_st (S' := [.int r26, .int r23, .int r8, .int r5, .int r2, .ref p21]) rfl ?_
    obtain ⟨u29, eu29, h⟩ := ob h
    try dsimp only at h
    obtain ⟨r28, er28, h⟩ := ob h
    try dsimp only at h
    refine fr_callV (g1 := false) (k2 := 0) (ev_X9_tryAddSheet er28) rfl cyX9_tryAddSheet w_307 w_308 w_309 (rc_ok eu29 rfl (by decide)) (by rfl) (by omega) (by omega) (by rfl) (Nat.le_of_ble_eq_true rfl) dX10_answerOfCommand_122 (Or.inl rfl) (fun v M9 q _ => ?_) (fun E M9 q _ => (Sum.inr_ne_inl q.1).elim)
    obtain rfl : v = some (.int r28.1) := Sum.inl.inj q.1
    obtain rfl := q.2.symm
    refine fr_st (S' := [.int r28.1]) rfl ?_
    obtain rfl := Option.some.inj h
    exact fr_iret rfl dX10_answerOfCommand_125 ⟨rfl, rfl⟩
  rw [if_neg c20_0] at h
  by_cases c20_1 : x16 = 2
  · rw [if_pos c20_1] at h
    refine fr_swIn (off := 75) 126 dX10_answerOfCommand_51 (by rw [c20_1]; decide) (by rw [c20_1]; decide) (by rw [c20_1]; rfl) (by decide) ?_
    refine fr_aload_n 0 dX10_answerOfCommand_126 rfl ?_
    obtain ⟨p30, ep30, h⟩ := ob h
    try dsimp only at h
    refine fr_gP cb10 0 (by decide) rfl w_227 dX10_answerOfCommand_127 ep30 ?_
    refine fr_iload_n 2 dX10_answerOfCommand_130 rfl ?_
    refine fr_aload_n 0 dX10_answerOfCommand_131 rfl ?_
    obtain ⟨p31, ep31, h⟩ := ob h
    try dsimp only at h
    refine fr_gP cb10 6 (by decide) rfl w_233 dX10_answerOfCommand_132 ep31 ?_
    refine fr_iload_n 1 dX10_answerOfCommand_135 rfl ?_
    refine fr_iconst (v := 1) dX10_answerOfCommand_136 (by decide) ?_
    obtain ⟨u33, eu33, h⟩ := ob h
    try dsimp only at h
    obtain ⟨r32, er32, h⟩ := ob h
    try dsimp only at h
    refine fr_callV (g1 := false) (k2 := 0) (ev_X6_signIn er32) rfl cyX6_signIn w_834 w_815 w_816 (rc_ok eu33 rfl (by decide)) (by rfl) (by omega) (by omega) (by rfl) (Nat.le_of_ble_eq_true rfl) dX10_answerOfCommand_137 (Or.inl rfl) (fun v M9 q _ => ?_) (fun E M9 q _ => (Sum.inr_ne_inl q.1).elim)
    obtain rfl : v = some (.int r32) := Sum.inl.inj q.1
    obtain rfl := q.2.symm
    refine fr_st (S' := [.int r32, .int r2, .ref p30]) rfl ?_
    obtain ⟨u35, eu35, h⟩ := ob h
    try dsimp only at h
    obtain ⟨r34, er34, h⟩ := ob h
    try dsimp only at h
    refine fr_callV (g1 := false) (k2 := 0) (ev_X9_tryAddCrease er34) rfl cyX9_tryAddCrease w_499 w_500 w_501 (rc_ok eu35 rfl (by decide)) (by rfl) (by omega) (by omega) (by rfl) (Nat.le_of_ble_eq_true rfl) dX10_answerOfCommand_140 (Or.inl rfl) (fun v M9 q _ => ?_) (fun E M9 q _ => (Sum.inr_ne_inl q.1).elim)
    obtain rfl : v = some (.int r34.1) := Sum.inl.inj q.1
    obtain rfl := q.2.symm
    refine fr_st (S' := [.int r34.1]) rfl ?_
    obtain rfl := Option.some.inj h
    exact fr_iret rfl dX10_answerOfCommand_143 ⟨rfl, rfl⟩
  rw [if_neg c20_1] at h
  by_cases c20_2 : x16 = 3
  · rw [if_pos c20_2] at h
    refine fr_swIn (off := 93) 144 dX10_answerOfCommand_51 (by rw [c20_2]; decide) (by rw [c20_2]; decide) (by rw [c20_2]; rfl) (by decide) ?_
    refine fr_aload_n 0 dX10_answerOfCommand_144 rfl ?_
    obtain ⟨p36, ep36, h⟩ := ob h
    try dsimp only at h
    refine fr_gP cb10 0 (by decide) rfl w_227 dX10_answerOfCommand_145 ep36 ?_
    refine fr_iload_n 2 dX10_answerOfCommand_148 rfl ?_
    obtain ⟨u38, eu38, h⟩ := ob h
    try dsimp only at h
    obtain ⟨r37, er37, h⟩ := ob h
    try dsimp only at h
    refine fr_callV (g1 := false) (k2 := 0) (ev_X9_tryFold er37) rfl cyX9_tryFold w_517 w_518 w_519 (rc_ok eu38 rfl (by decide)) (by rfl) (by omega) (by omega) (by rfl) (Nat.le_of_ble_eq_true rfl) dX10_answerOfCommand_149 (Or.inl rfl) (fun v M9 q _ => ?_) (fun E M9 q _ => (Sum.inr_ne_inl q.1).elim)
    obtain rfl : v = some (.int r37.1) := Sum.inl.inj q.1
    obtain rfl := q.2.symm
    refine fr_st (S' := [.int r37.1]) rfl ?_
    obtain rfl := Option.some.inj h
    exact fr_iret rfl dX10_answerOfCommand_152 ⟨rfl, rfl⟩
  rw [if_neg c20_2] at h
  by_cases c20_3 : x16 = 4
  · rw [if_pos c20_3] at h
    refine fr_swIn (off := 102) 153 dX10_answerOfCommand_51 (by rw [c20_3]; decide) (by rw [c20_3]; decide) (by rw [c20_3]; rfl) (by decide) ?_
    refine fr_aload_n 0 dX10_answerOfCommand_153 rfl ?_
    obtain ⟨p39, ep39, h⟩ := ob h
    try dsimp only at h
    refine fr_gP cb10 0 (by decide) rfl w_227 dX10_answerOfCommand_154 ep39 ?_
    refine fr_iload_n 2 dX10_answerOfCommand_157 rfl ?_
    obtain ⟨u41, eu41, h⟩ := ob h
    try dsimp only at h
    obtain ⟨r40, er40, h⟩ := ob h
    try dsimp only at h
    refine fr_callV (g1 := false) (k2 := 0) (ev_X9_tryUnfold er40) rfl cyX9_tryUnfold w_533 w_534 w_535 (rc_ok eu41 rfl (by decide)) (by rfl) (by omega) (by omega) (by rfl) (Nat.le_of_ble_eq_true rfl) dX10_answerOfCommand_158 (Or.inl rfl) (fun v M9 q _ => ?_) (fun E M9 q _ => (Sum.inr_ne_inl q.1).elim)
    obtain rfl : v = some (.int r40.1) := Sum.inl.inj q.1
    obtain rfl := q.2.symm
    refine fr_st (S' := [.int r40.1]) rfl ?_
    obtain rfl := Option.some.inj h
    exact fr_iret rfl dX10_answerOfCommand_161 ⟨rfl, rfl⟩
  rw [if_neg c20_3] at h
  by_cases c20_4 : x16 = 5
  · rw [if_pos c20_4] at h
    refine fr_swIn (off := 111) 162 dX10_answerOfCommand_51 (by rw [c20_4]; decide) (by rw [c20_4]; decide) (by rw [c20_4]; rfl) (by decide) ?_
    refine fr_aload_n 0 dX10_answerOfCommand_162 rfl ?_
    obtain ⟨p42, ep42, h⟩ := ob h
    try dsimp only at h
    refine fr_gP cb10 0 (by decide) rfl w_227 dX10_answerOfCommand_163 ep42 ?_
    refine fr_iload_n 2 dX10_answerOfCommand_166 rfl ?_
    obtain ⟨u44, eu44, h⟩ := ob h
    try dsimp only at h
    obtain ⟨r43, er43, h⟩ := ob h
    try dsimp only at h
    refine fr_callV (g1 := false) (k2 := 0) (ev_X9_tryMend er43) rfl cyX9_tryMend w_549 w_550 w_551 (rc_ok eu44 rfl (by decide)) (by rfl) (by omega) (by omega) (by rfl) (Nat.le_of_ble_eq_true rfl) dX10_answerOfCommand_167 (Or.inl rfl) (fun v M9 q _ => ?_) (fun E M9 q _ => (Sum.inr_ne_inl q.1).elim)
    obtain rfl : v = some (.int r43.1) := Sum.inl.inj q.1
    obtain rfl := q.2.symm
    refine fr_st (S' := [.int r43.1]) rfl ?_
    obtain rfl := Option.some.inj h
    exact fr_iret rfl dX10_answerOfCommand_170 ⟨rfl, rfl⟩
  rw [if_neg c20_4] at h
  by_cases c20_5 : x16 = 6
  · rw [if_pos c20_5] at h
    refine fr_swIn (off := 120) 171 dX10_answerOfCommand_51 (by rw [c20_5]; decide) (by rw [c20_5]; decide) (by rw [c20_5]; rfl) (by decide) ?_
    refine fr_aload_n 0 dX10_answerOfCommand_171 rfl ?_
    obtain ⟨p45, ep45, h⟩ := ob h
    try dsimp only at h
    refine fr_gP cb10 0 (by decide) rfl w_227 dX10_answerOfCommand_172 ep45 ?_
    refine fr_iload_n 2 dX10_answerOfCommand_175 rfl ?_
    refine fr_iload_n 3 dX10_answerOfCommand_176 rfl ?_
    refine fr_iload 4 dX10_answerOfCommand_177 rfl ?_
    obtain ⟨u47, eu47, h⟩ := ob h
    try dsimp only at h
    obtain ⟨r46, er46, h⟩ := ob h
    try dsimp only at h
    refine fr_callV (g1 := false) (k2 := 0) (ev_X9_tryPut er46) rfl cyX9_tryPut w_560 w_561 w_562 (rc_ok eu47 rfl (by decide)) (by rfl) (by omega) (by omega) (by rfl) (Nat.le_of_ble_eq_true rfl) dX10_answerOfCommand_179 (Or.inl rfl) (fun v M9 q _ => ?_) (fun E M9 q _ => (Sum.inr_ne_inl q.1).elim)
    obtain rfl : v = some (.int r46.1) := Sum.inl.inj q.1
    obtain rfl := q.2.symm
    refine fr_st (S' := [.int r46.1]) rfl ?_
    obtain rfl := Option.some.inj h
    exact fr_iret rfl dX10_answerOfCommand_182 ⟨rfl, rfl⟩
  rw [if_neg c20_5] at h
  by_cases c20_6 : x16 = 7
  · rw [if_pos c20_6] at h
    refine fr_swIn (off := 132) 183 dX10_answerOfCommand_51 (by rw [c20_6]; decide) (by rw [c20_6]; decide) (by rw [c20_6]; rfl) (by decide) ?_
    refine fr_aload_n 0 dX10_answerOfCommand_183 rfl ?_
    obtain ⟨p48, ep48, h⟩ := ob h
    try dsimp only at h
    refine fr_gP cb10 0 (by decide) rfl w_227 dX10_answerOfCommand_184 ep48 ?_
    refine fr_iload_n 2 dX10_answerOfCommand_187 rfl ?_
    obtain ⟨u50, eu50, h⟩ := ob h
    try dsimp only at h
    obtain ⟨r49, er49, h⟩ := ob h
    try dsimp only at h
    refine fr_callV (g1 := false) (k2 := 0) (ev_X9_tryTake er49) rfl cyX9_tryTake w_629 w_630 w_631 (rc_ok eu50 rfl (by decide)) (by rfl) (by omega) (by omega) (by rfl) (Nat.le_of_ble_eq_true rfl) dX10_answerOfCommand_188 (Or.inl rfl) (fun v M9 q _ => ?_) (fun E M9 q _ => (Sum.inr_ne_inl q.1).elim)
    obtain rfl : v = some (.int r49.1) := Sum.inl.inj q.1
    obtain rfl := q.2.symm
    refine fr_st (S' := [.int r49.1]) rfl ?_
    obtain rfl := Option.some.inj h
    exact fr_iret rfl dX10_answerOfCommand_191 ⟨rfl, rfl⟩
  rw [if_neg c20_6] at h
  by_cases c20_7 : x16 = 8
  · rw [if_pos c20_7] at h
    refine fr_swIn (off := 141) 192 dX10_answerOfCommand_51 (by rw [c20_7]; decide) (by rw [c20_7]; decide) (by rw [c20_7]; rfl) (by decide) ?_
    refine fr_aload_n 0 dX10_answerOfCommand_192 rfl ?_
    obtain ⟨p51, ep51, h⟩ := ob h
    try dsimp only at h
    refine fr_gP cb10 0 (by decide) rfl w_227 dX10_answerOfCommand_193 ep51 ?_
    refine fr_iload_n 2 dX10_answerOfCommand_196 rfl ?_
    obtain ⟨u53, eu53, h⟩ := ob h
    try dsimp only at h
    obtain ⟨r52, er52, h⟩ := ob h
    try dsimp only at h
    refine fr_callV (g1 := false) (k2 := 0) (ev_X9_tryAddPaste er52) rfl cyX9_tryAddPaste w_644 w_645 w_646 (rc_ok eu53 rfl (by decide)) (by rfl) (by omega) (by omega) (by rfl) (Nat.le_of_ble_eq_true rfl) dX10_answerOfCommand_197 (Or.inl rfl) (fun v M9 q _ => ?_) (fun E M9 q _ => (Sum.inr_ne_inl q.1).elim)
    obtain rfl : v = some (.int r52.1) := Sum.inl.inj q.1
    obtain rfl := q.2.symm
    refine fr_st (S' := [.int r52.1]) rfl ?_
    obtain rfl := Option.some.inj h
    exact fr_iret rfl dX10_answerOfCommand_200 ⟨rfl, rfl⟩
  rw [if_neg c20_7] at h
  refine fr_swOut 201 dX10_answerOfCommand_51 (sw_out (l := [1, 2, 3, 4, 5, 6, 7, 8]) (by decide) (by simp only [List.mem_cons, List.not_mem_nil, or_false, not_or]; exact ⟨c20_0, c20_1, c20_2, c20_3, c20_4, c20_5, c20_6, c20_7⟩)) (by decide) ?_
  refine fr_aload_n 0 dX10_answerOfCommand_201 rfl ?_
  obtain ⟨p17, ep17, h⟩ := ob h
  try dsimp only at h
  refine fr_gP cb10 0 (by decide) rfl w_227 dX10_answerOfCommand_202 ep17 ?_
  refine fr_bipush (v := 10) dX10_answerOfCommand_205 (by decide) ?_
  refine fr_iload_n 2 dX10_answerOfCommand_207 rfl ?_
  refine fr_imul dX10_answerOfCommand_208 ?_
  refine fr_iload_n 3 dX10_answerOfCommand_209 rfl ?_
  refine fr_iadd dX10_answerOfCommand_210 ?_
  obtain ⟨u19, eu19, h⟩ := ob h
  try dsimp only at h
  obtain ⟨r18, er18, h⟩ := ob h
  try dsimp only at h
  refine fr_callV (g1 := false) (k2 := 0) (ev_X9_tryAddPaste er18) rfl cyX9_tryAddPaste w_644 w_645 w_646 (rc_ok eu19 rfl (by decide)) (by rfl) (by omega) (by omega) (by rfl) (Nat.le_of_ble_eq_true rfl) dX10_answerOfCommand_211 (Or.inl rfl) (fun v M9 q _ => ?_) (fun E M9 q _ => (Sum.inr_ne_inl q.1).elim)
  obtain rfl : v = some (.int r18.1) := Sum.inl.inj q.1
  obtain rfl := q.2.symm
  refine fr_st (S' := [.int r18.1]) rfl ?_
  obtain rfl := Option.some.inj h
  exact fr_iret rfl dX10_answerOfCommand_214 ⟨rfl, rfl⟩
def lp_X10_carryOutAll_2 (p_0 : Nat) : Nat → Int32 → Mem → Option ((Int32 × Mem) ⊕ (Int32 × Mem))
  | 0, _, _ => none
  | n + 1, x_1, M_ => (gP M_ 10 p_0 6).bind fun p1 => (gI M_ 6 p1 4).bind fun x2 => if x2 ≤ x_1 then (some (.inl (x_1, M_))) else ((rc M_ 10 p_0).bind fun _ => (f_X10_answerOfCommand p_0 x_1 M_).bind fun r4 => if 0 ≤ r4.1 then (lp_X10_carryOutAll_2 p_0 n (x_1 + 1) r4.2) else (some (.inr (x_1, r4.2))))
def f_X10_carryOutAll (p0a : Nat) (M : Mem) : Option (Int32 × Mem) := ((lp_X10_carryOutAll_2 p0a 100 0 M).bind fun q7 => match q7 with | .inl (q7_1, q7_M) => (some ((-1), q7_M)) | .inr q7_r => some q7_r)
set_option maxRecDepth 20000 in
theorem lp_X10_carryOutAll_2_ok {G : Nat × (Nat → Int32) × Value} {P : Res → Mem → Prop} {n0 d ke : Nat} {p_0 : Nat} (hd : 8 ≤ d) : ∀ (n : Nat) (x_1 : Int32) (M_ : Mem) (res : (Int32 × Mem) ⊕ (Int32 × Mem)), lp_X10_carryOutAll_2 p_0 n x_1 M_ = some res → (∀ (y_1 : Int32) (M9 : Mem), res = .inl (y_1, M9) → Fr (roG G) false n0 YX10_carryOutAll d ke 29 [(0, .ref p_0), (1, .int y_1)] [] M9 P) → (∀ r : Int32 × Mem, res = .inr r → P (wI r.1) r.2) → Fr (roG G) false n0 YX10_carryOutAll d ke 2 [(0, .ref p_0), (1, .int x_1)] [] M_ P := by
  intro n
  induction n with
  | zero => intro x_1 M_ res h; unfold lp_X10_carryOutAll_2 at h; cases h
  | succ n ih =>
    intro x_1 M_ res h he hr
    unfold lp_X10_carryOutAll_2 at h
    refine fr_iload_n 1 dX10_carryOutAll_2 rfl ?_
    refine fr_aload_n 0 dX10_carryOutAll_3 rfl ?_
    obtain ⟨p1, ep1, h⟩ := ob h
    try dsimp only at h
    refine fr_gP cb10 6 (by decide) rfl w_233 dX10_carryOutAll_4 ep1 ?_
    obtain ⟨x2, ex2, h⟩ := ob h
    try dsimp only at h
    refine fr_gI cb6 4 (by decide) rfl w_200 dX10_carryOutAll_7 ex2 ?_
    refine fr_icmp_ge 29 dX10_carryOutAll_10 (by decide) (fun c3 => ?_) (fun c3 => ?_)
    · rw [if_pos c3] at h
      obtain rfl := Option.some.inj h
      exact he _ _ rfl
    · rw [if_neg c3] at h
      refine fr_aload_n 0 dX10_carryOutAll_13 rfl ?_
      refine fr_iload_n 1 dX10_carryOutAll_14 rfl ?_
      obtain ⟨u5, eu5, h⟩ := ob h
      try dsimp only at h
      obtain ⟨r4, er4, h⟩ := ob h
      try dsimp only at h
      refine fr_callV (g1 := false) (k2 := ke) (ev_X10_answerOfCommand er4) rfl cyX10_answerOfCommand w_806 w_808 w_6 (rc_ok eu5 rfl (by decide)) (by rfl) (by omega) (by omega) (by rfl) (Nat.le_of_ble_eq_true rfl) dX10_carryOutAll_15 (Or.inl rfl) (fun v M9 q _ => ?_) (fun E M9 q _ => (Sum.inr_ne_inl q.1).elim)
      obtain rfl : v = some (.int r4.1) := Sum.inl.inj q.1
      obtain rfl := q.2.symm
      refine fr_st (S' := [.int r4.1]) rfl ?_
      refine fr_if_ge 23 dX10_carryOutAll_18 (by decide) (fun c6 => ?_) (fun c6 => ?_)
      · rw [if_pos c6] at h
        refine fr_iinc (v := (x_1 + 1)) (L' := [(0, .ref p_0), (1, .int (x_1 + 1))]) 1 dX10_carryOutAll_23 rfl rfl (by decide) rfl ?_
        refine fr_goto 2 dX10_carryOutAll_26 (by decide) ?_
        exact ih _ _ _ h he hr
      · rw [if_neg c6] at h
        refine fr_iload_n 1 dX10_carryOutAll_21 rfl ?_
        obtain rfl := Option.some.inj h
        exact fr_iret rfl dX10_carryOutAll_22 (hr _ rfl)
set_option maxRecDepth 20000 in
theorem ev_X10_carryOutAll {G : Nat × (Nat → Int32) × Value} {p0a : Nat} {M : Mem} {r : Int32 × Mem} (h : f_X10_carryOutAll p0a M = some r) : Ev (roG G) false YX10_carryOutAll 8 0 [.ref p0a] M (fun a b => a = wI r.1 ∧ b = r.2) := by
  refine ev_of cyX10_carryOutAll.2.2.2.2 (Nat.le_of_ble_eq_true rfl) ?_
  show Fr _ _ _ _ _ _ 0 [(0, .ref p0a)] [] M _
  unfold f_X10_carryOutAll at h
  refine fr_iconst (v := 0) dX10_carryOutAll_0 (by decide) ?_
  refine fr_istore_n (L' := [(0, .ref p0a), (1, .int 0)]) dX10_carryOutAll_1 (by decide) rfl ?_
  obtain ⟨q7, eq7, h⟩ := ob h
  try dsimp only at h
  refine lp_X10_carryOutAll_2_ok (by omega) 100 _ _ q7 eq7 (fun q7_1 q7_M e9 => ?_) (fun q7_r e9 => ?_)
  · subst e9
    try dsimp only at h
    refine fr_iconst (v := (-1)) dX10_carryOutAll_29 (by decide) ?_
    obtain rfl := Option.some.inj h
    exact fr_iret rfl dX10_carryOutAll_30 ⟨rfl, rfl⟩
  · subst e9
    try dsimp only at h
    obtain rfl := Option.some.inj h
    exact ⟨rfl, rfl⟩
def f_X3_returnToPrepared (p0a : Nat) (p1a : Nat) (M : Mem) : Option (Unit × Mem) := (gP M 4 p0a 0).bind fun p1 => (gI M 4 p0a 1).bind fun x2 => (aP M 121 p1 x2).bind fun p3 => (rc M 9 p1a).bind fun _ => (f_X9_copyFrom p1a p3 M).bind fun r4 => some ((), r4.2)
set_option maxRecDepth 20000 in
theorem ev_X3_returnToPrepared {G : Nat × (Nat → Int32) × Value} {p0a : Nat} {p1a : Nat} {M : Mem} {r : Unit × Mem} (h : f_X3_returnToPrepared p0a p1a M = some r) : Ev (roG G) false YX3_returnToPrepared 3 0 [.ref p0a, .ref p1a] M (fun a b => a = wU r.1 ∧ b = r.2) := by
  refine ev_of cyX3_returnToPrepared.2.2.2.2 (Nat.le_of_ble_eq_true rfl) ?_
  show Fr _ _ _ _ _ _ 0 [(0, .ref p0a), (1, .ref p1a)] [] M _
  unfold f_X3_returnToPrepared at h
  refine fr_aload_n 1 dX3_returnToPrepared_0 rfl ?_
  refine fr_aload_n 0 dX3_returnToPrepared_1 rfl ?_
  obtain ⟨p1, ep1, h⟩ := ob h
  try dsimp only at h
  refine fr_gP cb4 0 (by decide) rfl w_156 dX3_returnToPrepared_2 ep1 ?_
  refine fr_aload_n 0 dX3_returnToPrepared_5 rfl ?_
  obtain ⟨x2, ex2, h⟩ := ob h
  try dsimp only at h
  refine fr_gI cb4 1 (by decide) rfl w_157 dX3_returnToPrepared_6 ex2 ?_
  obtain ⟨p3, ep3, h⟩ := ob h
  try dsimp only at h
  refine fr_aP (t := 121) (by decide) ep3 dX3_returnToPrepared_9 ?_
  obtain ⟨u5, eu5, h⟩ := ob h
  try dsimp only at h
  obtain ⟨r4, er4, h⟩ := ob h
  try dsimp only at h
  refine fr_callV (g1 := false) (k2 := 0) (ev_X9_copyFrom er4) rfl cyX9_copyFrom w_306 w_279 w_280 (rc_ok eu5 rfl (by decide)) (by rfl) (by omega) (by omega) (by rfl) (Nat.le_of_ble_eq_true rfl) dX3_returnToPrepared_10 (Or.inl rfl) (fun v M9 q _ => ?_) (fun E M9 q _ => (Sum.inr_ne_inl q.1).elim)
  obtain rfl : v = none := Sum.inl.inj q.1
  obtain rfl := q.2.symm
  refine fr_st (S' := []) rfl ?_
  obtain rfl := Option.some.inj h
  exact fr_vret rfl dX3_returnToPrepared_13 ⟨rfl, rfl⟩
def f_X6_empty (p0a : Nat) (M : Mem) : Option (Unit × Mem) := (sI M 6 p0a 3 .int 0).bind fun M1 => some ((), M1)
set_option maxRecDepth 20000 in
theorem ev_X6_empty {G : Nat × (Nat → Int32) × Value} {p0a : Nat} {M : Mem} {r : Unit × Mem} (h : f_X6_empty p0a M = some r) : Ev (roG G) false YX6_empty 0 0 [.ref p0a] M (fun a b => a = wU r.1 ∧ b = r.2) := by
  refine ev_of cyX6_empty.2.2.2.2 (Nat.le_of_ble_eq_true rfl) ?_
  show Fr _ _ _ _ _ _ 0 [(0, .ref p0a)] [] M _
  unfold f_X6_empty at h
  refine fr_aload_n 0 dX6_empty_0 rfl ?_
  refine fr_iconst (v := 0) dX6_empty_1 (by decide) ?_
  obtain ⟨M1, eM1, h⟩ := ob h
  try dsimp only at h
  refine fr_sI cb6 3 (by decide) rfl rfl w_197 dX6_empty_2 eM1 ?_
  obtain rfl := Option.some.inj h
  exact fr_vret rfl dX6_empty_5 ⟨rfl, rfl⟩
def f_X6_allForms (M : Mem) : Option (Int32) := (oL (ROB + 1)).bind fun x1 => some ((1 <<< (x1 &&& 31)) - 1)
set_option maxRecDepth 20000 in
theorem ev_X6_allForms {G : Nat × (Nat → Int32) × Value} {M : Mem} {r : Int32} (h : f_X6_allForms M = some r) : Ev (roG G) false YX6_allForms 0 0 [] M (fun a b => a = wI r ∧ b = M) := by
  refine ev_of cyX6_allForms.2.2.2.2 (Nat.le_of_ble_eq_true rfl) ?_
  show Fr _ _ _ _ _ _ 0 [] [] M _
  unfold f_X6_allForms at h
  refine fr_iconst (v := 1) dX6_allForms_0 (by decide) ?_
  refine fr_getsN (host := "MapHall") (show _ ∈ roZ _ from List.mem_of_getElem? (i := 0) rfl) (show _ ∈ roL from List.mem_of_getElem? (i := 0) rfl) dX6_allForms_1 ?_
  obtain ⟨x1, ex1, h⟩ := ob h
  try dsimp only at h
  refine fr_oL ex1 dX6_allForms_4 ?_
  refine fr_ishl dX6_allForms_5 ?_
  refine fr_iconst (v := 1) dX6_allForms_6 (by decide) ?_
  refine fr_isub dX6_allForms_7 ?_
  obtain rfl := Option.some.inj h
  exact fr_iret rfl dX6_allForms_8 ⟨rfl, rfl⟩
def f_X1_size (p0a : Nat) (M : Mem) : Option (Int32) := (fPat p0a).bind fun p1 => (rcS M p1).bind fun _ => (f_J0_length_8abf5 p1 M).bind fun r2 => some r2
set_option maxRecDepth 20000 in
theorem ev_X1_size {G : Nat × (Nat → Int32) × Value} {p0a : Nat} {M : Mem} {r : Int32} (h : f_X1_size p0a M = some r) : Ev (roG G) false YX1_size 2 0 [.ref p0a] M (fun a b => a = wI r ∧ b = M) := by
  refine ev_of cyX1_size.2.2.2.2 (Nat.le_of_ble_eq_true rfl) ?_
  show Fr _ _ _ _ _ _ 0 [(0, .ref p0a)] [] M _
  unfold f_X1_size at h
  refine fr_aload_n 0 dX1_size_0 rfl ?_
  obtain ⟨p1, ep1, h⟩ := ob h
  try dsimp only at h
  refine fr_fP w_1508 dX1_size_1 ep1 ?_
  obtain ⟨u3, eu3, h⟩ := ob h
  try dsimp only at h
  obtain ⟨r2, er2, h⟩ := ob h
  try dsimp only at h
  refine fr_callV (g1 := false) (k2 := 0) (ev_J0_length_8abf5 er2) rfl cyJ0_length_8abf5 w_740 w_741 w_742 (rcS_ok eu3) (by rfl) (by omega) (by omega) (by rfl) (Nat.le_of_ble_eq_true rfl) dX1_size_4 (Or.inl rfl) (fun v M9 q _ => ?_) (fun E M9 q _ => (Sum.inr_ne_inl q.1).elim)
  obtain rfl : v = some (.int r2) := Sum.inl.inj q.1
  obtain rfl := q.2.symm
  refine fr_st (S' := [.int r2]) rfl ?_
  obtain rfl := Option.some.inj h
  exact fr_iret rfl dX1_size_7 ⟨rfl, rfl⟩
def lp_X6_noteCommand_3 (p_0 : Nat) (x_1 : Int32) (x_2 : Int32) (x_3 : Int32) (M_ : Mem) : Nat → Int32 → Option ((Int32) ⊕ (Int32 × Mem))
  | 0, _ => none
  | n + 1, x_4 => (oL (ROB + 1)).bind fun x1 => if x1 ≤ x_4 then (some (.inl x_4)) else (if ((x_1 >>> (x_4 &&& 31)) &&& 1) = 1 then ((oG (ROB + 1) x_4).bind fun p4 => (rcF p4).bind fun _ => (f_X1_size p4 M_).bind fun r5 => if r5 = (x_3 - x_2) then ((gP M_ 6 p_0 1).bind fun p8 => (gI M_ 6 p_0 4).bind fun x9 => (asI M_ 100 p8 x9 x_2).bind fun M10 => (gP M10 6 p_0 2).bind fun p11 => (gI M10 6 p_0 4).bind fun x12 => (asI M10 100 p11 x12 x_4).bind fun M13 => (gI M13 6 p_0 4).bind fun x14 => (sI M13 6 p_0 4 .int (x14 + 1)).bind fun M15 => some (.inr (1, M15))) else (lp_X6_noteCommand_3 p_0 x_1 x_2 x_3 M_ n (x_4 + 1))) else (lp_X6_noteCommand_3 p_0 x_1 x_2 x_3 M_ n (x_4 + 1)))
def f_X6_noteCommand (p0a : Nat) (x1a : Int32) (x2a : Int32) (x3a : Int32) (M : Mem) : Option (Int32 × Mem) := ((lp_X6_noteCommand_3 p0a x1a x2a x3a M 100 0).bind fun q16 => match q16 with | .inl q16_4 => (some (0, M)) | .inr q16_r => some q16_r)
set_option maxRecDepth 20000 in
theorem lp_X6_noteCommand_3_ok {G : Nat × (Nat → Int32) × Value} {P : Res → Mem → Prop} {n0 d ke : Nat} {p_0 : Nat} {x_1 : Int32} {x_2 : Int32} {x_3 : Int32} {M_ : Mem} (hd : 3 ≤ d) : ∀ (n : Nat) (x_4 : Int32) (res : (Int32) ⊕ (Int32 × Mem)), lp_X6_noteCommand_3 p_0 x_1 x_2 x_3 M_ n x_4 = some res → (∀ (y_4 : Int32), res = .inl y_4 → Fr (roG G) false n0 YX6_noteCommand d ke 76 [(0, .ref p_0), (1, .int x_1), (2, .int x_2), (3, .int x_3), (4, .int y_4)] [] M_ P) → (∀ r : Int32 × Mem, res = .inr r → P (wI r.1) r.2) → Fr (roG G) false n0 YX6_noteCommand d ke 3 [(0, .ref p_0), (1, .int x_1), (2, .int x_2), (3, .int x_3), (4, .int x_4)] [] M_ P := by
  intro n
  induction n with
  | zero => intro x_4 res h; unfold lp_X6_noteCommand_3 at h; cases h
  | succ n ih =>
    intro x_4 res h he hr
    unfold lp_X6_noteCommand_3 at h
    refine fr_iload 4 dX6_noteCommand_3 rfl ?_
    refine fr_getsN (host := "MapHall") (show _ ∈ roZ _ from List.mem_of_getElem? (i := 0) rfl) (show _ ∈ roL from List.mem_of_getElem? (i := 0) rfl) dX6_noteCommand_5 ?_
    obtain ⟨x1, ex1, h⟩ := ob h
    try dsimp only at h
    refine fr_oL ex1 dX6_noteCommand_8 ?_
    refine fr_icmp_ge 76 dX6_noteCommand_9 (by decide) (fun c2 => ?_) (fun c2 => ?_)
    · rw [if_pos c2] at h
      obtain rfl := Option.some.inj h
      exact he _ rfl
    · rw [if_neg c2] at h
      refine fr_iload_n 1 dX6_noteCommand_12 rfl ?_
      refine fr_iload 4 dX6_noteCommand_13 rfl ?_
      refine fr_ishr dX6_noteCommand_15 ?_
      refine fr_iconst (v := 1) dX6_noteCommand_16 (by decide) ?_
      refine fr_iand dX6_noteCommand_17 ?_
      refine fr_iconst (v := 1) dX6_noteCommand_18 (by decide) ?_
      refine fr_icmp_ne 70 dX6_noteCommand_19 (by decide) (fun c3 => ?_) (fun c3 => ?_)
      · rw [if_neg c3] at h
        refine fr_iinc (v := (x_4 + 1)) (L' := [(0, .ref p_0), (1, .int x_1), (2, .int x_2), (3, .int x_3), (4, .int (x_4 + 1))]) 4 dX6_noteCommand_70 rfl rfl (by decide) rfl ?_
        refine fr_goto 3 dX6_noteCommand_73 (by decide) ?_
        exact ih _ _ h he hr
      · rw [if_pos c3] at h
        refine fr_getsN (host := "MapHall") (show _ ∈ roZ _ from List.mem_of_getElem? (i := 0) rfl) (show _ ∈ roL from List.mem_of_getElem? (i := 0) rfl) dX6_noteCommand_22 ?_
        refine fr_iload 4 dX6_noteCommand_25 rfl ?_
        obtain ⟨p4, ep4, h⟩ := ob h
        try dsimp only at h
        refine fr_oG ep4 dX6_noteCommand_27 ?_
        obtain ⟨u6, eu6, h⟩ := ob h
        try dsimp only at h
        obtain ⟨r5, er5, h⟩ := ob h
        try dsimp only at h
        refine fr_callV (g1 := false) (k2 := ke) (ev_X1_size er5) rfl cyX1_size w_736 w_737 w_738 (rcF_ok eu6) (by rfl) (by omega) (by omega) (by rfl) (Nat.le_of_ble_eq_true rfl) dX6_noteCommand_28 (Or.inl rfl) (fun v M9 q _ => ?_) (fun E M9 q _ => (Sum.inr_ne_inl q.1).elim)
        obtain rfl : v = some (.int r5) := Sum.inl.inj q.1
        obtain rfl := q.2.symm
        refine fr_st (S' := [.int r5]) rfl ?_
        refine fr_iload_n 3 dX6_noteCommand_31 rfl ?_
        refine fr_iload_n 2 dX6_noteCommand_32 rfl ?_
        refine fr_isub dX6_noteCommand_33 ?_
        refine fr_icmp_ne 70 dX6_noteCommand_34 (by decide) (fun c7 => ?_) (fun c7 => ?_)
        · rw [if_neg c7] at h
          refine fr_iinc (v := (x_4 + 1)) (L' := [(0, .ref p_0), (1, .int x_1), (2, .int x_2), (3, .int x_3), (4, .int (x_4 + 1))]) 4 dX6_noteCommand_70 rfl rfl (by decide) rfl ?_
          refine fr_goto 3 dX6_noteCommand_73 (by decide) ?_
          exact ih _ _ h he hr
        · rw [if_pos c7] at h
          refine fr_aload_n 0 dX6_noteCommand_37 rfl ?_
          obtain ⟨p8, ep8, h⟩ := ob h
          try dsimp only at h
          refine fr_gP cb6 1 (by decide) rfl w_194 dX6_noteCommand_38 ep8 ?_
          refine fr_aload_n 0 dX6_noteCommand_41 rfl ?_
          obtain ⟨x9, ex9, h⟩ := ob h
          try dsimp only at h
          refine fr_gI cb6 4 (by decide) rfl w_199 dX6_noteCommand_42 ex9 ?_
          refine fr_iload_n 2 dX6_noteCommand_45 rfl ?_
          obtain ⟨M10, eM10, h⟩ := ob h
          try dsimp only at h
          refine fr_asI eM10 dX6_noteCommand_46 ?_
          refine fr_aload_n 0 dX6_noteCommand_47 rfl ?_
          obtain ⟨p11, ep11, h⟩ := ob h
          try dsimp only at h
          refine fr_gP cb6 2 (by decide) rfl w_195 dX6_noteCommand_48 ep11 ?_
          refine fr_aload_n 0 dX6_noteCommand_51 rfl ?_
          obtain ⟨x12, ex12, h⟩ := ob h
          try dsimp only at h
          refine fr_gI cb6 4 (by decide) rfl w_199 dX6_noteCommand_52 ex12 ?_
          refine fr_iload 4 dX6_noteCommand_55 rfl ?_
          obtain ⟨M13, eM13, h⟩ := ob h
          try dsimp only at h
          refine fr_asI eM13 dX6_noteCommand_57 ?_
          refine fr_aload_n 0 dX6_noteCommand_58 rfl ?_
          refine fr_dup dX6_noteCommand_59 rfl ?_
          obtain ⟨x14, ex14, h⟩ := ob h
          try dsimp only at h
          refine fr_gI cb6 4 (by decide) rfl w_199 dX6_noteCommand_60 ex14 ?_
          refine fr_iconst (v := 1) dX6_noteCommand_63 (by decide) ?_
          refine fr_iadd dX6_noteCommand_64 ?_
          obtain ⟨M15, eM15, h⟩ := ob h
          try dsimp only at h
          refine fr_sI cb6 4 (by decide) rfl rfl w_199 dX6_noteCommand_65 eM15 ?_
          refine fr_iconst (v := 1) dX6_noteCommand_68 (by decide) ?_
          obtain rfl := Option.some.inj h
          exact fr_zret (ty := .boolean) rfl rfl dX6_noteCommand_69 (hr _ rfl)
set_option maxRecDepth 20000 in
theorem ev_X6_noteCommand {G : Nat × (Nat → Int32) × Value} {p0a : Nat} {x1a : Int32} {x2a : Int32} {x3a : Int32} {M : Mem} {r : Int32 × Mem} (h : f_X6_noteCommand p0a x1a x2a x3a M = some r) : Ev (roG G) false YX6_noteCommand 3 0 [.ref p0a, .int x1a, .int x2a, .int x3a] M (fun a b => a = wI r.1 ∧ b = r.2) := by
  refine ev_of cyX6_noteCommand.2.2.2.2 (Nat.le_of_ble_eq_true rfl) ?_
  show Fr _ _ _ _ _ _ 0 [(0, .ref p0a), (1, .int x1a), (2, .int x2a), (3, .int x3a)] [] M _
  unfold f_X6_noteCommand at h
  refine fr_iconst (v := 0) dX6_noteCommand_0 (by decide) ?_
  refine fr_istore (L' := [(0, .ref p0a), (1, .int x1a), (2, .int x2a), (3, .int x3a), (4, .int 0)]) dX6_noteCommand_1 (by decide) rfl ?_
  obtain ⟨q16, eq16, h⟩ := ob h
  try dsimp only at h
  refine lp_X6_noteCommand_3_ok (by omega) 100 _ q16 eq16 (fun q16_4 e9 => ?_) (fun q16_r e9 => ?_)
  · subst e9
    try dsimp only at h
    refine fr_iconst (v := 0) dX6_noteCommand_76 (by decide) ?_
    obtain rfl := Option.some.inj h
    exact fr_zret (ty := .boolean) rfl rfl dX6_noteCommand_77 ⟨rfl, rfl⟩
  · subst e9
    try dsimp only at h
    obtain rfl := Option.some.inj h
    exact ⟨rfl, rfl⟩
def f_X1_accepts (p0a : Nat) (x1a : Int32) (x2a : Int32) (M : Mem) : Option (Int32) := if x2a < 0 then (some 0) else ((fPat p0a).bind fun p2 => (rcS M p2).bind fun _ => (f_J0_length_8abf5 p2 M).bind fun r3 => if x2a < r3 then ((fPat p0a).bind fun p6 => (rcS M p6).bind fun _ => (f_J0_charAt_5068e p6 x2a M).bind fun r7 => if r7 = 78 then (if x1a < 48 then (some 0) else (if 57 < x1a then (some 0) else (some 1))) else (if r7 = 75 then ((f_X10_isKind x1a M).bind fun r15 => (nr .boolean r15).bind fun _ => some r15) else (if r7 = 67 then ((f_X10_isCrease x1a M).bind fun r13 => (nr .boolean r13).bind fun _ => some r13) else (if x1a = r7 then (some 1) else (some 0))))) else (some 0))
set_option maxRecDepth 20000 in
theorem ev_X1_accepts {G : Nat × (Nat → Int32) × Value} {p0a : Nat} {x1a : Int32} {x2a : Int32} {M : Mem} {r : Int32} (h : f_X1_accepts p0a x1a x2a M = some r) : Ev (roG G) false YX1_accepts 4 0 [.ref p0a, .int x1a, .int x2a] M (fun a b => a = wI r ∧ b = M) := by
  refine ev_of cyX1_accepts.2.2.2.2 (Nat.le_of_ble_eq_true rfl) ?_
  show Fr _ _ _ _ _ _ 0 [(0, .ref p0a), (1, .int x1a), (2, .int x2a)] [] M _
  unfold f_X1_accepts at h
  refine fr_iload_n 2 dX1_accepts_0 rfl ?_
  refine fr_if_lt 15 dX1_accepts_1 (by decide) (fun c1 => ?_) (fun c1 => ?_)
  · rw [if_pos c1] at h
    refine fr_iconst (v := 0) dX1_accepts_15 (by decide) ?_
    obtain rfl := Option.some.inj h
    exact fr_zret (ty := .boolean) rfl rfl dX1_accepts_16 ⟨rfl, rfl⟩
  · rw [if_neg c1] at h
    refine fr_iload_n 2 dX1_accepts_4 rfl ?_
    refine fr_aload_n 0 dX1_accepts_5 rfl ?_
    obtain ⟨p2, ep2, h⟩ := ob h
    try dsimp only at h
    refine fr_fP w_1508 dX1_accepts_6 ep2 ?_
    obtain ⟨u4, eu4, h⟩ := ob h
    try dsimp only at h
    obtain ⟨r3, er3, h⟩ := ob h
    try dsimp only at h
    refine fr_callV (g1 := false) (k2 := 0) (ev_J0_length_8abf5 er3) rfl cyJ0_length_8abf5 w_740 w_741 w_742 (rcS_ok eu4) (by rfl) (by omega) (by omega) (by rfl) (Nat.le_of_ble_eq_true rfl) dX1_accepts_9 (Or.inl rfl) (fun v M9 q _ => ?_) (fun E M9 q _ => (Sum.inr_ne_inl q.1).elim)
    obtain rfl : v = some (.int r3) := Sum.inl.inj q.1
    obtain rfl := q.2.symm
    refine fr_st (S' := [.int r3, .int x2a]) rfl ?_
    refine fr_icmp_lt 17 dX1_accepts_12 (by decide) (fun c5 => ?_) (fun c5 => ?_)
    · rw [if_pos c5] at h
      refine fr_aload_n 0 dX1_accepts_17 rfl ?_
      obtain ⟨p6, ep6, h⟩ := ob h
      try dsimp only at h
      refine fr_fP w_1508 dX1_accepts_18 ep6 ?_
      refine fr_iload_n 2 dX1_accepts_21 rfl ?_
      obtain ⟨u8, eu8, h⟩ := ob h
      try dsimp only at h
      obtain ⟨r7, er7, h⟩ := ob h
      try dsimp only at h
      refine fr_callV (g1 := false) (k2 := 0) (ev_J0_charAt_5068e er7) rfl cyJ0_charAt_5068e w_757 w_758 w_759 (rcS_ok eu8) (by rfl) (by omega) (by omega) (by rfl) (Nat.le_of_ble_eq_true rfl) dX1_accepts_22 (Or.inl rfl) (fun v M9 q _ => ?_) (fun E M9 q _ => (Sum.inr_ne_inl q.1).elim)
      obtain rfl : v = some (.int r7) := Sum.inl.inj q.1
      obtain rfl := q.2.symm
      refine fr_st (S' := [.int r7]) rfl ?_
      refine fr_istore_n (L' := [(0, .ref p0a), (1, .int x1a), (2, .int x2a), (3, .int r7)]) dX1_accepts_25 (by decide) rfl ?_
      refine fr_iload_n 3 dX1_accepts_26 rfl ?_
      refine fr_bipush (v := 78) dX1_accepts_27 (by decide) ?_
      refine fr_icmp_ne 50 dX1_accepts_29 (by decide) (fun c9 => ?_) (fun c9 => ?_)
      · rw [if_neg c9] at h
        refine fr_iload_n 3 dX1_accepts_50 rfl ?_
        refine fr_bipush (v := 75) dX1_accepts_51 (by decide) ?_
        refine fr_icmp_ne 61 dX1_accepts_53 (by decide) (fun c10 => ?_) (fun c10 => ?_)
        · rw [if_neg c10] at h
          refine fr_iload_n 3 dX1_accepts_61 rfl ?_
          refine fr_bipush (v := 67) dX1_accepts_62 (by decide) ?_
          refine fr_icmp_ne 72 dX1_accepts_64 (by decide) (fun c11 => ?_) (fun c11 => ?_)
          · rw [if_neg c11] at h
            refine fr_iload_n 1 dX1_accepts_72 rfl ?_
            refine fr_iload_n 3 dX1_accepts_73 rfl ?_
            refine fr_icmp_ne 81 dX1_accepts_74 (by decide) (fun c12 => ?_) (fun c12 => ?_)
            · rw [if_neg c12] at h
              refine fr_iconst (v := 0) dX1_accepts_81 (by decide) ?_
              obtain rfl := Option.some.inj h
              exact fr_zret (ty := .boolean) rfl rfl dX1_accepts_82 ⟨rfl, rfl⟩
            · rw [if_pos c12] at h
              refine fr_iconst (v := 1) dX1_accepts_77 (by decide) ?_
              refine fr_goto 82 dX1_accepts_78 (by decide) ?_
              obtain rfl := Option.some.inj h
              exact fr_zret (ty := .boolean) rfl rfl dX1_accepts_82 ⟨rfl, rfl⟩
          · rw [if_pos c11] at h
            refine fr_iload_n 1 dX1_accepts_67 rfl ?_
            obtain ⟨r13, er13, h⟩ := ob h
            try dsimp only at h
            refine fr_callSN (g1 := false) (k2 := 0) "MapHall" (ev_X10_isCrease er13) rfl cyX10_isCrease (show _ ∈ roM from List.mem_of_getElem? (i := 13) rfl) w_508 (by rfl) (by omega) (by omega) (by rfl) (Nat.le_of_ble_eq_true rfl) dX1_accepts_68 (Or.inl rfl) (fun v M9 q _ => ?_) (fun E M9 q _ => (Sum.inr_ne_inl q.1).elim)
            obtain rfl : v = some (.int r13) := Sum.inl.inj q.1
            obtain rfl := q.2.symm
            refine fr_st (S' := [.int r13]) rfl ?_
            obtain ⟨u14, eu14, h⟩ := ob h
            try dsimp only at h
            obtain rfl := Option.some.inj h
            exact fr_zret1 (ty := .boolean) rfl dX1_accepts_71 eu14 ⟨rfl, rfl⟩
        · rw [if_pos c10] at h
          refine fr_iload_n 1 dX1_accepts_56 rfl ?_
          obtain ⟨r15, er15, h⟩ := ob h
          try dsimp only at h
          refine fr_callSN (g1 := false) (k2 := 0) "MapHall" (ev_X10_isKind er15) rfl cyX10_isKind (show _ ∈ roM from List.mem_of_getElem? (i := 12) rfl) w_315 (by rfl) (by omega) (by omega) (by rfl) (Nat.le_of_ble_eq_true rfl) dX1_accepts_57 (Or.inl rfl) (fun v M9 q _ => ?_) (fun E M9 q _ => (Sum.inr_ne_inl q.1).elim)
          obtain rfl : v = some (.int r15) := Sum.inl.inj q.1
          obtain rfl := q.2.symm
          refine fr_st (S' := [.int r15]) rfl ?_
          obtain ⟨u16, eu16, h⟩ := ob h
          try dsimp only at h
          obtain rfl := Option.some.inj h
          exact fr_zret1 (ty := .boolean) rfl dX1_accepts_60 eu16 ⟨rfl, rfl⟩
      · rw [if_pos c9] at h
        refine fr_iload_n 1 dX1_accepts_32 rfl ?_
        refine fr_bipush (v := 48) dX1_accepts_33 (by decide) ?_
        refine fr_icmp_lt 48 dX1_accepts_35 (by decide) (fun c17 => ?_) (fun c17 => ?_)
        · rw [if_pos c17] at h
          refine fr_iconst (v := 0) dX1_accepts_48 (by decide) ?_
          obtain rfl := Option.some.inj h
          exact fr_zret (ty := .boolean) rfl rfl dX1_accepts_49 ⟨rfl, rfl⟩
        · rw [if_neg c17] at h
          refine fr_iload_n 1 dX1_accepts_38 rfl ?_
          refine fr_bipush (v := 57) dX1_accepts_39 (by decide) ?_
          refine fr_icmp_gt 48 dX1_accepts_41 (by decide) (fun c18 => ?_) (fun c18 => ?_)
          · rw [if_pos c18] at h
            refine fr_iconst (v := 0) dX1_accepts_48 (by decide) ?_
            obtain rfl := Option.some.inj h
            exact fr_zret (ty := .boolean) rfl rfl dX1_accepts_49 ⟨rfl, rfl⟩
          · rw [if_neg c18] at h
            refine fr_iconst (v := 1) dX1_accepts_44 (by decide) ?_
            refine fr_goto 49 dX1_accepts_45 (by decide) ?_
            obtain rfl := Option.some.inj h
            exact fr_zret (ty := .boolean) rfl rfl dX1_accepts_49 ⟨rfl, rfl⟩
    · rw [if_neg c5] at h
      refine fr_iconst (v := 0) dX1_accepts_15 (by decide) ?_
      obtain rfl := Option.some.inj h
      exact fr_zret (ty := .boolean) rfl rfl dX1_accepts_16 ⟨rfl, rfl⟩
def lp_X6_stillAlive_5 (x_0 : Int32) (x_1 : Int32) (x_2 : Int32) (M_ : Mem) : Nat → Int32 → Int32 → Option ((Int32 × Int32) ⊕ (Int32))
  | 0, _, _ => none
  | n + 1, x_3, x_4 => (oL (ROB + 1)).bind fun x1 => if x1 ≤ x_4 then (some (.inl (x_3, x_4))) else (if ((x_0 >>> (x_4 &&& 31)) &&& 1) = 1 then ((oG (ROB + 1) x_4).bind fun p4 => (rcF p4).bind fun _ => (f_X1_accepts p4 x_1 x_2 M_).bind fun r5 => if r5 = 0 then (lp_X6_stillAlive_5 x_0 x_1 x_2 M_ n x_3 (x_4 + 1)) else (lp_X6_stillAlive_5 x_0 x_1 x_2 M_ n (x_3 ||| (1 <<< (x_4 &&& 31))) (x_4 + 1))) else (lp_X6_stillAlive_5 x_0 x_1 x_2 M_ n x_3 (x_4 + 1)))
def f_X6_stillAlive (x0a : Int32) (x1a : Int32) (x2a : Int32) (M : Mem) : Option (Int32) := ((lp_X6_stillAlive_5 x0a x1a x2a M 100 0 0).bind fun q8 => match q8 with | .inl (q8_3, q8_4) => (some q8_3) | .inr q8_r => some q8_r)
set_option maxRecDepth 20000 in
theorem lp_X6_stillAlive_5_ok {G : Nat × (Nat → Int32) × Value} {P : Res → Mem → Prop} {n0 d ke : Nat} {x_0 : Int32} {x_1 : Int32} {x_2 : Int32} {M_ : Mem} (hd : 5 ≤ d) : ∀ (n : Nat) (x_3 : Int32) (x_4 : Int32) (res : (Int32 × Int32) ⊕ (Int32)), lp_X6_stillAlive_5 x_0 x_1 x_2 M_ n x_3 x_4 = some res → (∀ (y_3 : Int32) (y_4 : Int32), res = .inl (y_3, y_4) → Fr (roG G) false n0 YX6_stillAlive d ke 51 [(0, .int x_0), (1, .int x_1), (2, .int x_2), (3, .int y_3), (4, .int y_4)] [] M_ P) → (∀ r : Int32, res = .inr r → P (wI r) M_) → Fr (roG G) false n0 YX6_stillAlive d ke 5 [(0, .int x_0), (1, .int x_1), (2, .int x_2), (3, .int x_3), (4, .int x_4)] [] M_ P := by
  intro n
  induction n with
  | zero => intro x_3 x_4 res h; unfold lp_X6_stillAlive_5 at h; cases h
  | succ n ih =>
    intro x_3 x_4 res h he hr
    unfold lp_X6_stillAlive_5 at h
    refine fr_iload 4 dX6_stillAlive_5 rfl ?_
    refine fr_getsN (host := "MapHall") (show _ ∈ roZ _ from List.mem_of_getElem? (i := 0) rfl) (show _ ∈ roL from List.mem_of_getElem? (i := 0) rfl) dX6_stillAlive_7 ?_
    obtain ⟨x1, ex1, h⟩ := ob h
    try dsimp only at h
    refine fr_oL ex1 dX6_stillAlive_10 ?_
    refine fr_icmp_ge 51 dX6_stillAlive_11 (by decide) (fun c2 => ?_) (fun c2 => ?_)
    · rw [if_pos c2] at h
      obtain rfl := Option.some.inj h
      exact he _ _ rfl
    · rw [if_neg c2] at h
      refine fr_iload_n 0 dX6_stillAlive_14 rfl ?_
      refine fr_iload 4 dX6_stillAlive_15 rfl ?_
      refine fr_ishr dX6_stillAlive_17 ?_
      refine fr_iconst (v := 1) dX6_stillAlive_18 (by decide) ?_
      refine fr_iand dX6_stillAlive_19 ?_
      refine fr_iconst (v := 1) dX6_stillAlive_20 (by decide) ?_
      refine fr_icmp_ne 45 dX6_stillAlive_21 (by decide) (fun c3 => ?_) (fun c3 => ?_)
      · rw [if_neg c3] at h
        refine fr_iinc (v := (x_4 + 1)) (L' := [(0, .int x_0), (1, .int x_1), (2, .int x_2), (3, .int x_3), (4, .int (x_4 + 1))]) 4 dX6_stillAlive_45 rfl rfl (by decide) rfl ?_
        refine fr_goto 5 dX6_stillAlive_48 (by decide) ?_
        exact ih _ _ _ h he hr
      · rw [if_pos c3] at h
        refine fr_getsN (host := "MapHall") (show _ ∈ roZ _ from List.mem_of_getElem? (i := 0) rfl) (show _ ∈ roL from List.mem_of_getElem? (i := 0) rfl) dX6_stillAlive_24 ?_
        refine fr_iload 4 dX6_stillAlive_27 rfl ?_
        obtain ⟨p4, ep4, h⟩ := ob h
        try dsimp only at h
        refine fr_oG ep4 dX6_stillAlive_29 ?_
        refine fr_iload_n 1 dX6_stillAlive_30 rfl ?_
        refine fr_iload_n 2 dX6_stillAlive_31 rfl ?_
        obtain ⟨u6, eu6, h⟩ := ob h
        try dsimp only at h
        obtain ⟨r5, er5, h⟩ := ob h
        try dsimp only at h
        refine fr_callV (g1 := false) (k2 := ke) (ev_X1_accepts er5) rfl cyX1_accepts w_753 w_754 w_755 (rcF_ok eu6) (by rfl) (by omega) (by omega) (by rfl) (Nat.le_of_ble_eq_true rfl) dX6_stillAlive_32 (Or.inl rfl) (fun v M9 q _ => ?_) (fun E M9 q _ => (Sum.inr_ne_inl q.1).elim)
        obtain rfl : v = some (.int r5) := Sum.inl.inj q.1
        obtain rfl := q.2.symm
        refine fr_st (S' := [.int r5]) rfl ?_
        refine fr_if_eq 45 dX6_stillAlive_35 (by decide) (fun c7 => ?_) (fun c7 => ?_)
        · rw [if_pos c7] at h
          refine fr_iinc (v := (x_4 + 1)) (L' := [(0, .int x_0), (1, .int x_1), (2, .int x_2), (3, .int x_3), (4, .int (x_4 + 1))]) 4 dX6_stillAlive_45 rfl rfl (by decide) rfl ?_
          refine fr_goto 5 dX6_stillAlive_48 (by decide) ?_
          exact ih _ _ _ h he hr
        · rw [if_neg c7] at h
          refine fr_iload_n 3 dX6_stillAlive_38 rfl ?_
          refine fr_iconst (v := 1) dX6_stillAlive_39 (by decide) ?_
          refine fr_iload 4 dX6_stillAlive_40 rfl ?_
          refine fr_ishl dX6_stillAlive_42 ?_
          refine fr_ior dX6_stillAlive_43 ?_
          refine fr_istore_n (L' := [(0, .int x_0), (1, .int x_1), (2, .int x_2), (3, .int (x_3 ||| (1 <<< (x_4 &&& 31)))), (4, .int x_4)]) dX6_stillAlive_44 (by decide) rfl ?_
          refine fr_iinc (v := (x_4 + 1)) (L' := [(0, .int x_0), (1, .int x_1), (2, .int x_2), (3, .int (x_3 ||| (1 <<< (x_4 &&& 31)))), (4, .int (x_4 + 1))]) 4 dX6_stillAlive_45 rfl rfl (by decide) rfl ?_
          refine fr_goto 5 dX6_stillAlive_48 (by decide) ?_
          exact ih _ _ _ h he hr
set_option maxRecDepth 20000 in
theorem ev_X6_stillAlive {G : Nat × (Nat → Int32) × Value} {x0a : Int32} {x1a : Int32} {x2a : Int32} {M : Mem} {r : Int32} (h : f_X6_stillAlive x0a x1a x2a M = some r) : Ev (roG G) false YX6_stillAlive 5 0 [.int x0a, .int x1a, .int x2a] M (fun a b => a = wI r ∧ b = M) := by
  refine ev_of cyX6_stillAlive.2.2.2.2 (Nat.le_of_ble_eq_true rfl) ?_
  show Fr _ _ _ _ _ _ 0 [(0, .int x0a), (1, .int x1a), (2, .int x2a)] [] M _
  unfold f_X6_stillAlive at h
  refine fr_iconst (v := 0) dX6_stillAlive_0 (by decide) ?_
  refine fr_istore_n (L' := [(0, .int x0a), (1, .int x1a), (2, .int x2a), (3, .int 0)]) dX6_stillAlive_1 (by decide) rfl ?_
  refine fr_iconst (v := 0) dX6_stillAlive_2 (by decide) ?_
  refine fr_istore (L' := [(0, .int x0a), (1, .int x1a), (2, .int x2a), (3, .int 0), (4, .int 0)]) dX6_stillAlive_3 (by decide) rfl ?_
  obtain ⟨q8, eq8, h⟩ := ob h
  try dsimp only at h
  refine lp_X6_stillAlive_5_ok (by omega) 100 _ _ q8 eq8 (fun q8_3 q8_4 e9 => ?_) (fun q8_r e9 => ?_)
  · subst e9
    try dsimp only at h
    refine fr_iload_n 3 dX6_stillAlive_51 rfl ?_
    obtain rfl := Option.some.inj h
    exact fr_iret rfl dX6_stillAlive_52 ⟨rfl, rfl⟩
  · subst e9
    try dsimp only at h
    obtain rfl := Option.some.inj h
    exact ⟨rfl, rfl⟩
