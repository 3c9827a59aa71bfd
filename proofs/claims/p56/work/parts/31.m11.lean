/-! ===== methods, 11: X6_read X10_runCommands L_run L_runs L_some X10_take L_take X10_unfold L_unfold J5_init_d00df J4_init_da8c8 J5_ensureCapacityInternal_d00df J5_isLatin1_aae02 J6_getChars_ba4f3 ===== -/
def lp_X6_read_13 (p_0 : Nat) : Nat → Int32 → Int32 → Int32 → Mem → Option ((Int32 × Int32 × Int32 × Mem) ⊕ (Int32 × Mem))
  | 0, _, _, _, _ => none
  | n + 1, x_1, x_2, x_3, M_ => (gI M_ 6 p_0 3).bind fun x3 => if x3 ≤ x_3 then (some (.inl (x_1, x_2, x_3, M_))) else ((gP M_ 6 p_0 0).bind fun p5 => (aI M_ 101 p5 x_3).bind fun x6 => if x6 = 59 then ((rc M_ 6 p_0).bind fun _ => (f_X6_noteCommand p_0 x_2 x_1 x_3 M_).bind fun r12 => if r12.1 = 0 then (some (.inr (x_3, r12.2))) else ((f_X6_allForms r12.2).bind fun r15 => lp_X6_read_13 p_0 n (x_3 + 1) r15 (x_3 + 1) r12.2)) else ((gP M_ 6 p_0 0).bind fun p8 => (aI M_ 101 p8 x_3).bind fun x9 => (f_X6_stillAlive x_2 x9 (x_3 - x_1) M_).bind fun r10 => if r10 = 0 then (some (.inr (x_3, M_))) else (lp_X6_read_13 p_0 n x_1 r10 (x_3 + 1) M_)))
def f_X6_read (p0a : Nat) (M : Mem) : Option (Int32 × Mem) := (sI M 6 p0a 4 .int 0).bind fun M1 => (f_X6_allForms M1).bind fun r2 => ((lp_X6_read_13 p0a 100 0 r2 0 M1).bind fun q16 => match q16 with | .inl (q16_1, q16_2, q16_3, q16_M) => ((gI q16_M 6 p0a 3).bind fun x17 => (rc q16_M 6 p0a).bind fun _ => (f_X6_noteCommand p0a q16_2 q16_1 x17 q16_M).bind fun r18 => if r18.1 = 0 then ((gI r18.2 6 p0a 3).bind fun x21 => some (x21, r18.2)) else (some ((-1), r18.2))) | .inr q16_r => some q16_r)
set_option maxRecDepth 20000 in
theorem lp_X6_read_13_ok {G : Nat × (Nat → Int32) × Value} {P : Res → Mem → Prop} {n0 d ke : Nat} {p_0 : Nat} (hd : 6 ≤ d) : ∀ (n : Nat) (x_1 : Int32) (x_2 : Int32) (x_3 : Int32) (M_ : Mem) (res : (Int32 × Int32 × Int32 × Mem) ⊕ (Int32 × Mem)), lp_X6_read_13 p_0 n x_1 x_2 x_3 M_ = some res → (∀ (y_1 : Int32) (y_2 : Int32) (y_3 : Int32) (M9 : Mem), res = .inl (y_1, y_2, y_3, M9) → Fr (roG G) false n0 YX6_read d ke 81 [(0, .ref p_0), (1, .int y_1), (2, .int y_2), (3, .int y_3)] [] M9 P) → (∀ r : Int32 × Mem, res = .inr r → P (wI r.1) r.2) → Fr (roG G) false n0 YX6_read d ke 13 [(0, .ref p_0), (1, .int x_1), (2, .int x_2), (3, .int x_3)] [] M_ P := by
  intro n
  induction n with
  | zero => intro x_1 x_2 x_3 M_ res h; unfold lp_X6_read_13 at h; cases h
  | succ n ih =>
    intro x_1 x_2 x_3 M_ res h he hr
    unfold lp_X6_read_13 at h
    refine fr_iload_n 3 dX6_read_13 rfl ?_
    refine fr_aload_n 0 dX6_read_14 rfl ?_
    obtain ⟨x3, ex3, h⟩ := ob h
    try dsimp only at h
    refine fr_gI cb6 3 (by decide) rfl w_197 dX6_read_15 ex3 ?_
    refine fr_icmp_ge 81 dX6_read_18 (by decide) (fun c4 => ?_) (fun c4 => ?_)
    · rw [if_pos c4] at h
      obtain rfl := Option.some.inj h
      exact he _ _ _ _ rfl
    · rw [if_neg c4] at h
      refine fr_aload_n 0 dX6_read_21 rfl ?_
      obtain ⟨p5, ep5, h⟩ := ob h
      try dsimp only at h
      refine fr_gP cb6 0 (by decide) rfl w_193 dX6_read_22 ep5 ?_
      refine fr_iload_n 3 dX6_read_25 rfl ?_
      obtain ⟨x6, ex6, h⟩ := ob h
      try dsimp only at h
      refine fr_aI1 ex6 dX6_read_26 ?_
      refine fr_bipush (v := 59) dX6_read_27 (by decide) ?_
      refine fr_icmp_ne 55 dX6_read_29 (by decide) (fun c7 => ?_) (fun c7 => ?_)
      · rw [if_neg c7] at h
        refine fr_iload_n 2 dX6_read_55 rfl ?_
        refine fr_aload_n 0 dX6_read_56 rfl ?_
        obtain ⟨p8, ep8, h⟩ := ob h
        try dsimp only at h
        refine fr_gP cb6 0 (by decide) rfl w_193 dX6_read_57 ep8 ?_
        refine fr_iload_n 3 dX6_read_60 rfl ?_
        obtain ⟨x9, ex9, h⟩ := ob h
        try dsimp only at h
        refine fr_aI1 ex9 dX6_read_61 ?_
        refine fr_iload_n 3 dX6_read_62 rfl ?_
        refine fr_iload_n 1 dX6_read_63 rfl ?_
        refine fr_isub dX6_read_64 ?_
        obtain ⟨r10, er10, h⟩ := ob h
        try dsimp only at h
        refine fr_callS (g1 := false) (k2 := ke) (ev_X6_stillAlive er10) rfl cyX6_stillAlive w_750 w_751 (by rfl) (by omega) (by omega) (by rfl) (Nat.le_of_ble_eq_true rfl) dX6_read_65 (Or.inl rfl) (fun v M9 q _ => ?_) (fun E M9 q _ => (Sum.inr_ne_inl q.1).elim)
        obtain rfl : v = some (.int r10) := Sum.inl.inj q.1
        obtain rfl := q.2.symm
        refine fr_st (S' := [.int r10]) rfl ?_
        refine fr_istore_n (L' := [(0, .ref p_0), (1, .int x_1), (2, .int r10), (3, .int x_3)]) dX6_read_68 (by decide) rfl ?_
        refine fr_iload_n 2 dX6_read_69 rfl ?_
        refine fr_if_ne 75 dX6_read_70 (by decide) (fun c11 => ?_) (fun c11 => ?_)
        · rw [if_neg c11] at h
          refine fr_iinc (v := (x_3 + 1)) (L' := [(0, .ref p_0), (1, .int x_1), (2, .int r10), (3, .int (x_3 + 1))]) 3 dX6_read_75 rfl rfl (by decide) rfl ?_
          refine fr_goto 13 dX6_read_78 (by decide) ?_
          exact ih _ _ _ _ _ h he hr
        · rw [if_pos c11] at h
          refine fr_iload_n 3 dX6_read_73 rfl ?_
          obtain rfl := Option.some.inj h
          exact fr_iret rfl dX6_read_74 (hr _ rfl)
      · rw [if_pos c7] at h
        refine fr_aload_n 0 dX6_read_32 rfl ?_
        refine fr_iload_n 2 dX6_read_33 rfl ?_
        refine fr_iload_n 1 dX6_read_34 rfl ?_
        refine fr_iload_n 3 dX6_read_35 rfl ?_
        obtain ⟨u13, eu13, h⟩ := ob h
        try dsimp only at h
        obtain ⟨r12, er12, h⟩ := ob h
        try dsimp only at h
        refine fr_callV (g1 := false) (k2 := ke) (ev_X6_noteCommand er12) rfl cyX6_noteCommand w_732 w_734 w_4 (rc_ok eu13 rfl (by decide)) (by rfl) (by omega) (by omega) (by rfl) (Nat.le_of_ble_eq_true rfl) dX6_read_36 (Or.inl rfl) (fun v M9 q _ => ?_) (fun E M9 q _ => (Sum.inr_ne_inl q.1).elim)
        obtain rfl : v = some (.int r12.1) := Sum.inl.inj q.1
        obtain rfl := q.2.symm
        refine fr_st (S' := [.int r12.1]) rfl ?_
        refine fr_if_ne 44 dX6_read_39 (by decide) (fun c14 => ?_) (fun c14 => ?_)
        · rw [if_neg c14] at h
          refine fr_iload_n 3 dX6_read_44 rfl ?_
          refine fr_iconst (v := 1) dX6_read_45 (by decide) ?_
          refine fr_iadd dX6_read_46 ?_
          refine fr_istore_n (L' := [(0, .ref p_0), (1, .int (x_3 + 1)), (2, .int x_2), (3, .int x_3)]) dX6_read_47 (by decide) rfl ?_
          obtain ⟨r15, er15, h⟩ := ob h
          try dsimp only at h
          refine fr_callS (g1 := false) (k2 := ke) (ev_X6_allForms er15) rfl cyX6_allForms w_727 w_728 (by rfl) (by omega) (by omega) (by rfl) (Nat.le_of_ble_eq_true rfl) dX6_read_48 (Or.inl rfl) (fun v M9 q _ => ?_) (fun E M9 q _ => (Sum.inr_ne_inl q.1).elim)
          obtain rfl : v = some (.int r15) := Sum.inl.inj q.1
          obtain rfl := q.2.symm
          refine fr_st (S' := [.int r15]) rfl ?_
          refine fr_istore_n (L' := [(0, .ref p_0), (1, .int (x_3 + 1)), (2, .int r15), (3, .int x_3)]) dX6_read_51 (by decide) rfl ?_
          refine fr_goto 75 dX6_read_52 (by decide) ?_
          refine fr_iinc (v := (x_3 + 1)) (L' := [(0, .ref p_0), (1, .int (x_3 + 1)), (2, .int r15), (3, .int (x_3 + 1))]) 3 dX6_read_75 rfl rfl (by decide) rfl ?_
          refine fr_goto 13 dX6_read_78 (by decide) ?_
          exact ih _ _ _ _ _ h he hr
        · rw [if_pos c14] at h
          refine fr_iload_n 3 dX6_read_42 rfl ?_
          obtain rfl := Option.some.inj h
          exact fr_iret rfl dX6_read_43 (hr _ rfl)
set_option maxRecDepth 20000 in
theorem ev_X6_read {G : Nat × (Nat → Int32) × Value} {p0a : Nat} {M : Mem} {r : Int32 × Mem} (h : f_X6_read p0a M = some r) : Ev (roG G) false YX6_read 6 0 [.ref p0a] M (fun a b => a = wI r.1 ∧ b = r.2) := by
  refine ev_of cyX6_read.2.2.2.2 (Nat.le_of_ble_eq_true rfl) ?_
  show Fr _ _ _ _ _ _ 0 [(0, .ref p0a)] [] M _
  unfold f_X6_read at h
  refine fr_aload_n 0 dX6_read_0 rfl ?_
  refine fr_iconst (v := 0) dX6_read_1 (by decide) ?_
  obtain ⟨M1, eM1, h⟩ := ob h
  try dsimp only at h
  refine fr_sI cb6 4 (by decide) rfl rfl w_199 dX6_read_2 eM1 ?_
  refine fr_iconst (v := 0) dX6_read_5 (by decide) ?_
  refine fr_istore_n (L' := [(0, .ref p0a), (1, .int 0)]) dX6_read_6 (by decide) rfl ?_
  obtain ⟨r2, er2, h⟩ := ob h
  try dsimp only at h
  refine fr_callS (g1 := false) (k2 := 0) (ev_X6_allForms er2) rfl cyX6_allForms w_727 w_728 (by rfl) (by omega) (by omega) (by rfl) (Nat.le_of_ble_eq_true rfl) dX6_read_7 (Or.inl rfl) (fun v M9 q _ => ?_) (fun E M9 q _ => (Sum.inr_ne_inl q.1).elim)
  obtain rfl : v = some (.int r2) := Sum.inl.inj q.1
  obtain rfl := q.2.symm
  refine fr_st (S' := [.int r2]) rfl ?_
  refine fr_istore_n (L' := [(0, .ref p0a), (1, .int 0), (2, .int r2)]) dX6_read_10 (by decide) rfl ?_
  refine fr_iconst (v := 0) dX6_read_11 (by decide) ?_
  refine fr_istore_n (L' := [(0, .ref p0a), (1, .int 0), (2, .int r2), (3, .int 0)]) dX6_read_12 (by decide) rfl ?_
  obtain ⟨q16, eq16, h⟩ := ob h
  try dsimp only at h
  refine lp_X6_read_13_ok (by omega) 100 _ _ _ _ q16 eq16 (fun q16_1 q16_2 q16_3 q16_M e9 => ?_) (fun q16_r e9 => ?_)
  · subst e9
    try dsimp only at h
    refine fr_aload_n 0 dX6_read_81 rfl ?_
    refine fr_iload_n 2 dX6_read_82 rfl ?_
    refine fr_iload_n 1 dX6_read_83 rfl ?_
    refine fr_aload_n 0 dX6_read_84 rfl ?_
    obtain ⟨x17, ex17, h⟩ := ob h
    try dsimp only at h
    refine fr_gI cb6 3 (by decide) rfl w_197 dX6_read_85 ex17 ?_
    obtain ⟨u19, eu19, h⟩ := ob h
    try dsimp only at h
    obtain ⟨r18, er18, h⟩ := ob h
    try dsimp only at h
    refine fr_callV (g1 := false) (k2 := 0) (ev_X6_noteCommand er18) rfl cyX6_noteCommand w_732 w_734 w_4 (rc_ok eu19 rfl (by decide)) (by rfl) (by omega) (by omega) (by rfl) (Nat.le_of_ble_eq_true rfl) dX6_read_88 (Or.inl rfl) (fun v M9 q _ => ?_) (fun E M9 q _ => (Sum.inr_ne_inl q.1).elim)
    obtain rfl : v = some (.int r18.1) := Sum.inl.inj q.1
    obtain rfl := q.2.symm
    refine fr_st (S' := [.int r18.1]) rfl ?_
    refine fr_if_eq 98 dX6_read_91 (by decide) (fun c20 => ?_) (fun c20 => ?_)
    · rw [if_pos c20] at h
      refine fr_aload_n 0 dX6_read_98 rfl ?_
      obtain ⟨x21, ex21, h⟩ := ob h
      try dsimp only at h
      refine fr_gI cb6 3 (by decide) rfl w_197 dX6_read_99 ex21 ?_
      obtain rfl := Option.some.inj h
      exact fr_iret rfl dX6_read_102 ⟨rfl, rfl⟩
    · rw [if_neg c20] at h
      refine fr_iconst (v := (-1)) dX6_read_94 (by decide) ?_
      refine fr_goto 102 dX6_read_95 (by decide) ?_
      obtain rfl := Option.some.inj h
      exact fr_iret rfl dX6_read_102 ⟨rfl, rfl⟩
  · subst e9
    try dsimp only at h
    obtain rfl := Option.some.inj h
    exact ⟨rfl, rfl⟩
def f_X10_runCommands (p0a : Nat) (M : Mem) : Option ((Int32 ⊕ String) × Mem) := (gP M 10 p0a 6).bind fun p1 => (rc M 6 p1).bind fun _ => (f_X6_read p1 M).bind fun r2 => if r2.1 = (-1) then ((gP r2.2 10 p0a 3).bind fun p5 => (gP r2.2 10 p0a 0).bind fun p6 => (rc r2.2 4 p5).bind fun _ => (f_X3_prepare p5 p6 r2.2).bind fun r7 => (rc r7.2 10 p0a).bind fun _ => (f_X10_carryOutAll p0a r7.2).bind fun r9 => (gP r9.2 10 p0a 6).bind fun p11 => (rc r9.2 6 p11).bind fun _ => (f_X6_empty p11 r9.2).bind fun r12 => if r9.1 = (-1) then ((gP r12.2 10 p0a 3).bind fun p15 => (rc r12.2 4 p15).bind fun _ => (f_X3_keepPrepared p15 r12.2).bind fun r16 => (gP r16.2 10 p0a 6).bind fun p18 => (gI r16.2 6 p18 4).bind fun x19 => some ((.inl x19), r16.2)) else ((sI r12.2 10 p0a 9 .int r9.1).bind fun M20 => (gP M20 10 p0a 3).bind fun p21 => (gP M20 10 p0a 0).bind fun p22 => (rc M20 4 p21).bind fun _ => (f_X3_returnToPrepared p21 p22 M20).bind fun r23 => some ((.inr "java/lang/UnsupportedOperationException"), r23.2))) else ((sI r2.2 10 p0a 8 .int r2.1).bind fun M25 => (gP M25 10 p0a 6).bind fun p26 => (rc M25 6 p26).bind fun _ => (f_X6_empty p26 M25).bind fun r27 => some ((.inr "java/lang/IllegalArgumentException"), r27.2))
set_option maxRecDepth 20000 in
theorem ev_X10_runCommands {G : Nat × (Nat → Int32) × Value} {p0a : Nat} {M : Mem} {r : (Int32 ⊕ String) × Mem} (h : f_X10_runCommands p0a M = some r) : Ev (roG G) false YX10_runCommands 9 1 [.ref p0a] M (fun a b => a = (wE wI) r.1 ∧ b = r.2) := by
  refine ev_of cyX10_runCommands.2.2.2.2 (Nat.le_of_ble_eq_true rfl) ?_
  show Fr _ _ _ _ _ _ 0 [(0, .ref p0a)] [] M _
  unfold f_X10_runCommands at h
  refine fr_aload_n 0 dX10_runCommands_0 rfl ?_
  obtain ⟨p1, ep1, h⟩ := ob h
  try dsimp only at h
  refine fr_gP cb10 6 (by decide) rfl w_233 dX10_runCommands_1 ep1 ?_
  obtain ⟨u3, eu3, h⟩ := ob h
  try dsimp only at h
  obtain ⟨r2, er2, h⟩ := ob h
  try dsimp only at h
  refine fr_callV (g1 := false) (k2 := 1) (ev_X6_read er2) rfl cyX6_read w_723 w_724 w_725 (rc_ok eu3 rfl (by decide)) (by rfl) (by omega) (by omega) (by rfl) (Nat.le_of_ble_eq_true rfl) dX10_runCommands_4 (Or.inl rfl) (fun v M9 q _ => ?_) (fun E M9 q _ => (Sum.inr_ne_inl q.1).elim)
  obtain rfl : v = some (.int r2.1) := Sum.inl.inj q.1
  obtain rfl := q.2.symm
  refine fr_st (S' := [.int r2.1]) rfl ?_
  refine fr_istore_n (L' := [(0, .ref p0a), (1, .int r2.1)]) dX10_runCommands_7 (by decide) rfl ?_
  refine fr_iload_n 1 dX10_runCommands_8 rfl ?_
  refine fr_iconst (v := (-1)) dX10_runCommands_9 (by decide) ?_
  refine fr_icmp_eq 36 dX10_runCommands_10 (by decide) (fun c4 => ?_) (fun c4 => ?_)
  · rw [if_pos c4] at h
    refine fr_aload_n 0 dX10_runCommands_36 rfl ?_
    obtain ⟨p5, ep5, h⟩ := ob h
    try dsimp only at h
    refine fr_gP cb10 3 (by decide) rfl w_230 dX10_runCommands_37 ep5 ?_
    refine fr_aload_n 0 dX10_runCommands_40 rfl ?_
    obtain ⟨p6, ep6, h⟩ := ob h
    try dsimp only at h
    refine fr_gP cb10 0 (by decide) rfl w_227 dX10_runCommands_41 ep6 ?_
    obtain ⟨u8, eu8, h⟩ := ob h
    try dsimp only at h
    obtain ⟨r7, er7, h⟩ := ob h
    try dsimp only at h
    refine fr_callV (g1 := false) (k2 := 1) (ev_X3_prepare er7) rfl cyX3_prepare w_302 w_303 w_304 (rc_ok eu8 rfl (by decide)) (by rfl) (by omega) (by omega) (by rfl) (Nat.le_of_ble_eq_true rfl) dX10_runCommands_44 (Or.inl rfl) (fun v M9 q _ => ?_) (fun E M9 q _ => (Sum.inr_ne_inl q.1).elim)
    obtain rfl : v = none := Sum.inl.inj q.1
    obtain rfl := q.2.symm
    refine fr_st (S' := []) rfl ?_
    refine fr_aload_n 0 dX10_runCommands_47 rfl ?_
    obtain ⟨u10, eu10, h⟩ := ob h
    try dsimp only at h
    obtain ⟨r9, er9, h⟩ := ob h
    try dsimp only at h
    refine fr_callV (g1 := false) (k2 := 1) (ev_X10_carryOutAll er9) rfl cyX10_carryOutAll w_802 w_804 w_5 (rc_ok eu10 rfl (by decide)) (by rfl) (by omega) (by omega) (by rfl) (Nat.le_of_ble_eq_true rfl) dX10_runCommands_48 (Or.inl rfl) (fun v M9 q _ => ?_) (fun E M9 q _ => (Sum.inr_ne_inl q.1).elim)
    obtain rfl : v = some (.int r9.1) := Sum.inl.inj q.1
    obtain rfl := q.2.symm
    refine fr_st (S' := [.int r9.1]) rfl ?_
    refine fr_istore_n (L' := [(0, .ref p0a), (1, .int r2.1), (2, .int r9.1)]) dX10_runCommands_51 (by decide) rfl ?_
    refine fr_aload_n 0 dX10_runCommands_52 rfl ?_
    obtain ⟨p11, ep11, h⟩ := ob h
    try dsimp only at h
    refine fr_gP cb10 6 (by decide) rfl w_233 dX10_runCommands_53 ep11 ?_
    obtain ⟨u13, eu13, h⟩ := ob h
    try dsimp only at h
    obtain ⟨r12, er12, h⟩ := ob h
    try dsimp only at h
    refine fr_callV (g1 := false) (k2 := 1) (ev_X6_empty er12) rfl cyX6_empty w_797 w_798 w_799 (rc_ok eu13 rfl (by decide)) (by rfl) (by omega) (by omega) (by rfl) (Nat.le_of_ble_eq_true rfl) dX10_runCommands_56 (Or.inl rfl) (fun v M9 q _ => ?_) (fun E M9 q _ => (Sum.inr_ne_inl q.1).elim)
    obtain rfl : v = none := Sum.inl.inj q.1
    obtain rfl := q.2.symm
    refine fr_st (S' := []) rfl ?_
    refine fr_iload_n 2 dX10_runCommands_59 rfl ?_
    refine fr_iconst (v := (-1)) dX10_runCommands_60 (by decide) ?_
    refine fr_icmp_eq 91 dX10_runCommands_61 (by decide) (fun c14 => ?_) (fun c14 => ?_)
    · rw [if_pos c14] at h
      refine fr_aload_n 0 dX10_runCommands_91 rfl ?_
      obtain ⟨p15, ep15, h⟩ := ob h
      try dsimp only at h
      refine fr_gP cb10 3 (by decide) rfl w_230 dX10_runCommands_92 ep15 ?_
      obtain ⟨u17, eu17, h⟩ := ob h
      try dsimp only at h
      obtain ⟨r16, er16, h⟩ := ob h
      try dsimp only at h
      refine fr_callV (g1 := false) (k2 := 1) (ev_X3_keepPrepared er16) rfl cyX3_keepPrepared w_464 w_465 w_466 (rc_ok eu17 rfl (by decide)) (by rfl) (by omega) (by omega) (by rfl) (Nat.le_of_ble_eq_true rfl) dX10_runCommands_95 (Or.inl rfl) (fun v M9 q _ => ?_) (fun E M9 q _ => (Sum.inr_ne_inl q.1).elim)
      obtain rfl : v = none := Sum.inl.inj q.1
      obtain rfl := q.2.symm
      refine fr_st (S' := []) rfl ?_
      refine fr_aload_n 0 dX10_runCommands_98 rfl ?_
      obtain ⟨p18, ep18, h⟩ := ob h
      try dsimp only at h
      refine fr_gP cb10 6 (by decide) rfl w_233 dX10_runCommands_99 ep18 ?_
      obtain ⟨x19, ex19, h⟩ := ob h
      try dsimp only at h
      refine fr_gI cb6 4 (by decide) rfl w_200 dX10_runCommands_102 ex19 ?_
      obtain rfl := Option.some.inj h
      exact fr_iret rfl dX10_runCommands_105 ⟨rfl, rfl⟩
    · rw [if_neg c14] at h
      refine fr_aload_n 0 dX10_runCommands_64 rfl ?_
      refine fr_iload_n 2 dX10_runCommands_65 rfl ?_
      obtain ⟨M20, eM20, h⟩ := ob h
      try dsimp only at h
      refine fr_sI cb10 9 (by decide) rfl rfl w_236 dX10_runCommands_66 eM20 ?_
      refine fr_aload_n 0 dX10_runCommands_69 rfl ?_
      obtain ⟨p21, ep21, h⟩ := ob h
      try dsimp only at h
      refine fr_gP cb10 3 (by decide) rfl w_230 dX10_runCommands_70 ep21 ?_
      refine fr_aload_n 0 dX10_runCommands_73 rfl ?_
      obtain ⟨p22, ep22, h⟩ := ob h
      try dsimp only at h
      refine fr_gP cb10 0 (by decide) rfl w_227 dX10_runCommands_74 ep22 ?_
      obtain ⟨u24, eu24, h⟩ := ob h
      try dsimp only at h
      obtain ⟨r23, er23, h⟩ := ob h
      try dsimp only at h
      refine fr_callV (g1 := false) (k2 := 1) (ev_X3_returnToPrepared er23) rfl cyX3_returnToPrepared w_835 w_836 w_837 (rc_ok eu24 rfl (by decide)) (by rfl) (by omega) (by omega) (by rfl) (Nat.le_of_ble_eq_true rfl) dX10_runCommands_77 (Or.inl rfl) (fun v M9 q _ => ?_) (fun E M9 q _ => (Sum.inr_ne_inl q.1).elim)
      obtain rfl : v = none := Sum.inl.inj q.1
      obtain rfl := q.2.symm
      refine fr_st (S' := []) rfl ?_
      obtain rfl := Option.some.inj h
      exact fr_throwW (names := ["java/lang/RuntimeException", "java/lang/Exception"]) rfl thX10_309 w_432 w_29 (sa := ROB + 29) (show _ ∈ roS from List.mem_of_getElem? (i := 9) rfl) dX10_runCommands_80 dX10_runCommands_83 dX10_runCommands_84 dX10_runCommands_87 dX10_runCommands_90 (by omega) (by omega) (Nat.le_of_ble_eq_true rfl) ⟨rfl, rfl⟩
  · rw [if_neg c4] at h
    refine fr_aload_n 0 dX10_runCommands_13 rfl ?_
    refine fr_iload_n 1 dX10_runCommands_14 rfl ?_
    obtain ⟨M25, eM25, h⟩ := ob h
    try dsimp only at h
    refine fr_sI cb10 8 (by decide) rfl rfl w_235 dX10_runCommands_15 eM25 ?_
    refine fr_aload_n 0 dX10_runCommands_18 rfl ?_
    obtain ⟨p26, ep26, h⟩ := ob h
    try dsimp only at h
    refine fr_gP cb10 6 (by decide) rfl w_233 dX10_runCommands_19 ep26 ?_
    obtain ⟨u28, eu28, h⟩ := ob h
    try dsimp only at h
    obtain ⟨r27, er27, h⟩ := ob h
    try dsimp only at h
    refine fr_callV (g1 := false) (k2 := 1) (ev_X6_empty er27) rfl cyX6_empty w_797 w_798 w_799 (rc_ok eu28 rfl (by decide)) (by rfl) (by omega) (by omega) (by rfl) (Nat.le_of_ble_eq_true rfl) dX10_runCommands_22 (Or.inl rfl) (fun v M9 q _ => ?_) (fun E M9 q _ => (Sum.inr_ne_inl q.1).elim)
    obtain rfl : v = none := Sum.inl.inj q.1
    obtain rfl := q.2.symm
    refine fr_st (S' := []) rfl ?_
    obtain rfl := Option.some.inj h
    exact fr_throwW (names := ["java/lang/RuntimeException", "java/lang/Exception"]) rfl thX10_187 w_400 w_28 (sa := ROB + 28) (show _ ∈ roS from List.mem_of_getElem? (i := 8) rfl) dX10_runCommands_25 dX10_runCommands_28 dX10_runCommands_29 dX10_runCommands_32 dX10_runCommands_35 (by omega) (by omega) (Nat.le_of_ble_eq_true rfl) ⟨rfl, rfl⟩
def f_L_run (p0a : Nat) (M : Mem) : Option (Int32 × Mem) := (rc M 10 p0a).bind fun _ => (f_X10_runCommands p0a M).bind fun r1 => (match r1 with | (.inl r1v, r1M) => (some (r1v, r1M)) | (.inr r1E, r1M) => (if r1E = "java/lang/IllegalArgumentException" then (some ((-1001), r1M)) else (if r1E = "java/lang/UnsupportedOperationException" then (some ((-1002), r1M)) else none)))
set_option maxRecDepth 20000 in
theorem ev_L_run {G : Nat × (Nat → Int32) × Value} {p0a : Nat} {M : Mem} {r : Int32 × Mem} (h : f_L_run p0a M = some r) : Ev (roG G) false YL_run 10 1 [.ref p0a] M (fun a b => a = wI r.1 ∧ b = r.2) := by
  refine ev_of cyL_run.2.2.2.2 (Nat.le_of_ble_eq_true rfl) ?_
  show Fr _ _ _ _ _ _ 0 [(0, .ref p0a)] [] M _
  unfold f_L_run at h
  refine fr_aload_n 0 dL_run_0 rfl ?_
  obtain ⟨u2, eu2, h⟩ := ob h
  try dsimp only at h
  obtain ⟨r1, er1, h⟩ := ob h
  try dsimp only at h
  obtain ⟨r1v | r1E, r1M⟩ := r1
  · try dsimp only at h
    refine fr_callV (g1 := false) (k2 := 0) (ev_X10_runCommands er1) rfl cyX10_runCommands w_719 w_720 w_721 (rc_ok eu2 rfl (by decide)) (by rfl) (by omega) (by omega) (by rfl) (Nat.le_of_ble_eq_true rfl) dL_run_1 (Or.inl rfl) (fun v M9 q _ => ?_) (fun E M9 q _ => (Sum.inr_ne_inl q.1).elim)
    obtain rfl : v = some (.int r1v) := Sum.inl.inj q.1
    obtain rfl := q.2.symm
    refine fr_st (S' := [.int r1v]) rfl ?_
    obtain rfl := Option.some.inj h
    exact fr_iret rfl dL_run_4 ⟨rfl, rfl⟩
  · try dsimp only at h
    refine fr_callV (g1 := false) (k2 := 0) (ev_X10_runCommands er1) rfl cyX10_runCommands w_719 w_720 w_721 (rc_ok eu2 rfl (by decide)) (by rfl) (by omega) (by omega) (by rfl) (Nat.le_of_ble_eq_true rfl) dL_run_1 (Or.inl rfl) (fun v M9 q _ => (Sum.inl_ne_inr q.1).elim) (fun E M9 q _ => ?_)
    obtain rfl : r1E = E := (Sum.inr.inj q.1).symm
    obtain rfl := q.2.symm
    by_cases e3_0 : r1E = "java/lang/IllegalArgumentException"
    · rw [if_pos e3_0] at h
      subst e3_0
      refine fx_catch (E := "java/lang/IllegalArgumentException") (name := "java/lang/IllegalArgumentException") (L' := [(0, .ref p0a)]) [] { startPc := 0, endPc := 4, handlerPc := 5, catchType := 13 } [{ startPc := 0, endPc := 4, handlerPc := 10, catchType := 33 }] rfl ?_ (by decide) (by decide) w_296 (show _ ∈ roC from List.mem_of_getElem? (i := 1) rfl) 1 1 (by decide) (Or.inl ⟨1, rfl, rfl, dL_run_5⟩) rfl ?_
      · intro z hz; cases hz
      refine fr_sipush (v := (-1001)) dL_run_6 (by decide) ?_
      obtain rfl := Option.some.inj h
      exact fr_iret rfl dL_run_9 ⟨rfl, rfl⟩
    rw [if_neg e3_0] at h
    by_cases e3_1 : r1E = "java/lang/UnsupportedOperationException"
    · rw [if_pos e3_1] at h
      subst e3_1
      refine fx_catch (E := "java/lang/UnsupportedOperationException") (name := "java/lang/UnsupportedOperationException") (L' := [(0, .ref p0a)]) [{ startPc := 0, endPc := 4, handlerPc := 5, catchType := 13 }] { startPc := 0, endPc := 4, handlerPc := 10, catchType := 33 } [] rfl ?_ (by decide) (by decide) w_544 (show _ ∈ roC from List.mem_of_getElem? (i := 3) rfl) 1 1 (by decide) (Or.inl ⟨1, rfl, rfl, dL_run_10⟩) rfl ?_
      · intro z hz
        simp only [List.mem_cons, List.not_mem_nil, or_false] at hz
        subst hz
        exact Or.inr ⟨by decide, "java/lang/IllegalArgumentException", w_296, show _ ∈ roN from List.mem_of_getElem? (i := 10) rfl⟩
      refine fr_sipush (v := (-1002)) dL_run_11 (by decide) ?_
      obtain rfl := Option.some.inj h
      exact fr_iret rfl dL_run_14 ⟨rfl, rfl⟩
    rw [if_neg e3_1] at h
    cases h
def lp_L_runs_2 (p_0 : Nat) (p_1 : Nat) : Nat → Int32 → Mem → Option ((Int32 × Mem) ⊕ (Int32 × Mem))
  | 0, _, _ => none
  | n + 1, x_2, M_ => (rcS M_ p_1).bind fun _ => (f_J0_length_8abf5 p_1 M_).bind fun r1 => if r1 ≤ x_2 then (some (.inl (x_2, M_))) else ((rcS M_ p_1).bind fun _ => (f_J0_charAt_5068e p_1 x_2 M_).bind fun r4 => (f_L_feed p_0 r4 M_).bind fun r6 => if r6.1 = (x_2 + 1) then (lp_L_runs_2 p_0 p_1 n (x_2 + 1) r6.2) else none)
def f_L_runs (p0a : Nat) (p1a : Nat) (M : Mem) : Option (Int32 × Mem) := ((lp_L_runs_2 p0a p1a 20 0 M).bind fun q8 => match q8 with | .inl (q8_2, q8_M) => ((f_L_run p0a q8_M).bind fun r9 => some (r9.1, r9.2)) | .inr q8_r => some q8_r)
set_option maxRecDepth 20000 in
theorem lp_L_runs_2_ok {G : Nat × (Nat → Int32) × Value} {P : Res → Mem → Prop} {n0 d ke : Nat} {p_0 : Nat} {p_1 : Nat} (hd : 11 ≤ d) : ∀ (n : Nat) (x_2 : Int32) (M_ : Mem) (res : (Int32 × Mem) ⊕ (Int32 × Mem)), lp_L_runs_2 p_0 p_1 n x_2 M_ = some res → (∀ (y_2 : Int32) (M9 : Mem), res = .inl (y_2, M9) → Fr (roG G) false n0 YL_runs d ke 35 [(0, .ref p_0), (1, .ref p_1), (2, .int y_2)] [] M9 P) → (∀ r : Int32 × Mem, res = .inr r → P (wI r.1) r.2) → Fr (roG G) false n0 YL_runs d (1 * n + ke) 2 [(0, .ref p_0), (1, .ref p_1), (2, .int x_2)] [] M_ P := by
  intro n
  induction n with
  | zero => intro x_2 M_ res h; unfold lp_L_runs_2 at h; cases h
  | succ n ih =>
    intro x_2 M_ res h he hr
    unfold lp_L_runs_2 at h
    refine fr_room (Nat.le_refl _) (show (1 * n + 1 + ke) ≤ 1 * (n + 1) + ke by omega) ?_
    refine fr_iload_n 2 dL_runs_2 rfl ?_
    refine fr_aload_n 1 dL_runs_3 rfl ?_
    obtain ⟨u2, eu2, h⟩ := ob h
    try dsimp only at h
    obtain ⟨r1, er1, h⟩ := ob h
    try dsimp only at h
    refine fr_callV (g1 := false) (k2 := (1 * n + 1 + ke)) (ev_J0_length_8abf5 er1) rfl cyJ0_length_8abf5 w_1340 w_741 w_742 (rcS_ok eu2) (by rfl) (by omega) (by omega) (by rfl) (Nat.le_of_ble_eq_true rfl) dL_runs_4 (Or.inl rfl) (fun v M9 q _ => ?_) (fun E M9 q _ => (Sum.inr_ne_inl q.1).elim)
    obtain rfl : v = some (.int r1) := Sum.inl.inj q.1
    obtain rfl := q.2.symm
    refine fr_st (S' := [.int r1, .int x_2]) rfl ?_
    refine fr_icmp_ge 35 dL_runs_7 (by decide) (fun c3 => ?_) (fun c3 => ?_)
    · rw [if_pos c3] at h
      obtain rfl := Option.some.inj h
      refine fr_room (Nat.le_refl _) (show ke ≤ (1 * n + 1 + ke) by omega) ?_
      exact he _ _ rfl
    · rw [if_neg c3] at h
      refine fr_aload_n 0 dL_runs_10 rfl ?_
      refine fr_aload_n 1 dL_runs_11 rfl ?_
      refine fr_iload_n 2 dL_runs_12 rfl ?_
      obtain ⟨u5, eu5, h⟩ := ob h
      try dsimp only at h
      obtain ⟨r4, er4, h⟩ := ob h
      try dsimp only at h
      refine fr_callV (g1 := false) (k2 := (1 * n + 1 + ke)) (ev_J0_charAt_5068e er4) rfl cyJ0_charAt_5068e w_879 w_758 w_759 (rcS_ok eu5) (by rfl) (by omega) (by omega) (by rfl) (Nat.le_of_ble_eq_true rfl) dL_runs_13 (Or.inl rfl) (fun v M9 q _ => ?_) (fun E M9 q _ => (Sum.inr_ne_inl q.1).elim)
      obtain rfl : v = some (.int r4) := Sum.inl.inj q.1
      obtain rfl := q.2.symm
      refine fr_st (S' := [.int r4, .ref p_0]) rfl ?_
      obtain ⟨r6, er6, h⟩ := ob h
      try dsimp only at h
      refine fr_callSX (g1 := false) (k2 := (1 * n + 0 + ke)) (ev_L_feed er6) rfl cyL_feed w_700 w_701 (by rfl) (by omega) (by omega) (by rfl) (Nat.le_of_ble_eq_true rfl) dL_runs_16 (Or.inl rfl) (fun v M9 q _ => ?_) (fun E M9 q _ => (Sum.inr_ne_inl q.1).elim)
      obtain rfl : v = some (.int r6.1) := Sum.inl.inj q.1
      obtain rfl := q.2.symm
      refine fr_st (S' := [.int r6.1]) rfl ?_
      refine fr_iload_n 2 dL_runs_19 rfl ?_
      refine fr_iconst (v := 1) dL_runs_20 (by decide) ?_
      refine fr_iadd dL_runs_21 ?_
      refine fr_icmp_eq 29 dL_runs_22 (by decide) (fun c7 => ?_) (fun c7 => by rw [if_neg c7] at h; cases h)
      rw [if_pos c7] at h
      refine fr_iinc (v := (x_2 + 1)) (L' := [(0, .ref p_0), (1, .ref p_1), (2, .int (x_2 + 1))]) 2 dL_runs_29 rfl rfl (by decide) rfl ?_
      refine fr_goto 2 dL_runs_32 (by decide) ?_
      exact ih _ _ _ h he hr
set_option maxRecDepth 20000 in
theorem ev_L_runs {G : Nat × (Nat → Int32) × Value} {p0a : Nat} {p1a : Nat} {M : Mem} {r : Int32 × Mem} (h : f_L_runs p0a p1a M = some r) : Ev (roG G) false YL_runs 11 21 [.ref p0a, .ref p1a] M (fun a b => a = wI r.1 ∧ b = r.2) := by
  refine ev_of cyL_runs.2.2.2.2 (Nat.le_of_ble_eq_true rfl) ?_
  show Fr _ _ _ _ _ _ 0 [(0, .ref p0a), (1, .ref p1a)] [] M _
  unfold f_L_runs at h
  refine fr_iconst (v := 0) dL_runs_0 (by decide) ?_
  refine fr_istore_n (L' := [(0, .ref p0a), (1, .ref p1a), (2, .int 0)]) dL_runs_1 (by decide) rfl ?_
  obtain ⟨q8, eq8, h⟩ := ob h
  try dsimp only at h
  refine fr_room (k' := 1 * 20 + 1) (Nat.le_refl _) (by omega) ?_
  refine lp_L_runs_2_ok (by omega) 20 _ _ q8 eq8 (fun q8_2 q8_M e9 => ?_) (fun q8_r e9 => ?_)
  · subst e9
    try dsimp only at h
    refine fr_aload_n 0 dL_runs_35 rfl ?_
    obtain ⟨r9, er9, h⟩ := ob h
    try dsimp only at h
    refine fr_callSX (g1 := false) (k2 := 0) (ev_L_run er9) rfl cyL_run w_716 w_717 (by rfl) (by omega) (by omega) (by rfl) (Nat.le_of_ble_eq_true rfl) dL_runs_36 (Or.inl rfl) (fun v M9 q _ => ?_) (fun E M9 q _ => (Sum.inr_ne_inl q.1).elim)
    obtain rfl : v = some (.int r9.1) := Sum.inl.inj q.1
    obtain rfl := q.2.symm
    refine fr_st (S' := [.int r9.1]) rfl ?_
    obtain rfl := Option.some.inj h
    exact fr_iret rfl dL_runs_39 ⟨rfl, rfl⟩
  · subst e9
    try dsimp only at h
    obtain rfl := Option.some.inj h
    exact ⟨rfl, rfl⟩
def f_L_some (x0a : Int32) (x1a : Int32) (M : Mem) : Option (Int32) := (nz x1a).bind fun _ => if 0 ≤ (x0a - x0a / x1a * x1a) then (some (x0a - x0a / x1a * x1a)) else (some ((x0a - x0a / x1a * x1a) + x1a))
set_option maxRecDepth 20000 in
theorem ev_L_some {G : Nat × (Nat → Int32) × Value} {x0a : Int32} {x1a : Int32} {M : Mem} {r : Int32} (h : f_L_some x0a x1a M = some r) : Ev (roG G) false YL_some 0 0 [.int x0a, .int x1a] M (fun a b => a = wI r ∧ b = M) := by
  refine ev_of cyL_some.2.2.2.2 (Nat.le_of_ble_eq_true rfl) ?_
  show Fr _ _ _ _ _ _ 0 [(0, .int x0a), (1, .int x1a)] [] M _
  unfold f_L_some at h
  refine fr_iload_n 0 dL_some_0 rfl ?_
  refine fr_iload_n 1 dL_some_1 rfl ?_
  obtain ⟨u1, eu1, h⟩ := ob h
  try dsimp only at h
  refine fr_irem1 eu1 dL_some_2 ?_
  refine fr_istore_n (L' := [(0, .int x0a), (1, .int x1a), (2, .int (x0a - x0a / x1a * x1a))]) dL_some_3 (by decide) rfl ?_
  refine fr_iload_n 2 dL_some_4 rfl ?_
  refine fr_if_ge 14 dL_some_5 (by decide) (fun c2 => ?_) (fun c2 => ?_)
  · rw [if_pos c2] at h
    refine fr_iload_n 2 dL_some_14 rfl ?_
    obtain rfl := Option.some.inj h
    exact fr_iret rfl dL_some_15 ⟨rfl, rfl⟩
  · rw [if_neg c2] at h
    refine fr_iload_n 2 dL_some_8 rfl ?_
    refine fr_iload_n 1 dL_some_9 rfl ?_
    refine fr_iadd dL_some_10 ?_
    refine fr_goto 15 dL_some_11 (by decide) ?_
    obtain rfl := Option.some.inj h
    exact fr_iret rfl dL_some_15 ⟨rfl, rfl⟩
def f_X10_take (p0a : Nat) (x1a : Int32) (M : Mem) : Option ((Int32 ⊕ String) × Mem) := (gP M 10 p0a 3).bind fun p1 => (gP M 10 p0a 0).bind fun p2 => (rc M 4 p1).bind fun _ => (f_X3_prepare p1 p2 M).bind fun r3 => (gP r3.2 10 p0a 0).bind fun p5 => (rc r3.2 9 p5).bind fun _ => (f_X9_tryTake p5 x1a r3.2).bind fun r6 => (rc r6.2 10 p0a).bind fun _ => (f_X10_recorded p0a r6.1 r6.2).bind fun r8 => (match r8 with | (.inl r8v, r8M) => (some ((.inl r8v), r8M)) | (.inr r8E, r8M) => (some ((.inr r8E), r8M)))
set_option maxRecDepth 20000 in
theorem ev_X10_take {G : Nat × (Nat → Int32) × Value} {p0a : Nat} {x1a : Int32} {M : Mem} {r : (Int32 ⊕ String) × Mem} (h : f_X10_take p0a x1a M = some r) : Ev (roG G) false YX10_take 9 1 [.ref p0a, .int x1a] M (fun a b => a = (wE wI) r.1 ∧ b = r.2) := by
  refine ev_of cyX10_take.2.2.2.2 (Nat.le_of_ble_eq_true rfl) ?_
  show Fr _ _ _ _ _ _ 0 [(0, .ref p0a), (1, .int x1a)] [] M _
  unfold f_X10_take at h
  refine fr_aload_n 0 dX10_take_0 rfl ?_
  obtain ⟨p1, ep1, h⟩ := ob h
  try dsimp only at h
  refine fr_gP cb10 3 (by decide) rfl w_230 dX10_take_1 ep1 ?_
  refine fr_aload_n 0 dX10_take_4 rfl ?_
  obtain ⟨p2, ep2, h⟩ := ob h
  try dsimp only at h
  refine fr_gP cb10 0 (by decide) rfl w_227 dX10_take_5 ep2 ?_
  obtain ⟨u4, eu4, h⟩ := ob h
  try dsimp only at h
  obtain ⟨r3, er3, h⟩ := ob h
  try dsimp only at h
  refine fr_callV (g1 := false) (k2 := 1) (ev_X3_prepare er3) rfl cyX3_prepare w_302 w_303 w_304 (rc_ok eu4 rfl (by decide)) (by rfl) (by omega) (by omega) (by rfl) (Nat.le_of_ble_eq_true rfl) dX10_take_8 (Or.inl rfl) (fun v M9 q _ => ?_) (fun E M9 q _ => (Sum.inr_ne_inl q.1).elim)
  obtain rfl : v = none := Sum.inl.inj q.1
  obtain rfl := q.2.symm
  refine fr_st (S' := []) rfl ?_
  refine fr_aload_n 0 dX10_take_11 rfl ?_
  refine fr_aload_n 0 dX10_take_12 rfl ?_
  obtain ⟨p5, ep5, h⟩ := ob h
  try dsimp only at h
  refine fr_gP cb10 0 (by decide) rfl w_227 dX10_take_13 ep5 ?_
  refine fr_iload_n 1 dX10_take_16 rfl ?_
  obtain ⟨u7, eu7, h⟩ := ob h
  try dsimp only at h
  obtain ⟨r6, er6, h⟩ := ob h
  try dsimp only at h
  refine fr_callV (g1 := false) (k2 := 1) (ev_X9_tryTake er6) rfl cyX9_tryTake w_629 w_630 w_631 (rc_ok eu7 rfl (by decide)) (by rfl) (by omega) (by omega) (by rfl) (Nat.le_of_ble_eq_true rfl) dX10_take_17 (Or.inl rfl) (fun v M9 q _ => ?_) (fun E M9 q _ => (Sum.inr_ne_inl q.1).elim)
  obtain rfl : v = some (.int r6.1) := Sum.inl.inj q.1
  obtain rfl := q.2.symm
  refine fr_st (S' := [.int r6.1, .ref p0a]) rfl ?_
  obtain ⟨u9, eu9, h⟩ := ob h
  try dsimp only at h
  obtain ⟨r8, er8, h⟩ := ob h
  try dsimp only at h
  obtain ⟨r8v | r8E, r8M⟩ := r8
  · try dsimp only at h
    refine fr_callV (g1 := false) (k2 := 0) (ev_X10_recorded er8) rfl cyX10_recorded w_321 w_323 w_0 (rc_ok eu9 rfl (by decide)) (by rfl) (by omega) (by omega) (by rfl) (Nat.le_of_ble_eq_true rfl) dX10_take_20 (Or.inl rfl) (fun v M9 q _ => ?_) (fun E M9 q _ => (Sum.inr_ne_inl q.1).elim)
    obtain rfl : v = some (.int r8v) := Sum.inl.inj q.1
    obtain rfl := q.2.symm
    refine fr_st (S' := [.int r8v]) rfl ?_
    obtain rfl := Option.some.inj h
    exact fr_iret rfl dX10_take_23 ⟨rfl, rfl⟩
  · try dsimp only at h
    refine fr_callV (g1 := false) (k2 := 0) (ev_X10_recorded er8) rfl cyX10_recorded w_321 w_323 w_0 (rc_ok eu9 rfl (by decide)) (by rfl) (by omega) (by omega) (by rfl) (Nat.le_of_ble_eq_true rfl) dX10_take_20 (Or.inl rfl) (fun v M9 q _ => (Sum.inl_ne_inr q.1).elim) (fun E M9 q _ => ?_)
    obtain rfl : r8E = E := (Sum.inr.inj q.1).symm
    obtain rfl := q.2.symm
    obtain rfl := Option.some.inj h
    exact fx_no rfl ⟨rfl, rfl⟩
def f_L_take (p0a : Nat) (x1a : Int32) (M : Mem) : Option (Int32 × Mem) := (rc M 10 p0a).bind fun _ => (f_X10_take p0a x1a M).bind fun r1 => (match r1 with | (.inl r1v, r1M) => (some (r1v, r1M)) | (.inr r1E, r1M) => (if r1E = "java/lang/IndexOutOfBoundsException" then (some ((-1001), r1M)) else (if r1E = "java/util/NoSuchElementException" then (some ((-1002), r1M)) else none)))
set_option maxRecDepth 20000 in
theorem ev_L_take {G : Nat × (Nat → Int32) × Value} {p0a : Nat} {x1a : Int32} {M : Mem} {r : Int32 × Mem} (h : f_L_take p0a x1a M = some r) : Ev (roG G) false YL_take 10 1 [.ref p0a, .int x1a] M (fun a b => a = wI r.1 ∧ b = r.2) := by
  refine ev_of cyL_take.2.2.2.2 (Nat.le_of_ble_eq_true rfl) ?_
  show Fr _ _ _ _ _ _ 0 [(0, .ref p0a), (1, .int x1a)] [] M _
  unfold f_L_take at h
  refine fr_aload_n 0 dL_take_0 rfl ?_
  refine fr_iload_n 1 dL_take_1 rfl ?_
  obtain ⟨u2, eu2, h⟩ := ob h
  try dsimp only at h
  obtain ⟨r1, er1, h⟩ := ob h
  try dsimp only at h
  obtain ⟨r1v | r1E, r1M⟩ := r1
  · try dsimp only at h
    refine fr_callV (g1 := false) (k2 := 0) (ev_X10_take er1) rfl cyX10_take w_625 w_626 w_627 (rc_ok eu2 rfl (by decide)) (by rfl) (by omega) (by omega) (by rfl) (Nat.le_of_ble_eq_true rfl) dL_take_2 (Or.inl rfl) (fun v M9 q _ => ?_) (fun E M9 q _ => (Sum.inr_ne_inl q.1).elim)
    obtain rfl : v = some (.int r1v) := Sum.inl.inj q.1
    obtain rfl := q.2.symm
    refine fr_st (S' := [.int r1v]) rfl ?_
    obtain rfl := Option.some.inj h
    exact fr_iret rfl dL_take_5 ⟨rfl, rfl⟩
  · try dsimp only at h
    refine fr_callV (g1 := false) (k2 := 0) (ev_X10_take er1) rfl cyX10_take w_625 w_626 w_627 (rc_ok eu2 rfl (by decide)) (by rfl) (by omega) (by omega) (by rfl) (Nat.le_of_ble_eq_true rfl) dL_take_2 (Or.inl rfl) (fun v M9 q _ => (Sum.inl_ne_inr q.1).elim) (fun E M9 q _ => ?_)
    obtain rfl : r1E = E := (Sum.inr.inj q.1).symm
    obtain rfl := q.2.symm
    by_cases e3_0 : r1E = "java/lang/IndexOutOfBoundsException"
    · rw [if_pos e3_0] at h
      subst e3_0
      refine fx_catch (E := "java/lang/IndexOutOfBoundsException") (name := "java/lang/IndexOutOfBoundsException") (L' := [(0, .ref p0a), (1, .int x1a)]) [] { startPc := 0, endPc := 5, handlerPc := 6, catchType := 21 } [{ startPc := 0, endPc := 5, handlerPc := 11, catchType := 42 }] rfl ?_ (by decide) (by decide) w_474 (show _ ∈ roC from List.mem_of_getElem? (i := 0) rfl) 2 1 (by decide) (Or.inl ⟨2, rfl, rfl, dL_take_6⟩) rfl ?_
      · intro z hz; cases hz
      refine fr_sipush (v := (-1001)) dL_take_7 (by decide) ?_
      obtain rfl := Option.some.inj h
      exact fr_iret rfl dL_take_10 ⟨rfl, rfl⟩
    rw [if_neg e3_0] at h
    by_cases e3_1 : r1E = "java/util/NoSuchElementException"
    · rw [if_pos e3_1] at h
      subst e3_1
      refine fx_catch (E := "java/util/NoSuchElementException") (name := "java/util/NoSuchElementException") (L' := [(0, .ref p0a), (1, .int x1a)]) [{ startPc := 0, endPc := 5, handlerPc := 6, catchType := 21 }] { startPc := 0, endPc := 5, handlerPc := 11, catchType := 42 } [] rfl ?_ (by decide) (by decide) w_624 (show _ ∈ roC from List.mem_of_getElem? (i := 4) rfl) 2 1 (by decide) (Or.inl ⟨2, rfl, rfl, dL_take_11⟩) rfl ?_
      · intro z hz
        simp only [List.mem_cons, List.not_mem_nil, or_false] at hz
        subst hz
        exact Or.inr ⟨by decide, "java/lang/IndexOutOfBoundsException", w_474, show _ ∈ roN from List.mem_of_getElem? (i := 45) rfl⟩
      refine fr_sipush (v := (-1002)) dL_take_12 (by decide) ?_
      obtain rfl := Option.some.inj h
      exact fr_iret rfl dL_take_15 ⟨rfl, rfl⟩
    rw [if_neg e3_1] at h
    cases h
def f_X10_unfold (p0a : Nat) (x1a : Int32) (M : Mem) : Option ((Int32 ⊕ String) × Mem) := (gP M 10 p0a 3).bind fun p1 => (gP M 10 p0a 0).bind fun p2 => (rc M 4 p1).bind fun _ => (f_X3_prepare p1 p2 M).bind fun r3 => (gP r3.2 10 p0a 0).bind fun p5 => (rc r3.2 9 p5).bind fun _ => (f_X9_tryUnfold p5 x1a r3.2).bind fun r6 => (rc r6.2 10 p0a).bind fun _ => (f_X10_recorded p0a r6.1 r6.2).bind fun r8 => (match r8 with | (.inl r8v, r8M) => (some ((.inl r8v), r8M)) | (.inr r8E, r8M) => (some ((.inr r8E), r8M)))
set_option maxRecDepth 20000 in
theorem ev_X10_unfold {G : Nat × (Nat → Int32) × Value} {p0a : Nat} {x1a : Int32} {M : Mem} {r : (Int32 ⊕ String) × Mem} (h : f_X10_unfold p0a x1a M = some r) : Ev (roG G) false YX10_unfold 9 1 [.ref p0a, .int x1a] M (fun a b => a = (wE wI) r.1 ∧ b = r.2) := by
  refine ev_of cyX10_unfold.2.2.2.2 (Nat.le_of_ble_eq_true rfl) ?_
  show Fr _ _ _ _ _ _ 0 [(0, .ref p0a), (1, .int x1a)] [] M _
  unfold f_X10_unfold at h
  refine fr_aload_n 0 dX10_unfold_0 rfl ?_
  obtain ⟨p1, ep1, h⟩ := ob h
  try dsimp only at h
  refine fr_gP cb10 3 (by decide) rfl w_230 dX10_unfold_1 ep1 ?_
  refine fr_aload_n 0 dX10_unfold_4 rfl ?_
  obtain ⟨p2, ep2, h⟩ := ob h
  try dsimp only at h
  refine fr_gP cb10 0 (by decide) rfl w_227 dX10_unfold_5 ep2 ?_
  obtain ⟨u4, eu4, h⟩ := ob h
  try dsimp only at h
  obtain ⟨r3, er3, h⟩ := ob h
  try dsimp only at h
  refine fr_callV (g1 := false) (k2 := 1) (ev_X3_prepare er3) rfl cyX3_prepare w_302 w_303 w_304 (rc_ok eu4 rfl (by decide)) (by rfl) (by omega) (by omega) (by rfl) (Nat.le_of_ble_eq_true rfl) dX10_unfold_8 (Or.inl rfl) (fun v M9 q _ => ?_) (fun E M9 q _ => (Sum.inr_ne_inl q.1).elim)
  obtain rfl : v = none := Sum.inl.inj q.1
  obtain rfl := q.2.symm
  refine fr_st (S' := []) rfl ?_
  refine fr_aload_n 0 dX10_unfold_11 rfl ?_
  refine fr_aload_n 0 dX10_unfold_12 rfl ?_
  obtain ⟨p5, ep5, h⟩ := ob h
  try dsimp only at h
  refine fr_gP cb10 0 (by decide) rfl w_227 dX10_unfold_13 ep5 ?_
  refine fr_iload_n 1 dX10_unfold_16 rfl ?_
  obtain ⟨u7, eu7, h⟩ := ob h
  try dsimp only at h
  obtain ⟨r6, er6, h⟩ := ob h
  try dsimp only at h
  refine fr_callV (g1 := false) (k2 := 1) (ev_X9_tryUnfold er6) rfl cyX9_tryUnfold w_533 w_534 w_535 (rc_ok eu7 rfl (by decide)) (by rfl) (by omega) (by omega) (by rfl) (Nat.le_of_ble_eq_true rfl) dX10_unfold_17 (Or.inl rfl) (fun v M9 q _ => ?_) (fun E M9 q _ => (Sum.inr_ne_inl q.1).elim)
  obtain rfl : v = some (.int r6.1) := Sum.inl.inj q.1
  obtain rfl := q.2.symm
  refine fr_st (S' := [.int r6.1, .ref p0a]) rfl ?_
  obtain ⟨u9, eu9, h⟩ := ob h
  try dsimp only at h
  obtain ⟨r8, er8, h⟩ := ob h
  try dsimp only at h
  obtain ⟨r8v | r8E, r8M⟩ := r8
  · try dsimp only at h
    refine fr_callV (g1 := false) (k2 := 0) (ev_X10_recorded er8) rfl cyX10_recorded w_321 w_323 w_0 (rc_ok eu9 rfl (by decide)) (by rfl) (by omega) (by omega) (by rfl) (Nat.le_of_ble_eq_true rfl) dX10_unfold_20 (Or.inl rfl) (fun v M9 q _ => ?_) (fun E M9 q _ => (Sum.inr_ne_inl q.1).elim)
    obtain rfl : v = some (.int r8v) := Sum.inl.inj q.1
    obtain rfl := q.2.symm
    refine fr_st (S' := [.int r8v]) rfl ?_
    obtain rfl := Option.some.inj h
    exact fr_iret rfl dX10_unfold_23 ⟨rfl, rfl⟩
  · try dsimp only at h
    refine fr_callV (g1 := false) (k2 := 0) (ev_X10_recorded er8) rfl cyX10_recorded w_321 w_323 w_0 (rc_ok eu9 rfl (by decide)) (by rfl) (by omega) (by omega) (by rfl) (Nat.le_of_ble_eq_true rfl) dX10_unfold_20 (Or.inl rfl) (fun v M9 q _ => (Sum.inl_ne_inr q.1).elim) (fun E M9 q _ => ?_)
    obtain rfl : r8E = E := (Sum.inr.inj q.1).symm
    obtain rfl := q.2.symm
    obtain rfl := Option.some.inj h
    exact fx_no rfl ⟨rfl, rfl⟩
def f_L_unfold (p0a : Nat) (x1a : Int32) (M : Mem) : Option (Int32 × Mem) := (rc M 10 p0a).bind fun _ => (f_X10_unfold p0a x1a M).bind fun r1 => (match r1 with | (.inl r1v, r1M) => (some (r1v, r1M)) | (.inr r1E, r1M) => (if r1E = "java/lang/IndexOutOfBoundsException" then (some ((-1001), r1M)) else (if r1E = "java/lang/IllegalStateException" then (some ((-1002), r1M)) else none)))
set_option maxRecDepth 20000 in
theorem ev_L_unfold {G : Nat × (Nat → Int32) × Value} {p0a : Nat} {x1a : Int32} {M : Mem} {r : Int32 × Mem} (h : f_L_unfold p0a x1a M = some r) : Ev (roG G) false YL_unfold 10 1 [.ref p0a, .int x1a] M (fun a b => a = wI r.1 ∧ b = r.2) := by
  refine ev_of cyL_unfold.2.2.2.2 (Nat.le_of_ble_eq_true rfl) ?_
  show Fr _ _ _ _ _ _ 0 [(0, .ref p0a), (1, .int x1a)] [] M _
  unfold f_L_unfold at h
  refine fr_aload_n 0 dL_unfold_0 rfl ?_
  refine fr_iload_n 1 dL_unfold_1 rfl ?_
  obtain ⟨u2, eu2, h⟩ := ob h
  try dsimp only at h
  obtain ⟨r1, er1, h⟩ := ob h
  try dsimp only at h
  obtain ⟨r1v | r1E, r1M⟩ := r1
  · try dsimp only at h
    refine fr_callV (g1 := false) (k2 := 0) (ev_X10_unfold er1) rfl cyX10_unfold w_529 w_530 w_531 (rc_ok eu2 rfl (by decide)) (by rfl) (by omega) (by omega) (by rfl) (Nat.le_of_ble_eq_true rfl) dL_unfold_2 (Or.inl rfl) (fun v M9 q _ => ?_) (fun E M9 q _ => (Sum.inr_ne_inl q.1).elim)
    obtain rfl : v = some (.int r1v) := Sum.inl.inj q.1
    obtain rfl := q.2.symm
    refine fr_st (S' := [.int r1v]) rfl ?_
    obtain rfl := Option.some.inj h
    exact fr_iret rfl dL_unfold_5 ⟨rfl, rfl⟩
  · try dsimp only at h
    refine fr_callV (g1 := false) (k2 := 0) (ev_X10_unfold er1) rfl cyX10_unfold w_529 w_530 w_531 (rc_ok eu2 rfl (by decide)) (by rfl) (by omega) (by omega) (by rfl) (Nat.le_of_ble_eq_true rfl) dL_unfold_2 (Or.inl rfl) (fun v M9 q _ => (Sum.inl_ne_inr q.1).elim) (fun E M9 q _ => ?_)
    obtain rfl : r1E = E := (Sum.inr.inj q.1).symm
    obtain rfl := q.2.symm
    by_cases e3_0 : r1E = "java/lang/IndexOutOfBoundsException"
    · rw [if_pos e3_0] at h
      subst e3_0
      refine fx_catch (E := "java/lang/IndexOutOfBoundsException") (name := "java/lang/IndexOutOfBoundsException") (L' := [(0, .ref p0a), (1, .int x1a)]) [] { startPc := 0, endPc := 5, handlerPc := 6, catchType := 21 } [{ startPc := 0, endPc := 5, handlerPc := 11, catchType := 15 }] rfl ?_ (by decide) (by decide) w_474 (show _ ∈ roC from List.mem_of_getElem? (i := 0) rfl) 2 1 (by decide) (Or.inl ⟨2, rfl, rfl, dL_unfold_6⟩) rfl ?_
      · intro z hz; cases hz
      refine fr_sipush (v := (-1001)) dL_unfold_7 (by decide) ?_
      obtain rfl := Option.some.inj h
      exact fr_iret rfl dL_unfold_10 ⟨rfl, rfl⟩
    rw [if_neg e3_0] at h
    by_cases e3_1 : r1E = "java/lang/IllegalStateException"
    · rw [if_pos e3_1] at h
      subst e3_1
      refine fx_catch (E := "java/lang/IllegalStateException") (name := "java/lang/IllegalStateException") (L' := [(0, .ref p0a), (1, .int x1a)]) [{ startPc := 0, endPc := 5, handlerPc := 6, catchType := 21 }] { startPc := 0, endPc := 5, handlerPc := 11, catchType := 15 } [] rfl ?_ (by decide) (by decide) w_297 (show _ ∈ roC from List.mem_of_getElem? (i := 2) rfl) 2 1 (by decide) (Or.inl ⟨2, rfl, rfl, dL_unfold_11⟩) rfl ?_
      · intro z hz
        simp only [List.mem_cons, List.not_mem_nil, or_false] at hz
        subst hz
        exact Or.inr ⟨by decide, "java/lang/IndexOutOfBoundsException", w_474, show _ ∈ roN from List.mem_of_getElem? (i := 42) rfl⟩
      refine fr_sipush (v := (-1002)) dL_unfold_12 (by decide) ?_
      obtain rfl := Option.some.inj h
      exact fr_iret rfl dL_unfold_15 ⟨rfl, rfl⟩
    rw [if_neg e3_1] at h
    cases h
def f_J5_init_d00df (p0a : Nat) (x1a : Int32) (M : Mem) : Option (Unit × Mem) := (gd M [(0, .ref p0a), (1, .int x1a)] [.ref p0a]).bind fun _ => (na x1a).bind fun _ => (some (mNew M 102 (Int32.toNatClampNeg x1a))).bind fun M3 => (sP M3 1 p0a 0 (mN M)).bind fun M4 => (sI M4 1 p0a 1 .byte 0).bind fun M5 => some ((), M5)
set_option maxRecDepth 20000 in
theorem ev_J5_init_d00df {G : Nat × (Nat → Int32) × Value} (hv : rob G.2.2) {p0a : Nat} {x1a : Int32} {M : Mem} {r : Unit × Mem} (h : f_J5_init_d00df p0a x1a M = some r) : Ev (roG G) true YJ5_init_d00df 1 1 [.ref p0a, .int x1a] M (fun a b => a = wU r.1 ∧ b = r.2) := by
  refine ev_of cyJ5_init_d00df.2.2.2.2 (Nat.le_of_ble_eq_true rfl) ?_
  show Fr _ _ _ _ _ _ 0 [(0, .ref p0a), (1, .int x1a)] [] M _
  unfold f_J5_init_d00df at h
  refine fr_aload_n 0 dJ5_init_d00df_0 rfl ?_
  refine fr_objInit w_1132 w_56 w_57 (by omega) (Nat.le_of_ble_eq_true rfl) dJ5_init_d00df_1 ?_
  refine fr_gets (show _ ∈ roZ _ from List.mem_of_getElem? (i := 2) rfl) w_1133 dJ5_init_d00df_4 ?_
  refine fr_if_eq 25 dJ5_init_d00df_7 (by decide) (fun c1 => absurd c1 (by decide)) (fun c1 => ?_)
  refine fr_aload_n 0 dJ5_init_d00df_10 rfl ?_
  refine fr_iload_n 1 dJ5_init_d00df_11 rfl ?_
  obtain ⟨u2, eu2, h⟩ := ob h
  try dsimp only at h
  obtain ⟨u2b, eu2b, h⟩ := ob h
  try dsimp only at h
  obtain ⟨M3, eM3, h⟩ := ob h
  try dsimp only at h
  obtain rfl := Option.some.inj eM3
  refine fr_newarrg (k2 := 0) (ty := .byte) 2 102 rfl rfl (by decide) (by decide) rfl w_399 (gd_N eu2) (gd_L eu2) (roG_ok hv) (na_0 eu2b) (na_1 eu2b) dJ5_init_d00df_12 (by omega) ?_
  obtain ⟨M4, eM4, h⟩ := ob h
  try dsimp only at h
  refine fr_sP cb1 0 (by decide) rfl rfl rfl w_1141 dJ5_init_d00df_14 eM4 ?_
  refine fr_aload_n 0 dJ5_init_d00df_17 rfl ?_
  refine fr_iconst (v := 0) dJ5_init_d00df_18 (by decide) ?_
  obtain ⟨M5, eM5, h⟩ := ob h
  try dsimp only at h
  refine fr_sI cb1 1 (by decide) rfl rfl w_1142 dJ5_init_d00df_19 eM5 ?_
  refine fr_goto 38 dJ5_init_d00df_22 (by decide) ?_
  obtain rfl := Option.some.inj h
  exact fr_vret rfl dJ5_init_d00df_38 ⟨rfl, rfl⟩
def f_J4_init_da8c8 (p0a : Nat) (M : Mem) : Option (Unit × Mem) := (gd M [(0, .ref p0a)] []).bind fun _ => (f_J5_init_d00df p0a 16 M).bind fun r1 => some ((), r1.2)
set_option maxRecDepth 20000 in
theorem ev_J4_init_da8c8 {G : Nat × (Nat → Int32) × Value} (hv : rob G.2.2) {p0a : Nat} {M : Mem} {r : Unit × Mem} (h : f_J4_init_da8c8 p0a M = some r) : Ev (roG G) true YJ4_init_da8c8 2 1 [.ref p0a] M (fun a b => a = wU r.1 ∧ b = r.2) := by
  refine ev_of cyJ4_init_da8c8.2.2.2.2 (Nat.le_of_ble_eq_true rfl) ?_
  show Fr _ _ _ _ _ _ 0 [(0, .ref p0a)] [] M _
  unfold f_J4_init_da8c8 at h
  refine fr_aload_n 0 dJ4_init_da8c8_0 rfl ?_
  refine fr_bipush (v := 16) dJ4_init_da8c8_1 (by decide) ?_
  obtain ⟨u2, eu2, h⟩ := ob h
  try dsimp only at h
  obtain ⟨r1, er1, h⟩ := ob h
  try dsimp only at h
  refine fr_callI (g1 := true) (k2 := 0) (ev_J5_init_d00df hv er1) rfl cyJ5_init_d00df rfl rfl w_1129 w_1130 (by rfl) (by omega) (by omega) (by rfl) (Nat.le_of_ble_eq_true rfl) dJ4_init_da8c8_3 (Or.inr ⟨rfl, gd_L eu2, roG_ok hv⟩) (fun v M9 q _ => ?_) (fun E M9 q _ => (Sum.inr_ne_inl q.1).elim)
  obtain rfl : v = none := Sum.inl.inj q.1
  obtain rfl := q.2.symm
  refine fr_st (S' := []) rfl ?_
  obtain rfl := Option.some.inj h
  exact fr_vret rfl dJ4_init_da8c8_6 ⟨rfl, rfl⟩
def f_J5_ensureCapacityInternal_d00df (p0a : Nat) (x1a : Int32) (M : Mem) : Option (Unit) := (gP M 1 p0a 0).bind fun p1 => (bL M p1).bind fun x2 => (gI M 1 p0a 1).bind fun x3 => if (x1a - (x2 >>> (x3 &&& 31))) ≤ 0 then (some ()) else none
set_option maxRecDepth 20000 in
theorem ev_J5_ensureCapacityInternal_d00df {G : Nat × (Nat → Int32) × Value} {p0a : Nat} {x1a : Int32} {M : Mem} {r : Unit} (h : f_J5_ensureCapacityInternal_d00df p0a x1a M = some r) : Ev (roG G) false YJ5_ensureCapacityInternal_d00df 0 0 [.ref p0a, .int x1a] M (fun a b => a = wU r ∧ b = M) := by
  refine ev_of cyJ5_ensureCapacityInternal_d00df.2.2.2.2 (Nat.le_of_ble_eq_true rfl) ?_
  show Fr _ _ _ _ _ _ 0 [(0, .ref p0a), (1, .int x1a)] [] M _
  unfold f_J5_ensureCapacityInternal_d00df at h
  refine fr_aload_n 0 dJ5_ensureCapacityInternal_d00df_0 rfl ?_
  obtain ⟨p1, ep1, h⟩ := ob h
  try dsimp only at h
  refine fr_gP cb1 0 (by decide) rfl w_1141 dJ5_ensureCapacityInternal_d00df_1 ep1 ?_
  obtain ⟨x2, ex2, h⟩ := ob h
  try dsimp only at h
  refine fr_bL ex2 dJ5_ensureCapacityInternal_d00df_4 ?_
  refine fr_aload_n 0 dJ5_ensureCapacityInternal_d00df_5 rfl ?_
  obtain ⟨x3, ex3, h⟩ := ob h
  try dsimp only at h
  refine fr_gI cb1 1 (by decide) rfl w_1142 dJ5_ensureCapacityInternal_d00df_6 ex3 ?_
  refine fr_ishr dJ5_ensureCapacityInternal_d00df_9 ?_
  refine fr_istore_n (L' := [(0, .ref p0a), (1, .int x1a), (2, .int (x2 >>> (x3 &&& 31)))]) dJ5_ensureCapacityInternal_d00df_10 (by decide) rfl ?_
  refine fr_iload_n 1 dJ5_ensureCapacityInternal_d00df_11 rfl ?_
  refine fr_iload_n 2 dJ5_ensureCapacityInternal_d00df_12 rfl ?_
  refine fr_isub dJ5_ensureCapacityInternal_d00df_13 ?_
  refine fr_if_le 38 dJ5_ensureCapacityInternal_d00df_14 (by decide) (fun c4 => ?_) (fun c4 => by rw [if_neg c4] at h; cases h)
  rw [if_pos c4] at h
  obtain rfl := Option.some.inj h
  exact fr_vret rfl dJ5_ensureCapacityInternal_d00df_38 ⟨rfl, rfl⟩
def f_J5_isLatin1_aae02 (p0a : Nat) (M : Mem) : Option (Int32) := (gI M 1 p0a 1).bind fun x2 => if x2 = 0 then (some 1) else (some 0)
set_option maxRecDepth 20000 in
theorem ev_J5_isLatin1_aae02 {G : Nat × (Nat → Int32) × Value} {p0a : Nat} {M : Mem} {r : Int32} (h : f_J5_isLatin1_aae02 p0a M = some r) : Ev (roG G) false YJ5_isLatin1_aae02 0 0 [.ref p0a] M (fun a b => a = wI r ∧ b = M) := by
  refine ev_of cyJ5_isLatin1_aae02.2.2.2.2 (Nat.le_of_ble_eq_true rfl) ?_
  show Fr _ _ _ _ _ _ 0 [(0, .ref p0a)] [] M _
  unfold f_J5_isLatin1_aae02 at h
  refine fr_gets (show _ ∈ roZ _ from List.mem_of_getElem? (i := 2) rfl) w_1133 dJ5_isLatin1_aae02_0 ?_
  refine fr_if_eq 17 dJ5_isLatin1_aae02_3 (by decide) (fun c1 => absurd c1 (by decide)) (fun c1 => ?_)
  refine fr_aload_n 0 dJ5_isLatin1_aae02_6 rfl ?_
  obtain ⟨x2, ex2, h⟩ := ob h
  try dsimp only at h
  refine fr_gI cb1 1 (by decide) rfl w_1142 dJ5_isLatin1_aae02_7 ex2 ?_
  refine fr_if_ne 17 dJ5_isLatin1_aae02_10 (by decide) (fun c3 => ?_) (fun c3 => ?_)
  · rw [if_neg c3] at h
    refine fr_iconst (v := 0) dJ5_isLatin1_aae02_17 (by decide) ?_
    obtain rfl := Option.some.inj h
    exact fr_zret (ty := .boolean) rfl rfl dJ5_isLatin1_aae02_18 ⟨rfl, rfl⟩
  · rw [if_pos c3] at h
    refine fr_iconst (v := 1) dJ5_isLatin1_aae02_13 (by decide) ?_
    refine fr_goto 18 dJ5_isLatin1_aae02_14 (by decide) ?_
    obtain rfl := Option.some.inj h
    exact fr_zret (ty := .boolean) rfl rfl dJ5_isLatin1_aae02_18 ⟨rfl, rfl⟩
def f_J6_getChars_ba4f3 (x0a : Int32) (x1a : Int32) (p2a : Nat) (M : Mem) : Option (Int32 × Mem) := if 0 ≤ x0a then (if (-100) < (-x0a) then ((bG M (ROB + 12) (-(-x0a))).bind fun x4 => (asB M p2a (x1a + (-1)) x4).bind fun M5 => if (-9) ≤ (-x0a) then (some ((x1a + (-1)), M5)) else none) else none) else none
set_option maxRecDepth 20000 in
theorem ev_J6_getChars_ba4f3 {G : Nat × (Nat → Int32) × Value} {x0a : Int32} {x1a : Int32} {p2a : Nat} {M : Mem} {r : Int32 × Mem} (h : f_J6_getChars_ba4f3 x0a x1a p2a M = some r) : Ev (roG G) false YJ6_getChars_ba4f3 0 0 [.int x0a, .int x1a, .ref p2a] M (fun a b => a = wI r.1 ∧ b = r.2) := by
  refine ev_of cyJ6_getChars_ba4f3.2.2.2.2 (Nat.le_of_ble_eq_true rfl) ?_
  show Fr _ _ _ _ _ _ 0 [(0, .int x0a), (1, .int x1a), (2, .ref p2a)] [] M _
  unfold f_J6_getChars_ba4f3 at h
  refine fr_iload_n 1 dJ6_getChars_ba4f3_0 rfl ?_
  refine fr_istore (L' := [(0, .int x0a), (1, .int x1a), (2, .ref p2a), (5, .int x1a)]) dJ6_getChars_ba4f3_1 (by decide) rfl ?_
  refine fr_iload_n 0 dJ6_getChars_ba4f3_3 rfl ?_
  refine fr_if_ge 11 dJ6_getChars_ba4f3_4 (by decide) (fun c1 => ?_) (fun c1 => by rw [if_neg c1] at h; cases h)
  rw [if_pos c1] at h
  refine fr_iconst (v := 0) dJ6_getChars_ba4f3_11 (by decide) ?_
  refine fr_istore (L' := [(0, .int x0a), (1, .int x1a), (2, .ref p2a), (5, .int x1a), (6, .int 0)]) dJ6_getChars_ba4f3_12 (by decide) rfl ?_
  refine fr_iload 4 dJ6_getChars_ba4f3_14 rfl ?_
  refine fr_if_ne 22 dJ6_getChars_ba4f3_16 (by decide) (fun c2 => absurd c2 (by decide)) (fun c2 => ?_)
  refine fr_iload_n 0 dJ6_getChars_ba4f3_19 rfl ?_
  refine fr_ineg dJ6_getChars_ba4f3_20 ?_
  refine fr_istore_n (L' := [(0, .int (-x0a)), (1, .int x1a), (2, .ref p2a), (5, .int x1a), (6, .int 0)]) dJ6_getChars_ba4f3_21 (by decide) rfl ?_
  refine fr_iload_n 0 dJ6_getChars_ba4f3_22 rfl ?_
  refine fr_bipush (v := (-100)) dJ6_getChars_ba4f3_23 (by decide) ?_
  refine fr_icmp_gt 72 dJ6_getChars_ba4f3_25 (by decide) (fun c3 => ?_) (fun c3 => by rw [if_neg c3] at h; cases h)
  rw [if_pos c3] at h
  refine fr_aload_n 2 dJ6_getChars_ba4f3_72 rfl ?_
  refine fr_iinc (v := (x1a + (-1))) (L' := [(0, .int (-x0a)), (1, .int x1a), (2, .ref p2a), (5, .int (x1a + (-1))), (6, .int 0)]) 3 dJ6_getChars_ba4f3_73 rfl rfl (by decide) rfl ?_
  refine fr_iload 3 dJ6_getChars_ba4f3_76 rfl ?_
  refine fr_gets (show _ ∈ roZ _ from List.mem_of_getElem? (i := 4) rfl) w_1263 dJ6_getChars_ba4f3_78 ?_
  refine fr_iload_n 0 dJ6_getChars_ba4f3_81 rfl ?_
  refine fr_ineg dJ6_getChars_ba4f3_82 ?_
  obtain ⟨x4, ex4, h⟩ := ob h
  try dsimp only at h
  refine fr_bG ex4 dJ6_getChars_ba4f3_83 ?_
  obtain ⟨M5, eM5, h⟩ := ob h
  try dsimp only at h
  refine fr_asB eM5 dJ6_getChars_ba4f3_84 ?_
  refine fr_iload_n 0 dJ6_getChars_ba4f3_85 rfl ?_
  refine fr_bipush (v := (-9)) dJ6_getChars_ba4f3_86 (by decide) ?_
  refine fr_icmp_ge 104 dJ6_getChars_ba4f3_88 (by decide) (fun c6 => ?_) (fun c6 => by rw [if_neg c6] at h; cases h)
  rw [if_pos c6] at h
  refine fr_iload 4 dJ6_getChars_ba4f3_104 rfl ?_
  refine fr_if_eq 118 dJ6_getChars_ba4f3_106 (by decide) (fun c7 => ?_) (fun c7 => absurd c7 (by decide))
  refine fr_iload 3 dJ6_getChars_ba4f3_118 rfl ?_
  obtain rfl := Option.some.inj h
  exact fr_iret rfl dJ6_getChars_ba4f3_120 ⟨rfl, rfl⟩
