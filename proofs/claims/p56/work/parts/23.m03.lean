/-! ===== methods, 3: X4_describeTable X10_writeTable X9_comesBefore X9_countBefore X9_sheetAtRank X10_sheetByWear L_byWear X10_demandFewEmptyCells X7_onTable X7_torn X7_canBeLaid X10_opposite J9_floorMod_7cf53 X7_borderWhenTurned X7_borderAsLaid ===== -/
def lp_X4_describeTable_7 (p_0 : Nat) (p_1 : Nat) : Nat → Int32 → Mem → Option ((Int32 × Mem) ⊕ (Unit × Mem))
  | 0, _, _ => none
  | n + 1, x_2, M_ => if 9 ≤ x_2 then (some (.inl (x_2, M_))) else (if x_2 ≤ 0 then ((rc M_ 9 p_1).bind fun _ => (f_X9_isOccupied p_1 x_2 M_).bind fun r4 => if r4 = 0 then ((rc M_ 5 p_0).bind fun _ => (f_X4_writeTimes p_0 46 2 M_).bind fun r7 => lp_X4_describeTable_7 p_0 p_1 n (x_2 + 1) r7.2) else ((gP M_ 9 p_1 1).bind fun p9 => (aI M_ 100 p9 x_2).bind fun x10 => (rc M_ 5 p_0).bind fun _ => (f_X4_writeDigit p_0 x10 M_).bind fun r11 => (rc r11.2 9 p_1).bind fun _ => (f_X9_sheetLaidIn p_1 x_2 r11.2).bind fun r13 => (gI r11.2 7 r13 7).bind fun x15 => (rc r11.2 5 p_0).bind fun _ => (f_X4_writeDigit p_0 x15 r11.2).bind fun r16 => lp_X4_describeTable_7 p_0 p_1 n (x_2 + 1) r16.2)) else (if (x_2 - x_2 / 3 * 3) = 0 then ((rc M_ 5 p_0).bind fun _ => (f_X4_write p_0 47 M_).bind fun r34 => (rc r34.2 9 p_1).bind fun _ => (f_X9_isOccupied p_1 x_2 r34.2).bind fun r36 => if r36 = 0 then ((rc r34.2 5 p_0).bind fun _ => (f_X4_writeTimes p_0 46 2 r34.2).bind fun r39 => lp_X4_describeTable_7 p_0 p_1 n (x_2 + 1) r39.2) else ((gP r34.2 9 p_1 1).bind fun p41 => (aI r34.2 100 p41 x_2).bind fun x42 => (rc r34.2 5 p_0).bind fun _ => (f_X4_writeDigit p_0 x42 r34.2).bind fun r43 => (rc r43.2 9 p_1).bind fun _ => (f_X9_sheetLaidIn p_1 x_2 r43.2).bind fun r45 => (gI r43.2 7 r45 7).bind fun x47 => (rc r43.2 5 p_0).bind fun _ => (f_X4_writeDigit p_0 x47 r43.2).bind fun r48 => lp_X4_describeTable_7 p_0 p_1 n (x_2 + 1) r48.2)) else ((rc M_ 9 p_1).bind fun _ => (f_X9_isOccupied p_1 x_2 M_).bind fun r20 => if r20 = 0 then ((rc M_ 5 p_0).bind fun _ => (f_X4_writeTimes p_0 46 2 M_).bind fun r23 => lp_X4_describeTable_7 p_0 p_1 n (x_2 + 1) r23.2) else ((gP M_ 9 p_1 1).bind fun p25 => (aI M_ 100 p25 x_2).bind fun x26 => (rc M_ 5 p_0).bind fun _ => (f_X4_writeDigit p_0 x26 M_).bind fun r27 => (rc r27.2 9 p_1).bind fun _ => (f_X9_sheetLaidIn p_1 x_2 r27.2).bind fun r29 => (gI r27.2 7 r29 7).bind fun x31 => (rc r27.2 5 p_0).bind fun _ => (f_X4_writeDigit p_0 x31 r27.2).bind fun r32 => lp_X4_describeTable_7 p_0 p_1 n (x_2 + 1) r32.2))))
def f_X4_describeTable (p0a : Nat) (p1a : Nat) (M : Mem) : Option (Unit × Mem) := (sI M 5 p0a 1 .int 0).bind fun M1 => ((lp_X4_describeTable_7 p0a p1a 100 0 M1).bind fun q50 => match q50 with | .inl (q50_2, q50_M) => (some ((), q50_M)) | .inr q50_r => some q50_r)
set_option maxRecDepth 20000 in
theorem lp_X4_describeTable_7_ok {G : Nat × (Nat → Int32) × Value} {P : Res → Mem → Prop} {n0 d ke : Nat} {p_0 : Nat} {p_1 : Nat} (hd : 2 ≤ d) : ∀ (n : Nat) (x_2 : Int32) (M_ : Mem) (res : (Int32 × Mem) ⊕ (Unit × Mem)), lp_X4_describeTable_7 p_0 p_1 n x_2 M_ = some res → (∀ (y_2 : Int32) (M9 : Mem), res = .inl (y_2, M9) → Fr (roG G) false n0 YX4_describeTable d ke 75 [(0, .ref p_0), (1, .ref p_1), (2, .int y_2)] [] M9 P) → (∀ r : Unit × Mem, res = .inr r → P (wU r.1) r.2) → Fr (roG G) false n0 YX4_describeTable d ke 7 [(0, .ref p_0), (1, .ref p_1), (2, .int x_2)] [] M_ P := by
  intro n
  induction n with
  | zero => intro x_2 M_ res h; unfold lp_X4_describeTable_7 at h; cases h
  | succ n ih =>
    intro x_2 M_ res h he hr
    unfold lp_X4_describeTable_7 at h
    refine fr_iload_n 2 dX4_describeTable_7 rfl ?_
    refine fr_bipush (v := 9) dX4_describeTable_8 (by decide) ?_
    refine fr_icmp_ge 75 dX4_describeTable_10 (by decide) (fun c2 => ?_) (fun c2 => ?_)
    · rw [if_pos c2] at h
      obtain rfl := Option.some.inj h
      exact he _ _ rfl
    · rw [if_neg c2] at h
      refine fr_iload_n 2 dX4_describeTable_13 rfl ?_
      refine fr_if_le 29 dX4_describeTable_14 (by decide) (fun c3 => ?_) (fun c3 => ?_)
      · rw [if_pos c3] at h
        refine fr_aload_n 1 dX4_describeTable_29 rfl ?_
        refine fr_iload_n 2 dX4_describeTable_30 rfl ?_
        obtain ⟨u5, eu5, h⟩ := ob h
        try dsimp only at h
        obtain ⟨r4, er4, h⟩ := ob h
        try dsimp only at h
        refine fr_callV (g1 := false) (k2 := ke) (ev_X9_isOccupied er4) rfl cyX9_isOccupied w_1027 w_580 w_581 (rc_ok eu5 rfl (by decide)) (by rfl) (by omega) (by omega) (by rfl) (Nat.le_of_ble_eq_true rfl) dX4_describeTable_31 (Or.inl rfl) (fun v M9 q _ => ?_) (fun E M9 q _ => (Sum.inr_ne_inl q.1).elim)
        obtain rfl : v = some (.int r4) := Sum.inl.inj q.1
        obtain rfl := q.2.symm
        refine fr_st (S' := [.int r4]) rfl ?_
        refine fr_if_eq 62 dX4_describeTable_34 (by decide) (fun c6 => ?_) (fun c6 => ?_)
        · rw [if_pos c6] at h
          refine fr_aload_n 0 dX4_describeTable_62 rfl ?_
          refine fr_bipush (v := 46) dX4_describeTable_63 (by decide) ?_
          refine fr_iconst (v := 2) dX4_describeTable_65 (by decide) ?_
          obtain ⟨u8, eu8, h⟩ := ob h
          try dsimp only at h
          obtain ⟨r7, er7, h⟩ := ob h
          try dsimp only at h
          refine fr_callV (g1 := false) (k2 := ke) (ev_X4_writeTimes er7) rfl cyX4_writeTimes w_1033 w_1035 w_10 (rc_ok eu8 rfl (by decide)) (by rfl) (by omega) (by omega) (by rfl) (Nat.le_of_ble_eq_true rfl) dX4_describeTable_66 (Or.inl rfl) (fun v M9 q _ => ?_) (fun E M9 q _ => (Sum.inr_ne_inl q.1).elim)
          obtain rfl : v = none := Sum.inl.inj q.1
          obtain rfl := q.2.symm
          refine fr_st (S' := []) rfl ?_
          refine fr_iinc (v := (x_2 + 1)) (L' := [(0, .ref p_0), (1, .ref p_1), (2, .int (x_2 + 1))]) 2 dX4_describeTable_69 rfl rfl (by decide) rfl ?_
          refine fr_goto 7 dX4_describeTable_72 (by decide) ?_
          exact ih _ _ _ h he hr
        · rw [if_neg c6] at h
          refine fr_aload_n 0 dX4_describeTable_37 rfl ?_
          refine fr_aload_n 1 dX4_describeTable_38 rfl ?_
          obtain ⟨p9, ep9, h⟩ := ob h
          try dsimp only at h
          refine fr_gP cb9 1 (by decide) rfl w_124 dX4_describeTable_39 ep9 ?_
          refine fr_iload_n 2 dX4_describeTable_42 rfl ?_
          obtain ⟨x10, ex10, h⟩ := ob h
          try dsimp only at h
          refine fr_aI0 ex10 dX4_describeTable_43 ?_
          obtain ⟨u12, eu12, h⟩ := ob h
          try dsimp only at h
          obtain ⟨r11, er11, h⟩ := ob h
          try dsimp only at h
          refine fr_callV (g1 := false) (k2 := ke) (ev_X4_writeDigit er11) rfl cyX4_writeDigit w_1028 w_1030 w_9 (rc_ok eu12 rfl (by decide)) (by rfl) (by omega) (by omega) (by rfl) (Nat.le_of_ble_eq_true rfl) dX4_describeTable_44 (Or.inl rfl) (fun v M9 q _ => ?_) (fun E M9 q _ => (Sum.inr_ne_inl q.1).elim)
          obtain rfl : v = none := Sum.inl.inj q.1
          obtain rfl := q.2.symm
          refine fr_st (S' := []) rfl ?_
          refine fr_aload_n 0 dX4_describeTable_47 rfl ?_
          refine fr_aload_n 1 dX4_describeTable_48 rfl ?_
          refine fr_iload_n 2 dX4_describeTable_49 rfl ?_
          obtain ⟨u14, eu14, h⟩ := ob h
          try dsimp only at h
          obtain ⟨r13, er13, h⟩ := ob h
          try dsimp only at h
          refine fr_callV (g1 := false) (k2 := ke) (ev_X9_sheetLaidIn er13) rfl cyX9_sheetLaidIn w_1032 w_595 w_596 (rc_ok eu14 rfl (by decide)) (by rfl) (by omega) (by omega) (by rfl) (Nat.le_of_ble_eq_true rfl) dX4_describeTable_50 (Or.inl rfl) (fun v M9 q _ => ?_) (fun E M9 q _ => (Sum.inr_ne_inl q.1).elim)
          obtain rfl : v = some (.ref r13) := Sum.inl.inj q.1
          obtain rfl := q.2.symm
          refine fr_st (S' := [.ref r13, .ref p_0]) rfl ?_
          obtain ⟨x15, ex15, h⟩ := ob h
          try dsimp only at h
          refine fr_gI cb7 7 (by decide) rfl w_98 dX4_describeTable_53 ex15 ?_
          obtain ⟨u17, eu17, h⟩ := ob h
          try dsimp only at h
          obtain ⟨r16, er16, h⟩ := ob h
          try dsimp only at h
          refine fr_callV (g1 := false) (k2 := ke) (ev_X4_writeDigit er16) rfl cyX4_writeDigit w_1028 w_1030 w_9 (rc_ok eu17 rfl (by decide)) (by rfl) (by omega) (by omega) (by rfl) (Nat.le_of_ble_eq_true rfl) dX4_describeTable_56 (Or.inl rfl) (fun v M9 q _ => ?_) (fun E M9 q _ => (Sum.inr_ne_inl q.1).elim)
          obtain rfl : v = none := Sum.inl.inj q.1
          obtain rfl := q.2.symm
          refine fr_st (S' := []) rfl ?_
          refine fr_goto 69 dX4_describeTable_59 (by decide) ?_
          refine fr_iinc (v := (x_2 + 1)) (L' := [(0, .ref p_0), (1, .ref p_1), (2, .int (x_2 + 1))]) 2 dX4_describeTable_69 rfl rfl (by decide) rfl ?_
          refine fr_goto 7 dX4_describeTable_72 (by decide) ?_
          exact ih _ _ _ h he hr
      · rw [if_neg c3] at h
        refine fr_iload_n 2 dX4_describeTable_17 rfl ?_
        refine fr_iconst (v := 3) dX4_describeTable_18 (by decide) ?_
        refine fr_irem dX4_describeTable_19 (by decide) ?_
        refine fr_if_ne 29 dX4_describeTable_20 (by decide) (fun c19 => ?_) (fun c19 => ?_)
        · rw [if_neg c19] at h
          refine fr_aload_n 1 dX4_describeTable_29 rfl ?_
          refine fr_iload_n 2 dX4_describeTable_30 rfl ?_
          obtain ⟨u21, eu21, h⟩ := ob h
          try dsimp only at h
          obtain ⟨r20, er20, h⟩ := ob h
          try dsimp only at h
          refine fr_callV (g1 := false) (k2 := ke) (ev_X9_isOccupied er20) rfl cyX9_isOccupied w_1027 w_580 w_581 (rc_ok eu21 rfl (by decide)) (by rfl) (by omega) (by omega) (by rfl) (Nat.le_of_ble_eq_true rfl) dX4_describeTable_31 (Or.inl rfl) (fun v M9 q _ => ?_) (fun E M9 q _ => (Sum.inr_ne_inl q.1).elim)
          obtain rfl : v = some (.int r20) := Sum.inl.inj q.1
          obtain rfl := q.2.symm
          refine fr_st (S' := [.int r20]) rfl ?_
          refine fr_if_eq 62 dX4_describeTable_34 (by decide) (fun c22 => ?_) (fun c22 => ?_)
          · rw [if_pos c22] at h
            refine fr_aload_n 0 dX4_describeTable_62 rfl ?_
            refine fr_bipush (v := 46) dX4_describeTable_63 (by decide) ?_
            refine fr_iconst (v := 2) dX4_describeTable_65 (by decide) ?_
            obtain ⟨u24, eu24, h⟩ := ob h
            try dsimp only at h
            obtain ⟨r23, er23, h⟩ := ob h
            try dsimp only at h
            refine fr_callV (g1 := false) (k2 := ke) (ev_X4_writeTimes er23) rfl cyX4_writeTimes w_1033 w_1035 w_10 (rc_ok eu24 rfl (by decide)) (by rfl) (by omega) (by omega) (by rfl) (Nat.le_of_ble_eq_true rfl) dX4_describeTable_66 (Or.inl rfl) (fun v M9 q _ => ?_) (fun E M9 q _ => (Sum.inr_ne_inl q.1).elim)
            obtain rfl : v = none := Sum.inl.inj q.1
            obtain rfl := q.2.symm
            refine fr_st (S' := []) rfl ?_
            refine fr_iinc (v := (x_2 + 1)) (L' := [(0, .ref p_0), (1, .ref p_1), (2, .int (x_2 + 1))]) 2 dX4_describeTable_69 rfl rfl (by decide) rfl ?_
            refine fr_goto 7 dX4_describeTable_72 (by decide) ?_
            exact ih _ _ _ h he hr
          · rw [if_neg c22] at h
            refine fr_aload_n 0 dX4_describeTable_37 rfl ?_
            refine fr_aload_n 1 dX4_describeTable_38 rfl ?_
            obtain ⟨p25, ep25, h⟩ := ob h
            try dsimp only at h
            refine fr_gP cb9 1 (by decide) rfl w_124 dX4_describeTable_39 ep25 ?_
            refine fr_iload_n 2 dX4_describeTable_42 rfl ?_
            obtain ⟨x26, ex26, h⟩ := ob h
            try dsimp only at h
            refine fr_aI0 ex26 dX4_describeTable_43 ?_
            obtain ⟨u28, eu28, h⟩ := ob h
            try dsimp only at h
            obtain ⟨r27, er27, h⟩ := ob h
            try dsimp only at h
            refine fr_callV (g1 := false) (k2 := ke) (ev_X4_writeDigit er27) rfl cyX4_writeDigit w_1028 w_1030 w_9 (rc_ok eu28 rfl (by decide)) (by rfl) (by omega) (by omega) (by rfl) (Nat.le_of_ble_eq_true rfl) dX4_describeTable_44 (Or.inl rfl) (fun v M9 q _ => ?_) (fun E M9 q _ => (Sum.inr_ne_inl q.1).elim)
            obtain rfl : v = none := Sum.inl.inj q.1
            obtain rfl := q.2.symm
            refine fr_st (S' := []) rfl ?_
            refine fr_aload_n 0 dX4_describeTable_47 rfl ?_
            refine fr_aload_n 1 dX4_describeTable_48 rfl ?_
            refine fr_iload_n 2 dX4_describeTable_49 rfl ?_
            obtain ⟨u30, eu30, h⟩ := ob h
            try dsimp only at h
            obtain ⟨r29, er29, h⟩ := ob h
            try dsimp only at h
            refine fr_callV (g1 := false) (k2 := ke) (ev_X9_sheetLaidIn er29) rfl cyX9_sheetLaidIn w_1032 w_595 w_596 (rc_ok eu30 rfl (by decide)) (by rfl) (by omega) (by omega) (by rfl) (Nat.le_of_ble_eq_true rfl) dX4_describeTable_50 (Or.inl rfl) (fun v M9 q _ => ?_) (fun E M9 q _ => (Sum.inr_ne_inl q.1).elim)
            obtain rfl : v = some (.ref r29) := Sum.inl.inj q.1
            obtain rfl := q.2.symm
            refine fr_st (S' := [.ref r29, .ref p_0]) rfl ?_
            obtain ⟨x31, ex31, h⟩ := ob h
            try dsimp only at h
            refine fr_gI cb7 7 (by decide) rfl w_98 dX4_describeTable_53 ex31 ?_
            obtain ⟨u33, eu33, h⟩ := ob h
            try dsimp only at h
            obtain ⟨r32, er32, h⟩ := ob h
            try dsimp only at h
            refine fr_callV (g1 := false) (k2 := ke) (ev_X4_writeDigit er32) rfl cyX4_writeDigit w_1028 w_1030 w_9 (rc_ok eu33 rfl (by decide)) (by rfl) (by omega) (by omega) (by rfl) (Nat.le_of_ble_eq_true rfl) dX4_describeTable_56 (Or.inl rfl) (fun v M9 q _ => ?_) (fun E M9 q _ => (Sum.inr_ne_inl q.1).elim)
            obtain rfl : v = none := Sum.inl.inj q.1
            obtain rfl := q.2.symm
            refine fr_st (S' := []) rfl ?_
            refine fr_goto 69 dX4_describeTable_59 (by decide) ?_
            refine fr_iinc (v := (x_2 + 1)) (L' := [(0, .ref p_0), (1, .ref p_1), (2, .int (x_2 + 1))]) 2 dX4_describeTable_69 rfl rfl (by decide) rfl ?_
            refine fr_goto 7 dX4_describeTable_72 (by decide) ?_
            exact ih _ _ _ h he hr
        · rw [if_pos c19] at h
          refine fr_aload_n 0 dX4_describeTable_23 rfl ?_
          refine fr_bipush (v := 47) dX4_describeTable_24 (by decide) ?_
          obtain ⟨u35, eu35, h⟩ := ob h
          try dsimp only at h
          obtain ⟨r34, er34, h⟩ := ob h
          try dsimp only at h
          refine fr_callV (g1 := false) (k2 := ke) (ev_X4_write er34) rfl cyX4_write w_1023 w_1025 w_8 (rc_ok eu35 rfl (by decide)) (by rfl) (by omega) (by omega) (by rfl) (Nat.le_of_ble_eq_true rfl) dX4_describeTable_26 (Or.inl rfl) (fun v M9 q _ => ?_) (fun E M9 q _ => (Sum.inr_ne_inl q.1).elim)
          obtain rfl : v = none := Sum.inl.inj q.1
          obtain rfl := q.2.symm
          refine fr_st (S' := []) rfl ?_
          refine fr_aload_n 1 dX4_describeTable_29 rfl ?_
          refine fr_iload_n 2 dX4_describeTable_30 rfl ?_
          obtain ⟨u37, eu37, h⟩ := ob h
          try dsimp only at h
          obtain ⟨r36, er36, h⟩ := ob h
          try dsimp only at h
          refine fr_callV (g1 := false) (k2 := ke) (ev_X9_isOccupied er36) rfl cyX9_isOccupied w_1027 w_580 w_581 (rc_ok eu37 rfl (by decide)) (by rfl) (by omega) (by omega) (by rfl) (Nat.le_of_ble_eq_true rfl) dX4_describeTable_31 (Or.inl rfl) (fun v M9 q _ => ?_) (fun E M9 q _ => (Sum.inr_ne_inl q.1).elim)
          obtain rfl : v = some (.int r36) := Sum.inl.inj q.1
          obtain rfl := q.2.symm
          refine fr_st (S' := [.int r36]) rfl ?_
          refine fr_if_eq 62 dX4_describeTable_34 (by decide) (fun c38 => ?_) (fun c38 => ?_)
          · rw [if_pos c38] at h
            refine fr_aload_n 0 dX4_describeTable_62 rfl ?_
            refine fr_bipush (v := 46) dX4_describeTable_63 (by decide) ?_
            refine fr_iconst (v := 2) dX4_describeTable_65 (by decide) ?_
            obtain ⟨u40, eu40, h⟩ := ob h
            try dsimp only at h
            obtain ⟨r39, er39, h⟩ := ob h
            try dsimp only at h
            refine fr_callV (g1 := false) (k2 := ke) (ev_X4_writeTimes er39) rfl cyX4_writeTimes w_1033 w_1035 w_10 (rc_ok eu40 rfl (by decide)) (by rfl) (by omega) (by omega) (by rfl) (Nat.le_of_ble_eq_true rfl) dX4_describeTable_66 (Or.inl rfl) (fun v M9 q _ => ?_) (fun E M9 q _ => (Sum.inr_ne_inl q.1).elim)
            obtain rfl : v = none := Sum.inl.inj q.1
            obtain rfl := q.2.symm
            refine fr_st (S' := []) rfl ?_
            refine fr_iinc (v := (x_2 + 1)) (L' := [(0, .ref p_0), (1, .ref p_1), (2, .int (x_2 + 1))]) 2 dX4_describeTable_69 rfl rfl (by decide) rfl ?_
            refine fr_goto 7 dX4_describeTable_72 (by decide) ?_
            exact ih _ _ _ h he hr
          · rw [if_neg c38] at h
            refine fr_aload_n 0 dX4_describeTable_37 rfl ?_
            refine fr_aload_n 1 dX4_describeTable_38 rfl ?_
            obtain ⟨p41, ep41, h⟩ := ob h
            try dsimp only at h
            refine fr_gP cb9 1 (by decide) rfl w_124 dX4_describeTable_39 ep41 ?_
            refine fr_iload_n 2 dX4_describeTable_42 rfl ?_
            obtain ⟨x42, ex42, h⟩ := ob h
            try dsimp only at h
            refine fr_aI0 ex42 dX4_describeTable_43 ?_
            obtain ⟨u44, eu44, h⟩ := ob h
            try dsimp only at h
            obtain ⟨r43, er43, h⟩ := ob h
            try dsimp only at h
            refine fr_callV (g1 := false) (k2 := ke) (ev_X4_writeDigit er43) rfl cyX4_writeDigit w_1028 w_1030 w_9 (rc_ok eu44 rfl (by decide)) (by rfl) (by omega) (by omega) (by rfl) (Nat.le_of_ble_eq_true rfl) dX4_describeTable_44 (Or.inl rfl) (fun v M9 q _ => ?_) (fun E M9 q _ => (Sum.inr_ne_inl q.1).elim)
            obtain rfl : v = none := Sum.inl.inj q.1
            obtain rfl := q.2.symm
            refine fr_st (S' := []) rfl ?_
            refine fr_aload_n 0 dX4_describeTable_47 rfl ?_
            refine fr_aload_n 1 dX4_describeTable_48 rfl ?_
            refine fr_iload_n 2 dX4_describeTable_49 rfl ?_
            obtain ⟨u46, eu46, h⟩ := ob h
            try dsimp only at h
            obtain ⟨r45, er45, h⟩ := ob h
            try dsimp only at h
            refine fr_callV (g1 := false) (k2 := ke) (ev_X9_sheetLaidIn er45) rfl cyX9_sheetLaidIn w_1032 w_595 w_596 (rc_ok eu46 rfl (by decide)) (by rfl) (by omega) (by omega) (by rfl) (Nat.le_of_ble_eq_true rfl) dX4_describeTable_50 (Or.inl rfl) (fun v M9 q _ => ?_) (fun E M9 q _ => (Sum.inr_ne_inl q.1).elim)
            obtain rfl : v = some (.ref r45) := Sum.inl.inj q.1
            obtain rfl := q.2.symm
            refine fr_st (S' := [.ref r45, .ref p_0]) rfl ?_
            obtain ⟨x47, ex47, h⟩ := ob h
            try dsimp only at h
            refine fr_gI cb7 7 (by decide) rfl w_98 dX4_describeTable_53 ex47 ?_
            obtain ⟨u49, eu49, h⟩ := ob h
            try dsimp only at h
            obtain ⟨r48, er48, h⟩ := ob h
            try dsimp only at h
            refine fr_callV (g1 := false) (k2 := ke) (ev_X4_writeDigit er48) rfl cyX4_writeDigit w_1028 w_1030 w_9 (rc_ok eu49 rfl (by decide)) (by rfl) (by omega) (by omega) (by rfl) (Nat.le_of_ble_eq_true rfl) dX4_describeTable_56 (Or.inl rfl) (fun v M9 q _ => ?_) (fun E M9 q _ => (Sum.inr_ne_inl q.1).elim)
            obtain rfl : v = none := Sum.inl.inj q.1
            obtain rfl := q.2.symm
            refine fr_st (S' := []) rfl ?_
            refine fr_goto 69 dX4_describeTable_59 (by decide) ?_
            refine fr_iinc (v := (x_2 + 1)) (L' := [(0, .ref p_0), (1, .ref p_1), (2, .int (x_2 + 1))]) 2 dX4_describeTable_69 rfl rfl (by decide) rfl ?_
            refine fr_goto 7 dX4_describeTable_72 (by decide) ?_
            exact ih _ _ _ h he hr
set_option maxRecDepth 20000 in
theorem ev_X4_describeTable {G : Nat × (Nat → Int32) × Value} {p0a : Nat} {p1a : Nat} {M : Mem} {r : Unit × Mem} (h : f_X4_describeTable p0a p1a M = some r) : Ev (roG G) false YX4_describeTable 2 0 [.ref p0a, .ref p1a] M (fun a b => a = wU r.1 ∧ b = r.2) := by
  refine ev_of cyX4_describeTable.2.2.2.2 (Nat.le_of_ble_eq_true rfl) ?_
  show Fr _ _ _ _ _ _ 0 [(0, .ref p0a), (1, .ref p1a)] [] M _
  unfold f_X4_describeTable at h
  refine fr_aload_n 0 dX4_describeTable_0 rfl ?_
  refine fr_iconst (v := 0) dX4_describeTable_1 (by decide) ?_
  obtain ⟨M1, eM1, h⟩ := ob h
  try dsimp only at h
  refine fr_sI cb5 1 (by decide) rfl rfl w_220 dX4_describeTable_2 eM1 ?_
  refine fr_iconst (v := 0) dX4_describeTable_5 (by decide) ?_
  refine fr_istore_n (L' := [(0, .ref p0a), (1, .ref p1a), (2, .int 0)]) dX4_describeTable_6 (by decide) rfl ?_
  obtain ⟨q50, eq50, h⟩ := ob h
  try dsimp only at h
  refine lp_X4_describeTable_7_ok (by omega) 100 _ _ q50 eq50 (fun q50_2 q50_M e9 => ?_) (fun q50_r e9 => ?_)
  · subst e9
    try dsimp only at h
    obtain rfl := Option.some.inj h
    exact fr_vret rfl dX4_describeTable_75 ⟨rfl, rfl⟩
  · subst e9
    try dsimp only at h
    obtain rfl := Option.some.inj h
    exact ⟨rfl, rfl⟩
def f_X10_writeTable (p0a : Nat) (M : Mem) : Option (Int32 × Mem) := (gP M 10 p0a 7).bind fun p1 => (gP M 10 p0a 0).bind fun p2 => (rc M 5 p1).bind fun _ => (f_X4_describeTable p1 p2 M).bind fun r3 => (gP r3.2 10 p0a 7).bind fun p5 => (gI r3.2 5 p5 1).bind fun x6 => some (x6, r3.2)
set_option maxRecDepth 20000 in
theorem ev_X10_writeTable {G : Nat × (Nat → Int32) × Value} {p0a : Nat} {M : Mem} {r : Int32 × Mem} (h : f_X10_writeTable p0a M = some r) : Ev (roG G) false YX10_writeTable 3 0 [.ref p0a] M (fun a b => a = wI r.1 ∧ b = r.2) := by
  refine ev_of cyX10_writeTable.2.2.2.2 (Nat.le_of_ble_eq_true rfl) ?_
  show Fr _ _ _ _ _ _ 0 [(0, .ref p0a)] [] M _
  unfold f_X10_writeTable at h
  refine fr_aload_n 0 dX10_writeTable_0 rfl ?_
  obtain ⟨p1, ep1, h⟩ := ob h
  try dsimp only at h
  refine fr_gP cb10 7 (by decide) rfl w_234 dX10_writeTable_1 ep1 ?_
  refine fr_aload_n 0 dX10_writeTable_4 rfl ?_
  obtain ⟨p2, ep2, h⟩ := ob h
  try dsimp only at h
  refine fr_gP cb10 0 (by decide) rfl w_227 dX10_writeTable_5 ep2 ?_
  obtain ⟨u4, eu4, h⟩ := ob h
  try dsimp only at h
  obtain ⟨r3, er3, h⟩ := ob h
  try dsimp only at h
  refine fr_callV (g1 := false) (k2 := 0) (ev_X4_describeTable er3) rfl cyX4_describeTable w_1019 w_1020 w_1021 (rc_ok eu4 rfl (by decide)) (by rfl) (by omega) (by omega) (by rfl) (Nat.le_of_ble_eq_true rfl) dX10_writeTable_8 (Or.inl rfl) (fun v M9 q _ => ?_) (fun E M9 q _ => (Sum.inr_ne_inl q.1).elim)
  obtain rfl : v = none := Sum.inl.inj q.1
  obtain rfl := q.2.symm
  refine fr_st (S' := []) rfl ?_
  refine fr_aload_n 0 dX10_writeTable_11 rfl ?_
  obtain ⟨p5, ep5, h⟩ := ob h
  try dsimp only at h
  refine fr_gP cb10 7 (by decide) rfl w_234 dX10_writeTable_12 ep5 ?_
  obtain ⟨x6, ex6, h⟩ := ob h
  try dsimp only at h
  refine fr_gI cb5 1 (by decide) rfl w_221 dX10_writeTable_15 ex6 ?_
  obtain rfl := Option.some.inj h
  exact fr_iret rfl dX10_writeTable_18 ⟨rfl, rfl⟩
def f_X9_comesBefore (p0a : Nat) (x1a : Int32) (x2a : Int32) (M : Mem) : Option (Int32) := (gP M 9 p0a 0).bind fun p1 => (aP M 120 p1 x1a).bind fun p2 => (gP M 9 p0a 0).bind fun p3 => (aP M 120 p3 x2a).bind fun p4 => (gI M 7 p2 4).bind fun x5 => (gI M 7 p4 4).bind fun x6 => if x5 = x6 then ((gI M 7 p2 3).bind fun x8 => (gI M 7 p4 3).bind fun x9 => if x8 = x9 then (if x2a ≤ x1a then (some 0) else (some 1)) else ((gI M 7 p2 3).bind fun x12 => (gI M 7 p4 3).bind fun x13 => if x12 ≤ x13 then (some 0) else (some 1))) else ((gI M 7 p2 4).bind fun x15 => (gI M 7 p4 4).bind fun x16 => if x15 ≤ x16 then (some 0) else (some 1))
set_option maxRecDepth 20000 in
theorem ev_X9_comesBefore {G : Nat × (Nat → Int32) × Value} {p0a : Nat} {x1a : Int32} {x2a : Int32} {M : Mem} {r : Int32} (h : f_X9_comesBefore p0a x1a x2a M = some r) : Ev (roG G) false YX9_comesBefore 0 0 [.ref p0a, .int x1a, .int x2a] M (fun a b => a = wI r ∧ b = M) := by
  refine ev_of cyX9_comesBefore.2.2.2.2 (Nat.le_of_ble_eq_true rfl) ?_
  show Fr _ _ _ _ _ _ 0 [(0, .ref p0a), (1, .int x1a), (2, .int x2a)] [] M _
  unfold f_X9_comesBefore at h
  refine fr_aload_n 0 dX9_comesBefore_0 rfl ?_
  obtain ⟨p1, ep1, h⟩ := ob h
  try dsimp only at h
  refine fr_gP cb9 0 (by decide) rfl w_121 dX9_comesBefore_1 ep1 ?_
  refine fr_iload_n 1 dX9_comesBefore_4 rfl ?_
  obtain ⟨p2, ep2, h⟩ := ob h
  try dsimp only at h
  refine fr_aP (t := 120) (by decide) ep2 dX9_comesBefore_5 ?_
  refine fr_astore_n (L' := [(0, .ref p0a), (1, .int x1a), (2, .int x2a), (3, .ref p2)]) dX9_comesBefore_6 (by decide) rfl ?_
  refine fr_aload_n 0 dX9_comesBefore_7 rfl ?_
  obtain ⟨p3, ep3, h⟩ := ob h
  try dsimp only at h
  refine fr_gP cb9 0 (by decide) rfl w_121 dX9_comesBefore_8 ep3 ?_
  refine fr_iload_n 2 dX9_comesBefore_11 rfl ?_
  obtain ⟨p4, ep4, h⟩ := ob h
  try dsimp only at h
  refine fr_aP (t := 120) (by decide) ep4 dX9_comesBefore_12 ?_
  refine fr_astore (L' := [(0, .ref p0a), (1, .int x1a), (2, .int x2a), (3, .ref p2), (4, .ref p4)]) dX9_comesBefore_13 (by decide) rfl ?_
  refine fr_aload_n 3 dX9_comesBefore_15 rfl ?_
  obtain ⟨x5, ex5, h⟩ := ob h
  try dsimp only at h
  refine fr_gI cb7 4 (by decide) rfl w_89 dX9_comesBefore_16 ex5 ?_
  refine fr_aload 4 dX9_comesBefore_19 rfl ?_
  obtain ⟨x6, ex6, h⟩ := ob h
  try dsimp only at h
  refine fr_gI cb7 4 (by decide) rfl w_89 dX9_comesBefore_21 ex6 ?_
  refine fr_icmp_eq 45 dX9_comesBefore_24 (by decide) (fun c7 => ?_) (fun c7 => ?_)
  · rw [if_pos c7] at h
    refine fr_aload_n 3 dX9_comesBefore_45 rfl ?_
    obtain ⟨x8, ex8, h⟩ := ob h
    try dsimp only at h
    refine fr_gI cb7 3 (by decide) rfl w_85 dX9_comesBefore_46 ex8 ?_
    refine fr_aload 4 dX9_comesBefore_49 rfl ?_
    obtain ⟨x9, ex9, h⟩ := ob h
    try dsimp only at h
    refine fr_gI cb7 3 (by decide) rfl w_85 dX9_comesBefore_51 ex9 ?_
    refine fr_icmp_eq 75 dX9_comesBefore_54 (by decide) (fun c10 => ?_) (fun c10 => ?_)
    · rw [if_pos c10] at h
      refine fr_iload_n 1 dX9_comesBefore_75 rfl ?_
      refine fr_iload_n 2 dX9_comesBefore_76 rfl ?_
      refine fr_icmp_ge 84 dX9_comesBefore_77 (by decide) (fun c11 => ?_) (fun c11 => ?_)
      · rw [if_pos c11] at h
        refine fr_iconst (v := 0) dX9_comesBefore_84 (by decide) ?_
        obtain rfl := Option.some.inj h
        exact fr_zret (ty := .boolean) rfl rfl dX9_comesBefore_85 ⟨rfl, rfl⟩
      · rw [if_neg c11] at h
        refine fr_iconst (v := 1) dX9_comesBefore_80 (by decide) ?_
        refine fr_goto 85 dX9_comesBefore_81 (by decide) ?_
        obtain rfl := Option.some.inj h
        exact fr_zret (ty := .boolean) rfl rfl dX9_comesBefore_85 ⟨rfl, rfl⟩
    · rw [if_neg c10] at h
      refine fr_aload_n 3 dX9_comesBefore_57 rfl ?_
      obtain ⟨x12, ex12, h⟩ := ob h
      try dsimp only at h
      refine fr_gI cb7 3 (by decide) rfl w_85 dX9_comesBefore_58 ex12 ?_
      refine fr_aload 4 dX9_comesBefore_61 rfl ?_
      obtain ⟨x13, ex13, h⟩ := ob h
      try dsimp only at h
      refine fr_gI cb7 3 (by decide) rfl w_85 dX9_comesBefore_63 ex13 ?_
      refine fr_icmp_le 73 dX9_comesBefore_66 (by decide) (fun c14 => ?_) (fun c14 => ?_)
      · rw [if_pos c14] at h
        refine fr_iconst (v := 0) dX9_comesBefore_73 (by decide) ?_
        obtain rfl := Option.some.inj h
        exact fr_zret (ty := .boolean) rfl rfl dX9_comesBefore_74 ⟨rfl, rfl⟩
      · rw [if_neg c14] at h
        refine fr_iconst (v := 1) dX9_comesBefore_69 (by decide) ?_
        refine fr_goto 74 dX9_comesBefore_70 (by decide) ?_
        obtain rfl := Option.some.inj h
        exact fr_zret (ty := .boolean) rfl rfl dX9_comesBefore_74 ⟨rfl, rfl⟩
  · rw [if_neg c7] at h
    refine fr_aload_n 3 dX9_comesBefore_27 rfl ?_
    obtain ⟨x15, ex15, h⟩ := ob h
    try dsimp only at h
    refine fr_gI cb7 4 (by decide) rfl w_89 dX9_comesBefore_28 ex15 ?_
    refine fr_aload 4 dX9_comesBefore_31 rfl ?_
    obtain ⟨x16, ex16, h⟩ := ob h
    try dsimp only at h
    refine fr_gI cb7 4 (by decide) rfl w_89 dX9_comesBefore_33 ex16 ?_
    refine fr_icmp_le 43 dX9_comesBefore_36 (by decide) (fun c17 => ?_) (fun c17 => ?_)
    · rw [if_pos c17] at h
      refine fr_iconst (v := 0) dX9_comesBefore_43 (by decide) ?_
      obtain rfl := Option.some.inj h
      exact fr_zret (ty := .boolean) rfl rfl dX9_comesBefore_44 ⟨rfl, rfl⟩
    · rw [if_neg c17] at h
      refine fr_iconst (v := 1) dX9_comesBefore_39 (by decide) ?_
      refine fr_goto 44 dX9_comesBefore_40 (by decide) ?_
      obtain rfl := Option.some.inj h
      exact fr_zret (ty := .boolean) rfl rfl dX9_comesBefore_44 ⟨rfl, rfl⟩
def lp_X9_countBefore_4 (p_0 : Nat) (x_1 : Int32) (M_ : Mem) : Nat → Int32 → Int32 → Option ((Int32 × Int32) ⊕ (Int32))
  | 0, _, _ => none
  | n + 1, x_2, x_3 => (gI M_ 9 p_0 2).bind fun x1 => if x1 ≤ x_3 then (some (.inl (x_2, x_3))) else ((rc M_ 9 p_0).bind fun _ => (f_X9_comesBefore p_0 x_3 x_1 M_).bind fun r3 => if r3 = 0 then (lp_X9_countBefore_4 p_0 x_1 M_ n x_2 (x_3 + 1)) else (lp_X9_countBefore_4 p_0 x_1 M_ n (x_2 + 1) (x_3 + 1)))
def f_X9_countBefore (p0a : Nat) (x1a : Int32) (M : Mem) : Option (Int32) := ((lp_X9_countBefore_4 p0a x1a M 100 0 0).bind fun q6 => match q6 with | .inl (q6_2, q6_3) => (some q6_2) | .inr q6_r => some q6_r)
set_option maxRecDepth 20000 in
theorem lp_X9_countBefore_4_ok {G : Nat × (Nat → Int32) × Value} {P : Res → Mem → Prop} {n0 d ke : Nat} {p_0 : Nat} {x_1 : Int32} {M_ : Mem} (hd : 1 ≤ d) : ∀ (n : Nat) (x_2 : Int32) (x_3 : Int32) (res : (Int32 × Int32) ⊕ (Int32)), lp_X9_countBefore_4 p_0 x_1 M_ n x_2 x_3 = some res → (∀ (y_2 : Int32) (y_3 : Int32), res = .inl (y_2, y_3) → Fr (roG G) false n0 YX9_countBefore d ke 30 [(0, .ref p_0), (1, .int x_1), (2, .int y_2), (3, .int y_3)] [] M_ P) → (∀ r : Int32, res = .inr r → P (wI r) M_) → Fr (roG G) false n0 YX9_countBefore d ke 4 [(0, .ref p_0), (1, .int x_1), (2, .int x_2), (3, .int x_3)] [] M_ P := by
  intro n
  induction n with
  | zero => intro x_2 x_3 res h; unfold lp_X9_countBefore_4 at h; cases h
  | succ n ih =>
    intro x_2 x_3 res h he hr
    unfold lp_X9_countBefore_4 at h
    refine fr_iload_n 3 dX9_countBefore_4 rfl ?_
    refine fr_aload_n 0 dX9_countBefore_5 rfl ?_
    obtain ⟨x1, ex1, h⟩ := ob h
    try dsimp only at h
    refine fr_gI cb9 2 (by decide) rfl w_126 dX9_countBefore_6 ex1 ?_
    refine fr_icmp_ge 30 dX9_countBefore_9 (by decide) (fun c2 => ?_) (fun c2 => ?_)
    · rw [if_pos c2] at h
      obtain rfl := Option.some.inj h
      exact he _ _ rfl
    · rw [if_neg c2] at h
      refine fr_aload_n 0 dX9_countBefore_12 rfl ?_
      refine fr_iload_n 3 dX9_countBefore_13 rfl ?_
      refine fr_iload_n 1 dX9_countBefore_14 rfl ?_
      obtain ⟨u4, eu4, h⟩ := ob h
      try dsimp only at h
      obtain ⟨r3, er3, h⟩ := ob h
      try dsimp only at h
      refine fr_callV (g1 := false) (k2 := ke) (ev_X9_comesBefore er3) rfl cyX9_comesBefore w_1072 w_1074 w_12 (rc_ok eu4 rfl (by decide)) (by rfl) (by omega) (by omega) (by rfl) (Nat.le_of_ble_eq_true rfl) dX9_countBefore_15 (Or.inl rfl) (fun v M9 q _ => ?_) (fun E M9 q _ => (Sum.inr_ne_inl q.1).elim)
      obtain rfl : v = some (.int r3) := Sum.inl.inj q.1
      obtain rfl := q.2.symm
      refine fr_st (S' := [.int r3]) rfl ?_
      refine fr_if_eq 24 dX9_countBefore_18 (by decide) (fun c5 => ?_) (fun c5 => ?_)
      · rw [if_pos c5] at h
        refine fr_iinc (v := (x_3 + 1)) (L' := [(0, .ref p_0), (1, .int x_1), (2, .int x_2), (3, .int (x_3 + 1))]) 3 dX9_countBefore_24 rfl rfl (by decide) rfl ?_
        refine fr_goto 4 dX9_countBefore_27 (by decide) ?_
        exact ih _ _ _ h he hr
      · rw [if_neg c5] at h
        refine fr_iinc (v := (x_2 + 1)) (L' := [(0, .ref p_0), (1, .int x_1), (2, .int (x_2 + 1)), (3, .int x_3)]) 2 dX9_countBefore_21 rfl rfl (by decide) rfl ?_
        refine fr_iinc (v := (x_3 + 1)) (L' := [(0, .ref p_0), (1, .int x_1), (2, .int (x_2 + 1)), (3, .int (x_3 + 1))]) 3 dX9_countBefore_24 rfl rfl (by decide) rfl ?_
        refine fr_goto 4 dX9_countBefore_27 (by decide) ?_
        exact ih _ _ _ h he hr
set_option maxRecDepth 20000 in
theorem ev_X9_countBefore {G : Nat × (Nat → Int32) × Value} {p0a : Nat} {x1a : Int32} {M : Mem} {r : Int32} (h : f_X9_countBefore p0a x1a M = some r) : Ev (roG G) false YX9_countBefore 1 0 [.ref p0a, .int x1a] M (fun a b => a = wI r ∧ b = M) := by
  refine ev_of cyX9_countBefore.2.2.2.2 (Nat.le_of_ble_eq_true rfl) ?_
  show Fr _ _ _ _ _ _ 0 [(0, .ref p0a), (1, .int x1a)] [] M _
  unfold f_X9_countBefore at h
  refine fr_iconst (v := 0) dX9_countBefore_0 (by decide) ?_
  refine fr_istore_n (L' := [(0, .ref p0a), (1, .int x1a), (2, .int 0)]) dX9_countBefore_1 (by decide) rfl ?_
  refine fr_iconst (v := 0) dX9_countBefore_2 (by decide) ?_
  refine fr_istore_n (L' := [(0, .ref p0a), (1, .int x1a), (2, .int 0), (3, .int 0)]) dX9_countBefore_3 (by decide) rfl ?_
  obtain ⟨q6, eq6, h⟩ := ob h
  try dsimp only at h
  refine lp_X9_countBefore_4_ok (by omega) 100 _ _ q6 eq6 (fun q6_2 q6_3 e9 => ?_) (fun q6_r e9 => ?_)
  · subst e9
    try dsimp only at h
    refine fr_iload_n 2 dX9_countBefore_30 rfl ?_
    obtain rfl := Option.some.inj h
    exact fr_iret rfl dX9_countBefore_31 ⟨rfl, rfl⟩
  · subst e9
    try dsimp only at h
    obtain rfl := Option.some.inj h
    exact ⟨rfl, rfl⟩
def lp_X9_sheetAtRank_2 (p_0 : Nat) (x_1 : Int32) (M_ : Mem) : Nat → Int32 → Option ((Int32) ⊕ (Int32))
  | 0, _ => none
  | n + 1, x_2 => (gI M_ 9 p_0 2).bind fun x1 => if x1 ≤ x_2 then (some (.inl x_2)) else ((rc M_ 9 p_0).bind fun _ => (f_X9_countBefore p_0 x_2 M_).bind fun r3 => if r3 = x_1 then (some (.inr x_2)) else (lp_X9_sheetAtRank_2 p_0 x_1 M_ n (x_2 + 1)))
def f_X9_sheetAtRank (p0a : Nat) (x1a : Int32) (M : Mem) : Option (Int32) := ((lp_X9_sheetAtRank_2 p0a x1a M 100 0).bind fun q6 => match q6 with | .inl q6_2 => (some (-1)) | .inr q6_r => some q6_r)
set_option maxRecDepth 20000 in
theorem lp_X9_sheetAtRank_2_ok {G : Nat × (Nat → Int32) × Value} {P : Res → Mem → Prop} {n0 d ke : Nat} {p_0 : Nat} {x_1 : Int32} {M_ : Mem} (hd : 2 ≤ d) : ∀ (n : Nat) (x_2 : Int32) (res : (Int32) ⊕ (Int32)), lp_X9_sheetAtRank_2 p_0 x_1 M_ n x_2 = some res → (∀ (y_2 : Int32), res = .inl y_2 → Fr (roG G) false n0 YX9_sheetAtRank d ke 27 [(0, .ref p_0), (1, .int x_1), (2, .int y_2)] [] M_ P) → (∀ r : Int32, res = .inr r → P (wI r) M_) → Fr (roG G) false n0 YX9_sheetAtRank d ke 2 [(0, .ref p_0), (1, .int x_1), (2, .int x_2)] [] M_ P := by
  intro n
  induction n with
  | zero => intro x_2 res h; unfold lp_X9_sheetAtRank_2 at h; cases h
  | succ n ih =>
    intro x_2 res h he hr
    unfold lp_X9_sheetAtRank_2 at h
    refine fr_iload_n 2 dX9_sheetAtRank_2 rfl ?_
    refine fr_aload_n 0 dX9_sheetAtRank_3 rfl ?_
    obtain ⟨x1, ex1, h⟩ := ob h
    try dsimp only at h
    refine fr_gI cb9 2 (by decide) rfl w_126 dX9_sheetAtRank_4 ex1 ?_
    refine fr_icmp_ge 27 dX9_sheetAtRank_7 (by decide) (fun c2 => ?_) (fun c2 => ?_)
    · rw [if_pos c2] at h
      obtain rfl := Option.some.inj h
      exact he _ rfl
    · rw [if_neg c2] at h
      refine fr_aload_n 0 dX9_sheetAtRank_10 rfl ?_
      refine fr_iload_n 2 dX9_sheetAtRank_11 rfl ?_
      obtain ⟨u4, eu4, h⟩ := ob h
      try dsimp only at h
      obtain ⟨r3, er3, h⟩ := ob h
      try dsimp only at h
      refine fr_callV (g1 := false) (k2 := ke) (ev_X9_countBefore er3) rfl cyX9_countBefore w_1068 w_1070 w_11 (rc_ok eu4 rfl (by decide)) (by rfl) (by omega) (by omega) (by rfl) (Nat.le_of_ble_eq_true rfl) dX9_sheetAtRank_12 (Or.inl rfl) (fun v M9 q _ => ?_) (fun E M9 q _ => (Sum.inr_ne_inl q.1).elim)
      obtain rfl : v = some (.int r3) := Sum.inl.inj q.1
      obtain rfl := q.2.symm
      refine fr_st (S' := [.int r3]) rfl ?_
      refine fr_iload_n 1 dX9_sheetAtRank_15 rfl ?_
      refine fr_icmp_ne 21 dX9_sheetAtRank_16 (by decide) (fun c5 => ?_) (fun c5 => ?_)
      · rw [if_neg c5] at h
        refine fr_iinc (v := (x_2 + 1)) (L' := [(0, .ref p_0), (1, .int x_1), (2, .int (x_2 + 1))]) 2 dX9_sheetAtRank_21 rfl rfl (by decide) rfl ?_
        refine fr_goto 2 dX9_sheetAtRank_24 (by decide) ?_
        exact ih _ _ h he hr
      · rw [if_pos c5] at h
        refine fr_iload_n 2 dX9_sheetAtRank_19 rfl ?_
        obtain rfl := Option.some.inj h
        exact fr_iret rfl dX9_sheetAtRank_20 (hr _ rfl)
set_option maxRecDepth 20000 in
theorem ev_X9_sheetAtRank {G : Nat × (Nat → Int32) × Value} {p0a : Nat} {x1a : Int32} {M : Mem} {r : Int32} (h : f_X9_sheetAtRank p0a x1a M = some r) : Ev (roG G) false YX9_sheetAtRank 2 0 [.ref p0a, .int x1a] M (fun a b => a = wI r ∧ b = M) := by
  refine ev_of cyX9_sheetAtRank.2.2.2.2 (Nat.le_of_ble_eq_true rfl) ?_
  show Fr _ _ _ _ _ _ 0 [(0, .ref p0a), (1, .int x1a)] [] M _
  unfold f_X9_sheetAtRank at h
  refine fr_iconst (v := 0) dX9_sheetAtRank_0 (by decide) ?_
  refine fr_istore_n (L' := [(0, .ref p0a), (1, .int x1a), (2, .int 0)]) dX9_sheetAtRank_1 (by decide) rfl ?_
  obtain ⟨q6, eq6, h⟩ := ob h
  try dsimp only at h
  refine lp_X9_sheetAtRank_2_ok (by omega) 100 _ q6 eq6 (fun q6_2 e9 => ?_) (fun q6_r e9 => ?_)
  · subst e9
    try dsimp only at h
    refine fr_iconst (v := (-1)) dX9_sheetAtRank_27 (by decide) ?_
    obtain rfl := Option.some.inj h
    exact fr_iret rfl dX9_sheetAtRank_28 ⟨rfl, rfl⟩
  · subst e9
    try dsimp only at h
    obtain rfl := Option.some.inj h
    exact ⟨rfl, rfl⟩
def f_X10_sheetByWear (p0a : Nat) (x1a : Int32) (M : Mem) : Option ((Int32 ⊕ String)) := if x1a < 0 then (some (.inr "java/util/NoSuchElementException")) else ((gP M 10 p0a 0).bind fun p2 => (gI M 9 p2 2).bind fun x3 => if x1a < x3 then ((gP M 10 p0a 0).bind fun p5 => (rc M 9 p5).bind fun _ => (f_X9_sheetAtRank p5 x1a M).bind fun r6 => some (.inl r6)) else (some (.inr "java/util/NoSuchElementException")))
set_option maxRecDepth 20000 in
theorem ev_X10_sheetByWear {G : Nat × (Nat → Int32) × Value} {p0a : Nat} {x1a : Int32} {M : Mem} {r : (Int32 ⊕ String)} (h : f_X10_sheetByWear p0a x1a M = some r) : Ev (roG G) false YX10_sheetByWear 7 1 [.ref p0a, .int x1a] M (fun a b => a = (wE wI) r ∧ b = M) := by
  refine ev_of cyX10_sheetByWear.2.2.2.2 (Nat.le_of_ble_eq_true rfl) ?_
  show Fr _ _ _ _ _ _ 0 [(0, .ref p0a), (1, .int x1a)] [] M _
  unfold f_X10_sheetByWear at h
  refine fr_iload_n 1 dX10_sheetByWear_0 rfl ?_
  refine fr_if_lt 15 dX10_sheetByWear_1 (by decide) (fun c1 => ?_) (fun c1 => ?_)
  · rw [if_pos c1] at h
    obtain rfl := Option.some.inj h
    exact fr_throwSX rfl thX10_149 w_448 w_30 (sa := ROB + 37) (show _ ∈ roS from List.mem_of_getElem? (i := 17) rfl) dX10_sheetByWear_15 dX10_sheetByWear_18 dX10_sheetByWear_19 dX10_sheetByWear_21 dX10_sheetByWear_24 (by omega) (by omega) (Nat.le_of_ble_eq_true rfl) ⟨rfl, rfl⟩
  · rw [if_neg c1] at h
    refine fr_iload_n 1 dX10_sheetByWear_4 rfl ?_
    refine fr_aload_n 0 dX10_sheetByWear_5 rfl ?_
    obtain ⟨p2, ep2, h⟩ := ob h
    try dsimp only at h
    refine fr_gP cb10 0 (by decide) rfl w_227 dX10_sheetByWear_6 ep2 ?_
    obtain ⟨x3, ex3, h⟩ := ob h
    try dsimp only at h
    refine fr_gI cb9 2 (by decide) rfl w_127 dX10_sheetByWear_9 ex3 ?_
    refine fr_icmp_lt 25 dX10_sheetByWear_12 (by decide) (fun c4 => ?_) (fun c4 => ?_)
    · rw [if_pos c4] at h
      refine fr_aload_n 0 dX10_sheetByWear_25 rfl ?_
      obtain ⟨p5, ep5, h⟩ := ob h
      try dsimp only at h
      refine fr_gP cb10 0 (by decide) rfl w_227 dX10_sheetByWear_26 ep5 ?_
      refine fr_iload_n 1 dX10_sheetByWear_29 rfl ?_
      obtain ⟨u7, eu7, h⟩ := ob h
      try dsimp only at h
      obtain ⟨r6, er6, h⟩ := ob h
      try dsimp only at h
      refine fr_callV (g1 := false) (k2 := 1) (ev_X9_sheetAtRank er6) rfl cyX9_sheetAtRank w_1064 w_1065 w_1066 (rc_ok eu7 rfl (by decide)) (by rfl) (by omega) (by omega) (by rfl) (Nat.le_of_ble_eq_true rfl) dX10_sheetByWear_30 (Or.inl rfl) (fun v M9 q _ => ?_) (fun E M9 q _ => (Sum.inr_ne_inl q.1).elim)
      obtain rfl : v = some (.int r6) := Sum.inl.inj q.1
      obtain rfl := q.2.symm
      refine fr_st (S' := [.int r6]) rfl ?_
      obtain rfl := Option.some.inj h
      exact fr_iret rfl dX10_sheetByWear_33 ⟨rfl, rfl⟩
    · rw [if_neg c4] at h
      obtain rfl := Option.some.inj h
      exact fr_throwSX rfl thX10_149 w_448 w_30 (sa := ROB + 37) (show _ ∈ roS from List.mem_of_getElem? (i := 17) rfl) dX10_sheetByWear_15 dX10_sheetByWear_18 dX10_sheetByWear_19 dX10_sheetByWear_21 dX10_sheetByWear_24 (by omega) (by omega) (Nat.le_of_ble_eq_true rfl) ⟨rfl, rfl⟩
def f_L_byWear (p0a : Nat) (x1a : Int32) (M : Mem) : Option (Int32) := (rc M 10 p0a).bind fun _ => (f_X10_sheetByWear p0a x1a M).bind fun r1 => (match r1 with | .inl r1v => (some r1v) | .inr r1E => (if r1E = "java/util/NoSuchElementException" then (some (-1001)) else none))
set_option maxRecDepth 20000 in
theorem ev_L_byWear {G : Nat × (Nat → Int32) × Value} {p0a : Nat} {x1a : Int32} {M : Mem} {r : Int32} (h : f_L_byWear p0a x1a M = some r) : Ev (roG G) false YL_byWear 8 1 [.ref p0a, .int x1a] M (fun a b => a = wI r ∧ b = M) := by
  refine ev_of cyL_byWear.2.2.2.2 (Nat.le_of_ble_eq_true rfl) ?_
  show Fr _ _ _ _ _ _ 0 [(0, .ref p0a), (1, .int x1a)] [] M _
  unfold f_L_byWear at h
  refine fr_aload_n 0 dL_byWear_0 rfl ?_
  refine fr_iload_n 1 dL_byWear_1 rfl ?_
  obtain ⟨u2, eu2, h⟩ := ob h
  try dsimp only at h
  obtain ⟨r1, er1, h⟩ := ob h
  try dsimp only at h
  rcases r1 with r1v | r1E
  · try dsimp only at h
    refine fr_callV (g1 := false) (k2 := 0) (ev_X10_sheetByWear er1) rfl cyX10_sheetByWear w_1059 w_1060 w_1061 (rc_ok eu2 rfl (by decide)) (by rfl) (by omega) (by omega) (by rfl) (Nat.le_of_ble_eq_true rfl) dL_byWear_2 (Or.inl rfl) (fun v M9 q _ => ?_) (fun E M9 q _ => (Sum.inr_ne_inl q.1).elim)
    obtain rfl : v = some (.int r1v) := Sum.inl.inj q.1
    obtain rfl := q.2.symm
    refine fr_st (S' := [.int r1v]) rfl ?_
    obtain rfl := Option.some.inj h
    exact fr_iret rfl dL_byWear_5 ⟨rfl, rfl⟩
  · try dsimp only at h
    refine fr_callV (g1 := false) (k2 := 0) (ev_X10_sheetByWear er1) rfl cyX10_sheetByWear w_1059 w_1060 w_1061 (rc_ok eu2 rfl (by decide)) (by rfl) (by omega) (by omega) (by rfl) (Nat.le_of_ble_eq_true rfl) dL_byWear_2 (Or.inl rfl) (fun v M9 q _ => (Sum.inl_ne_inr q.1).elim) (fun E M9 q _ => ?_)
    obtain rfl : r1E = E := (Sum.inr.inj q.1).symm
    obtain rfl := q.2.symm
    by_cases e3_0 : r1E = "java/util/NoSuchElementException"
    · rw [if_pos e3_0] at h
      subst e3_0
      refine fx_catch (E := "java/util/NoSuchElementException") (name := "java/util/NoSuchElementException") (L' := [(0, .ref p0a), (1, .int x1a)]) [] { startPc := 0, endPc := 5, handlerPc := 6, catchType := 42 } [] rfl ?_ (by decide) (by decide) w_624 (show _ ∈ roC from List.mem_of_getElem? (i := 4) rfl) 2 1 (by decide) (Or.inl ⟨2, rfl, rfl, dL_byWear_6⟩) rfl ?_
      · intro z hz; cases hz
      refine fr_sipush (v := (-1001)) dL_byWear_7 (by decide) ?_
      obtain rfl := Option.some.inj h
      exact fr_iret rfl dL_byWear_10 ⟨rfl, rfl⟩
    rw [if_neg e3_0] at h
    cases h
def f_X10_demandFewEmptyCells (p0a : Nat) (M : Mem) : Option ((Unit ⊕ String)) := (gP M 10 p0a 0).bind fun p1 => (rc M 9 p1).bind fun _ => (f_X9_countEmpty p1 M).bind fun r2 => if r2 ≤ 3 then (some (.inl ())) else (some (.inr "java/lang/UnsupportedOperationException"))
set_option maxRecDepth 20000 in
theorem ev_X10_demandFewEmptyCells {G : Nat × (Nat → Int32) × Value} {p0a : Nat} {M : Mem} {r : (Unit ⊕ String)} (h : f_X10_demandFewEmptyCells p0a M = some r) : Ev (roG G) false YX10_demandFewEmptyCells 7 1 [.ref p0a] M (fun a b => a = (wE wU) r ∧ b = M) := by
  refine ev_of cyX10_demandFewEmptyCells.2.2.2.2 (Nat.le_of_ble_eq_true rfl) ?_
  show Fr _ _ _ _ _ _ 0 [(0, .ref p0a)] [] M _
  unfold f_X10_demandFewEmptyCells at h
  refine fr_aload_n 0 dX10_demandFewEmptyCells_0 rfl ?_
  obtain ⟨p1, ep1, h⟩ := ob h
  try dsimp only at h
  refine fr_gP cb10 0 (by decide) rfl w_227 dX10_demandFewEmptyCells_1 ep1 ?_
  obtain ⟨u3, eu3, h⟩ := ob h
  try dsimp only at h
  obtain ⟨r2, er2, h⟩ := ob h
  try dsimp only at h
  refine fr_callV (g1 := false) (k2 := 1) (ev_X9_countEmpty er2) rfl cyX9_countEmpty w_927 w_928 w_929 (rc_ok eu3 rfl (by decide)) (by rfl) (by omega) (by omega) (by rfl) (Nat.le_of_ble_eq_true rfl) dX10_demandFewEmptyCells_4 (Or.inl rfl) (fun v M9 q _ => ?_) (fun E M9 q _ => (Sum.inr_ne_inl q.1).elim)
  obtain rfl : v = some (.int r2) := Sum.inl.inj q.1
  obtain rfl := q.2.symm
  refine fr_st (S' := [.int r2]) rfl ?_
  refine fr_iconst (v := 3) dX10_demandFewEmptyCells_7 (by decide) ?_
  refine fr_icmp_le 22 dX10_demandFewEmptyCells_8 (by decide) (fun c4 => ?_) (fun c4 => ?_)
  · rw [if_pos c4] at h
    obtain rfl := Option.some.inj h
    exact fr_vret rfl dX10_demandFewEmptyCells_22 ⟨rfl, rfl⟩
  · rw [if_neg c4] at h
    obtain rfl := Option.some.inj h
    exact fr_throwW (names := ["java/lang/RuntimeException", "java/lang/Exception"]) rfl thX10_309 w_432 w_29 (sa := ROB + 35) (show _ ∈ roS from List.mem_of_getElem? (i := 15) rfl) dX10_demandFewEmptyCells_11 dX10_demandFewEmptyCells_14 dX10_demandFewEmptyCells_15 dX10_demandFewEmptyCells_18 dX10_demandFewEmptyCells_21 (by omega) (by omega) (Nat.le_of_ble_eq_true rfl) ⟨rfl, rfl⟩
def f_X7_onTable (p0a : Nat) (M : Mem) : Option (Int32) := (gI M 7 p0a 6).bind fun x1 => if x1 = (-1) then (some 0) else (some 1)
set_option maxRecDepth 20000 in
theorem ev_X7_onTable {G : Nat × (Nat → Int32) × Value} {p0a : Nat} {M : Mem} {r : Int32} (h : f_X7_onTable p0a M = some r) : Ev (roG G) false YX7_onTable 0 0 [.ref p0a] M (fun a b => a = wI r ∧ b = M) := by
  refine ev_of cyX7_onTable.2.2.2.2 (Nat.le_of_ble_eq_true rfl) ?_
  show Fr _ _ _ _ _ _ 0 [(0, .ref p0a)] [] M _
  unfold f_X7_onTable at h
  refine fr_aload_n 0 dX7_onTable_0 rfl ?_
  obtain ⟨x1, ex1, h⟩ := ob h
  try dsimp only at h
  refine fr_gI cb7 6 (by decide) rfl w_95 dX7_onTable_1 ex1 ?_
  refine fr_iconst (v := (-1)) dX7_onTable_4 (by decide) ?_
  refine fr_icmp_eq 12 dX7_onTable_5 (by decide) (fun c2 => ?_) (fun c2 => ?_)
  · rw [if_pos c2] at h
    refine fr_iconst (v := 0) dX7_onTable_12 (by decide) ?_
    obtain rfl := Option.some.inj h
    exact fr_zret (ty := .boolean) rfl rfl dX7_onTable_13 ⟨rfl, rfl⟩
  · rw [if_neg c2] at h
    refine fr_iconst (v := 1) dX7_onTable_8 (by decide) ?_
    refine fr_goto 13 dX7_onTable_9 (by decide) ?_
    obtain rfl := Option.some.inj h
    exact fr_zret (ty := .boolean) rfl rfl dX7_onTable_13 ⟨rfl, rfl⟩
def f_X7_torn (p0a : Nat) (M : Mem) : Option (Int32) := (gI M 7 p0a 4).bind fun x1 => if x1 < 5 then (some 0) else (some 1)
set_option maxRecDepth 20000 in
theorem ev_X7_torn {G : Nat × (Nat → Int32) × Value} {p0a : Nat} {M : Mem} {r : Int32} (h : f_X7_torn p0a M = some r) : Ev (roG G) false YX7_torn 0 0 [.ref p0a] M (fun a b => a = wI r ∧ b = M) := by
  refine ev_of cyX7_torn.2.2.2.2 (Nat.le_of_ble_eq_true rfl) ?_
  show Fr _ _ _ _ _ _ 0 [(0, .ref p0a)] [] M _
  unfold f_X7_torn at h
  refine fr_aload_n 0 dX7_torn_0 rfl ?_
  obtain ⟨x1, ex1, h⟩ := ob h
  try dsimp only at h
  refine fr_gI cb7 4 (by decide) rfl w_87 dX7_torn_1 ex1 ?_
  refine fr_iconst (v := 5) dX7_torn_4 (by decide) ?_
  refine fr_icmp_lt 12 dX7_torn_5 (by decide) (fun c2 => ?_) (fun c2 => ?_)
  · rw [if_pos c2] at h
    refine fr_iconst (v := 0) dX7_torn_12 (by decide) ?_
    obtain rfl := Option.some.inj h
    exact fr_zret (ty := .boolean) rfl rfl dX7_torn_13 ⟨rfl, rfl⟩
  · rw [if_neg c2] at h
    refine fr_iconst (v := 1) dX7_torn_8 (by decide) ?_
    refine fr_goto 13 dX7_torn_9 (by decide) ?_
    obtain rfl := Option.some.inj h
    exact fr_zret (ty := .boolean) rfl rfl dX7_torn_13 ⟨rfl, rfl⟩
def f_X7_canBeLaid (p0a : Nat) (M : Mem) : Option (Int32) := (gI M 7 p0a 5).bind fun x1 => if x1 = 0 then ((rc M 7 p0a).bind fun _ => (f_X7_torn p0a M).bind fun r3 => if r3 = 0 then ((rc M 7 p0a).bind fun _ => (f_X7_onTable p0a M).bind fun r6 => if r6 = 0 then (some 1) else (some 0)) else (some 0)) else (some 0)
set_option maxRecDepth 20000 in
theorem ev_X7_canBeLaid {G : Nat × (Nat → Int32) × Value} {p0a : Nat} {M : Mem} {r : Int32} (h : f_X7_canBeLaid p0a M = some r) : Ev (roG G) false YX7_canBeLaid 1 0 [.ref p0a] M (fun a b => a = wI r ∧ b = M) := by
  refine ev_of cyX7_canBeLaid.2.2.2.2 (Nat.le_of_ble_eq_true rfl) ?_
  show Fr _ _ _ _ _ _ 0 [(0, .ref p0a)] [] M _
  unfold f_X7_canBeLaid at h
  refine fr_aload_n 0 dX7_canBeLaid_0 rfl ?_
  obtain ⟨x1, ex1, h⟩ := ob h
  try dsimp only at h
  refine fr_gI cb7 5 (by decide) rfl w_91 dX7_canBeLaid_1 ex1 ?_
  refine fr_if_ne 25 dX7_canBeLaid_4 (by decide) (fun c2 => ?_) (fun c2 => ?_)
  · rw [if_neg c2] at h
    refine fr_iconst (v := 0) dX7_canBeLaid_25 (by decide) ?_
    obtain rfl := Option.some.inj h
    exact fr_zret (ty := .boolean) rfl rfl dX7_canBeLaid_26 ⟨rfl, rfl⟩
  · rw [if_pos c2] at h
    refine fr_aload_n 0 dX7_canBeLaid_7 rfl ?_
    obtain ⟨u4, eu4, h⟩ := ob h
    try dsimp only at h
    obtain ⟨r3, er3, h⟩ := ob h
    try dsimp only at h
    refine fr_callV (g1 := false) (k2 := 0) (ev_X7_torn er3) rfl cyX7_torn w_574 w_575 w_576 (rc_ok eu4 rfl (by decide)) (by rfl) (by omega) (by omega) (by rfl) (Nat.le_of_ble_eq_true rfl) dX7_canBeLaid_8 (Or.inl rfl) (fun v M9 q _ => ?_) (fun E M9 q _ => (Sum.inr_ne_inl q.1).elim)
    obtain rfl : v = some (.int r3) := Sum.inl.inj q.1
    obtain rfl := q.2.symm
    refine fr_st (S' := [.int r3]) rfl ?_
    refine fr_if_ne 25 dX7_canBeLaid_11 (by decide) (fun c5 => ?_) (fun c5 => ?_)
    · rw [if_neg c5] at h
      refine fr_iconst (v := 0) dX7_canBeLaid_25 (by decide) ?_
      obtain rfl := Option.some.inj h
      exact fr_zret (ty := .boolean) rfl rfl dX7_canBeLaid_26 ⟨rfl, rfl⟩
    · rw [if_pos c5] at h
      refine fr_aload_n 0 dX7_canBeLaid_14 rfl ?_
      obtain ⟨u7, eu7, h⟩ := ob h
      try dsimp only at h
      obtain ⟨r6, er6, h⟩ := ob h
      try dsimp only at h
      refine fr_callV (g1 := false) (k2 := 0) (ev_X7_onTable er6) rfl cyX7_onTable w_578 w_522 w_523 (rc_ok eu7 rfl (by decide)) (by rfl) (by omega) (by omega) (by rfl) (Nat.le_of_ble_eq_true rfl) dX7_canBeLaid_15 (Or.inl rfl) (fun v M9 q _ => ?_) (fun E M9 q _ => (Sum.inr_ne_inl q.1).elim)
      obtain rfl : v = some (.int r6) := Sum.inl.inj q.1
      obtain rfl := q.2.symm
      refine fr_st (S' := [.int r6]) rfl ?_
      refine fr_if_ne 25 dX7_canBeLaid_18 (by decide) (fun c8 => ?_) (fun c8 => ?_)
      · rw [if_neg c8] at h
        refine fr_iconst (v := 0) dX7_canBeLaid_25 (by decide) ?_
        obtain rfl := Option.some.inj h
        exact fr_zret (ty := .boolean) rfl rfl dX7_canBeLaid_26 ⟨rfl, rfl⟩
      · rw [if_pos c8] at h
        refine fr_iconst (v := 1) dX7_canBeLaid_21 (by decide) ?_
        refine fr_goto 26 dX7_canBeLaid_22 (by decide) ?_
        obtain rfl := Option.some.inj h
        exact fr_zret (ty := .boolean) rfl rfl dX7_canBeLaid_26 ⟨rfl, rfl⟩
def f_X10_opposite (x0a : Int32) (M : Mem) : Option (Int32) := some ((x0a + 2) - (x0a + 2) / 4 * 4)
set_option maxRecDepth 20000 in
theorem ev_X10_opposite {G : Nat × (Nat → Int32) × Value} {x0a : Int32} {M : Mem} {r : Int32} (h : f_X10_opposite x0a M = some r) : Ev (roG G) false YX10_opposite 0 0 [.int x0a] M (fun a b => a = wI r ∧ b = M) := by
  refine ev_of cyX10_opposite.2.2.2.2 (Nat.le_of_ble_eq_true rfl) ?_
  show Fr _ _ _ _ _ _ 0 [(0, .int x0a)] [] M _
  unfold f_X10_opposite at h
  refine fr_iload_n 0 dX10_opposite_0 rfl ?_
  refine fr_iconst (v := 2) dX10_opposite_1 (by decide) ?_
  refine fr_iadd dX10_opposite_2 ?_
  refine fr_iconst (v := 4) dX10_opposite_3 (by decide) ?_
  refine fr_irem dX10_opposite_4 (by decide) ?_
  obtain rfl := Option.some.inj h
  exact fr_iret rfl dX10_opposite_5 ⟨rfl, rfl⟩
def f_J9_floorMod_7cf53 (x0a : Int32) (x1a : Int32) (M : Mem) : Option (Int32) := (nz x1a).bind fun _ => if 0 ≤ (x0a ^^^ x1a) then (some (x0a - x0a / x1a * x1a)) else (if (x0a - x0a / x1a * x1a) = 0 then (some (x0a - x0a / x1a * x1a)) else (some ((x0a - x0a / x1a * x1a) + x1a)))
set_option maxRecDepth 20000 in
theorem ev_J9_floorMod_7cf53 {G : Nat × (Nat → Int32) × Value} {x0a : Int32} {x1a : Int32} {M : Mem} {r : Int32} (h : f_J9_floorMod_7cf53 x0a x1a M = some r) : Ev (roG G) false YJ9_floorMod_7cf53 0 0 [.int x0a, .int x1a] M (fun a b => a = wI r ∧ b = M) := by
  refine ev_of cyJ9_floorMod_7cf53.2.2.2.2 (Nat.le_of_ble_eq_true rfl) ?_
  show Fr _ _ _ _ _ _ 0 [(0, .int x0a), (1, .int x1a)] [] M _
  unfold f_J9_floorMod_7cf53 at h
  refine fr_iload_n 0 dJ9_floorMod_7cf53_0 rfl ?_
  refine fr_iload_n 1 dJ9_floorMod_7cf53_1 rfl ?_
  obtain ⟨u1, eu1, h⟩ := ob h
  try dsimp only at h
  refine fr_irem1 eu1 dJ9_floorMod_7cf53_2 ?_
  refine fr_istore_n (L' := [(0, .int x0a), (1, .int x1a), (2, .int (x0a - x0a / x1a * x1a))]) dJ9_floorMod_7cf53_3 (by decide) rfl ?_
  refine fr_iload_n 0 dJ9_floorMod_7cf53_4 rfl ?_
  refine fr_iload_n 1 dJ9_floorMod_7cf53_5 rfl ?_
  refine fr_ixor dJ9_floorMod_7cf53_6 ?_
  refine fr_if_ge 18 dJ9_floorMod_7cf53_7 (by decide) (fun c2 => ?_) (fun c2 => ?_)
  · rw [if_pos c2] at h
    refine fr_iload_n 2 dJ9_floorMod_7cf53_18 rfl ?_
    obtain rfl := Option.some.inj h
    exact fr_iret rfl dJ9_floorMod_7cf53_19 ⟨rfl, rfl⟩
  · rw [if_neg c2] at h
    refine fr_iload_n 2 dJ9_floorMod_7cf53_10 rfl ?_
    refine fr_if_eq 18 dJ9_floorMod_7cf53_11 (by decide) (fun c3 => ?_) (fun c3 => ?_)
    · rw [if_pos c3] at h
      refine fr_iload_n 2 dJ9_floorMod_7cf53_18 rfl ?_
      obtain rfl := Option.some.inj h
      exact fr_iret rfl dJ9_floorMod_7cf53_19 ⟨rfl, rfl⟩
    · rw [if_neg c3] at h
      refine fr_iload_n 2 dJ9_floorMod_7cf53_14 rfl ?_
      refine fr_iload_n 1 dJ9_floorMod_7cf53_15 rfl ?_
      refine fr_iadd dJ9_floorMod_7cf53_16 ?_
      obtain rfl := Option.some.inj h
      exact fr_iret rfl dJ9_floorMod_7cf53_17 ⟨rfl, rfl⟩
def f_X7_borderWhenTurned (p0a : Nat) (x1a : Int32) (x2a : Int32) (M : Mem) : Option (Int32) := (gP M 7 p0a 0).bind fun p1 => (f_J9_floorMod_7cf53 (x1a - x2a) 4 M).bind fun r2 => (aI M 100 p1 r2).bind fun x3 => some x3
set_option maxRecDepth 20000 in
theorem ev_X7_borderWhenTurned {G : Nat × (Nat → Int32) × Value} {p0a : Nat} {x1a : Int32} {x2a : Int32} {M : Mem} {r : Int32} (h : f_X7_borderWhenTurned p0a x1a x2a M = some r) : Ev (roG G) false YX7_borderWhenTurned 1 0 [.ref p0a, .int x1a, .int x2a] M (fun a b => a = wI r ∧ b = M) := by
  refine ev_of cyX7_borderWhenTurned.2.2.2.2 (Nat.le_of_ble_eq_true rfl) ?_
  show Fr _ _ _ _ _ _ 0 [(0, .ref p0a), (1, .int x1a), (2, .int x2a)] [] M _
  unfold f_X7_borderWhenTurned at h
  refine fr_aload_n 0 dX7_borderWhenTurned_0 rfl ?_
  obtain ⟨p1, ep1, h⟩ := ob h
  try dsimp only at h
  refine fr_gP cb7 0 (by decide) rfl w_71 dX7_borderWhenTurned_1 ep1 ?_
  refine fr_iload_n 1 dX7_borderWhenTurned_4 rfl ?_
  refine fr_iload_n 2 dX7_borderWhenTurned_5 rfl ?_
  refine fr_isub dX7_borderWhenTurned_6 ?_
  refine fr_iconst (v := 4) dX7_borderWhenTurned_7 (by decide) ?_
  obtain ⟨r2, er2, h⟩ := ob h
  try dsimp only at h
  refine fr_callS (g1 := false) (k2 := 0) (ev_J9_floorMod_7cf53 er2) rfl cyJ9_floorMod_7cf53 w_602 w_603 (by rfl) (by omega) (by omega) (by rfl) (Nat.le_of_ble_eq_true rfl) dX7_borderWhenTurned_8 (Or.inl rfl) (fun v M9 q _ => ?_) (fun E M9 q _ => (Sum.inr_ne_inl q.1).elim)
  obtain rfl : v = some (.int r2) := Sum.inl.inj q.1
  obtain rfl := q.2.symm
  refine fr_st (S' := [.int r2, .ref p1]) rfl ?_
  obtain ⟨x3, ex3, h⟩ := ob h
  try dsimp only at h
  refine fr_aI0 ex3 dX7_borderWhenTurned_11 ?_
  obtain rfl := Option.some.inj h
  exact fr_iret rfl dX7_borderWhenTurned_12 ⟨rfl, rfl⟩
def f_X7_borderAsLaid (p0a : Nat) (x1a : Int32) (M : Mem) : Option (Int32) := (gI M 7 p0a 7).bind fun x1 => (rc M 7 p0a).bind fun _ => (f_X7_borderWhenTurned p0a x1a x1 M).bind fun r2 => some r2
set_option maxRecDepth 20000 in
theorem ev_X7_borderAsLaid {G : Nat × (Nat → Int32) × Value} {p0a : Nat} {x1a : Int32} {M : Mem} {r : Int32} (h : f_X7_borderAsLaid p0a x1a M = some r) : Ev (roG G) false YX7_borderAsLaid 2 0 [.ref p0a, .int x1a] M (fun a b => a = wI r ∧ b = M) := by
  refine ev_of cyX7_borderAsLaid.2.2.2.2 (Nat.le_of_ble_eq_true rfl) ?_
  show Fr _ _ _ _ _ _ 0 [(0, .ref p0a), (1, .int x1a)] [] M _
  unfold f_X7_borderAsLaid at h
  refine fr_aload_n 0 dX7_borderAsLaid_0 rfl ?_
  refine fr_iload_n 1 dX7_borderAsLaid_1 rfl ?_
  refine fr_aload_n 0 dX7_borderAsLaid_2 rfl ?_
  obtain ⟨x1, ex1, h⟩ := ob h
  try dsimp only at h
  refine fr_gI cb7 7 (by decide) rfl w_99 dX7_borderAsLaid_3 ex1 ?_
  obtain ⟨u3, eu3, h⟩ := ob h
  try dsimp only at h
  obtain ⟨r2, er2, h⟩ := ob h
  try dsimp only at h
  refine fr_callV (g1 := false) (k2 := 0) (ev_X7_borderWhenTurned er2) rfl cyX7_borderWhenTurned w_612 w_599 w_600 (rc_ok eu3 rfl (by decide)) (by rfl) (by omega) (by omega) (by rfl) (Nat.le_of_ble_eq_true rfl) dX7_borderAsLaid_6 (Or.inl rfl) (fun v M9 q _ => ?_) (fun E M9 q _ => (Sum.inr_ne_inl q.1).elim)
  obtain rfl : v = some (.int r2) := Sum.inl.inj q.1
  obtain rfl := q.2.symm
  refine fr_st (S' := [.int r2]) rfl ?_
  obtain rfl := Option.some.inj h
  exact fr_iret rfl dX7_borderAsLaid_9 ⟨rfl, rfl⟩
