/-! ===== methods, 12: J6_stringSize_0f7a4 J5_append_c97b9 J4_append_bf812 J5_inflateIfNeededFor_a7421 J0_getBytes_840e7 J5_putStringAt_47b60 J5_append_cf1ce J4_append_15ec4 J5_getValue_6d5f1 J5_length_8abf5 J4_length_8abf5 J7_checkLength_df160 J7_copyOfRangeByte_39247 J7_copyOfRange_39247 J0_init_db425 J0_init_81219 J4_toString_0e30d ===== -/
def lp_J6_stringSize_0f7a4_16 (x_0 : Int32) (x_1 : Int32) (M_ : Mem) : Nat → Int32 → Int32 → Option ((Int32 × Int32) ⊕ (Int32))
  | 0, _, _ => none
  | n + 1, x_2, x_3 => if 10 ≤ x_3 then (some (.inl (x_2, x_3))) else (if x_0 ≤ x_2 then (lp_J6_stringSize_0f7a4_16 x_0 x_1 M_ n (10 * x_2) (x_3 + 1)) else (some (.inr (x_3 + x_1))))
def f_J6_stringSize_0f7a4 (x0a : Int32) (M : Mem) : Option (Int32) := if x0a < 0 then ((lp_J6_stringSize_0f7a4_16 x0a 1 M 100 (-10) 1).bind fun q4 => match q4 with | .inl (q4_2, q4_3) => (some (10 + 1)) | .inr q4_r => some q4_r) else ((lp_J6_stringSize_0f7a4_16 (-x0a) 0 M 100 (-10) 1).bind fun q5 => match q5 with | .inl (q5_2, q5_3) => (some (10 + 0)) | .inr q5_r => some q5_r)
set_option maxRecDepth 20000 in
theorem lp_J6_stringSize_0f7a4_16_ok {G : Nat × (Nat → Int32) × Value} {P : Res → Mem → Prop} {n0 d ke : Nat} {x_0 : Int32} {x_1 : Int32} {M_ : Mem} (hd : 0 ≤ d) : ∀ (n : Nat) (x_2 : Int32) (x_3 : Int32) (res : (Int32 × Int32) ⊕ (Int32)), lp_J6_stringSize_0f7a4_16 x_0 x_1 M_ n x_2 x_3 = some res → (∀ (y_2 : Int32) (y_3 : Int32), res = .inl (y_2, y_3) → Fr (roG G) false n0 YJ6_stringSize_0f7a4 d ke 42 [(0, .int x_0), (1, .int x_1), (2, .int y_2), (3, .int y_3)] [] M_ P) → (∀ r : Int32, res = .inr r → P (wI r) M_) → Fr (roG G) false n0 YJ6_stringSize_0f7a4 d ke 16 [(0, .int x_0), (1, .int x_1), (2, .int x_2), (3, .int x_3)] [] M_ P := by
  intro n
  induction n with
  | zero => intro x_2 x_3 res h; unfold lp_J6_stringSize_0f7a4_16 at h; cases h
  | succ n ih =>
    intro x_2 x_3 res h he hr
    unfold lp_J6_stringSize_0f7a4_16 at h
    refine fr_iload_n 3 dJ6_stringSize_0f7a4_16 rfl ?_
    refine fr_bipush (v := 10) dJ6_stringSize_0f7a4_17 (by decide) ?_
    refine fr_icmp_ge 42 dJ6_stringSize_0f7a4_19 (by decide) (fun c2 => ?_) (fun c2 => ?_)
    · rw [if_pos c2] at h
      obtain rfl := Option.some.inj h
      exact he _ _ rfl
    · rw [if_neg c2] at h
      refine fr_iload_n 0 dJ6_stringSize_0f7a4_22 rfl ?_
      refine fr_iload_n 2 dJ6_stringSize_0f7a4_23 rfl ?_
      refine fr_icmp_le 31 dJ6_stringSize_0f7a4_24 (by decide) (fun c3 => ?_) (fun c3 => ?_)
      · rw [if_pos c3] at h
        refine fr_bipush (v := 10) dJ6_stringSize_0f7a4_31 (by decide) ?_
        refine fr_iload_n 2 dJ6_stringSize_0f7a4_33 rfl ?_
        refine fr_imul dJ6_stringSize_0f7a4_34 ?_
        refine fr_istore_n (L' := [(0, .int x_0), (1, .int x_1), (2, .int (10 * x_2)), (3, .int x_3)]) dJ6_stringSize_0f7a4_35 (by decide) rfl ?_
        refine fr_iinc (v := (x_3 + 1)) (L' := [(0, .int x_0), (1, .int x_1), (2, .int (10 * x_2)), (3, .int (x_3 + 1))]) 3 dJ6_stringSize_0f7a4_36 rfl rfl (by decide) rfl ?_
        refine fr_goto 16 dJ6_stringSize_0f7a4_39 (by decide) ?_
        exact ih _ _ _ h he hr
      · rw [if_neg c3] at h
        refine fr_iload_n 3 dJ6_stringSize_0f7a4_27 rfl ?_
        refine fr_iload_n 1 dJ6_stringSize_0f7a4_28 rfl ?_
        refine fr_iadd dJ6_stringSize_0f7a4_29 ?_
        obtain rfl := Option.some.inj h
        exact fr_iret rfl dJ6_stringSize_0f7a4_30 (hr _ rfl)
set_option maxRecDepth 20000 in
theorem ev_J6_stringSize_0f7a4 {G : Nat × (Nat → Int32) × Value} {x0a : Int32} {M : Mem} {r : Int32} (h : f_J6_stringSize_0f7a4 x0a M = some r) : Ev (roG G) false YJ6_stringSize_0f7a4 0 0 [.int x0a] M (fun a b => a = wI r ∧ b = M) := by
  refine ev_of cyJ6_stringSize_0f7a4.2.2.2.2 (Nat.le_of_ble_eq_true rfl) ?_
  show Fr _ _ _ _ _ _ 0 [(0, .int x0a)] [] M _
  unfold f_J6_stringSize_0f7a4 at h
  refine fr_iconst (v := 1) dJ6_stringSize_0f7a4_0 (by decide) ?_
  refine fr_istore_n (L' := [(0, .int x0a), (1, .int 1)]) dJ6_stringSize_0f7a4_1 (by decide) rfl ?_
  refine fr_iload_n 0 dJ6_stringSize_0f7a4_2 rfl ?_
  refine fr_if_lt 11 dJ6_stringSize_0f7a4_3 (by decide) (fun c1 => ?_) (fun c1 => ?_)
  · rw [if_pos c1] at h
    refine fr_bipush (v := (-10)) dJ6_stringSize_0f7a4_11 (by decide) ?_
    refine fr_istore_n (L' := [(0, .int x0a), (1, .int 1), (2, .int (-10))]) dJ6_stringSize_0f7a4_13 (by decide) rfl ?_
    refine fr_iconst (v := 1) dJ6_stringSize_0f7a4_14 (by decide) ?_
    refine fr_istore_n (L' := [(0, .int x0a), (1, .int 1), (2, .int (-10)), (3, .int 1)]) dJ6_stringSize_0f7a4_15 (by decide) rfl ?_
    obtain ⟨q4, eq4, h⟩ := ob h
    try dsimp only at h
    refine lp_J6_stringSize_0f7a4_16_ok (by omega) 100 _ _ q4 eq4 (fun q4_2 q4_3 e9 => ?_) (fun q4_r e9 => ?_)
    · subst e9
      try dsimp only at h
      refine fr_bipush (v := 10) dJ6_stringSize_0f7a4_42 (by decide) ?_
      refine fr_iload_n 1 dJ6_stringSize_0f7a4_44 rfl ?_
      refine fr_iadd dJ6_stringSize_0f7a4_45 ?_
      obtain rfl := Option.some.inj h
      exact fr_iret rfl dJ6_stringSize_0f7a4_46 ⟨rfl, rfl⟩
    · subst e9
      try dsimp only at h
      obtain rfl := Option.some.inj h
      exact ⟨rfl, rfl⟩
  · rw [if_neg c1] at h
    refine fr_iconst (v := 0) dJ6_stringSize_0f7a4_6 (by decide) ?_
    refine fr_istore_n (L' := [(0, .int x0a), (1, .int 0)]) dJ6_stringSize_0f7a4_7 (by decide) rfl ?_
    refine fr_iload_n 0 dJ6_stringSize_0f7a4_8 rfl ?_
    refine fr_ineg dJ6_stringSize_0f7a4_9 ?_
    refine fr_istore_n (L' := [(0, .int (-x0a)), (1, .int 0)]) dJ6_stringSize_0f7a4_10 (by decide) rfl ?_
    refine fr_bipush (v := (-10)) dJ6_stringSize_0f7a4_11 (by decide) ?_
    refine fr_istore_n (L' := [(0, .int (-x0a)), (1, .int 0), (2, .int (-10))]) dJ6_stringSize_0f7a4_13 (by decide) rfl ?_
    refine fr_iconst (v := 1) dJ6_stringSize_0f7a4_14 (by decide) ?_
    refine fr_istore_n (L' := [(0, .int (-x0a)), (1, .int 0), (2, .int (-10)), (3, .int 1)]) dJ6_stringSize_0f7a4_15 (by decide) rfl ?_
    obtain ⟨q5, eq5, h⟩ := ob h
    try dsimp only at h
    refine lp_J6_stringSize_0f7a4_16_ok (by omega) 100 _ _ q5 eq5 (fun q5_2 q5_3 e9 => ?_) (fun q5_r e9 => ?_)
    · subst e9
      try dsimp only at h
      refine fr_bipush (v := 10) dJ6_stringSize_0f7a4_42 (by decide) ?_
      refine fr_iload_n 1 dJ6_stringSize_0f7a4_44 rfl ?_
      refine fr_iadd dJ6_stringSize_0f7a4_45 ?_
      obtain rfl := Option.some.inj h
      exact fr_iret rfl dJ6_stringSize_0f7a4_46 ⟨rfl, rfl⟩
    · subst e9
      try dsimp only at h
      obtain rfl := Option.some.inj h
      exact ⟨rfl, rfl⟩
def f_J5_append_c97b9 (p0a : Nat) (x1a : Int32) (M : Mem) : Option (Nat × Mem) := (gI M 1 p0a 3).bind fun x1 => (f_J6_stringSize_0f7a4 x1a M).bind fun r2 => (rc M 1 p0a).bind fun _ => (f_J5_ensureCapacityInternal_d00df p0a (x1 + r2) M).bind fun r3 => (rc M 1 p0a).bind fun _ => (f_J5_isLatin1_aae02 p0a M).bind fun r5 => if r5 = 0 then none else ((gP M 1 p0a 0).bind fun p8 => (f_J6_getChars_ba4f3 x1a (x1 + r2) p8 M).bind fun r9 => (sI r9.2 1 p0a 3 .int (x1 + r2)).bind fun M10 => some (p0a, M10))
set_option maxRecDepth 20000 in
theorem ev_J5_append_c97b9 {G : Nat × (Nat → Int32) × Value} {p0a : Nat} {x1a : Int32} {M : Mem} {r : Nat × Mem} (h : f_J5_append_c97b9 p0a x1a M = some r) : Ev (roG G) false YJ5_append_c97b9 1 0 [.ref p0a, .int x1a] M (fun a b => a = wP r.1 ∧ b = r.2) := by
  refine ev_of cyJ5_append_c97b9.2.2.2.2 (Nat.le_of_ble_eq_true rfl) ?_
  show Fr _ _ _ _ _ _ 0 [(0, .ref p0a), (1, .int x1a)] [] M _
  unfold f_J5_append_c97b9 at h
  refine fr_aload_n 0 dJ5_append_c97b9_0 rfl ?_
  obtain ⟨x1, ex1, h⟩ := ob h
  try dsimp only at h
  refine fr_gI cb1 3 (by decide) rfl w_1144 dJ5_append_c97b9_1 ex1 ?_
  refine fr_istore_n (L' := [(0, .ref p0a), (1, .int x1a), (2, .int x1)]) dJ5_append_c97b9_4 (by decide) rfl ?_
  refine fr_iload_n 2 dJ5_append_c97b9_5 rfl ?_
  refine fr_iload_n 1 dJ5_append_c97b9_6 rfl ?_
  obtain ⟨r2, er2, h⟩ := ob h
  try dsimp only at h
  refine fr_callS (g1 := false) (k2 := 0) (ev_J6_stringSize_0f7a4 er2) rfl cyJ6_stringSize_0f7a4 w_1257 w_1258 (by rfl) (by omega) (by omega) (by rfl) (Nat.le_of_ble_eq_true rfl) dJ5_append_c97b9_7 (Or.inl rfl) (fun v M9 q _ => ?_) (fun E M9 q _ => (Sum.inr_ne_inl q.1).elim)
  obtain rfl : v = some (.int r2) := Sum.inl.inj q.1
  obtain rfl := q.2.symm
  refine fr_st (S' := [.int r2, .int x1]) rfl ?_
  refine fr_iadd dJ5_append_c97b9_10 ?_
  refine fr_istore_n (L' := [(0, .ref p0a), (1, .int x1a), (2, .int x1), (3, .int (x1 + r2))]) dJ5_append_c97b9_11 (by decide) rfl ?_
  refine fr_aload_n 0 dJ5_append_c97b9_12 rfl ?_
  refine fr_iload_n 3 dJ5_append_c97b9_13 rfl ?_
  obtain ⟨u4, eu4, h⟩ := ob h
  try dsimp only at h
  obtain ⟨r3, er3, h⟩ := ob h
  try dsimp only at h
  refine fr_callV (g1 := false) (k2 := 0) (ev_J5_ensureCapacityInternal_d00df er3) rfl cyJ5_ensureCapacityInternal_d00df w_1166 w_1168 w_90000 (rc_ok eu4 rfl (by decide)) (by rfl) (by omega) (by omega) (by rfl) (Nat.le_of_ble_eq_true rfl) dJ5_append_c97b9_14 (Or.inl rfl) (fun v M9 q _ => ?_) (fun E M9 q _ => (Sum.inr_ne_inl q.1).elim)
  obtain rfl : v = none := Sum.inl.inj q.1
  obtain rfl := q.2.symm
  refine fr_st (S' := []) rfl ?_
  refine fr_aload_n 0 dJ5_append_c97b9_17 rfl ?_
  obtain ⟨u6, eu6, h⟩ := ob h
  try dsimp only at h
  obtain ⟨r5, er5, h⟩ := ob h
  try dsimp only at h
  refine fr_callV (g1 := false) (k2 := 0) (ev_J5_isLatin1_aae02 er5) rfl cyJ5_isLatin1_aae02 w_1195 w_1196 w_1198 (rc_ok eu6 rfl (by decide)) (by rfl) (by omega) (by omega) (by rfl) (Nat.le_of_ble_eq_true rfl) dJ5_append_c97b9_18 (Or.inl rfl) (fun v M9 q _ => ?_) (fun E M9 q _ => (Sum.inr_ne_inl q.1).elim)
  obtain rfl : v = some (.int r5) := Sum.inl.inj q.1
  obtain rfl := q.2.symm
  refine fr_st (S' := [.int r5]) rfl ?_
  refine fr_if_eq 37 dJ5_append_c97b9_21 (by decide) (fun c7 => by rw [if_pos c7] at h; cases h) (fun c7 => ?_)
  rw [if_neg c7] at h
  refine fr_iload_n 1 dJ5_append_c97b9_24 rfl ?_
  refine fr_iload_n 3 dJ5_append_c97b9_25 rfl ?_
  refine fr_aload_n 0 dJ5_append_c97b9_26 rfl ?_
  obtain ⟨p8, ep8, h⟩ := ob h
  try dsimp only at h
  refine fr_gP cb1 0 (by decide) rfl w_1141 dJ5_append_c97b9_27 ep8 ?_
  obtain ⟨r9, er9, h⟩ := ob h
  try dsimp only at h
  refine fr_callS (g1 := false) (k2 := 0) (ev_J6_getChars_ba4f3 er9) rfl cyJ6_getChars_ba4f3 w_1260 w_1261 (by rfl) (by omega) (by omega) (by rfl) (Nat.le_of_ble_eq_true rfl) dJ5_append_c97b9_30 (Or.inl rfl) (fun v M9 q _ => ?_) (fun E M9 q _ => (Sum.inr_ne_inl q.1).elim)
  obtain rfl : v = some (.int r9.1) := Sum.inl.inj q.1
  obtain rfl := q.2.symm
  refine fr_st (S' := [.int r9.1]) rfl ?_
  refine fr_pop dJ5_append_c97b9_33 rfl ?_
  refine fr_goto 48 dJ5_append_c97b9_34 (by decide) ?_
  refine fr_aload_n 0 dJ5_append_c97b9_48 rfl ?_
  refine fr_iload_n 3 dJ5_append_c97b9_49 rfl ?_
  obtain ⟨M10, eM10, h⟩ := ob h
  try dsimp only at h
  refine fr_sI cb1 3 (by decide) rfl rfl w_1144 dJ5_append_c97b9_50 eM10 ?_
  refine fr_aload_n 0 dJ5_append_c97b9_53 rfl ?_
  obtain rfl := Option.some.inj h
  exact fr_aret (Or.inl ⟨_, rfl⟩) rfl dJ5_append_c97b9_54 ⟨rfl, rfl⟩
def f_J4_append_bf812 (p0a : Nat) (x1a : Int32) (M : Mem) : Option (Nat × Mem) := (rc M 1 p0a).bind fun _ => (f_J5_append_c97b9 p0a x1a M).bind fun r1 => some (p0a, r1.2)
set_option maxRecDepth 20000 in
theorem ev_J4_append_bf812 {G : Nat × (Nat → Int32) × Value} {p0a : Nat} {x1a : Int32} {M : Mem} {r : Nat × Mem} (h : f_J4_append_bf812 p0a x1a M = some r) : Ev (roG G) false YJ4_append_bf812 2 0 [.ref p0a, .int x1a] M (fun a b => a = wP r.1 ∧ b = r.2) := by
  refine ev_of cyJ4_append_bf812.2.2.2.2 (Nat.le_of_ble_eq_true rfl) ?_
  show Fr _ _ _ _ _ _ 0 [(0, .ref p0a), (1, .int x1a)] [] M _
  unfold f_J4_append_bf812 at h
  refine fr_aload_n 0 dJ4_append_bf812_0 rfl ?_
  refine fr_iload_n 1 dJ4_append_bf812_1 rfl ?_
  obtain ⟨u2, eu2, h⟩ := ob h
  try dsimp only at h
  obtain ⟨r1, er1, h⟩ := ob h
  try dsimp only at h
  refine fr_callU (g1 := false) (k2 := 0) (ci := 1) (C := RJ4) (T := TJ4) (N := 4) (ev_J5_append_c97b9 er1) rfl cyJ5_append_c97b9 (by decide) w_1254 w_1255 w_91032 w_91018 rfl (by decide) eu2 (by rfl) (by omega) (by omega) (by rfl) (Nat.le_of_ble_eq_true rfl) dJ4_append_bf812_2 (Or.inl rfl) (fun v M9 q _ => ?_) (fun E M9 q _ => (Sum.inr_ne_inl q.1).elim)
  obtain rfl : v = some (.ref r1.1) := Sum.inl.inj q.1
  obtain rfl := q.2.symm
  refine fr_st (S' := [.ref r1.1]) rfl ?_
  refine fr_pop dJ4_append_bf812_5 rfl ?_
  refine fr_aload_n 0 dJ4_append_bf812_6 rfl ?_
  obtain rfl := Option.some.inj h
  exact fr_aret (Or.inl ⟨_, rfl⟩) rfl dJ4_append_bf812_7 ⟨rfl, rfl⟩
def f_J5_inflateIfNeededFor_a7421 (p0a : Nat) (p1a : Nat) (M : Mem) : Option (Unit) := (gI M 1 p0a 1).bind fun x2 => (rcS M p1a).bind fun _ => (f_J0_coder_7d493 p1a M).bind fun r3 => if x2 = r3 then (some ()) else none
set_option maxRecDepth 20000 in
theorem ev_J5_inflateIfNeededFor_a7421 {G : Nat × (Nat → Int32) × Value} {p0a : Nat} {p1a : Nat} {M : Mem} {r : Unit} (h : f_J5_inflateIfNeededFor_a7421 p0a p1a M = some r) : Ev (roG G) false YJ5_inflateIfNeededFor_a7421 1 0 [.ref p0a, .ref p1a] M (fun a b => a = wU r ∧ b = M) := by
  refine ev_of cyJ5_inflateIfNeededFor_a7421.2.2.2.2 (Nat.le_of_ble_eq_true rfl) ?_
  show Fr _ _ _ _ _ _ 0 [(0, .ref p0a), (1, .ref p1a)] [] M _
  unfold f_J5_inflateIfNeededFor_a7421 at h
  refine fr_gets (show _ ∈ roZ _ from List.mem_of_getElem? (i := 2) rfl) w_1133 dJ5_inflateIfNeededFor_a7421_0 ?_
  refine fr_if_eq 21 dJ5_inflateIfNeededFor_a7421_3 (by decide) (fun c1 => absurd c1 (by decide)) (fun c1 => ?_)
  refine fr_aload_n 0 dJ5_inflateIfNeededFor_a7421_6 rfl ?_
  obtain ⟨x2, ex2, h⟩ := ob h
  try dsimp only at h
  refine fr_gI cb1 1 (by decide) rfl w_1142 dJ5_inflateIfNeededFor_a7421_7 ex2 ?_
  refine fr_aload_n 1 dJ5_inflateIfNeededFor_a7421_10 rfl ?_
  obtain ⟨u4, eu4, h⟩ := ob h
  try dsimp only at h
  obtain ⟨r3, er3, h⟩ := ob h
  try dsimp only at h
  refine fr_callV (g1 := false) (k2 := 0) (ev_J0_coder_7d493 er3) rfl cyJ0_coder_7d493 w_1224 w_745 w_746 (rcS_ok eu4) (by rfl) (by omega) (by omega) (by rfl) (Nat.le_of_ble_eq_true rfl) dJ5_inflateIfNeededFor_a7421_11 (Or.inl rfl) (fun v M9 q _ => ?_) (fun E M9 q _ => (Sum.inr_ne_inl q.1).elim)
  obtain rfl : v = some (.int r3) := Sum.inl.inj q.1
  obtain rfl := q.2.symm
  refine fr_st (S' := [.int r3, .int x2]) rfl ?_
  refine fr_icmp_eq 21 dJ5_inflateIfNeededFor_a7421_14 (by decide) (fun c5 => ?_) (fun c5 => by rw [if_neg c5] at h; cases h)
  rw [if_pos c5] at h
  obtain rfl := Option.some.inj h
  exact fr_vret rfl dJ5_inflateIfNeededFor_a7421_21 ⟨rfl, rfl⟩
def f_J0_getBytes_840e7 (p0a : Nat) (p1a : Nat) (x2a : Int32) (x3a : Int32) (M : Mem) : Option (Unit × Mem) := (rcS M p0a).bind fun _ => (f_J0_coder_7d493 p0a M).bind fun r1 => if r1 = x3a then ((sV M p0a).bind fun p4 => (sV M p0a).bind fun p5 => (bL M p5).bind fun x6 => (cpB M p4 p1a 0 (x2a <<< (x3a &&& 31)) x6).bind fun M7 => some ((), M7)) else none
set_option maxRecDepth 20000 in
theorem ev_J0_getBytes_840e7 {G : Nat × (Nat → Int32) × Value} {p0a : Nat} {p1a : Nat} {x2a : Int32} {x3a : Int32} {M : Mem} {r : Unit × Mem} (h : f_J0_getBytes_840e7 p0a p1a x2a x3a M = some r) : Ev (roG G) false YJ0_getBytes_840e7 1 0 [.ref p0a, .ref p1a, .int x2a, .int x3a] M (fun a b => a = wU r.1 ∧ b = r.2) := by
  refine ev_of cyJ0_getBytes_840e7.2.2.2.2 (Nat.le_of_ble_eq_true rfl) ?_
  show Fr _ _ _ _ _ _ 0 [(0, .ref p0a), (1, .ref p1a), (2, .int x2a), (3, .int x3a)] [] M _
  unfold f_J0_getBytes_840e7 at h
  refine fr_aload_n 0 dJ0_getBytes_840e7_0 rfl ?_
  obtain ⟨u2, eu2, h⟩ := ob h
  try dsimp only at h
  obtain ⟨r1, er1, h⟩ := ob h
  try dsimp only at h
  refine fr_callV (g1 := false) (k2 := 0) (ev_J0_coder_7d493 er1) rfl cyJ0_coder_7d493 w_744 w_745 w_746 (rcS_ok eu2) (by rfl) (by omega) (by omega) (by rfl) (Nat.le_of_ble_eq_true rfl) dJ0_getBytes_840e7_1 (Or.inl rfl) (fun v M9 q _ => ?_) (fun E M9 q _ => (Sum.inr_ne_inl q.1).elim)
  obtain rfl : v = some (.int r1) := Sum.inl.inj q.1
  obtain rfl := q.2.symm
  refine fr_st (S' := [.int r1]) rfl ?_
  refine fr_iload_n 3 dJ0_getBytes_840e7_4 rfl ?_
  refine fr_icmp_ne 28 dJ0_getBytes_840e7_5 (by decide) (fun c3 => by rw [if_neg c3] at h; cases h) (fun c3 => ?_)
  rw [if_pos c3] at h
  refine fr_aload_n 0 dJ0_getBytes_840e7_8 rfl ?_
  obtain ⟨p4, ep4, h⟩ := ob h
  try dsimp only at h
  refine fr_sV w_1328 dJ0_getBytes_840e7_9 ep4 ?_
  refine fr_iconst (v := 0) dJ0_getBytes_840e7_12 (by decide) ?_
  refine fr_aload_n 1 dJ0_getBytes_840e7_13 rfl ?_
  refine fr_iload_n 2 dJ0_getBytes_840e7_14 rfl ?_
  refine fr_iload_n 3 dJ0_getBytes_840e7_15 rfl ?_
  refine fr_ishl dJ0_getBytes_840e7_16 ?_
  refine fr_aload_n 0 dJ0_getBytes_840e7_17 rfl ?_
  obtain ⟨p5, ep5, h⟩ := ob h
  try dsimp only at h
  refine fr_sV w_1328 dJ0_getBytes_840e7_18 ep5 ?_
  obtain ⟨x6, ex6, h⟩ := ob h
  try dsimp only at h
  refine fr_bL ex6 dJ0_getBytes_840e7_21 ?_
  obtain ⟨M7, eM7, h⟩ := ob h
  try dsimp only at h
  refine fr_cpB w_1248 w_288 w_287 w_26 (by omega) (Nat.le_of_ble_eq_true rfl) dJ0_getBytes_840e7_22 eM7 ?_
  refine fr_goto 43 dJ0_getBytes_840e7_25 (by decide) ?_
  obtain rfl := Option.some.inj h
  exact fr_vret rfl dJ0_getBytes_840e7_43 ⟨rfl, rfl⟩
def f_J5_putStringAt_47b60 (p0a : Nat) (x1a : Int32) (p2a : Nat) (M : Mem) : Option (Unit × Mem) := (rc M 1 p0a).bind fun _ => (f_J5_inflateIfNeededFor_a7421 p0a p2a M).bind fun r1 => (gP M 1 p0a 0).bind fun p3 => (gI M 1 p0a 1).bind fun x4 => (rcS M p2a).bind fun _ => (f_J0_getBytes_840e7 p2a p3 x1a x4 M).bind fun r5 => some ((), r5.2)
set_option maxRecDepth 20000 in
theorem ev_J5_putStringAt_47b60 {G : Nat × (Nat → Int32) × Value} {p0a : Nat} {x1a : Int32} {p2a : Nat} {M : Mem} {r : Unit × Mem} (h : f_J5_putStringAt_47b60 p0a x1a p2a M = some r) : Ev (roG G) false YJ5_putStringAt_47b60 2 0 [.ref p0a, .int x1a, .ref p2a] M (fun a b => a = wU r.1 ∧ b = r.2) := by
  refine ev_of cyJ5_putStringAt_47b60.2.2.2.2 (Nat.le_of_ble_eq_true rfl) ?_
  show Fr _ _ _ _ _ _ 0 [(0, .ref p0a), (1, .int x1a), (2, .ref p2a)] [] M _
  unfold f_J5_putStringAt_47b60 at h
  refine fr_aload_n 0 dJ5_putStringAt_47b60_0 rfl ?_
  refine fr_aload_n 2 dJ5_putStringAt_47b60_1 rfl ?_
  obtain ⟨u2, eu2, h⟩ := ob h
  try dsimp only at h
  obtain ⟨r1, er1, h⟩ := ob h
  try dsimp only at h
  refine fr_callV (g1 := false) (k2 := 0) (ev_J5_inflateIfNeededFor_a7421 er1) rfl cyJ5_inflateIfNeededFor_a7421 w_1220 w_1222 w_90002 (rc_ok eu2 rfl (by decide)) (by rfl) (by omega) (by omega) (by rfl) (Nat.le_of_ble_eq_true rfl) dJ5_putStringAt_47b60_2 (Or.inl rfl) (fun v M9 q _ => ?_) (fun E M9 q _ => (Sum.inr_ne_inl q.1).elim)
  obtain rfl : v = none := Sum.inl.inj q.1
  obtain rfl := q.2.symm
  refine fr_st (S' := []) rfl ?_
  refine fr_aload_n 2 dJ5_putStringAt_47b60_5 rfl ?_
  refine fr_aload_n 0 dJ5_putStringAt_47b60_6 rfl ?_
  obtain ⟨p3, ep3, h⟩ := ob h
  try dsimp only at h
  refine fr_gP cb1 0 (by decide) rfl w_1141 dJ5_putStringAt_47b60_7 ep3 ?_
  refine fr_iload_n 1 dJ5_putStringAt_47b60_10 rfl ?_
  refine fr_aload_n 0 dJ5_putStringAt_47b60_11 rfl ?_
  obtain ⟨x4, ex4, h⟩ := ob h
  try dsimp only at h
  refine fr_gI cb1 1 (by decide) rfl w_1142 dJ5_putStringAt_47b60_12 ex4 ?_
  obtain ⟨u6, eu6, h⟩ := ob h
  try dsimp only at h
  obtain ⟨r5, er5, h⟩ := ob h
  try dsimp only at h
  refine fr_callV (g1 := false) (k2 := 0) (ev_J0_getBytes_840e7 er5) rfl cyJ0_getBytes_840e7 w_1244 w_1245 w_1246 (rcS_ok eu6) (by rfl) (by omega) (by omega) (by rfl) (Nat.le_of_ble_eq_true rfl) dJ5_putStringAt_47b60_15 (Or.inl rfl) (fun v M9 q _ => ?_) (fun E M9 q _ => (Sum.inr_ne_inl q.1).elim)
  obtain rfl : v = none := Sum.inl.inj q.1
  obtain rfl := q.2.symm
  refine fr_st (S' := []) rfl ?_
  obtain rfl := Option.some.inj h
  exact fr_vret rfl dJ5_putStringAt_47b60_18 ⟨rfl, rfl⟩
def f_J5_append_cf1ce (p0a : Nat) (p1a : Nat) (M : Mem) : Option (Nat × Mem) := (rcS M p1a).bind fun _ => (f_J0_length_8abf5 p1a M).bind fun r1 => (gI M 1 p0a 3).bind fun x3 => (rc M 1 p0a).bind fun _ => (f_J5_ensureCapacityInternal_d00df p0a (x3 + r1) M).bind fun r4 => (gI M 1 p0a 3).bind fun x6 => (rc M 1 p0a).bind fun _ => (f_J5_putStringAt_47b60 p0a x6 p1a M).bind fun r7 => (gI r7.2 1 p0a 3).bind fun x9 => (sI r7.2 1 p0a 3 .int (x9 + r1)).bind fun M10 => some (p0a, M10)
set_option maxRecDepth 20000 in
theorem ev_J5_append_cf1ce {G : Nat × (Nat → Int32) × Value} {p0a : Nat} {p1a : Nat} {M : Mem} {r : Nat × Mem} (h : f_J5_append_cf1ce p0a p1a M = some r) : Ev (roG G) false YJ5_append_cf1ce 3 0 [.ref p0a, .ref p1a] M (fun a b => a = wP r.1 ∧ b = r.2) := by
  refine ev_of cyJ5_append_cf1ce.2.2.2.2 (Nat.le_of_ble_eq_true rfl) ?_
  show Fr _ _ _ _ _ _ 0 [(0, .ref p0a), (1, .ref p1a)] [] M _
  unfold f_J5_append_cf1ce at h
  refine fr_aload_n 1 dJ5_append_cf1ce_0 rfl ?_
  refine fr_ifnonnull 9 dJ5_append_cf1ce_1 (by decide) ?_
  refine fr_aload_n 1 dJ5_append_cf1ce_9 rfl ?_
  obtain ⟨u2, eu2, h⟩ := ob h
  try dsimp only at h
  obtain ⟨r1, er1, h⟩ := ob h
  try dsimp only at h
  refine fr_callV (g1 := false) (k2 := 0) (ev_J0_length_8abf5 er1) rfl cyJ0_length_8abf5 w_1215 w_741 w_742 (rcS_ok eu2) (by rfl) (by omega) (by omega) (by rfl) (Nat.le_of_ble_eq_true rfl) dJ5_append_cf1ce_10 (Or.inl rfl) (fun v M9 q _ => ?_) (fun E M9 q _ => (Sum.inr_ne_inl q.1).elim)
  obtain rfl : v = some (.int r1) := Sum.inl.inj q.1
  obtain rfl := q.2.symm
  refine fr_st (S' := [.int r1]) rfl ?_
  refine fr_istore_n (L' := [(0, .ref p0a), (1, .ref p1a), (2, .int r1)]) dJ5_append_cf1ce_13 (by decide) rfl ?_
  refine fr_aload_n 0 dJ5_append_cf1ce_14 rfl ?_
  refine fr_aload_n 0 dJ5_append_cf1ce_15 rfl ?_
  obtain ⟨x3, ex3, h⟩ := ob h
  try dsimp only at h
  refine fr_gI cb1 3 (by decide) rfl w_1144 dJ5_append_cf1ce_16 ex3 ?_
  refine fr_iload_n 2 dJ5_append_cf1ce_19 rfl ?_
  refine fr_iadd dJ5_append_cf1ce_20 ?_
  obtain ⟨u5, eu5, h⟩ := ob h
  try dsimp only at h
  obtain ⟨r4, er4, h⟩ := ob h
  try dsimp only at h
  refine fr_callV (g1 := false) (k2 := 0) (ev_J5_ensureCapacityInternal_d00df er4) rfl cyJ5_ensureCapacityInternal_d00df w_1166 w_1168 w_90000 (rc_ok eu5 rfl (by decide)) (by rfl) (by omega) (by omega) (by rfl) (Nat.le_of_ble_eq_true rfl) dJ5_append_cf1ce_21 (Or.inl rfl) (fun v M9 q _ => ?_) (fun E M9 q _ => (Sum.inr_ne_inl q.1).elim)
  obtain rfl : v = none := Sum.inl.inj q.1
  obtain rfl := q.2.symm
  refine fr_st (S' := []) rfl ?_
  refine fr_aload_n 0 dJ5_append_cf1ce_24 rfl ?_
  refine fr_aload_n 0 dJ5_append_cf1ce_25 rfl ?_
  obtain ⟨x6, ex6, h⟩ := ob h
  try dsimp only at h
  refine fr_gI cb1 3 (by decide) rfl w_1144 dJ5_append_cf1ce_26 ex6 ?_
  refine fr_aload_n 1 dJ5_append_cf1ce_29 rfl ?_
  obtain ⟨u8, eu8, h⟩ := ob h
  try dsimp only at h
  obtain ⟨r7, er7, h⟩ := ob h
  try dsimp only at h
  refine fr_callV (g1 := false) (k2 := 0) (ev_J5_putStringAt_47b60 er7) rfl cyJ5_putStringAt_47b60 w_1216 w_1218 w_90001 (rc_ok eu8 rfl (by decide)) (by rfl) (by omega) (by omega) (by rfl) (Nat.le_of_ble_eq_true rfl) dJ5_append_cf1ce_30 (Or.inl rfl) (fun v M9 q _ => ?_) (fun E M9 q _ => (Sum.inr_ne_inl q.1).elim)
  obtain rfl : v = none := Sum.inl.inj q.1
  obtain rfl := q.2.symm
  refine fr_st (S' := []) rfl ?_
  refine fr_aload_n 0 dJ5_append_cf1ce_33 rfl ?_
  refine fr_dup dJ5_append_cf1ce_34 rfl ?_
  obtain ⟨x9, ex9, h⟩ := ob h
  try dsimp only at h
  refine fr_gI cb1 3 (by decide) rfl w_1144 dJ5_append_cf1ce_35 ex9 ?_
  refine fr_iload_n 2 dJ5_append_cf1ce_38 rfl ?_
  refine fr_iadd dJ5_append_cf1ce_39 ?_
  obtain ⟨M10, eM10, h⟩ := ob h
  try dsimp only at h
  refine fr_sI cb1 3 (by decide) rfl rfl w_1144 dJ5_append_cf1ce_40 eM10 ?_
  refine fr_aload_n 0 dJ5_append_cf1ce_43 rfl ?_
  obtain rfl := Option.some.inj h
  exact fr_aret (Or.inl ⟨_, rfl⟩) rfl dJ5_append_cf1ce_44 ⟨rfl, rfl⟩
def f_J4_append_15ec4 (p0a : Nat) (p1a : Nat) (M : Mem) : Option (Nat × Mem) := (rc M 1 p0a).bind fun _ => (f_J5_append_cf1ce p0a p1a M).bind fun r1 => some (p0a, r1.2)
set_option maxRecDepth 20000 in
theorem ev_J4_append_15ec4 {G : Nat × (Nat → Int32) × Value} {p0a : Nat} {p1a : Nat} {M : Mem} {r : Nat × Mem} (h : f_J4_append_15ec4 p0a p1a M = some r) : Ev (roG G) false YJ4_append_15ec4 4 0 [.ref p0a, .ref p1a] M (fun a b => a = wP r.1 ∧ b = r.2) := by
  refine ev_of cyJ4_append_15ec4.2.2.2.2 (Nat.le_of_ble_eq_true rfl) ?_
  show Fr _ _ _ _ _ _ 0 [(0, .ref p0a), (1, .ref p1a)] [] M _
  unfold f_J4_append_15ec4 at h
  refine fr_aload_n 0 dJ4_append_15ec4_0 rfl ?_
  refine fr_aload_n 1 dJ4_append_15ec4_1 rfl ?_
  obtain ⟨u2, eu2, h⟩ := ob h
  try dsimp only at h
  obtain ⟨r1, er1, h⟩ := ob h
  try dsimp only at h
  refine fr_callU (g1 := false) (k2 := 0) (ci := 1) (C := RJ4) (T := TJ4) (N := 4) (ev_J5_append_cf1ce er1) rfl cyJ5_append_cf1ce (by decide) w_1159 w_1160 w_91025 w_91018 rfl (by decide) eu2 (by rfl) (by omega) (by omega) (by rfl) (Nat.le_of_ble_eq_true rfl) dJ4_append_15ec4_2 (Or.inl rfl) (fun v M9 q _ => ?_) (fun E M9 q _ => (Sum.inr_ne_inl q.1).elim)
  obtain rfl : v = some (.ref r1.1) := Sum.inl.inj q.1
  obtain rfl := q.2.symm
  refine fr_st (S' := [.ref r1.1]) rfl ?_
  refine fr_pop dJ4_append_15ec4_5 rfl ?_
  refine fr_aload_n 0 dJ4_append_15ec4_6 rfl ?_
  obtain rfl := Option.some.inj h
  exact fr_aret (Or.inl ⟨_, rfl⟩) rfl dJ4_append_15ec4_7 ⟨rfl, rfl⟩
def f_J5_getValue_6d5f1 (p0a : Nat) (M : Mem) : Option (Nat) := (gP M 1 p0a 0).bind fun p1 => some p1
set_option maxRecDepth 20000 in
theorem ev_J5_getValue_6d5f1 {G : Nat × (Nat → Int32) × Value} {p0a : Nat} {M : Mem} {r : Nat} (h : f_J5_getValue_6d5f1 p0a M = some r) : Ev (roG G) false YJ5_getValue_6d5f1 0 0 [.ref p0a] M (fun a b => a = wP r ∧ b = M) := by
  refine ev_of cyJ5_getValue_6d5f1.2.2.2.2 (Nat.le_of_ble_eq_true rfl) ?_
  show Fr _ _ _ _ _ _ 0 [(0, .ref p0a)] [] M _
  unfold f_J5_getValue_6d5f1 at h
  refine fr_aload_n 0 dJ5_getValue_6d5f1_0 rfl ?_
  obtain ⟨p1, ep1, h⟩ := ob h
  try dsimp only at h
  refine fr_gP cb1 0 (by decide) rfl w_1141 dJ5_getValue_6d5f1_1 ep1 ?_
  obtain rfl := Option.some.inj h
  exact fr_aret (Or.inr ⟨_, rfl⟩) rfl dJ5_getValue_6d5f1_4 ⟨rfl, rfl⟩
def f_J5_length_8abf5 (p0a : Nat) (M : Mem) : Option (Int32) := (gI M 1 p0a 3).bind fun x1 => some x1
set_option maxRecDepth 20000 in
theorem ev_J5_length_8abf5 {G : Nat × (Nat → Int32) × Value} {p0a : Nat} {M : Mem} {r : Int32} (h : f_J5_length_8abf5 p0a M = some r) : Ev (roG G) false YJ5_length_8abf5 0 0 [.ref p0a] M (fun a b => a = wI r ∧ b = M) := by
  refine ev_of cyJ5_length_8abf5.2.2.2.2 (Nat.le_of_ble_eq_true rfl) ?_
  show Fr _ _ _ _ _ _ 0 [(0, .ref p0a)] [] M _
  unfold f_J5_length_8abf5 at h
  refine fr_aload_n 0 dJ5_length_8abf5_0 rfl ?_
  obtain ⟨x1, ex1, h⟩ := ob h
  try dsimp only at h
  refine fr_gI cb1 3 (by decide) rfl w_1144 dJ5_length_8abf5_1 ex1 ?_
  obtain rfl := Option.some.inj h
  exact fr_iret rfl dJ5_length_8abf5_4 ⟨rfl, rfl⟩
def f_J4_length_8abf5 (p0a : Nat) (M : Mem) : Option (Int32) := (rc M 1 p0a).bind fun _ => (f_J5_length_8abf5 p0a M).bind fun r1 => some r1
set_option maxRecDepth 20000 in
theorem ev_J4_length_8abf5 {G : Nat × (Nat → Int32) × Value} {p0a : Nat} {M : Mem} {r : Int32} (h : f_J4_length_8abf5 p0a M = some r) : Ev (roG G) false YJ4_length_8abf5 1 0 [.ref p0a] M (fun a b => a = wI r ∧ b = M) := by
  refine ev_of cyJ4_length_8abf5.2.2.2.2 (Nat.le_of_ble_eq_true rfl) ?_
  show Fr _ _ _ _ _ _ 0 [(0, .ref p0a)] [] M _
  unfold f_J4_length_8abf5 at h
  refine fr_aload_n 0 dJ4_length_8abf5_0 rfl ?_
  obtain ⟨u2, eu2, h⟩ := ob h
  try dsimp only at h
  obtain ⟨r1, er1, h⟩ := ob h
  try dsimp only at h
  refine fr_callU (g1 := false) (k2 := 0) (ci := 1) (C := RJ4) (T := TJ4) (N := 4) (ev_J5_length_8abf5 er1) rfl cyJ5_length_8abf5 (by decide) w_1298 w_1293 w_91022 w_91018 rfl (by decide) eu2 (by rfl) (by omega) (by omega) (by rfl) (Nat.le_of_ble_eq_true rfl) dJ4_length_8abf5_1 (Or.inl rfl) (fun v M9 q _ => ?_) (fun E M9 q _ => (Sum.inr_ne_inl q.1).elim)
  obtain rfl : v = some (.int r1) := Sum.inl.inj q.1
  obtain rfl := q.2.symm
  refine fr_st (S' := [.int r1]) rfl ?_
  obtain rfl := Option.some.inj h
  exact fr_iret rfl dJ4_length_8abf5_4 ⟨rfl, rfl⟩
def f_J7_checkLength_df160 (x0a : Int32) (x1a : Int32) (M : Mem) : Option (Unit) := if x0a ≤ x1a then (some ()) else none
set_option maxRecDepth 20000 in
theorem ev_J7_checkLength_df160 {G : Nat × (Nat → Int32) × Value} {x0a : Int32} {x1a : Int32} {M : Mem} {r : Unit} (h : f_J7_checkLength_df160 x0a x1a M = some r) : Ev (roG G) false YJ7_checkLength_df160 0 0 [.int x0a, .int x1a] M (fun a b => a = wU r ∧ b = M) := by
  refine ev_of cyJ7_checkLength_df160.2.2.2.2 (Nat.le_of_ble_eq_true rfl) ?_
  show Fr _ _ _ _ _ _ 0 [(0, .int x0a), (1, .int x1a)] [] M _
  unfold f_J7_checkLength_df160 at h
  refine fr_iload_n 1 dJ7_checkLength_df160_0 rfl ?_
  refine fr_iload_n 0 dJ7_checkLength_df160_1 rfl ?_
  refine fr_icmp_ge 37 dJ7_checkLength_df160_2 (by decide) (fun c1 => ?_) (fun c1 => by rw [if_neg c1] at h; cases h)
  rw [if_pos c1] at h
  obtain rfl := Option.some.inj h
  exact fr_vret rfl dJ7_checkLength_df160_37 ⟨rfl, rfl⟩
def f_J7_copyOfRangeByte_39247 (p0a : Nat) (x1a : Int32) (x2a : Int32) (M : Mem) : Option (Nat × Mem) := (f_J7_checkLength_df160 x1a x2a M).bind fun r1 => (gd M [(0, .ref p0a), (1, .int x1a), (2, .int x2a), (3, .int (x2a - x1a))] []).bind fun _ => (na (x2a - x1a)).bind fun _ => (some (mNew M 102 (Int32.toNatClampNeg (x2a - x1a)))).bind fun M3 => (bL M3 p0a).bind fun x4 => (f_J9_min_7cf53 (x4 - x1a) (x2a - x1a) M3).bind fun r5 => (cpB M3 p0a (mN M) x1a 0 r5).bind fun M6 => some ((mN M), M6)
set_option maxRecDepth 20000 in
theorem ev_J7_copyOfRangeByte_39247 {G : Nat × (Nat → Int32) × Value} (hv : rob G.2.2) {p0a : Nat} {x1a : Int32} {x2a : Int32} {M : Mem} {r : Nat × Mem} (h : f_J7_copyOfRangeByte_39247 p0a x1a x2a M = some r) : Ev (roG G) true YJ7_copyOfRangeByte_39247 1 1 [.ref p0a, .int x1a, .int x2a] M (fun a b => a = wP r.1 ∧ b = r.2) := by
  refine ev_of cyJ7_copyOfRangeByte_39247.2.2.2.2 (Nat.le_of_ble_eq_true rfl) ?_
  show Fr _ _ _ _ _ _ 0 [(0, .ref p0a), (1, .int x1a), (2, .int x2a)] [] M _
  unfold f_J7_copyOfRangeByte_39247 at h
  refine fr_iload_n 1 dJ7_copyOfRangeByte_39247_0 rfl ?_
  refine fr_iload_n 2 dJ7_copyOfRangeByte_39247_1 rfl ?_
  obtain ⟨r1, er1, h⟩ := ob h
  try dsimp only at h
  refine fr_callS (g1 := false) (k2 := 1) (ev_J7_checkLength_df160 er1) rfl cyJ7_checkLength_df160 w_1307 w_1308 (by rfl) (by omega) (by omega) (by rfl) (Nat.le_of_ble_eq_true rfl) dJ7_copyOfRangeByte_39247_2 (Or.inl rfl) (fun v M9 q _ => ?_) (fun E M9 q _ => (Sum.inr_ne_inl q.1).elim)
  obtain rfl : v = none := Sum.inl.inj q.1
  obtain rfl := q.2.symm
  refine fr_st (S' := []) rfl ?_
  refine fr_iload_n 2 dJ7_copyOfRangeByte_39247_5 rfl ?_
  refine fr_iload_n 1 dJ7_copyOfRangeByte_39247_6 rfl ?_
  refine fr_isub dJ7_copyOfRangeByte_39247_7 ?_
  refine fr_istore_n (L' := [(0, .ref p0a), (1, .int x1a), (2, .int x2a), (3, .int (x2a - x1a))]) dJ7_copyOfRangeByte_39247_8 (by decide) rfl ?_
  refine fr_iload_n 3 dJ7_copyOfRangeByte_39247_9 rfl ?_
  obtain ⟨u2, eu2, h⟩ := ob h
  try dsimp only at h
  obtain ⟨u2b, eu2b, h⟩ := ob h
  try dsimp only at h
  obtain ⟨M3, eM3, h⟩ := ob h
  try dsimp only at h
  obtain rfl := Option.some.inj eM3
  refine fr_newarrg (k2 := 0) (ty := .byte) 2 102 rfl rfl (by decide) (by decide) rfl w_399 (gd_N eu2) (gd_L eu2) (roG_ok hv) (na_0 eu2b) (na_1 eu2b) dJ7_copyOfRangeByte_39247_10 (by omega) ?_
  refine fr_astore (L' := [(0, .ref p0a), (1, .int x1a), (2, .int x2a), (3, .int (x2a - x1a)), (4, .ref (mN M))]) dJ7_copyOfRangeByte_39247_12 (by decide) rfl ?_
  refine fr_aload_n 0 dJ7_copyOfRangeByte_39247_14 rfl ?_
  refine fr_iload_n 1 dJ7_copyOfRangeByte_39247_15 rfl ?_
  refine fr_aload 4 dJ7_copyOfRangeByte_39247_16 rfl ?_
  refine fr_iconst (v := 0) dJ7_copyOfRangeByte_39247_18 (by decide) ?_
  refine fr_aload_n 0 dJ7_copyOfRangeByte_39247_19 rfl ?_
  obtain ⟨x4, ex4, h⟩ := ob h
  try dsimp only at h
  refine fr_bL ex4 dJ7_copyOfRangeByte_39247_20 ?_
  refine fr_iload_n 1 dJ7_copyOfRangeByte_39247_21 rfl ?_
  refine fr_isub dJ7_copyOfRangeByte_39247_22 ?_
  refine fr_iload_n 3 dJ7_copyOfRangeByte_39247_23 rfl ?_
  obtain ⟨r5, er5, h⟩ := ob h
  try dsimp only at h
  refine fr_callS (g1 := false) (k2 := 0) (ev_J9_min_7cf53 er5) rfl cyJ9_min_7cf53 w_1193 w_469 (by rfl) (by omega) (by omega) (by rfl) (Nat.le_of_ble_eq_true rfl) dJ7_copyOfRangeByte_39247_24 (Or.inl rfl) (fun v M9 q _ => ?_) (fun E M9 q _ => (Sum.inr_ne_inl q.1).elim)
  obtain rfl : v = some (.int r5) := Sum.inl.inj q.1
  obtain rfl := q.2.symm
  refine fr_st (S' := [.int r5, .int 0, .ref (mN M), .int x1a, .ref p0a]) rfl ?_
  obtain ⟨M6, eM6, h⟩ := ob h
  try dsimp only at h
  refine fr_cpB w_1194 w_288 w_287 w_26 (by omega) (Nat.le_of_ble_eq_true rfl) dJ7_copyOfRangeByte_39247_27 eM6 ?_
  refine fr_aload 4 dJ7_copyOfRangeByte_39247_30 rfl ?_
  obtain rfl := Option.some.inj h
  exact fr_aret (Or.inr ⟨_, rfl⟩) rfl dJ7_copyOfRangeByte_39247_32 ⟨rfl, rfl⟩
def f_J7_copyOfRange_39247 (p0a : Nat) (x1a : Int32) (x2a : Int32) (M : Mem) : Option (Nat × Mem) := if x1a = 0 then ((bL M p0a).bind fun x4 => if x2a = x4 then none else ((gd M [(0, .ref p0a), (1, .int x1a), (2, .int x2a)] []).bind fun _ => (f_J7_copyOfRangeByte_39247 p0a x1a x2a M).bind fun r6 => some (r6.1, r6.2))) else ((gd M [(0, .ref p0a), (1, .int x1a), (2, .int x2a)] []).bind fun _ => (f_J7_copyOfRangeByte_39247 p0a x1a x2a M).bind fun r2 => some (r2.1, r2.2))
set_option maxRecDepth 20000 in
theorem ev_J7_copyOfRange_39247 {G : Nat × (Nat → Int32) × Value} (hv : rob G.2.2) {p0a : Nat} {x1a : Int32} {x2a : Int32} {M : Mem} {r : Nat × Mem} (h : f_J7_copyOfRange_39247 p0a x1a x2a M = some r) : Ev (roG G) true YJ7_copyOfRange_39247 2 1 [.ref p0a, .int x1a, .int x2a] M (fun a b => a = wP r.1 ∧ b = r.2) := by
  refine ev_of cyJ7_copyOfRange_39247.2.2.2.2 (Nat.le_of_ble_eq_true rfl) ?_
  show Fr _ _ _ _ _ _ 0 [(0, .ref p0a), (1, .int x1a), (2, .int x2a)] [] M _
  unfold f_J7_copyOfRange_39247 at h
  refine fr_iload_n 1 dJ7_copyOfRange_39247_0 rfl ?_
  refine fr_if_ne 10 dJ7_copyOfRange_39247_1 (by decide) (fun c1 => ?_) (fun c1 => ?_)
  · rw [if_neg c1] at h
    refine fr_aload_n 0 dJ7_copyOfRange_39247_10 rfl ?_
    refine fr_iload_n 1 dJ7_copyOfRange_39247_11 rfl ?_
    refine fr_iload_n 2 dJ7_copyOfRange_39247_12 rfl ?_
    obtain ⟨u3, eu3, h⟩ := ob h
    try dsimp only at h
    obtain ⟨r2, er2, h⟩ := ob h
    try dsimp only at h
    refine fr_callS (g1 := true) (k2 := 0) (ev_J7_copyOfRangeByte_39247 hv er2) rfl cyJ7_copyOfRangeByte_39247 w_1304 w_1305 (by rfl) (by omega) (by omega) (by rfl) (Nat.le_of_ble_eq_true rfl) dJ7_copyOfRange_39247_13 (Or.inr ⟨rfl, gd_L eu3, roG_ok hv⟩) (fun v M9 q _ => ?_) (fun E M9 q _ => (Sum.inr_ne_inl q.1).elim)
    obtain rfl : v = some (.ref r2.1) := Sum.inl.inj q.1
    obtain rfl := q.2.symm
    refine fr_st (S' := [.ref r2.1]) rfl ?_
    obtain rfl := Option.some.inj h
    exact fr_aret (Or.inr ⟨_, rfl⟩) rfl dJ7_copyOfRange_39247_16 ⟨rfl, rfl⟩
  · rw [if_pos c1] at h
    refine fr_iload_n 2 dJ7_copyOfRange_39247_4 rfl ?_
    refine fr_aload_n 0 dJ7_copyOfRange_39247_5 rfl ?_
    obtain ⟨x4, ex4, h⟩ := ob h
    try dsimp only at h
    refine fr_bL ex4 dJ7_copyOfRange_39247_6 ?_
    refine fr_icmp_eq 17 dJ7_copyOfRange_39247_7 (by decide) (fun c5 => by rw [if_pos c5] at h; cases h) (fun c5 => ?_)
    rw [if_neg c5] at h
    refine fr_aload_n 0 dJ7_copyOfRange_39247_10 rfl ?_
    refine fr_iload_n 1 dJ7_copyOfRange_39247_11 rfl ?_
    refine fr_iload_n 2 dJ7_copyOfRange_39247_12 rfl ?_
    obtain ⟨u7, eu7, h⟩ := ob h
    try dsimp only at h
    obtain ⟨r6, er6, h⟩ := ob h
    try dsimp only at h
    refine fr_callS (g1 := true) (k2 := 0) (ev_J7_copyOfRangeByte_39247 hv er6) rfl cyJ7_copyOfRangeByte_39247 w_1304 w_1305 (by rfl) (by omega) (by omega) (by rfl) (Nat.le_of_ble_eq_true rfl) dJ7_copyOfRange_39247_13 (Or.inr ⟨rfl, gd_L eu7, roG_ok hv⟩) (fun v M9 q _ => ?_) (fun E M9 q _ => (Sum.inr_ne_inl q.1).elim)
    obtain rfl : v = some (.ref r6.1) := Sum.inl.inj q.1
    obtain rfl := q.2.symm
    refine fr_st (S' := [.ref r6.1]) rfl ?_
    obtain rfl := Option.some.inj h
    exact fr_aret (Or.inr ⟨_, rfl⟩) rfl dJ7_copyOfRange_39247_16 ⟨rfl, rfl⟩
def f_J0_init_db425 (p0a : Nat) (p1a : Nat) (M : Mem) : Option (Unit × Mem) := (rc M 1 p1a).bind fun _ => (f_J5_getValue_6d5f1 p1a M).bind fun r1 => (rc M 1 p1a).bind fun _ => (f_J4_length_8abf5 p1a M).bind fun r3 => (rc M 1 p1a).bind fun _ => (f_J5_isLatin1_aae02 p1a M).bind fun r5 => if r5 = 0 then none else ((sI M 0 p0a 1 .byte 0).bind fun M8 => (gd M8 [(0, .ref p0a), (1, .ref p1a), (2, .null), (3, .ref r1), (4, .int r3)] [.ref p0a]).bind fun _ => (f_J7_copyOfRange_39247 r1 0 r3 M8).bind fun r9 => (sP r9.2 0 p0a 0 r9.1).bind fun M11 => some ((), M11))
set_option maxRecDepth 20000 in
theorem ev_J0_init_db425 {G : Nat × (Nat → Int32) × Value} (hv : rob G.2.2) {p0a : Nat} {p1a : Nat} {M : Mem} {r : Unit × Mem} (h : f_J0_init_db425 p0a p1a M = some r) : Ev (roG G) true YJ0_init_db425 3 1 [.ref p0a, .ref p1a, .null] M (fun a b => a = wU r.1 ∧ b = r.2) := by
  refine ev_of cyJ0_init_db425.2.2.2.2 (Nat.le_of_ble_eq_true rfl) ?_
  show Fr _ _ _ _ _ _ 0 [(0, .ref p0a), (1, .ref p1a), (2, .null)] [] M _
  unfold f_J0_init_db425 at h
  refine fr_aload_n 0 dJ0_init_db425_0 rfl ?_
  refine fr_objInit w_1286 w_56 w_57 (by omega) (Nat.le_of_ble_eq_true rfl) dJ0_init_db425_1 ?_
  refine fr_aload_n 1 dJ0_init_db425_4 rfl ?_
  obtain ⟨u2, eu2, h⟩ := ob h
  try dsimp only at h
  obtain ⟨r1, er1, h⟩ := ob h
  try dsimp only at h
  refine fr_callV (g1 := false) (k2 := 1) (ev_J5_getValue_6d5f1 er1) rfl cyJ5_getValue_6d5f1 w_1287 w_1288 w_1290 (rc_ok eu2 rfl (by decide)) (by rfl) (by omega) (by omega) (by rfl) (Nat.le_of_ble_eq_true rfl) dJ0_init_db425_5 (Or.inl rfl) (fun v M9 q _ => ?_) (fun E M9 q _ => (Sum.inr_ne_inl q.1).elim)
  obtain rfl : v = some (.ref r1) := Sum.inl.inj q.1
  obtain rfl := q.2.symm
  refine fr_st (S' := [.ref r1]) rfl ?_
  refine fr_astore_n (L' := [(0, .ref p0a), (1, .ref p1a), (2, .null), (3, .ref r1)]) dJ0_init_db425_8 (by decide) rfl ?_
  refine fr_aload_n 1 dJ0_init_db425_9 rfl ?_
  obtain ⟨u4, eu4, h⟩ := ob h
  try dsimp only at h
  obtain ⟨r3, er3, h⟩ := ob h
  try dsimp only at h
  refine fr_callVU (g1 := false) (k2 := 1) (ev_J4_length_8abf5 er3) rfl cyJ4_length_8abf5 w_1292 w_1296 w_91022 w_1293 w_1299 (fun _ _ h => h _ w_1295) (by decide) rfl (rc_ok eu4 rfl (by decide)) (by rfl) (by omega) (by omega) (by rfl) (Nat.le_of_ble_eq_true rfl) dJ0_init_db425_10 (Or.inl rfl) (fun v M9 q _ => ?_) (fun E M9 q _ => (Sum.inr_ne_inl q.1).elim)
  obtain rfl : v = some (.int r3) := Sum.inl.inj q.1
  obtain rfl := q.2.symm
  refine fr_st (S' := [.int r3]) rfl ?_
  refine fr_istore (L' := [(0, .ref p0a), (1, .ref p1a), (2, .null), (3, .ref r1), (4, .int r3)]) dJ0_init_db425_13 (by decide) rfl ?_
  refine fr_aload_n 1 dJ0_init_db425_15 rfl ?_
  obtain ⟨u6, eu6, h⟩ := ob h
  try dsimp only at h
  obtain ⟨r5, er5, h⟩ := ob h
  try dsimp only at h
  refine fr_callV (g1 := false) (k2 := 1) (ev_J5_isLatin1_aae02 er5) rfl cyJ5_isLatin1_aae02 w_1300 w_1196 w_1198 (rc_ok eu6 rfl (by decide)) (by rfl) (by omega) (by omega) (by rfl) (Nat.le_of_ble_eq_true rfl) dJ0_init_db425_16 (Or.inl rfl) (fun v M9 q _ => ?_) (fun E M9 q _ => (Sum.inr_ne_inl q.1).elim)
  obtain rfl : v = some (.int r5) := Sum.inl.inj q.1
  obtain rfl := q.2.symm
  refine fr_st (S' := [.int r5]) rfl ?_
  refine fr_if_eq 41 dJ0_init_db425_19 (by decide) (fun c7 => by rw [if_pos c7] at h; cases h) (fun c7 => ?_)
  rw [if_neg c7] at h
  refine fr_aload_n 0 dJ0_init_db425_22 rfl ?_
  refine fr_iconst (v := 0) dJ0_init_db425_23 (by decide) ?_
  obtain ⟨M8, eM8, h⟩ := ob h
  try dsimp only at h
  refine fr_sIF cb0 1 (by decide) rfl rfl rfl rfl w_1329 dJ0_init_db425_24 eM8 ?_
  refine fr_aload_n 0 dJ0_init_db425_27 rfl ?_
  refine fr_aload_n 3 dJ0_init_db425_28 rfl ?_
  refine fr_iconst (v := 0) dJ0_init_db425_29 (by decide) ?_
  refine fr_iload 4 dJ0_init_db425_30 rfl ?_
  obtain ⟨u10, eu10, h⟩ := ob h
  try dsimp only at h
  obtain ⟨r9, er9, h⟩ := ob h
  try dsimp only at h
  refine fr_callS (g1 := true) (k2 := 0) (ev_J7_copyOfRange_39247 hv er9) rfl cyJ7_copyOfRange_39247 w_1301 w_1302 (by rfl) (by omega) (by omega) (by rfl) (Nat.le_of_ble_eq_true rfl) dJ0_init_db425_32 (Or.inr ⟨rfl, gd_L eu10, roG_ok hv⟩) (fun v M9 q _ => ?_) (fun E M9 q _ => (Sum.inr_ne_inl q.1).elim)
  obtain rfl : v = some (.ref r9.1) := Sum.inl.inj q.1
  obtain rfl := q.2.symm
  refine fr_st (S' := [.ref r9.1, .ref p0a]) rfl ?_
  obtain ⟨M11, eM11, h⟩ := ob h
  try dsimp only at h
  refine fr_sPF cb0 0 (by decide) rfl rfl rfl rfl w_1328 dJ0_init_db425_35 rfl eM11 ?_
  refine fr_goto 97 dJ0_init_db425_38 (by decide) ?_
  obtain rfl := Option.some.inj h
  exact fr_vret rfl dJ0_init_db425_97 ⟨rfl, rfl⟩
def f_J0_init_81219 (p0a : Nat) (p1a : Nat) (M : Mem) : Option (Unit × Mem) := (gd M [(0, .ref p0a), (1, .ref p1a)] []).bind fun _ => (f_J0_init_db425 p0a p1a M).bind fun r1 => some ((), r1.2)
set_option maxRecDepth 20000 in
theorem ev_J0_init_81219 {G : Nat × (Nat → Int32) × Value} (hv : rob G.2.2) {p0a : Nat} {p1a : Nat} {M : Mem} {r : Unit × Mem} (h : f_J0_init_81219 p0a p1a M = some r) : Ev (roG G) true YJ0_init_81219 4 1 [.ref p0a, .ref p1a] M (fun a b => a = wU r.1 ∧ b = r.2) := by
  refine ev_of cyJ0_init_81219.2.2.2.2 (Nat.le_of_ble_eq_true rfl) ?_
  show Fr _ _ _ _ _ _ 0 [(0, .ref p0a), (1, .ref p1a)] [] M _
  unfold f_J0_init_81219 at h
  refine fr_aload_n 0 dJ0_init_81219_0 rfl ?_
  refine fr_aload_n 1 dJ0_init_81219_1 rfl ?_
  refine fr_anull dJ0_init_81219_2 ?_
  obtain ⟨u2, eu2, h⟩ := ob h
  try dsimp only at h
  obtain ⟨r1, er1, h⟩ := ob h
  try dsimp only at h
  refine fr_callI (g1 := true) (k2 := 0) (ev_J0_init_db425 hv er1) rfl cyJ0_init_db425 rfl rfl w_1283 w_1284 (by rfl) (by omega) (by omega) (by rfl) (Nat.le_of_ble_eq_true rfl) dJ0_init_81219_3 (Or.inr ⟨rfl, gd_L eu2, roG_ok hv⟩) (fun v M9 q _ => ?_) (fun E M9 q _ => (Sum.inr_ne_inl q.1).elim)
  obtain rfl : v = none := Sum.inl.inj q.1
  obtain rfl := q.2.symm
  refine fr_st (S' := []) rfl ?_
  obtain rfl := Option.some.inj h
  exact fr_vret rfl dJ0_init_81219_6 ⟨rfl, rfl⟩
def f_J4_toString_0e30d (p0a : Nat) (M : Mem) : Option (Nat × Mem) := (gd M [(0, .ref p0a)] []).bind fun _ => (some (mNew M 0 0)).bind fun M2 => (gd M2 [(0, .ref p0a)] [.ref (mN M)]).bind fun _ => (f_J0_init_81219 (mN M) p0a M2).bind fun r3 => some ((mN M), r3.2)
set_option maxRecDepth 20000 in
theorem ev_J4_toString_0e30d {G : Nat × (Nat → Int32) × Value} (hv : rob G.2.2) {p0a : Nat} {M : Mem} {r : Nat × Mem} (h : f_J4_toString_0e30d p0a M = some r) : Ev (roG G) true YJ4_toString_0e30d 5 2 [.ref p0a] M (fun a b => a = wP r.1 ∧ b = r.2) := by
  refine ev_of cyJ4_toString_0e30d.2.2.2.2 (Nat.le_of_ble_eq_true rfl) ?_
  show Fr _ _ _ _ _ _ 0 [(0, .ref p0a)] [] M _
  unfold f_J4_toString_0e30d at h
  obtain ⟨u1, eu1, h⟩ := ob h
  try dsimp only at h
  obtain ⟨M2, eM2, h⟩ := ob h
  try dsimp only at h
  obtain rfl := Option.some.inj eM2
  refine fr_newg (k2 := 1) cb0 w_1279 w_490 w_32 (gd_N eu1) (gd_L eu1) (roG_ok hv) (by decide) dJ4_toString_0e30d_0 (by omega) ?_
  refine fr_dup dJ4_toString_0e30d_3 rfl ?_
  refine fr_aload_n 0 dJ4_toString_0e30d_4 rfl ?_
  obtain ⟨u4, eu4, h⟩ := ob h
  try dsimp only at h
  obtain ⟨r3, er3, h⟩ := ob h
  try dsimp only at h
  refine fr_callI (g1 := true) (k2 := 0) (ev_J0_init_81219 hv er3) rfl cyJ0_init_81219 rfl rfl w_1280 w_1281 (by rfl) (by omega) (by omega) (by rfl) (Nat.le_of_ble_eq_true rfl) dJ4_toString_0e30d_5 (Or.inr ⟨rfl, gd_L eu4, roG_ok hv⟩) (fun v M9 q _ => ?_) (fun E M9 q _ => (Sum.inr_ne_inl q.1).elim)
  obtain rfl : v = none := Sum.inl.inj q.1
  obtain rfl := q.2.symm
  refine fr_st (S' := [.ref (mN M)]) rfl ?_
  obtain rfl := Option.some.inj h
  exact fr_aret (Or.inl ⟨_, rfl⟩) rfl dJ4_toString_0e30d_8 ⟨rfl, rfl⟩
