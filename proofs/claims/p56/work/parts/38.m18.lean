/-! ===== methods, 18: L_thrown ===== -/
def rg_L_thrown_82 (p_0 : Nat) (l_1 : Int64) (x_3 : Int32) (x_4 : Int32) (M_ : Mem) : Option ((Mem) ⊕ (Int32 × Mem)) := if x_3 < 9 then (some (.inl M_)) else ((f_L_addSheet p_0 0 0 0 0 115 M_).bind fun r15 => if r15.1 = (-1002) then (some (.inl r15.2)) else none)
def rg_L_thrown_266 (p_0 : Nat) (l_1 : Int64) (x_3 : Int32) (x_4 : Int32) (M_ : Mem) : Option ((Mem) ⊕ (Int32 × Mem)) := (rc M_ 10 p_0).bind fun _ => (f_X10_paste p_0 M_).bind fun r44 => if r44 < 31 then (some (.inl M_)) else ((f_L_addPaste p_0 20 M_).bind fun r47 => if r47.1 = (-1002) then (some (.inl r47.2)) else none)
def rg_L_thrown_337 (p_0 : Nat) (l_1 : Int64) (x_3 : Int32) (x_4 : Int32) (x_5 : Int32) (x_6 : Int32) (M_ : Mem) : Option ((Int32 × Mem) ⊕ (Int32 × Mem)) := (f_L_creaseCount p_0 x_6 M_).bind fun r54 => if r54 = 0 then (if x_5 = 0 then none else ((f_L_fold p_0 x_6 M_).bind fun r57 => if r57.1 = (-1002) then (some (.inl (1, r57.2))) else none)) else ((f_L_isFolded p_0 x_6 M_).bind fun r59 => if r59 = 1 then (if x_5 = 0 then none else ((f_L_fold p_0 x_6 M_).bind fun r62 => if r62.1 = (-1002) then (some (.inl (1, r62.2))) else none)) else ((f_L_cellOf p_0 x_6 M_).bind fun r64 => if r64 < 0 then (some (.inl (x_5, M_))) else (if x_5 = 0 then none else ((f_L_fold p_0 x_6 M_).bind fun r67 => if r67.1 = (-1002) then (some (.inl (1, r67.2))) else none))))
def rg_L_thrown_389 (p_0 : Nat) (l_1 : Int64) (x_3 : Int32) (x_4 : Int32) (x_5 : Int32) (x_6 : Int32) (M_ : Mem) : Option ((Int32 × Mem) ⊕ (Int32 × Mem)) := (f_L_wear p_0 x_6 M_).bind fun r70 => if r70 = 0 then (if x_5 = 0 then none else ((f_L_mend p_0 x_6 M_).bind fun r73 => if r73.1 = (-1002) then (some (.inl (1, r73.2))) else none)) else ((f_L_isFolded p_0 x_6 M_).bind fun r75 => if r75 = 1 then (if x_5 = 0 then none else ((f_L_mend p_0 x_6 M_).bind fun r85 => if r85.1 = (-1002) then (some (.inl (1, r85.2))) else none)) else ((f_L_wear p_0 x_6 M_).bind fun r77 => (rc M_ 10 p_0).bind fun _ => (f_X10_paste p_0 M_).bind fun r78 => if r77 ≤ r78 then (some (.inl (x_5, M_))) else (if x_5 = 0 then none else ((f_L_mend p_0 x_6 M_).bind fun r82 => if r82.1 = (-1003) then (some (.inl (1, r82.2))) else none))))
def rg_L_thrown_472 (p_0 : Nat) (l_1 : Int64) (x_3 : Int32) (x_4 : Int32) (x_5 : Int32) (x_6 : Int32) (M_ : Mem) : Option ((Int32 × Mem) ⊕ (Int32 × Mem)) := (f_L_creaseCount p_0 x_6 M_).bind fun r88 => if r88 = 6 then (if x_5 = 0 then none else ((f_L_addCrease p_0 x_6 118 M_).bind fun r91 => if r91.1 = (-1003) then (some (.inl (1, r91.2))) else none)) else ((f_L_isFolded p_0 x_6 M_).bind fun r93 => if r93 = 1 then (if x_5 = 0 then none else ((f_L_addCrease p_0 x_6 118 M_).bind fun r96 => if r96.1 = (-1003) then (some (.inl (1, r96.2))) else none)) else (some (.inl (x_5, M_))))
def rg_L_thrown_519 (p_0 : Nat) (l_1 : Int64) (x_3 : Int32) (x_4 : Int32) (x_5 : Int32) (x_6 : Int32) (M_ : Mem) : Option ((Int32 × Mem) ⊕ (Int32 × Mem)) := (f_L_cellOf p_0 x_6 M_).bind fun r99 => if r99 < 0 then (some (.inl (x_5, M_))) else (if x_5 = 0 then none else ((f_L_cellOf p_0 x_6 M_).bind fun r102 => (f_L_put p_0 x_6 r102 0 M_).bind fun r103 => if r103.1 = (-1003) then ((f_L_matches p_0 x_6 0 0 r103.2).bind fun r105 => if r105 = (-1003) then (some (.inl (1, r103.2))) else none) else none))
def lp_L_thrown_297 (p_0 : Nat) (l_1 : Int64) (x_3 : Int32) (x_4 : Int32) : Nat → Int32 → Int32 → Mem → Option ((Int32 × Int32 × Mem) ⊕ (Int32 × Mem))
  | 0, _, _, _ => none
  | n + 1, x_5, x_6, M_ => if x_3 ≤ x_6 then (some (.inl (x_5, x_6, M_))) else (if x_5 = 0 then none else ((f_L_isFolded p_0 x_6 M_).bind fun r52 => if r52 = 1 then ((rg_L_thrown_337 p_0 l_1 x_3 x_4 1 x_6 M_).bind fun q69 => match q69 with | .inl (q69_5, q69_M) => ((rg_L_thrown_389 p_0 l_1 x_3 x_4 q69_5 x_6 q69_M).bind fun q87 => match q87 with | .inl (q87_5, q87_M) => ((rg_L_thrown_472 p_0 l_1 x_3 x_4 q87_5 x_6 q87_M).bind fun q98 => match q98 with | .inl (q98_5, q98_M) => ((rg_L_thrown_519 p_0 l_1 x_3 x_4 q98_5 x_6 q98_M).bind fun q107 => match q107 with | .inl (q107_5, q107_M) => (if q107_5 = 0 then none else ((f_L_crease p_0 x_6 (-1) q107_M).bind fun r109 => if r109 = (-1001) then ((f_L_creaseCount p_0 x_6 q107_M).bind fun r111 => (f_L_crease p_0 x_6 r111 q107_M).bind fun r112 => if r112 = (-1001) then ((f_L_onTop p_0 x_6 (-1) q107_M).bind fun r114 => if r114.1 = (-1001) then ((f_L_creaseCount p_0 x_6 r114.2).bind fun r116 => (f_L_onTop p_0 x_6 (r116 + 1) r114.2).bind fun r117 => if r117.1 = (-1001) then ((f_L_border p_0 x_6 4 r117.2).bind fun r119 => if r119 = (-1002) then ((f_L_border p_0 x_6 (-1) r117.2).bind fun r121 => if r121 = (-1002) then ((f_L_matches p_0 x_6 9 0 r117.2).bind fun r123 => if r123 = (-1001) then ((f_L_matches p_0 x_6 0 4 r117.2).bind fun r125 => if r125 = (-1002) then (lp_L_thrown_297 p_0 l_1 x_3 x_4 n 1 (x_6 + 1) r117.2) else none) else none) else none) else none) else none) else none) else none) else none)) | .inr q107_r => some (.inr q107_r)) | .inr q98_r => some (.inr q98_r)) | .inr q87_r => some (.inr q87_r)) | .inr q69_r => some (.inr q69_r)) else ((f_L_unfold p_0 x_6 M_).bind fun r127 => if r127.1 = (-1002) then ((rg_L_thrown_337 p_0 l_1 x_3 x_4 1 x_6 r127.2).bind fun q129 => match q129 with | .inl (q129_5, q129_M) => ((rg_L_thrown_389 p_0 l_1 x_3 x_4 q129_5 x_6 q129_M).bind fun q130 => match q130 with | .inl (q130_5, q130_M) => ((rg_L_thrown_472 p_0 l_1 x_3 x_4 q130_5 x_6 q130_M).bind fun q131 => match q131 with | .inl (q131_5, q131_M) => ((rg_L_thrown_519 p_0 l_1 x_3 x_4 q131_5 x_6 q131_M).bind fun q132 => match q132 with | .inl (q132_5, q132_M) => (if q132_5 = 0 then none else ((f_L_crease p_0 x_6 (-1) q132_M).bind fun r134 => if r134 = (-1001) then ((f_L_creaseCount p_0 x_6 q132_M).bind fun r136 => (f_L_crease p_0 x_6 r136 q132_M).bind fun r137 => if r137 = (-1001) then ((f_L_onTop p_0 x_6 (-1) q132_M).bind fun r139 => if r139.1 = (-1001) then ((f_L_creaseCount p_0 x_6 r139.2).bind fun r141 => (f_L_onTop p_0 x_6 (r141 + 1) r139.2).bind fun r142 => if r142.1 = (-1001) then ((f_L_border p_0 x_6 4 r142.2).bind fun r144 => if r144 = (-1002) then ((f_L_border p_0 x_6 (-1) r142.2).bind fun r146 => if r146 = (-1002) then ((f_L_matches p_0 x_6 9 0 r142.2).bind fun r148 => if r148 = (-1001) then ((f_L_matches p_0 x_6 0 4 r142.2).bind fun r150 => if r150 = (-1002) then (lp_L_thrown_297 p_0 l_1 x_3 x_4 n 1 (x_6 + 1) r142.2) else none) else none) else none) else none) else none) else none) else none) else none)) | .inr q132_r => some (.inr q132_r)) | .inr q131_r => some (.inr q131_r)) | .inr q130_r => some (.inr q130_r)) | .inr q129_r => some (.inr q129_r)) else none)))
def rg_L_thrown_720 (p_0 : Nat) (l_1 : Int64) (x_3 : Int32) (x_4 : Int32) (x_5 : Int32) (x_6 : Int32) (M_ : Mem) : Option ((Int32 × Mem) ⊕ (Int32 × Mem)) := (f_L_sheetIn p_0 x_6 M_).bind fun r154 => if r154 = (-1002) then (if x_5 = 0 then none else ((f_L_take p_0 x_6 M_).bind fun r157 => if r157.1 = (-1002) then ((f_L_turnsIn p_0 x_6 r157.2).bind fun r159 => if r159 = (-1002) then ((f_L_borderIn p_0 x_6 0 r157.2).bind fun r161 => if r161 = (-1003) then ((f_L_pointsOf p_0 x_6 r157.2).bind fun r163 => if r163 = (-1002) then ((f_L_groupSize p_0 x_6 r157.2).bind fun r165 => if r165 = (-1002) then (some (.inl (1, r157.2))) else none) else none) else none) else none) else none)) else (some (.inl (x_5, M_)))
def lp_L_thrown_713 (p_0 : Nat) (l_1 : Int64) (x_3 : Int32) (x_4 : Int32) : Nat → Int32 → Int32 → Mem → Option ((Int32 × Int32 × Mem) ⊕ (Int32 × Mem))
  | 0, _, _, _ => none
  | n + 1, x_5, x_6, M_ => if 9 ≤ x_6 then (some (.inl (x_5, x_6, M_))) else ((rg_L_thrown_720 p_0 l_1 x_3 x_4 x_5 x_6 M_).bind fun q167 => match q167 with | .inl (q167_5, q167_M) => (lp_L_thrown_713 p_0 l_1 x_3 x_4 n q167_5 (x_6 + 1) q167_M) | .inr q167_r => some (.inr q167_r))
def rg_L_thrown_1073 (p_0 : Nat) (l_1 : Int64) (x_3 : Int32) (x_4 : Int32) (x_5 : Int32) (x_6 : Int32) (M_ : Mem) : Option ((Mem) ⊕ (Int32 × Mem)) := (rc M_ 10 p_0).bind fun _ => (f_X10_emptyCells p_0 M_).bind fun r214 => if r214 < 4 then (some (.inl M_)) else ((f_L_completions p_0 M_).bind fun r217 => if r217.1 = (-1001) then ((f_L_backwards p_0 r217.2).bind fun r219 => if r219.1 = (-1001) then (some (.inl r219.2)) else none) else none)
def f_L_thrown (p0a : Nat) (M : Mem) : Option (Int32 × Mem) := (f_L_asks p0a M).bind fun r1 => (rc r1.2 10 p0a).bind fun _ => (f_X10_sheetCount p0a r1.2).bind fun r2 => (rc r1.2 10 p0a).bind fun _ => (f_X10_undoCount p0a r1.2).bind fun r4 => (f_L_addSheet p0a (-1) 0 0 0 115 r1.2).bind fun r6 => if r6.1 = (-1001) then ((f_L_addSheet p0a 0 10 0 0 115 r6.2).bind fun r8 => if r8.1 = (-1001) then ((f_L_addSheet p0a 0 0 0 10 108 r8.2).bind fun r10 => if r10.1 = (-1001) then ((f_L_addSheet p0a 0 0 0 0 83 r10.2).bind fun r12 => if r12.1 = (-1001) then ((rg_L_thrown_82 p0a r1.1 r2 r4 r12.2).bind fun q17 => match q17 with | .inl q17_M => ((f_L_addCrease p0a r2 120 q17_M).bind fun r18 => if r18.1 = (-1001) then ((f_L_addCrease p0a 0 120 r18.2).bind fun r20 => if r20.1 = (-1002) then ((f_L_fold p0a r2 r20.2).bind fun r22 => if r22.1 = (-1001) then ((f_L_unfold p0a (-1) r22.2).bind fun r24 => if r24.1 = (-1001) then ((f_L_mend p0a r2 r24.2).bind fun r26 => if r26.1 = (-1001) then ((f_L_put p0a r2 0 9 r26.2).bind fun r28 => if r28.1 = (-1001) then ((f_L_put p0a 0 9 9 r28.2).bind fun r30 => if r30.1 = (-1001) then ((f_L_put p0a 0 (-1) 0 r30.2).bind fun r32 => if r32.1 = (-1001) then ((f_L_put p0a 0 0 4 r32.2).bind fun r34 => if r34.1 = (-1002) then ((f_L_put p0a 0 0 (-1) r34.2).bind fun r36 => if r36.1 = (-1002) then ((f_L_take p0a 9 r36.2).bind fun r38 => if r38.1 = (-1001) then ((f_L_addPaste p0a 0 r38.2).bind fun r40 => if r40.1 = (-1001) then ((f_L_addPaste p0a 21 r40.2).bind fun r42 => if r42.1 = (-1001) then ((rg_L_thrown_266 p0a r1.1 r2 r4 r42.2).bind fun q49 => match q49 with | .inl q49_M => ((lp_L_thrown_297 p0a r1.1 r2 r4 10 1 0 q49_M).bind fun q152 => match q152 with | .inl (q152_5, q152_6, q152_M) => ((lp_L_thrown_713 p0a r1.1 r2 r4 10 q152_5 0 q152_M).bind fun q168 => match q168 with | .inl (q168_5, q168_6, q168_M) => (if q168_5 = 0 then none else ((f_L_kind p0a r2 q168_M).bind fun r170 => if r170 = (-1001) then ((f_L_border p0a r2 9 q168_M).bind fun r172 => if r172 = (-1001) then ((f_L_wear p0a r2 q168_M).bind fun r174 => if r174 = (-1001) then ((f_L_isTorn p0a (-1) q168_M).bind fun r176 => if r176 = (-1001) then ((f_L_isFolded p0a r2 q168_M).bind fun r178 => if r178 = (-1001) then ((f_L_creaseCount p0a r2 q168_M).bind fun r180 => if r180 = (-1001) then ((f_L_crease p0a r2 0 q168_M).bind fun r182 => if r182 = (-1001) then ((f_L_cellOf p0a r2 q168_M).bind fun r184 => if r184 = (-1001) then ((f_L_sheetIn p0a (-1) q168_M).bind fun r186 => if r186 = (-1001) then ((f_L_turnsIn p0a 9 q168_M).bind fun r188 => if r188 = (-1001) then ((f_L_borderIn p0a 9 9 q168_M).bind fun r190 => if r190 = (-1001) then ((f_L_borderIn p0a 0 9 q168_M).bind fun r192 => if r192 = (-1002) then ((f_L_matches p0a r2 0 9 q168_M).bind fun r194 => if r194 = (-1001) then ((f_L_waysToPut p0a r2 q168_M).bind fun r196 => if r196 = (-1001) then ((f_L_foldings p0a r2 q168_M).bind fun r198 => if r198.1 = (-1001) then ((f_L_byPermutations p0a (-1) r198.2).bind fun r200 => if r200 = (-1001) then ((f_L_onTop p0a r2 0 r198.2).bind fun r202 => if r202.1 = (-1001) then ((f_L_pointsOf p0a 9 r202.2).bind fun r204 => if r204 = (-1001) then ((f_L_groupSize p0a 9 r202.2).bind fun r206 => if r206 = (-1001) then ((f_L_byWear p0a r2 r202.2).bind fun r208 => if r208 = (-1001) then ((f_L_byWear p0a (-1) r202.2).bind fun r210 => if r210 = (-1001) then ((f_L_writeSheet p0a r2 r202.2).bind fun r212 => if r212.1 = (-1001) then ((rg_L_thrown_1073 p0a r1.1 r2 r4 q168_5 q168_6 r212.2).bind fun q221 => match q221 with | .inl q221_M => ((f_L_outputChar p0a (-1) q221_M).bind fun r222 => if r222 = (-1001) then ((f_L_outputChar p0a 40 q221_M).bind fun r224 => if r224 = (-1001) then ((f_L_runs p0a (ROB + 50) q221_M).bind fun r227 => if r227.1 = (-1001) then ((f_L_errorPosition p0a r227.2).bind fun r229 => if r229 = 0 then ((f_L_runs p0a (ROB + 51) r227.2).bind fun r231 => if r231.1 = (-1002) then ((f_L_failedCommand p0a r231.2).bind fun r233 => if r233 = 0 then ((f_L_runs p0a (ROB + 53) r231.2).bind fun r235 => if r235.1 = (-1002) then ((f_L_errorPosition p0a r235.2).bind fun r237 => if r237 = 0 then ((rc r235.2 10 p0a).bind fun _ => (f_X10_undoCount p0a r235.2).bind fun r239 => if r239 = r4 then ((f_L_asks p0a r235.2).bind fun r242 => if (lg_cmp r242.1 r1.1) = 0 then (some (1, r242.2)) else none) else none) else none) else none) else none) else none) else none) else none) else none) else none) | .inr q221_r => some q221_r) else none) else none) else none) else none) else none) else none) else none) else none) else none) else none) else none) else none) else none) else none) else none) else none) else none) else none) else none) else none) else none) else none)) | .inr q168_r => some q168_r) | .inr q152_r => some q152_r) | .inr q49_r => some q49_r) else none) else none) else none) else none) else none) else none) else none) else none) else none) else none) else none) else none) else none) | .inr q17_r => some q17_r) else none) else none) else none) else none
set_option maxRecDepth 20000 in
theorem rg_L_thrown_82_ok {G : Nat × (Nat → Int32) × Value} {P : Res → Mem → Prop} {n0 d ke : Nat} {p_0 : Nat} {l_1 : Int64} {x_3 : Int32} {x_4 : Int32} {M_ : Mem} (hd : 20 ≤ d) {res : (Mem) ⊕ (Int32 × Mem)} (h : rg_L_thrown_82 p_0 l_1 x_3 x_4 M_ = some res) (he : ∀ (M9 : Mem), res = .inl M9 → Fr (roG G) false n0 YL_thrown d ke 104 [(0, .ref p_0), (1, .long l_1), (3, .int x_3), (4, .int x_4)] [] M9 P) (hr : ∀ r : Int32 × Mem, res = .inr r → P (wI r.1) r.2) : Fr (roG G) false n0 YL_thrown d (1 + ke) 82 [(0, .ref p_0), (1, .long l_1), (3, .int x_3), (4, .int x_4)] [] M_ P := by
  unfold rg_L_thrown_82 at h
  refine fr_iload_n 2 dL_thrown_82 rfl ?_
  refine fr_bipush (v := 9) dL_thrown_83 (by decide) ?_
  refine fr_icmp_lt 104 dL_thrown_85 (by decide) (fun c14 => ?_) (fun c14 => ?_)
  · rw [if_pos c14] at h
    obtain rfl := Option.some.inj h
    refine fr_room (Nat.le_refl _) (show ke ≤ (1 + ke) by omega) ?_
    exact he _ rfl
  · rw [if_neg c14] at h
    refine fr_aload_n 0 dL_thrown_88 rfl ?_
    refine fr_iconst (v := 0) dL_thrown_89 (by decide) ?_
    refine fr_iconst (v := 0) dL_thrown_90 (by decide) ?_
    refine fr_iconst (v := 0) dL_thrown_91 (by decide) ?_
    refine fr_iconst (v := 0) dL_thrown_92 (by decide) ?_
    refine fr_bipush (v := 115) dL_thrown_93 (by decide) ?_
    obtain ⟨r15, er15, h⟩ := ob h
    try dsimp only at h
    refine fr_callSX (g1 := false) (k2 := ke) (ev_L_addSheet er15) rfl cyL_addSheet w_293 w_294 (by rfl) (by omega) (by omega) (by rfl) (Nat.le_of_ble_eq_true rfl) dL_thrown_95 (Or.inl rfl) (fun v M9 q _ => ?_) (fun E M9 q _ => (Sum.inr_ne_inl q.1).elim)
    obtain rfl : v = some (.int r15.1) := Sum.inl.inj q.1
    obtain rfl := q.2.symm
    refine fr_st (S' := [.int r15.1]) rfl ?_
    refine fr_sipush (v := (-1002)) dL_thrown_98 (by decide) ?_
    refine fr_icmp_ne 291 dL_thrown_101 (by decide) (fun c16 => by rw [if_neg c16] at h; cases h) (fun c16 => ?_)
    rw [if_pos c16] at h
    obtain rfl := Option.some.inj h
    exact he _ rfl
set_option maxRecDepth 20000 in
theorem rg_L_thrown_266_ok {G : Nat × (Nat → Int32) × Value} {P : Res → Mem → Prop} {n0 d ke : Nat} {p_0 : Nat} {l_1 : Int64} {x_3 : Int32} {x_4 : Int32} {M_ : Mem} (hd : 20 ≤ d) {res : (Mem) ⊕ (Int32 × Mem)} (h : rg_L_thrown_266 p_0 l_1 x_3 x_4 M_ = some res) (he : ∀ (M9 : Mem), res = .inl M9 → Fr (roG G) false n0 YL_thrown d ke 287 [(0, .ref p_0), (1, .long l_1), (3, .int x_3), (4, .int x_4)] [] M9 P) (hr : ∀ r : Int32 × Mem, res = .inr r → P (wI r.1) r.2) : Fr (roG G) false n0 YL_thrown d (1 + ke) 266 [(0, .ref p_0), (1, .long l_1), (3, .int x_3), (4, .int x_4)] [] M_ P := by
  unfold rg_L_thrown_266 at h
  refine fr_aload_n 0 dL_thrown_266 rfl ?_
  obtain ⟨u45, eu45, h⟩ := ob h
  try dsimp only at h
  obtain ⟨r44, er44, h⟩ := ob h
  try dsimp only at h
  refine fr_callV (g1 := false) (k2 := (1 + ke)) (ev_X10_paste er44) rfl cyX10_paste w_262 w_263 w_264 (rc_ok eu45 rfl (by decide)) (by rfl) (by omega) (by omega) (by rfl) (Nat.le_of_ble_eq_true rfl) dL_thrown_267 (Or.inl rfl) (fun v M9 q _ => ?_) (fun E M9 q _ => (Sum.inr_ne_inl q.1).elim)
  obtain rfl : v = some (.int r44) := Sum.inl.inj q.1
  obtain rfl := q.2.symm
  refine fr_st (S' := [.int r44]) rfl ?_
  refine fr_bipush (v := 31) dL_thrown_270 (by decide) ?_
  refine fr_icmp_lt 287 dL_thrown_272 (by decide) (fun c46 => ?_) (fun c46 => ?_)
  · rw [if_pos c46] at h
    obtain rfl := Option.some.inj h
    refine fr_room (Nat.le_refl _) (show ke ≤ (1 + ke) by omega) ?_
    exact he _ rfl
  · rw [if_neg c46] at h
    refine fr_aload_n 0 dL_thrown_275 rfl ?_
    refine fr_bipush (v := 20) dL_thrown_276 (by decide) ?_
    obtain ⟨r47, er47, h⟩ := ob h
    try dsimp only at h
    refine fr_callSX (g1 := false) (k2 := ke) (ev_L_addPaste er47) rfl cyL_addPaste w_637 w_638 (by rfl) (by omega) (by omega) (by rfl) (Nat.le_of_ble_eq_true rfl) dL_thrown_278 (Or.inl rfl) (fun v M9 q _ => ?_) (fun E M9 q _ => (Sum.inr_ne_inl q.1).elim)
    obtain rfl : v = some (.int r47.1) := Sum.inl.inj q.1
    obtain rfl := q.2.symm
    refine fr_st (S' := [.int r47.1]) rfl ?_
    refine fr_sipush (v := (-1002)) dL_thrown_281 (by decide) ?_
    refine fr_icmp_ne 291 dL_thrown_284 (by decide) (fun c48 => by rw [if_neg c48] at h; cases h) (fun c48 => ?_)
    rw [if_pos c48] at h
    obtain rfl := Option.some.inj h
    exact he _ rfl
set_option maxRecDepth 20000 in
theorem rg_L_thrown_337_ok {G : Nat × (Nat → Int32) × Value} {P : Res → Mem → Prop} {n0 d ke : Nat} {p_0 : Nat} {l_1 : Int64} {x_3 : Int32} {x_4 : Int32} {x_5 : Int32} {x_6 : Int32} {M_ : Mem} (hd : 20 ≤ d) {res : (Int32 × Mem) ⊕ (Int32 × Mem)} (h : rg_L_thrown_337 p_0 l_1 x_3 x_4 x_5 x_6 M_ = some res) (he : ∀ (y_5 : Int32) (M9 : Mem), res = .inl (y_5, M9) → Fr (roG G) false n0 YL_thrown d ke 389 [(0, .ref p_0), (1, .long l_1), (3, .int x_3), (4, .int x_4), (5, .int y_5), (6, .int x_6)] [] M9 P) (hr : ∀ r : Int32 × Mem, res = .inr r → P (wI r.1) r.2) : Fr (roG G) false n0 YL_thrown d (5 + ke) 337 [(0, .ref p_0), (1, .long l_1), (3, .int x_3), (4, .int x_4), (5, .int x_5), (6, .int x_6)] [] M_ P := by
  unfold rg_L_thrown_337 at h
  refine fr_aload_n 0 dL_thrown_337 rfl ?_
  refine fr_iload 5 dL_thrown_338 rfl ?_
  obtain ⟨r54, er54, h⟩ := ob h
  try dsimp only at h
  refine fr_callSX (g1 := false) (k2 := (4 + ke)) (ev_L_creaseCount er54) rfl cyL_creaseCount w_668 w_669 (by rfl) (by omega) (by omega) (by rfl) (Nat.le_of_ble_eq_true rfl) dL_thrown_340 (Or.inl rfl) (fun v M9 q _ => ?_) (fun E M9 q _ => (Sum.inr_ne_inl q.1).elim)
  obtain rfl : v = some (.int r54) := Sum.inl.inj q.1
  obtain rfl := q.2.symm
  refine fr_st (S' := [.int r54]) rfl ?_
  refine fr_if_eq 365 dL_thrown_343 (by decide) (fun c55 => ?_) (fun c55 => ?_)
  · rw [if_pos c55] at h
    refine fr_iload 4 dL_thrown_365 rfl ?_
    refine fr_if_eq 386 dL_thrown_367 (by decide) (fun c56 => by rw [if_pos c56] at h; cases h) (fun c56 => ?_)
    rw [if_neg c56] at h
    refine fr_aload_n 0 dL_thrown_370 rfl ?_
    refine fr_iload 5 dL_thrown_371 rfl ?_
    obtain ⟨r57, er57, h⟩ := ob h
    try dsimp only at h
    refine fr_callSX (g1 := false) (k2 := (3 + ke)) (ev_L_fold er57) rfl cyL_fold w_510 w_511 (by rfl) (by omega) (by omega) (by rfl) (Nat.le_of_ble_eq_true rfl) dL_thrown_373 (Or.inl rfl) (fun v M9 q _ => ?_) (fun E M9 q _ => (Sum.inr_ne_inl q.1).elim)
    obtain rfl : v = some (.int r57.1) := Sum.inl.inj q.1
    obtain rfl := q.2.symm
    refine fr_st (S' := [.int r57.1]) rfl ?_
    refine fr_sipush (v := (-1002)) dL_thrown_376 (by decide) ?_
    refine fr_icmp_ne 386 dL_thrown_379 (by decide) (fun c58 => by rw [if_neg c58] at h; cases h) (fun c58 => ?_)
    rw [if_pos c58] at h
    refine fr_iconst (v := 1) dL_thrown_382 (by decide) ?_
    refine fr_goto 387 dL_thrown_383 (by decide) ?_
    refine fr_istore (L' := [(0, .ref p_0), (1, .long l_1), (3, .int x_3), (4, .int x_4), (5, .int 1), (6, .int x_6)]) dL_thrown_387 (by decide) rfl ?_
    obtain rfl := Option.some.inj h
    refine fr_room (Nat.le_refl _) (show ke ≤ (3 + ke) by omega) ?_
    exact he _ _ rfl
  · rw [if_neg c55] at h
    refine fr_aload_n 0 dL_thrown_346 rfl ?_
    refine fr_iload 5 dL_thrown_347 rfl ?_
    obtain ⟨r59, er59, h⟩ := ob h
    try dsimp only at h
    refine fr_callSX (g1 := false) (k2 := (3 + ke)) (ev_L_isFolded er59) rfl cyL_isFolded w_661 w_662 (by rfl) (by omega) (by omega) (by rfl) (Nat.le_of_ble_eq_true rfl) dL_thrown_349 (Or.inl rfl) (fun v M9 q _ => ?_) (fun E M9 q _ => (Sum.inr_ne_inl q.1).elim)
    obtain rfl : v = some (.int r59) := Sum.inl.inj q.1
    obtain rfl := q.2.symm
    refine fr_st (S' := [.int r59]) rfl ?_
    refine fr_iconst (v := 1) dL_thrown_352 (by decide) ?_
    refine fr_icmp_eq 365 dL_thrown_353 (by decide) (fun c60 => ?_) (fun c60 => ?_)
    · rw [if_pos c60] at h
      refine fr_iload 4 dL_thrown_365 rfl ?_
      refine fr_if_eq 386 dL_thrown_367 (by decide) (fun c61 => by rw [if_pos c61] at h; cases h) (fun c61 => ?_)
      rw [if_neg c61] at h
      refine fr_aload_n 0 dL_thrown_370 rfl ?_
      refine fr_iload 5 dL_thrown_371 rfl ?_
      obtain ⟨r62, er62, h⟩ := ob h
      try dsimp only at h
      refine fr_callSX (g1 := false) (k2 := (2 + ke)) (ev_L_fold er62) rfl cyL_fold w_510 w_511 (by rfl) (by omega) (by omega) (by rfl) (Nat.le_of_ble_eq_true rfl) dL_thrown_373 (Or.inl rfl) (fun v M9 q _ => ?_) (fun E M9 q _ => (Sum.inr_ne_inl q.1).elim)
      obtain rfl : v = some (.int r62.1) := Sum.inl.inj q.1
      obtain rfl := q.2.symm
      refine fr_st (S' := [.int r62.1]) rfl ?_
      refine fr_sipush (v := (-1002)) dL_thrown_376 (by decide) ?_
      refine fr_icmp_ne 386 dL_thrown_379 (by decide) (fun c63 => by rw [if_neg c63] at h; cases h) (fun c63 => ?_)
      rw [if_pos c63] at h
      refine fr_iconst (v := 1) dL_thrown_382 (by decide) ?_
      refine fr_goto 387 dL_thrown_383 (by decide) ?_
      refine fr_istore (L' := [(0, .ref p_0), (1, .long l_1), (3, .int x_3), (4, .int x_4), (5, .int 1), (6, .int x_6)]) dL_thrown_387 (by decide) rfl ?_
      obtain rfl := Option.some.inj h
      refine fr_room (Nat.le_refl _) (show ke ≤ (2 + ke) by omega) ?_
      exact he _ _ rfl
    · rw [if_neg c60] at h
      refine fr_aload_n 0 dL_thrown_356 rfl ?_
      refine fr_iload 5 dL_thrown_357 rfl ?_
      obtain ⟨r64, er64, h⟩ := ob h
      try dsimp only at h
      refine fr_callSX (g1 := false) (k2 := (1 + ke)) (ev_L_cellOf er64) rfl cyL_cellOf w_1344 w_1345 (by rfl) (by omega) (by omega) (by rfl) (Nat.le_of_ble_eq_true rfl) dL_thrown_359 (Or.inl rfl) (fun v M9 q _ => ?_) (fun E M9 q _ => (Sum.inr_ne_inl q.1).elim)
      obtain rfl : v = some (.int r64) := Sum.inl.inj q.1
      obtain rfl := q.2.symm
      refine fr_st (S' := [.int r64]) rfl ?_
      refine fr_if_lt 389 dL_thrown_362 (by decide) (fun c65 => ?_) (fun c65 => ?_)
      · rw [if_pos c65] at h
        obtain rfl := Option.some.inj h
        refine fr_room (Nat.le_refl _) (show ke ≤ (1 + ke) by omega) ?_
        exact he _ _ rfl
      · rw [if_neg c65] at h
        refine fr_iload 4 dL_thrown_365 rfl ?_
        refine fr_if_eq 386 dL_thrown_367 (by decide) (fun c66 => by rw [if_pos c66] at h; cases h) (fun c66 => ?_)
        rw [if_neg c66] at h
        refine fr_aload_n 0 dL_thrown_370 rfl ?_
        refine fr_iload 5 dL_thrown_371 rfl ?_
        obtain ⟨r67, er67, h⟩ := ob h
        try dsimp only at h
        refine fr_callSX (g1 := false) (k2 := ke) (ev_L_fold er67) rfl cyL_fold w_510 w_511 (by rfl) (by omega) (by omega) (by rfl) (Nat.le_of_ble_eq_true rfl) dL_thrown_373 (Or.inl rfl) (fun v M9 q _ => ?_) (fun E M9 q _ => (Sum.inr_ne_inl q.1).elim)
        obtain rfl : v = some (.int r67.1) := Sum.inl.inj q.1
        obtain rfl := q.2.symm
        refine fr_st (S' := [.int r67.1]) rfl ?_
        refine fr_sipush (v := (-1002)) dL_thrown_376 (by decide) ?_
        refine fr_icmp_ne 386 dL_thrown_379 (by decide) (fun c68 => by rw [if_neg c68] at h; cases h) (fun c68 => ?_)
        rw [if_pos c68] at h
        refine fr_iconst (v := 1) dL_thrown_382 (by decide) ?_
        refine fr_goto 387 dL_thrown_383 (by decide) ?_
        refine fr_istore (L' := [(0, .ref p_0), (1, .long l_1), (3, .int x_3), (4, .int x_4), (5, .int 1), (6, .int x_6)]) dL_thrown_387 (by decide) rfl ?_
        obtain rfl := Option.some.inj h
        exact he _ _ rfl
set_option maxRecDepth 20000 in
theorem rg_L_thrown_389_ok {G : Nat × (Nat → Int32) × Value} {P : Res → Mem → Prop} {n0 d ke : Nat} {p_0 : Nat} {l_1 : Int64} {x_3 : Int32} {x_4 : Int32} {x_5 : Int32} {x_6 : Int32} {M_ : Mem} (hd : 20 ≤ d) {res : (Int32 × Mem) ⊕ (Int32 × Mem)} (h : rg_L_thrown_389 p_0 l_1 x_3 x_4 x_5 x_6 M_ = some res) (he : ∀ (y_5 : Int32) (M9 : Mem), res = .inl (y_5, M9) → Fr (roG G) false n0 YL_thrown d ke 472 [(0, .ref p_0), (1, .long l_1), (3, .int x_3), (4, .int x_4), (5, .int y_5), (6, .int x_6)] [] M9 P) (hr : ∀ r : Int32 × Mem, res = .inr r → P (wI r.1) r.2) : Fr (roG G) false n0 YL_thrown d (5 + ke) 389 [(0, .ref p_0), (1, .long l_1), (3, .int x_3), (4, .int x_4), (5, .int x_5), (6, .int x_6)] [] M_ P := by
  unfold rg_L_thrown_389 at h
  refine fr_aload_n 0 dL_thrown_389 rfl ?_
  refine fr_iload 5 dL_thrown_390 rfl ?_
  obtain ⟨r70, er70, h⟩ := ob h
  try dsimp only at h
  refine fr_callSX (g1 := false) (k2 := (4 + ke)) (ev_L_wear er70) rfl cyL_wear w_648 w_649 (by rfl) (by omega) (by omega) (by rfl) (Nat.le_of_ble_eq_true rfl) dL_thrown_392 (Or.inl rfl) (fun v M9 q _ => ?_) (fun E M9 q _ => (Sum.inr_ne_inl q.1).elim)
  obtain rfl : v = some (.int r70) := Sum.inl.inj q.1
  obtain rfl := q.2.symm
  refine fr_st (S' := [.int r70]) rfl ?_
  refine fr_if_eq 408 dL_thrown_395 (by decide) (fun c71 => ?_) (fun c71 => ?_)
  · rw [if_pos c71] at h
    refine fr_iload 4 dL_thrown_408 rfl ?_
    refine fr_if_eq 429 dL_thrown_410 (by decide) (fun c72 => by rw [if_pos c72] at h; cases h) (fun c72 => ?_)
    rw [if_neg c72] at h
    refine fr_aload_n 0 dL_thrown_413 rfl ?_
    refine fr_iload 5 dL_thrown_414 rfl ?_
    obtain ⟨r73, er73, h⟩ := ob h
    try dsimp only at h
    refine fr_callSX (g1 := false) (k2 := (3 + ke)) (ev_L_mend er73) rfl cyL_mend w_541 w_542 (by rfl) (by omega) (by omega) (by rfl) (Nat.le_of_ble_eq_true rfl) dL_thrown_416 (Or.inl rfl) (fun v M9 q _ => ?_) (fun E M9 q _ => (Sum.inr_ne_inl q.1).elim)
    obtain rfl : v = some (.int r73.1) := Sum.inl.inj q.1
    obtain rfl := q.2.symm
    refine fr_st (S' := [.int r73.1]) rfl ?_
    refine fr_sipush (v := (-1002)) dL_thrown_419 (by decide) ?_
    refine fr_icmp_ne 429 dL_thrown_422 (by decide) (fun c74 => by rw [if_neg c74] at h; cases h) (fun c74 => ?_)
    rw [if_pos c74] at h
    refine fr_iconst (v := 1) dL_thrown_425 (by decide) ?_
    refine fr_goto 430 dL_thrown_426 (by decide) ?_
    refine fr_istore (L' := [(0, .ref p_0), (1, .long l_1), (3, .int x_3), (4, .int x_4), (5, .int 1), (6, .int x_6)]) dL_thrown_430 (by decide) rfl ?_
    refine fr_goto 472 dL_thrown_432 (by decide) ?_
    obtain rfl := Option.some.inj h
    refine fr_room (Nat.le_refl _) (show ke ≤ (3 + ke) by omega) ?_
    exact he _ _ rfl
  · rw [if_neg c71] at h
    refine fr_aload_n 0 dL_thrown_398 rfl ?_
    refine fr_iload 5 dL_thrown_399 rfl ?_
    obtain ⟨r75, er75, h⟩ := ob h
    try dsimp only at h
    refine fr_callSX (g1 := false) (k2 := (3 + ke)) (ev_L_isFolded er75) rfl cyL_isFolded w_661 w_662 (by rfl) (by omega) (by omega) (by rfl) (Nat.le_of_ble_eq_true rfl) dL_thrown_401 (Or.inl rfl) (fun v M9 q _ => ?_) (fun E M9 q _ => (Sum.inr_ne_inl q.1).elim)
    obtain rfl : v = some (.int r75) := Sum.inl.inj q.1
    obtain rfl := q.2.symm
    refine fr_st (S' := [.int r75]) rfl ?_
    refine fr_iconst (v := 1) dL_thrown_404 (by decide) ?_
    refine fr_icmp_ne 435 dL_thrown_405 (by decide) (fun c76 => ?_) (fun c76 => ?_)
    · rw [if_neg c76] at h
      refine fr_aload_n 0 dL_thrown_435 rfl ?_
      refine fr_iload 5 dL_thrown_436 rfl ?_
      obtain ⟨r77, er77, h⟩ := ob h
      try dsimp only at h
      refine fr_callSX (g1 := false) (k2 := (2 + ke)) (ev_L_wear er77) rfl cyL_wear w_648 w_649 (by rfl) (by omega) (by omega) (by rfl) (Nat.le_of_ble_eq_true rfl) dL_thrown_438 (Or.inl rfl) (fun v M9 q _ => ?_) (fun E M9 q _ => (Sum.inr_ne_inl q.1).elim)
      obtain rfl : v = some (.int r77) := Sum.inl.inj q.1
      obtain rfl := q.2.symm
      refine fr_st (S' := [.int r77]) rfl ?_
      refine fr_aload_n 0 dL_thrown_441 rfl ?_
      obtain ⟨u79, eu79, h⟩ := ob h
      try dsimp only at h
      obtain ⟨r78, er78, h⟩ := ob h
      try dsimp only at h
      refine fr_callV (g1 := false) (k2 := (2 + ke)) (ev_X10_paste er78) rfl cyX10_paste w_262 w_263 w_264 (rc_ok eu79 rfl (by decide)) (by rfl) (by omega) (by omega) (by rfl) (Nat.le_of_ble_eq_true rfl) dL_thrown_442 (Or.inl rfl) (fun v M9 q _ => ?_) (fun E M9 q _ => (Sum.inr_ne_inl q.1).elim)
      obtain rfl : v = some (.int r78) := Sum.inl.inj q.1
      obtain rfl := q.2.symm
      refine fr_st (S' := [.int r78, .int r77]) rfl ?_
      refine fr_icmp_le 472 dL_thrown_445 (by decide) (fun c80 => ?_) (fun c80 => ?_)
      · rw [if_pos c80] at h
        obtain rfl := Option.some.inj h
        refine fr_room (Nat.le_refl _) (show ke ≤ (2 + ke) by omega) ?_
        exact he _ _ rfl
      · rw [if_neg c80] at h
        refine fr_iload 4 dL_thrown_448 rfl ?_
        refine fr_if_eq 469 dL_thrown_450 (by decide) (fun c81 => by rw [if_pos c81] at h; cases h) (fun c81 => ?_)
        rw [if_neg c81] at h
        refine fr_aload_n 0 dL_thrown_453 rfl ?_
        refine fr_iload 5 dL_thrown_454 rfl ?_
        obtain ⟨r82, er82, h⟩ := ob h
        try dsimp only at h
        refine fr_callSX (g1 := false) (k2 := (1 + ke)) (ev_L_mend er82) rfl cyL_mend w_541 w_542 (by rfl) (by omega) (by omega) (by rfl) (Nat.le_of_ble_eq_true rfl) dL_thrown_456 (Or.inl rfl) (fun v M9 q _ => ?_) (fun E M9 q _ => (Sum.inr_ne_inl q.1).elim)
        obtain rfl : v = some (.int r82.1) := Sum.inl.inj q.1
        obtain rfl := q.2.symm
        refine fr_st (S' := [.int r82.1]) rfl ?_
        refine fr_sipush (v := (-1003)) dL_thrown_459 (by decide) ?_
        refine fr_icmp_ne 469 dL_thrown_462 (by decide) (fun c83 => by rw [if_neg c83] at h; cases h) (fun c83 => ?_)
        rw [if_pos c83] at h
        refine fr_iconst (v := 1) dL_thrown_465 (by decide) ?_
        refine fr_goto 470 dL_thrown_466 (by decide) ?_
        refine fr_istore (L' := [(0, .ref p_0), (1, .long l_1), (3, .int x_3), (4, .int x_4), (5, .int 1), (6, .int x_6)]) dL_thrown_470 (by decide) rfl ?_
        obtain rfl := Option.some.inj h
        refine fr_room (Nat.le_refl _) (show ke ≤ (1 + ke) by omega) ?_
        exact he _ _ rfl
    · rw [if_pos c76] at h
      refine fr_iload 4 dL_thrown_408 rfl ?_
      refine fr_if_eq 429 dL_thrown_410 (by decide) (fun c84 => by rw [if_pos c84] at h; cases h) (fun c84 => ?_)
      rw [if_neg c84] at h
      refine fr_aload_n 0 dL_thrown_413 rfl ?_
      refine fr_iload 5 dL_thrown_414 rfl ?_
      obtain ⟨r85, er85, h⟩ := ob h
      try dsimp only at h
      refine fr_callSX (g1 := false) (k2 := (2 + ke)) (ev_L_mend er85) rfl cyL_mend w_541 w_542 (by rfl) (by omega) (by omega) (by rfl) (Nat.le_of_ble_eq_true rfl) dL_thrown_416 (Or.inl rfl) (fun v M9 q _ => ?_) (fun E M9 q _ => (Sum.inr_ne_inl q.1).elim)
      obtain rfl : v = some (.int r85.1) := Sum.inl.inj q.1
      obtain rfl := q.2.symm
      refine fr_st (S' := [.int r85.1]) rfl ?_
      refine fr_sipush (v := (-1002)) dL_thrown_419 (by decide) ?_
      refine fr_icmp_ne 429 dL_thrown_422 (by decide) (fun c86 => by rw [if_neg c86] at h; cases h) (fun c86 => ?_)
      rw [if_pos c86] at h
      refine fr_iconst (v := 1) dL_thrown_425 (by decide) ?_
      refine fr_goto 430 dL_thrown_426 (by decide) ?_
      refine fr_istore (L' := [(0, .ref p_0), (1, .long l_1), (3, .int x_3), (4, .int x_4), (5, .int 1), (6, .int x_6)]) dL_thrown_430 (by decide) rfl ?_
      refine fr_goto 472 dL_thrown_432 (by decide) ?_
      obtain rfl := Option.some.inj h
      refine fr_room (Nat.le_refl _) (show ke ≤ (2 + ke) by omega) ?_
      exact he _ _ rfl
set_option maxRecDepth 20000 in
theorem rg_L_thrown_472_ok {G : Nat × (Nat → Int32) × Value} {P : Res → Mem → Prop} {n0 d ke : Nat} {p_0 : Nat} {l_1 : Int64} {x_3 : Int32} {x_4 : Int32} {x_5 : Int32} {x_6 : Int32} {M_ : Mem} (hd : 20 ≤ d) {res : (Int32 × Mem) ⊕ (Int32 × Mem)} (h : rg_L_thrown_472 p_0 l_1 x_3 x_4 x_5 x_6 M_ = some res) (he : ∀ (y_5 : Int32) (M9 : Mem), res = .inl (y_5, M9) → Fr (roG G) false n0 YL_thrown d ke 519 [(0, .ref p_0), (1, .long l_1), (3, .int x_3), (4, .int x_4), (5, .int y_5), (6, .int x_6)] [] M9 P) (hr : ∀ r : Int32 × Mem, res = .inr r → P (wI r.1) r.2) : Fr (roG G) false n0 YL_thrown d (3 + ke) 472 [(0, .ref p_0), (1, .long l_1), (3, .int x_3), (4, .int x_4), (5, .int x_5), (6, .int x_6)] [] M_ P := by
  unfold rg_L_thrown_472 at h
  refine fr_aload_n 0 dL_thrown_472 rfl ?_
  refine fr_iload 5 dL_thrown_473 rfl ?_
  obtain ⟨r88, er88, h⟩ := ob h
  try dsimp only at h
  refine fr_callSX (g1 := false) (k2 := (2 + ke)) (ev_L_creaseCount er88) rfl cyL_creaseCount w_668 w_669 (by rfl) (by omega) (by omega) (by rfl) (Nat.le_of_ble_eq_true rfl) dL_thrown_475 (Or.inl rfl) (fun v M9 q _ => ?_) (fun E M9 q _ => (Sum.inr_ne_inl q.1).elim)
  obtain rfl : v = some (.int r88) := Sum.inl.inj q.1
  obtain rfl := q.2.symm
  refine fr_st (S' := [.int r88]) rfl ?_
  refine fr_bipush (v := 6) dL_thrown_478 (by decide) ?_
  refine fr_icmp_eq 493 dL_thrown_480 (by decide) (fun c89 => ?_) (fun c89 => ?_)
  · rw [if_pos c89] at h
    refine fr_iload 4 dL_thrown_493 rfl ?_
    refine fr_if_eq 516 dL_thrown_495 (by decide) (fun c90 => by rw [if_pos c90] at h; cases h) (fun c90 => ?_)
    rw [if_neg c90] at h
    refine fr_aload_n 0 dL_thrown_498 rfl ?_
    refine fr_iload 5 dL_thrown_499 rfl ?_
    refine fr_bipush (v := 118) dL_thrown_501 (by decide) ?_
    obtain ⟨r91, er91, h⟩ := ob h
    try dsimp only at h
    refine fr_callSX (g1 := false) (k2 := (1 + ke)) (ev_L_addCrease er91) rfl cyL_addCrease w_471 w_472 (by rfl) (by omega) (by omega) (by rfl) (Nat.le_of_ble_eq_true rfl) dL_thrown_503 (Or.inl rfl) (fun v M9 q _ => ?_) (fun E M9 q _ => (Sum.inr_ne_inl q.1).elim)
    obtain rfl : v = some (.int r91.1) := Sum.inl.inj q.1
    obtain rfl := q.2.symm
    refine fr_st (S' := [.int r91.1]) rfl ?_
    refine fr_sipush (v := (-1003)) dL_thrown_506 (by decide) ?_
    refine fr_icmp_ne 516 dL_thrown_509 (by decide) (fun c92 => by rw [if_neg c92] at h; cases h) (fun c92 => ?_)
    rw [if_pos c92] at h
    refine fr_iconst (v := 1) dL_thrown_512 (by decide) ?_
    refine fr_goto 517 dL_thrown_513 (by decide) ?_
    refine fr_istore (L' := [(0, .ref p_0), (1, .long l_1), (3, .int x_3), (4, .int x_4), (5, .int 1), (6, .int x_6)]) dL_thrown_517 (by decide) rfl ?_
    obtain rfl := Option.some.inj h
    refine fr_room (Nat.le_refl _) (show ke ≤ (1 + ke) by omega) ?_
    exact he _ _ rfl
  · rw [if_neg c89] at h
    refine fr_aload_n 0 dL_thrown_483 rfl ?_
    refine fr_iload 5 dL_thrown_484 rfl ?_
    obtain ⟨r93, er93, h⟩ := ob h
    try dsimp only at h
    refine fr_callSX (g1 := false) (k2 := (1 + ke)) (ev_L_isFolded er93) rfl cyL_isFolded w_661 w_662 (by rfl) (by omega) (by omega) (by rfl) (Nat.le_of_ble_eq_true rfl) dL_thrown_486 (Or.inl rfl) (fun v M9 q _ => ?_) (fun E M9 q _ => (Sum.inr_ne_inl q.1).elim)
    obtain rfl : v = some (.int r93) := Sum.inl.inj q.1
    obtain rfl := q.2.symm
    refine fr_st (S' := [.int r93]) rfl ?_
    refine fr_iconst (v := 1) dL_thrown_489 (by decide) ?_
    refine fr_icmp_ne 519 dL_thrown_490 (by decide) (fun c94 => ?_) (fun c94 => ?_)
    · rw [if_neg c94] at h
      obtain rfl := Option.some.inj h
      refine fr_room (Nat.le_refl _) (show ke ≤ (1 + ke) by omega) ?_
      exact he _ _ rfl
    · rw [if_pos c94] at h
      refine fr_iload 4 dL_thrown_493 rfl ?_
      refine fr_if_eq 516 dL_thrown_495 (by decide) (fun c95 => by rw [if_pos c95] at h; cases h) (fun c95 => ?_)
      rw [if_neg c95] at h
      refine fr_aload_n 0 dL_thrown_498 rfl ?_
      refine fr_iload 5 dL_thrown_499 rfl ?_
      refine fr_bipush (v := 118) dL_thrown_501 (by decide) ?_
      obtain ⟨r96, er96, h⟩ := ob h
      try dsimp only at h
      refine fr_callSX (g1 := false) (k2 := ke) (ev_L_addCrease er96) rfl cyL_addCrease w_471 w_472 (by rfl) (by omega) (by omega) (by rfl) (Nat.le_of_ble_eq_true rfl) dL_thrown_503 (Or.inl rfl) (fun v M9 q _ => ?_) (fun E M9 q _ => (Sum.inr_ne_inl q.1).elim)
      obtain rfl : v = some (.int r96.1) := Sum.inl.inj q.1
      obtain rfl := q.2.symm
      refine fr_st (S' := [.int r96.1]) rfl ?_
      refine fr_sipush (v := (-1003)) dL_thrown_506 (by decide) ?_
      refine fr_icmp_ne 516 dL_thrown_509 (by decide) (fun c97 => by rw [if_neg c97] at h; cases h) (fun c97 => ?_)
      rw [if_pos c97] at h
      refine fr_iconst (v := 1) dL_thrown_512 (by decide) ?_
      refine fr_goto 517 dL_thrown_513 (by decide) ?_
      refine fr_istore (L' := [(0, .ref p_0), (1, .long l_1), (3, .int x_3), (4, .int x_4), (5, .int 1), (6, .int x_6)]) dL_thrown_517 (by decide) rfl ?_
      obtain rfl := Option.some.inj h
      exact he _ _ rfl
set_option maxRecDepth 20000 in
theorem rg_L_thrown_519_ok {G : Nat × (Nat → Int32) × Value} {P : Res → Mem → Prop} {n0 d ke : Nat} {p_0 : Nat} {l_1 : Int64} {x_3 : Int32} {x_4 : Int32} {x_5 : Int32} {x_6 : Int32} {M_ : Mem} (hd : 20 ≤ d) {res : (Int32 × Mem) ⊕ (Int32 × Mem)} (h : rg_L_thrown_519 p_0 l_1 x_3 x_4 x_5 x_6 M_ = some res) (he : ∀ (y_5 : Int32) (M9 : Mem), res = .inl (y_5, M9) → Fr (roG G) false n0 YL_thrown d ke 573 [(0, .ref p_0), (1, .long l_1), (3, .int x_3), (4, .int x_4), (5, .int y_5), (6, .int x_6)] [] M9 P) (hr : ∀ r : Int32 × Mem, res = .inr r → P (wI r.1) r.2) : Fr (roG G) false n0 YL_thrown d (8 + ke) 519 [(0, .ref p_0), (1, .long l_1), (3, .int x_3), (4, .int x_4), (5, .int x_5), (6, .int x_6)] [] M_ P := by
  unfold rg_L_thrown_519 at h
  refine fr_aload_n 0 dL_thrown_519 rfl ?_
  refine fr_iload 5 dL_thrown_520 rfl ?_
  obtain ⟨r99, er99, h⟩ := ob h
  try dsimp only at h
  refine fr_callSX (g1 := false) (k2 := (6 + ke)) (ev_L_cellOf er99) rfl cyL_cellOf w_1344 w_1345 (by rfl) (by omega) (by omega) (by rfl) (Nat.le_of_ble_eq_true rfl) dL_thrown_522 (Or.inl rfl) (fun v M9 q _ => ?_) (fun E M9 q _ => (Sum.inr_ne_inl q.1).elim)
  obtain rfl : v = some (.int r99) := Sum.inl.inj q.1
  obtain rfl := q.2.symm
  refine fr_st (S' := [.int r99]) rfl ?_
  refine fr_if_lt 573 dL_thrown_525 (by decide) (fun c100 => ?_) (fun c100 => ?_)
  · rw [if_pos c100] at h
    obtain rfl := Option.some.inj h
    refine fr_room (Nat.le_refl _) (show ke ≤ (6 + ke) by omega) ?_
    exact he _ _ rfl
  · rw [if_neg c100] at h
    refine fr_iload 4 dL_thrown_528 rfl ?_
    refine fr_if_eq 570 dL_thrown_530 (by decide) (fun c101 => by rw [if_pos c101] at h; cases h) (fun c101 => ?_)
    rw [if_neg c101] at h
    refine fr_aload_n 0 dL_thrown_533 rfl ?_
    refine fr_iload 5 dL_thrown_534 rfl ?_
    refine fr_aload_n 0 dL_thrown_536 rfl ?_
    refine fr_iload 5 dL_thrown_537 rfl ?_
    obtain ⟨r102, er102, h⟩ := ob h
    try dsimp only at h
    refine fr_callSX (g1 := false) (k2 := (4 + ke)) (ev_L_cellOf er102) rfl cyL_cellOf w_1344 w_1345 (by rfl) (by omega) (by omega) (by rfl) (Nat.le_of_ble_eq_true rfl) dL_thrown_539 (Or.inl rfl) (fun v M9 q _ => ?_) (fun E M9 q _ => (Sum.inr_ne_inl q.1).elim)
    obtain rfl : v = some (.int r102) := Sum.inl.inj q.1
    obtain rfl := q.2.symm
    refine fr_st (S' := [.int r102, .int x_6, .ref p_0]) rfl ?_
    refine fr_iconst (v := 0) dL_thrown_542 (by decide) ?_
    obtain ⟨r103, er103, h⟩ := ob h
    try dsimp only at h
    refine fr_callSX (g1 := false) (k2 := (3 + ke)) (ev_L_put er103) rfl cyL_put w_553 w_554 (by rfl) (by omega) (by omega) (by rfl) (Nat.le_of_ble_eq_true rfl) dL_thrown_543 (Or.inl rfl) (fun v M9 q _ => ?_) (fun E M9 q _ => (Sum.inr_ne_inl q.1).elim)
    obtain rfl : v = some (.int r103.1) := Sum.inl.inj q.1
    obtain rfl := q.2.symm
    refine fr_st (S' := [.int r103.1]) rfl ?_
    refine fr_sipush (v := (-1003)) dL_thrown_546 (by decide) ?_
    refine fr_icmp_ne 570 dL_thrown_549 (by decide) (fun c104 => by rw [if_neg c104] at h; cases h) (fun c104 => ?_)
    rw [if_pos c104] at h
    refine fr_aload_n 0 dL_thrown_552 rfl ?_
    refine fr_iload 5 dL_thrown_553 rfl ?_
    refine fr_iconst (v := 0) dL_thrown_555 (by decide) ?_
    refine fr_iconst (v := 0) dL_thrown_556 (by decide) ?_
    obtain ⟨r105, er105, h⟩ := ob h
    try dsimp only at h
    refine fr_callSX (g1 := false) (k2 := ke) (ev_L_matches er105) rfl cyL_matches w_1353 w_1354 (by rfl) (by omega) (by omega) (by rfl) (Nat.le_of_ble_eq_true rfl) dL_thrown_557 (Or.inl rfl) (fun v M9 q _ => ?_) (fun E M9 q _ => (Sum.inr_ne_inl q.1).elim)
    obtain rfl : v = some (.int r105) := Sum.inl.inj q.1
    obtain rfl := q.2.symm
    refine fr_st (S' := [.int r105]) rfl ?_
    refine fr_sipush (v := (-1003)) dL_thrown_560 (by decide) ?_
    refine fr_icmp_ne 570 dL_thrown_563 (by decide) (fun c106 => by rw [if_neg c106] at h; cases h) (fun c106 => ?_)
    rw [if_pos c106] at h
    refine fr_iconst (v := 1) dL_thrown_566 (by decide) ?_
    refine fr_goto 571 dL_thrown_567 (by decide) ?_
    refine fr_istore (L' := [(0, .ref p_0), (1, .long l_1), (3, .int x_3), (4, .int x_4), (5, .int 1), (6, .int x_6)]) dL_thrown_571 (by decide) rfl ?_
    obtain rfl := Option.some.inj h
    exact he _ _ rfl
set_option maxRecDepth 20000 in
theorem lp_L_thrown_297_ok {G : Nat × (Nat → Int32) × Value} {P : Res → Mem → Prop} {n0 d ke : Nat} {p_0 : Nat} {l_1 : Int64} {x_3 : Int32} {x_4 : Int32} (hd : 20 ≤ d) : ∀ (n : Nat) (x_5 : Int32) (x_6 : Int32) (M_ : Mem) (res : (Int32 × Int32 × Mem) ⊕ (Int32 × Mem)), lp_L_thrown_297 p_0 l_1 x_3 x_4 n x_5 x_6 M_ = some res → (∀ (y_5 : Int32) (y_6 : Int32) (M9 : Mem), res = .inl (y_5, y_6, M9) → Fr (roG G) false n0 YL_thrown d ke 710 [(0, .ref p_0), (1, .long l_1), (3, .int x_3), (4, .int x_4), (5, .int y_5), (6, .int y_6)] [] M9 P) → (∀ r : Int32 × Mem, res = .inr r → P (wI r.1) r.2) → Fr (roG G) false n0 YL_thrown d (43 * n + ke) 297 [(0, .ref p_0), (1, .long l_1), (3, .int x_3), (4, .int x_4), (5, .int x_5), (6, .int x_6)] [] M_ P := by
  intro n
  induction n with
  | zero => intro x_5 x_6 M_ res h; unfold lp_L_thrown_297 at h; cases h
  | succ n ih =>
    intro x_5 x_6 M_ res h he hr
    unfold lp_L_thrown_297 at h
    refine fr_room (Nat.le_refl _) (show (43 * n + 43 + ke) ≤ 43 * (n + 1) + ke by omega) ?_
    refine fr_iload 5 dL_thrown_297 rfl ?_
    refine fr_iload_n 2 dL_thrown_299 rfl ?_
    refine fr_icmp_ge 710 dL_thrown_300 (by decide) (fun c50 => ?_) (fun c50 => ?_)
    · rw [if_pos c50] at h
      obtain rfl := Option.some.inj h
      refine fr_room (Nat.le_refl _) (show ke ≤ (43 * n + 43 + ke) by omega) ?_
      exact he _ _ _ rfl
    · rw [if_neg c50] at h
      refine fr_iload 4 dL_thrown_303 rfl ?_
      refine fr_if_eq 334 dL_thrown_305 (by decide) (fun c51 => by rw [if_pos c51] at h; cases h) (fun c51 => ?_)
      rw [if_neg c51] at h
      refine fr_aload_n 0 dL_thrown_308 rfl ?_
      refine fr_iload 5 dL_thrown_309 rfl ?_
      obtain ⟨r52, er52, h⟩ := ob h
      try dsimp only at h
      refine fr_callSX (g1 := false) (k2 := (43 * n + 42 + ke)) (ev_L_isFolded er52) rfl cyL_isFolded w_661 w_662 (by rfl) (by omega) (by omega) (by rfl) (Nat.le_of_ble_eq_true rfl) dL_thrown_311 (Or.inl rfl) (fun v M9 q _ => ?_) (fun E M9 q _ => (Sum.inr_ne_inl q.1).elim)
      obtain rfl : v = some (.int r52) := Sum.inl.inj q.1
      obtain rfl := q.2.symm
      refine fr_st (S' := [.int r52]) rfl ?_
      refine fr_iconst (v := 1) dL_thrown_314 (by decide) ?_
      refine fr_icmp_eq 330 dL_thrown_315 (by decide) (fun c53 => ?_) (fun c53 => ?_)
      · rw [if_pos c53] at h
        refine fr_iconst (v := 1) dL_thrown_330 (by decide) ?_
        refine fr_goto 335 dL_thrown_331 (by decide) ?_
        refine fr_istore (L' := [(0, .ref p_0), (1, .long l_1), (3, .int x_3), (4, .int x_4), (5, .int 1), (6, .int x_6)]) dL_thrown_335 (by decide) rfl ?_
        obtain ⟨q69, eq69, h⟩ := ob h
        try dsimp only at h
        refine fr_room (k' := 5 + (43 * n + 37 + ke)) (Nat.le_refl _) (by omega) ?_
        refine rg_L_thrown_337_ok (by omega) eq69 (fun q69_5 q69_M e9 => ?_) (fun q69_r e9 => ?_)
        · subst e9
          try dsimp only at h
          obtain ⟨q87, eq87, h⟩ := ob h
          try dsimp only at h
          refine fr_room (k' := 5 + (43 * n + 32 + ke)) (Nat.le_refl _) (by omega) ?_
          refine rg_L_thrown_389_ok (by omega) eq87 (fun q87_5 q87_M e9 => ?_) (fun q87_r e9 => ?_)
          · subst e9
            try dsimp only at h
            obtain ⟨q98, eq98, h⟩ := ob h
            try dsimp only at h
            refine fr_room (k' := 3 + (43 * n + 29 + ke)) (Nat.le_refl _) (by omega) ?_
            refine rg_L_thrown_472_ok (by omega) eq98 (fun q98_5 q98_M e9 => ?_) (fun q98_r e9 => ?_)
            · subst e9
              try dsimp only at h
              obtain ⟨q107, eq107, h⟩ := ob h
              try dsimp only at h
              refine fr_room (k' := 8 + (43 * n + 21 + ke)) (Nat.le_refl _) (by omega) ?_
              refine rg_L_thrown_519_ok (by omega) eq107 (fun q107_5 q107_M e9 => ?_) (fun q107_r e9 => ?_)
              · subst e9
                try dsimp only at h
                refine fr_iload 4 dL_thrown_573 rfl ?_
                refine fr_if_eq 701 dL_thrown_575 (by decide) (fun c108 => by rw [if_pos c108] at h; cases h) (fun c108 => ?_)
                rw [if_neg c108] at h
                refine fr_aload_n 0 dL_thrown_578 rfl ?_
                refine fr_iload 5 dL_thrown_579 rfl ?_
                refine fr_iconst (v := (-1)) dL_thrown_581 (by decide) ?_
                obtain ⟨r109, er109, h⟩ := ob h
                try dsimp only at h
                refine fr_callSX (g1 := false) (k2 := (43 * n + 19 + ke)) (ev_L_crease er109) rfl cyL_crease w_1363 w_1364 (by rfl) (by omega) (by omega) (by rfl) (Nat.le_of_ble_eq_true rfl) dL_thrown_582 (Or.inl rfl) (fun v M9 q _ => ?_) (fun E M9 q _ => (Sum.inr_ne_inl q.1).elim)
                obtain rfl : v = some (.int r109) := Sum.inl.inj q.1
                obtain rfl := q.2.symm
                refine fr_st (S' := [.int r109]) rfl ?_
                refine fr_sipush (v := (-1001)) dL_thrown_585 (by decide) ?_
                refine fr_icmp_ne 701 dL_thrown_588 (by decide) (fun c110 => by rw [if_neg c110] at h; cases h) (fun c110 => ?_)
                rw [if_pos c110] at h
                refine fr_aload_n 0 dL_thrown_591 rfl ?_
                refine fr_iload 5 dL_thrown_592 rfl ?_
                refine fr_aload_n 0 dL_thrown_594 rfl ?_
                refine fr_iload 5 dL_thrown_595 rfl ?_
                obtain ⟨r111, er111, h⟩ := ob h
                try dsimp only at h
                refine fr_callSX (g1 := false) (k2 := (43 * n + 18 + ke)) (ev_L_creaseCount er111) rfl cyL_creaseCount w_668 w_669 (by rfl) (by omega) (by omega) (by rfl) (Nat.le_of_ble_eq_true rfl) dL_thrown_597 (Or.inl rfl) (fun v M9 q _ => ?_) (fun E M9 q _ => (Sum.inr_ne_inl q.1).elim)
                obtain rfl : v = some (.int r111) := Sum.inl.inj q.1
                obtain rfl := q.2.symm
                refine fr_st (S' := [.int r111, .int x_6, .ref p_0]) rfl ?_
                obtain ⟨r112, er112, h⟩ := ob h
                try dsimp only at h
                refine fr_callSX (g1 := false) (k2 := (43 * n + 16 + ke)) (ev_L_crease er112) rfl cyL_crease w_1363 w_1364 (by rfl) (by omega) (by omega) (by rfl) (Nat.le_of_ble_eq_true rfl) dL_thrown_600 (Or.inl rfl) (fun v M9 q _ => ?_) (fun E M9 q _ => (Sum.inr_ne_inl q.1).elim)
                obtain rfl : v = some (.int r112) := Sum.inl.inj q.1
                obtain rfl := q.2.symm
                refine fr_st (S' := [.int r112]) rfl ?_
                refine fr_sipush (v := (-1001)) dL_thrown_603 (by decide) ?_
                refine fr_icmp_ne 701 dL_thrown_606 (by decide) (fun c113 => by rw [if_neg c113] at h; cases h) (fun c113 => ?_)
                rw [if_pos c113] at h
                refine fr_aload_n 0 dL_thrown_609 rfl ?_
                refine fr_iload 5 dL_thrown_610 rfl ?_
                refine fr_iconst (v := (-1)) dL_thrown_612 (by decide) ?_
                obtain ⟨r114, er114, h⟩ := ob h
                try dsimp only at h
                refine fr_callSX (g1 := false) (k2 := (43 * n + 14 + ke)) (ev_L_onTop er114) rfl cyL_onTop w_1371 w_1372 (by rfl) (by omega) (by omega) (by rfl) (Nat.le_of_ble_eq_true rfl) dL_thrown_613 (Or.inl rfl) (fun v M9 q _ => ?_) (fun E M9 q _ => (Sum.inr_ne_inl q.1).elim)
                obtain rfl : v = some (.int r114.1) := Sum.inl.inj q.1
                obtain rfl := q.2.symm
                refine fr_st (S' := [.int r114.1]) rfl ?_
                refine fr_sipush (v := (-1001)) dL_thrown_616 (by decide) ?_
                refine fr_icmp_ne 701 dL_thrown_619 (by decide) (fun c115 => by rw [if_neg c115] at h; cases h) (fun c115 => ?_)
                rw [if_pos c115] at h
                refine fr_aload_n 0 dL_thrown_622 rfl ?_
                refine fr_iload 5 dL_thrown_623 rfl ?_
                refine fr_aload_n 0 dL_thrown_625 rfl ?_
                refine fr_iload 5 dL_thrown_626 rfl ?_
                obtain ⟨r116, er116, h⟩ := ob h
                try dsimp only at h
                refine fr_callSX (g1 := false) (k2 := (43 * n + 13 + ke)) (ev_L_creaseCount er116) rfl cyL_creaseCount w_668 w_669 (by rfl) (by omega) (by omega) (by rfl) (Nat.le_of_ble_eq_true rfl) dL_thrown_628 (Or.inl rfl) (fun v M9 q _ => ?_) (fun E M9 q _ => (Sum.inr_ne_inl q.1).elim)
                obtain rfl : v = some (.int r116) := Sum.inl.inj q.1
                obtain rfl := q.2.symm
                refine fr_st (S' := [.int r116, .int x_6, .ref p_0]) rfl ?_
                refine fr_iconst (v := 1) dL_thrown_631 (by decide) ?_
                refine fr_iadd dL_thrown_632 ?_
                obtain ⟨r117, er117, h⟩ := ob h
                try dsimp only at h
                refine fr_callSX (g1 := false) (k2 := (43 * n + 11 + ke)) (ev_L_onTop er117) rfl cyL_onTop w_1371 w_1372 (by rfl) (by omega) (by omega) (by rfl) (Nat.le_of_ble_eq_true rfl) dL_thrown_633 (Or.inl rfl) (fun v M9 q _ => ?_) (fun E M9 q _ => (Sum.inr_ne_inl q.1).elim)
                obtain rfl : v = some (.int r117.1) := Sum.inl.inj q.1
                obtain rfl := q.2.symm
                refine fr_st (S' := [.int r117.1]) rfl ?_
                refine fr_sipush (v := (-1001)) dL_thrown_636 (by decide) ?_
                refine fr_icmp_ne 701 dL_thrown_639 (by decide) (fun c118 => by rw [if_neg c118] at h; cases h) (fun c118 => ?_)
                rw [if_pos c118] at h
                refine fr_aload_n 0 dL_thrown_642 rfl ?_
                refine fr_iload 5 dL_thrown_643 rfl ?_
                refine fr_iconst (v := 4) dL_thrown_645 (by decide) ?_
                obtain ⟨r119, er119, h⟩ := ob h
                try dsimp only at h
                refine fr_callSX (g1 := false) (k2 := (43 * n + 9 + ke)) (ev_L_border er119) rfl cyL_border w_1379 w_1380 (by rfl) (by omega) (by omega) (by rfl) (Nat.le_of_ble_eq_true rfl) dL_thrown_646 (Or.inl rfl) (fun v M9 q _ => ?_) (fun E M9 q _ => (Sum.inr_ne_inl q.1).elim)
                obtain rfl : v = some (.int r119) := Sum.inl.inj q.1
                obtain rfl := q.2.symm
                refine fr_st (S' := [.int r119]) rfl ?_
                refine fr_sipush (v := (-1002)) dL_thrown_649 (by decide) ?_
                refine fr_icmp_ne 701 dL_thrown_652 (by decide) (fun c120 => by rw [if_neg c120] at h; cases h) (fun c120 => ?_)
                rw [if_pos c120] at h
                refine fr_aload_n 0 dL_thrown_655 rfl ?_
                refine fr_iload 5 dL_thrown_656 rfl ?_
                refine fr_iconst (v := (-1)) dL_thrown_658 (by decide) ?_
                obtain ⟨r121, er121, h⟩ := ob h
                try dsimp only at h
                refine fr_callSX (g1 := false) (k2 := (43 * n + 7 + ke)) (ev_L_border er121) rfl cyL_border w_1379 w_1380 (by rfl) (by omega) (by omega) (by rfl) (Nat.le_of_ble_eq_true rfl) dL_thrown_659 (Or.inl rfl) (fun v M9 q _ => ?_) (fun E M9 q _ => (Sum.inr_ne_inl q.1).elim)
                obtain rfl : v = some (.int r121) := Sum.inl.inj q.1
                obtain rfl := q.2.symm
                refine fr_st (S' := [.int r121]) rfl ?_
                refine fr_sipush (v := (-1002)) dL_thrown_662 (by decide) ?_
                refine fr_icmp_ne 701 dL_thrown_665 (by decide) (fun c122 => by rw [if_neg c122] at h; cases h) (fun c122 => ?_)
                rw [if_pos c122] at h
                refine fr_aload_n 0 dL_thrown_668 rfl ?_
                refine fr_iload 5 dL_thrown_669 rfl ?_
                refine fr_bipush (v := 9) dL_thrown_671 (by decide) ?_
                refine fr_iconst (v := 0) dL_thrown_673 (by decide) ?_
                obtain ⟨r123, er123, h⟩ := ob h
                try dsimp only at h
                refine fr_callSX (g1 := false) (k2 := (43 * n + 4 + ke)) (ev_L_matches er123) rfl cyL_matches w_1353 w_1354 (by rfl) (by omega) (by omega) (by rfl) (Nat.le_of_ble_eq_true rfl) dL_thrown_674 (Or.inl rfl) (fun v M9 q _ => ?_) (fun E M9 q _ => (Sum.inr_ne_inl q.1).elim)
                obtain rfl : v = some (.int r123) := Sum.inl.inj q.1
                obtain rfl := q.2.symm
                refine fr_st (S' := [.int r123]) rfl ?_
                refine fr_sipush (v := (-1001)) dL_thrown_677 (by decide) ?_
                refine fr_icmp_ne 701 dL_thrown_680 (by decide) (fun c124 => by rw [if_neg c124] at h; cases h) (fun c124 => ?_)
                rw [if_pos c124] at h
                refine fr_aload_n 0 dL_thrown_683 rfl ?_
                refine fr_iload 5 dL_thrown_684 rfl ?_
                refine fr_iconst (v := 0) dL_thrown_686 (by decide) ?_
                refine fr_iconst (v := 4) dL_thrown_687 (by decide) ?_
                obtain ⟨r125, er125, h⟩ := ob h
                try dsimp only at h
                refine fr_callSX (g1 := false) (k2 := (43 * n + 1 + ke)) (ev_L_matches er125) rfl cyL_matches w_1353 w_1354 (by rfl) (by omega) (by omega) (by rfl) (Nat.le_of_ble_eq_true rfl) dL_thrown_688 (Or.inl rfl) (fun v M9 q _ => ?_) (fun E M9 q _ => (Sum.inr_ne_inl q.1).elim)
                obtain rfl : v = some (.int r125) := Sum.inl.inj q.1
                obtain rfl := q.2.symm
                refine fr_st (S' := [.int r125]) rfl ?_
                refine fr_sipush (v := (-1002)) dL_thrown_691 (by decide) ?_
                refine fr_icmp_ne 701 dL_thrown_694 (by decide) (fun c126 => by rw [if_neg c126] at h; cases h) (fun c126 => ?_)
                rw [if_pos c126] at h
                refine fr_iconst (v := 1) dL_thrown_697 (by decide) ?_
                refine fr_goto 702 dL_thrown_698 (by decide) ?_
                refine fr_istore (L' := [(0, .ref p_0), (1, .long l_1), (3, .int x_3), (4, .int x_4), (5, .int 1), (6, .int x_6)]) dL_thrown_702 (by decide) rfl ?_
                refine fr_iinc (v := (x_6 + 1)) (L' := [(0, .ref p_0), (1, .long l_1), (3, .int x_3), (4, .int x_4), (5, .int 1), (6, .int (x_6 + 1))]) 5 dL_thrown_704 rfl rfl (by decide) rfl ?_
                refine fr_goto 297 dL_thrown_707 (by decide) ?_
                refine fr_room (Nat.le_refl _) (show (43 * n + 0 + ke) ≤ (43 * n + 1 + ke) by omega) ?_
                exact ih _ _ _ _ h he hr
              · subst e9
                try dsimp only at h
                obtain rfl := Option.some.inj h
                exact hr _ rfl
            · subst e9
              try dsimp only at h
              obtain rfl := Option.some.inj h
              exact hr _ rfl
          · subst e9
            try dsimp only at h
            obtain rfl := Option.some.inj h
            exact hr _ rfl
        · subst e9
          try dsimp only at h
          obtain rfl := Option.some.inj h
          exact hr _ rfl
      · rw [if_neg c53] at h
        refine fr_aload_n 0 dL_thrown_318 rfl ?_
        refine fr_iload 5 dL_thrown_319 rfl ?_
        obtain ⟨r127, er127, h⟩ := ob h
        try dsimp only at h
        refine fr_callSX (g1 := false) (k2 := (43 * n + 41 + ke)) (ev_L_unfold er127) rfl cyL_unfold w_526 w_527 (by rfl) (by omega) (by omega) (by rfl) (Nat.le_of_ble_eq_true rfl) dL_thrown_321 (Or.inl rfl) (fun v M9 q _ => ?_) (fun E M9 q _ => (Sum.inr_ne_inl q.1).elim)
        obtain rfl : v = some (.int r127.1) := Sum.inl.inj q.1
        obtain rfl := q.2.symm
        refine fr_st (S' := [.int r127.1]) rfl ?_
        refine fr_sipush (v := (-1002)) dL_thrown_324 (by decide) ?_
        refine fr_icmp_ne 334 dL_thrown_327 (by decide) (fun c128 => by rw [if_neg c128] at h; cases h) (fun c128 => ?_)
        rw [if_pos c128] at h
        refine fr_iconst (v := 1) dL_thrown_330 (by decide) ?_
        refine fr_goto 335 dL_thrown_331 (by decide) ?_
        refine fr_istore (L' := [(0, .ref p_0), (1, .long l_1), (3, .int x_3), (4, .int x_4), (5, .int 1), (6, .int x_6)]) dL_thrown_335 (by decide) rfl ?_
        obtain ⟨q129, eq129, h⟩ := ob h
        try dsimp only at h
        refine fr_room (k' := 5 + (43 * n + 36 + ke)) (Nat.le_refl _) (by omega) ?_
        refine rg_L_thrown_337_ok (by omega) eq129 (fun q129_5 q129_M e9 => ?_) (fun q129_r e9 => ?_)
        · subst e9
          try dsimp only at h
          obtain ⟨q130, eq130, h⟩ := ob h
          try dsimp only at h
          refine fr_room (k' := 5 + (43 * n + 31 + ke)) (Nat.le_refl _) (by omega) ?_
          refine rg_L_thrown_389_ok (by omega) eq130 (fun q130_5 q130_M e9 => ?_) (fun q130_r e9 => ?_)
          · subst e9
            try dsimp only at h
            obtain ⟨q131, eq131, h⟩ := ob h
            try dsimp only at h
            refine fr_room (k' := 3 + (43 * n + 28 + ke)) (Nat.le_refl _) (by omega) ?_
            refine rg_L_thrown_472_ok (by omega) eq131 (fun q131_5 q131_M e9 => ?_) (fun q131_r e9 => ?_)
            · subst e9
              try dsimp only at h
              obtain ⟨q132, eq132, h⟩ := ob h
              try dsimp only at h
              refine fr_room (k' := 8 + (43 * n + 20 + ke)) (Nat.le_refl _) (by omega) ?_
              refine rg_L_thrown_519_ok (by omega) eq132 (fun q132_5 q132_M e9 => ?_) (fun q132_r e9 => ?_)
              · subst e9
                try dsimp only at h
                refine fr_iload 4 dL_thrown_573 rfl ?_
                refine fr_if_eq 701 dL_thrown_575 (by decide) (fun c133 => by rw [if_pos c133] at h; cases h) (fun c133 => ?_)
                rw [if_neg c133] at h
                refine fr_aload_n 0 dL_thrown_578 rfl ?_
                refine fr_iload 5 dL_thrown_579 rfl ?_
                refine fr_iconst (v := (-1)) dL_thrown_581 (by decide) ?_
                obtain ⟨r134, er134, h⟩ := ob h
                try dsimp only at h
                refine fr_callSX (g1 := false) (k2 := (43 * n + 18 + ke)) (ev_L_crease er134) rfl cyL_crease w_1363 w_1364 (by rfl) (by omega) (by omega) (by rfl) (Nat.le_of_ble_eq_true rfl) dL_thrown_582 (Or.inl rfl) (fun v M9 q _ => ?_) (fun E M9 q _ => (Sum.inr_ne_inl q.1).elim)
                obtain rfl : v = some (.int r134) := Sum.inl.inj q.1
                obtain rfl := q.2.symm
                refine fr_st (S' := [.int r134]) rfl ?_
                refine fr_sipush (v := (-1001)) dL_thrown_585 (by decide) ?_
                refine fr_icmp_ne 701 dL_thrown_588 (by decide) (fun c135 => by rw [if_neg c135] at h; cases h) (fun c135 => ?_)
                rw [if_pos c135] at h
                refine fr_aload_n 0 dL_thrown_591 rfl ?_
                refine fr_iload 5 dL_thrown_592 rfl ?_
                refine fr_aload_n 0 dL_thrown_594 rfl ?_
                refine fr_iload 5 dL_thrown_595 rfl ?_
                obtain ⟨r136, er136, h⟩ := ob h
                try dsimp only at h
                refine fr_callSX (g1 := false) (k2 := (43 * n + 17 + ke)) (ev_L_creaseCount er136) rfl cyL_creaseCount w_668 w_669 (by rfl) (by omega) (by omega) (by rfl) (Nat.le_of_ble_eq_true rfl) dL_thrown_597 (Or.inl rfl) (fun v M9 q _ => ?_) (fun E M9 q _ => (Sum.inr_ne_inl q.1).elim)
                obtain rfl : v = some (.int r136) := Sum.inl.inj q.1
                obtain rfl := q.2.symm
                refine fr_st (S' := [.int r136, .int x_6, .ref p_0]) rfl ?_
                obtain ⟨r137, er137, h⟩ := ob h
                try dsimp only at h
                refine fr_callSX (g1 := false) (k2 := (43 * n + 15 + ke)) (ev_L_crease er137) rfl cyL_crease w_1363 w_1364 (by rfl) (by omega) (by omega) (by rfl) (Nat.le_of_ble_eq_true rfl) dL_thrown_600 (Or.inl rfl) (fun v M9 q _ => ?_) (fun E M9 q _ => (Sum.inr_ne_inl q.1).elim)
                obtain rfl : v = some (.int r137) := Sum.inl.inj q.1
                obtain rfl := q.2.symm
                refine fr_st (S' := [.int r137]) rfl ?_
                refine fr_sipush (v := (-1001)) dL_thrown_603 (by decide) ?_
                refine fr_icmp_ne 701 dL_thrown_606 (by decide) (fun c138 => by rw [if_neg c138] at h; cases h) (fun c138 => ?_)
                rw [if_pos c138] at h
                refine fr_aload_n 0 dL_thrown_609 rfl ?_
                refine fr_iload 5 dL_thrown_610 rfl ?_
                refine fr_iconst (v := (-1)) dL_thrown_612 (by decide) ?_
                obtain ⟨r139, er139, h⟩ := ob h
                try dsimp only at h
                refine fr_callSX (g1 := false) (k2 := (43 * n + 13 + ke)) (ev_L_onTop er139) rfl cyL_onTop w_1371 w_1372 (by rfl) (by omega) (by omega) (by rfl) (Nat.le_of_ble_eq_true rfl) dL_thrown_613 (Or.inl rfl) (fun v M9 q _ => ?_) (fun E M9 q _ => (Sum.inr_ne_inl q.1).elim)
                obtain rfl : v = some (.int r139.1) := Sum.inl.inj q.1
                obtain rfl := q.2.symm
                refine fr_st (S' := [.int r139.1]) rfl ?_
                refine fr_sipush (v := (-1001)) dL_thrown_616 (by decide) ?_
                refine fr_icmp_ne 701 dL_thrown_619 (by decide) (fun c140 => by rw [if_neg c140] at h; cases h) (fun c140 => ?_)
                rw [if_pos c140] at h
                refine fr_aload_n 0 dL_thrown_622 rfl ?_
                refine fr_iload 5 dL_thrown_623 rfl ?_
                refine fr_aload_n 0 dL_thrown_625 rfl ?_
                refine fr_iload 5 dL_thrown_626 rfl ?_
                obtain ⟨r141, er141, h⟩ := ob h
                try dsimp only at h
                refine fr_callSX (g1 := false) (k2 := (43 * n + 12 + ke)) (ev_L_creaseCount er141) rfl cyL_creaseCount w_668 w_669 (by rfl) (by omega) (by omega) (by rfl) (Nat.le_of_ble_eq_true rfl) dL_thrown_628 (Or.inl rfl) (fun v M9 q _ => ?_) (fun E M9 q _ => (Sum.inr_ne_inl q.1).elim)
                obtain rfl : v = some (.int r141) := Sum.inl.inj q.1
                obtain rfl := q.2.symm
                refine fr_st (S' := [.int r141, .int x_6, .ref p_0]) rfl ?_
                refine fr_iconst (v := 1) dL_thrown_631 (by decide) ?_
                refine fr_iadd dL_thrown_632 ?_
                obtain ⟨r142, er142, h⟩ := ob h
                try dsimp only at h
                refine fr_callSX (g1 := false) (k2 := (43 * n + 10 + ke)) (ev_L_onTop er142) rfl cyL_onTop w_1371 w_1372 (by rfl) (by omega) (by omega) (by rfl) (Nat.le_of_ble_eq_true rfl) dL_thrown_633 (Or.inl rfl) (fun v M9 q _ => ?_) (fun E M9 q _ => (Sum.inr_ne_inl q.1).elim)
                obtain rfl : v = some (.int r142.1) := Sum.inl.inj q.1
                obtain rfl := q.2.symm
                refine fr_st (S' := [.int r142.1]) rfl ?_
                refine fr_sipush (v := (-1001)) dL_thrown_636 (by decide) ?_
                refine fr_icmp_ne 701 dL_thrown_639 (by decide) (fun c143 => by rw [if_neg c143] at h; cases h) (fun c143 => ?_)
                rw [if_pos c143] at h
                refine fr_aload_n 0 dL_thrown_642 rfl ?_
                refine fr_iload 5 dL_thrown_643 rfl ?_
                refine fr_iconst (v := 4) dL_thrown_645 (by decide) ?_
                obtain ⟨r144, er144, h⟩ := ob h
                try dsimp only at h
                refine fr_callSX (g1 := false) (k2 := (43 * n + 8 + ke)) (ev_L_border er144) rfl cyL_border w_1379 w_1380 (by rfl) (by omega) (by omega) (by rfl) (Nat.le_of_ble_eq_true rfl) dL_thrown_646 (Or.inl rfl) (fun v M9 q _ => ?_) (fun E M9 q _ => (Sum.inr_ne_inl q.1).elim)
                obtain rfl : v = some (.int r144) := Sum.inl.inj q.1
                obtain rfl := q.2.symm
                refine fr_st (S' := [.int r144]) rfl ?_
                refine fr_sipush (v := (-1002)) dL_thrown_649 (by decide) ?_
                refine fr_icmp_ne 701 dL_thrown_652 (by decide) (fun c145 => by rw [if_neg c145] at h; cases h) (fun c145 => ?_)
                rw [if_pos c145] at h
                refine fr_aload_n 0 dL_thrown_655 rfl ?_
                refine fr_iload 5 dL_thrown_656 rfl ?_
                refine fr_iconst (v := (-1)) dL_thrown_658 (by decide) ?_
                obtain ⟨r146, er146, h⟩ := ob h
                try dsimp only at h
                refine fr_callSX (g1 := false) (k2 := (43 * n + 6 + ke)) (ev_L_border er146) rfl cyL_border w_1379 w_1380 (by rfl) (by omega) (by omega) (by rfl) (Nat.le_of_ble_eq_true rfl) dL_thrown_659 (Or.inl rfl) (fun v M9 q _ => ?_) (fun E M9 q _ => (Sum.inr_ne_inl q.1).elim)
                obtain rfl : v = some (.int r146) := Sum.inl.inj q.1
                obtain rfl := q.2.symm
                refine fr_st (S' := [.int r146]) rfl ?_
                refine fr_sipush (v := (-1002)) dL_thrown_662 (by decide) ?_
                refine fr_icmp_ne 701 dL_thrown_665 (by decide) (fun c147 => by rw [if_neg c147] at h; cases h) (fun c147 => ?_)
                rw [if_pos c147] at h
                refine fr_aload_n 0 dL_thrown_668 rfl ?_
                refine fr_iload 5 dL_thrown_669 rfl ?_
                refine fr_bipush (v := 9) dL_thrown_671 (by decide) ?_
                refine fr_iconst (v := 0) dL_thrown_673 (by decide) ?_
                obtain ⟨r148, er148, h⟩ := ob h
                try dsimp only at h
                refine fr_callSX (g1 := false) (k2 := (43 * n + 3 + ke)) (ev_L_matches er148) rfl cyL_matches w_1353 w_1354 (by rfl) (by omega) (by omega) (by rfl) (Nat.le_of_ble_eq_true rfl) dL_thrown_674 (Or.inl rfl) (fun v M9 q _ => ?_) (fun E M9 q _ => (Sum.inr_ne_inl q.1).elim)
                obtain rfl : v = some (.int r148) := Sum.inl.inj q.1
                obtain rfl := q.2.symm
                refine fr_st (S' := [.int r148]) rfl ?_
                refine fr_sipush (v := (-1001)) dL_thrown_677 (by decide) ?_
                refine fr_icmp_ne 701 dL_thrown_680 (by decide) (fun c149 => by rw [if_neg c149] at h; cases h) (fun c149 => ?_)
                rw [if_pos c149] at h
                refine fr_aload_n 0 dL_thrown_683 rfl ?_
                refine fr_iload 5 dL_thrown_684 rfl ?_
                refine fr_iconst (v := 0) dL_thrown_686 (by decide) ?_
                refine fr_iconst (v := 4) dL_thrown_687 (by decide) ?_
                obtain ⟨r150, er150, h⟩ := ob h
                try dsimp only at h
                refine fr_callSX (g1 := false) (k2 := (43 * n + 0 + ke)) (ev_L_matches er150) rfl cyL_matches w_1353 w_1354 (by rfl) (by omega) (by omega) (by rfl) (Nat.le_of_ble_eq_true rfl) dL_thrown_688 (Or.inl rfl) (fun v M9 q _ => ?_) (fun E M9 q _ => (Sum.inr_ne_inl q.1).elim)
                obtain rfl : v = some (.int r150) := Sum.inl.inj q.1
                obtain rfl := q.2.symm
                refine fr_st (S' := [.int r150]) rfl ?_
                refine fr_sipush (v := (-1002)) dL_thrown_691 (by decide) ?_
                refine fr_icmp_ne 701 dL_thrown_694 (by decide) (fun c151 => by rw [if_neg c151] at h; cases h) (fun c151 => ?_)
                rw [if_pos c151] at h
                refine fr_iconst (v := 1) dL_thrown_697 (by decide) ?_
                refine fr_goto 702 dL_thrown_698 (by decide) ?_
                refine fr_istore (L' := [(0, .ref p_0), (1, .long l_1), (3, .int x_3), (4, .int x_4), (5, .int 1), (6, .int x_6)]) dL_thrown_702 (by decide) rfl ?_
                refine fr_iinc (v := (x_6 + 1)) (L' := [(0, .ref p_0), (1, .long l_1), (3, .int x_3), (4, .int x_4), (5, .int 1), (6, .int (x_6 + 1))]) 5 dL_thrown_704 rfl rfl (by decide) rfl ?_
                refine fr_goto 297 dL_thrown_707 (by decide) ?_
                exact ih _ _ _ _ h he hr
              · subst e9
                try dsimp only at h
                obtain rfl := Option.some.inj h
                exact hr _ rfl
            · subst e9
              try dsimp only at h
              obtain rfl := Option.some.inj h
              exact hr _ rfl
          · subst e9
            try dsimp only at h
            obtain rfl := Option.some.inj h
            exact hr _ rfl
        · subst e9
          try dsimp only at h
          obtain rfl := Option.some.inj h
          exact hr _ rfl
set_option maxRecDepth 20000 in
theorem rg_L_thrown_720_ok {G : Nat × (Nat → Int32) × Value} {P : Res → Mem → Prop} {n0 d ke : Nat} {p_0 : Nat} {l_1 : Int64} {x_3 : Int32} {x_4 : Int32} {x_5 : Int32} {x_6 : Int32} {M_ : Mem} (hd : 20 ≤ d) {res : (Int32 × Mem) ⊕ (Int32 × Mem)} (h : rg_L_thrown_720 p_0 l_1 x_3 x_4 x_5 x_6 M_ = some res) (he : ∀ (y_5 : Int32) (M9 : Mem), res = .inl (y_5, M9) → Fr (roG G) false n0 YL_thrown d ke 805 [(0, .ref p_0), (1, .long l_1), (3, .int x_3), (4, .int x_4), (5, .int y_5), (6, .int x_6)] [] M9 P) (hr : ∀ r : Int32 × Mem, res = .inr r → P (wI r.1) r.2) : Fr (roG G) false n0 YL_thrown d (12 + ke) 720 [(0, .ref p_0), (1, .long l_1), (3, .int x_3), (4, .int x_4), (5, .int x_5), (6, .int x_6)] [] M_ P := by
  unfold rg_L_thrown_720 at h
  refine fr_aload_n 0 dL_thrown_720 rfl ?_
  refine fr_iload 5 dL_thrown_721 rfl ?_
  obtain ⟨r154, er154, h⟩ := ob h
  try dsimp only at h
  refine fr_callSX (g1 := false) (k2 := (10 + ke)) (ev_L_sheetIn er154) rfl cyL_sheetIn w_675 w_676 (by rfl) (by omega) (by omega) (by rfl) (Nat.le_of_ble_eq_true rfl) dL_thrown_723 (Or.inl rfl) (fun v M9 q _ => ?_) (fun E M9 q _ => (Sum.inr_ne_inl q.1).elim)
  obtain rfl : v = some (.int r154) := Sum.inl.inj q.1
  obtain rfl := q.2.symm
  refine fr_st (S' := [.int r154]) rfl ?_
  refine fr_sipush (v := (-1002)) dL_thrown_726 (by decide) ?_
  refine fr_icmp_ne 805 dL_thrown_729 (by decide) (fun c155 => ?_) (fun c155 => ?_)
  · rw [if_neg c155] at h
    obtain rfl := Option.some.inj h
    refine fr_room (Nat.le_refl _) (show ke ≤ (10 + ke) by omega) ?_
    exact he _ _ rfl
  · rw [if_pos c155] at h
    refine fr_iload 4 dL_thrown_732 rfl ?_
    refine fr_if_eq 802 dL_thrown_734 (by decide) (fun c156 => by rw [if_pos c156] at h; cases h) (fun c156 => ?_)
    rw [if_neg c156] at h
    refine fr_aload_n 0 dL_thrown_737 rfl ?_
    refine fr_iload 5 dL_thrown_738 rfl ?_
    obtain ⟨r157, er157, h⟩ := ob h
    try dsimp only at h
    refine fr_callSX (g1 := false) (k2 := (9 + ke)) (ev_L_take er157) rfl cyL_take w_621 w_622 (by rfl) (by omega) (by omega) (by rfl) (Nat.le_of_ble_eq_true rfl) dL_thrown_740 (Or.inl rfl) (fun v M9 q _ => ?_) (fun E M9 q _ => (Sum.inr_ne_inl q.1).elim)
    obtain rfl : v = some (.int r157.1) := Sum.inl.inj q.1
    obtain rfl := q.2.symm
    refine fr_st (S' := [.int r157.1]) rfl ?_
    refine fr_sipush (v := (-1002)) dL_thrown_743 (by decide) ?_
    refine fr_icmp_ne 802 dL_thrown_746 (by decide) (fun c158 => by rw [if_neg c158] at h; cases h) (fun c158 => ?_)
    rw [if_pos c158] at h
    refine fr_aload_n 0 dL_thrown_749 rfl ?_
    refine fr_iload 5 dL_thrown_750 rfl ?_
    obtain ⟨r159, er159, h⟩ := ob h
    try dsimp only at h
    refine fr_callSX (g1 := false) (k2 := (7 + ke)) (ev_L_turnsIn er159) rfl cyL_turnsIn w_692 w_693 (by rfl) (by omega) (by omega) (by rfl) (Nat.le_of_ble_eq_true rfl) dL_thrown_752 (Or.inl rfl) (fun v M9 q _ => ?_) (fun E M9 q _ => (Sum.inr_ne_inl q.1).elim)
    obtain rfl : v = some (.int r159) := Sum.inl.inj q.1
    obtain rfl := q.2.symm
    refine fr_st (S' := [.int r159]) rfl ?_
    refine fr_sipush (v := (-1002)) dL_thrown_755 (by decide) ?_
    refine fr_icmp_ne 802 dL_thrown_758 (by decide) (fun c160 => by rw [if_neg c160] at h; cases h) (fun c160 => ?_)
    rw [if_pos c160] at h
    refine fr_aload_n 0 dL_thrown_761 rfl ?_
    refine fr_iload 5 dL_thrown_762 rfl ?_
    refine fr_iconst (v := 0) dL_thrown_764 (by decide) ?_
    obtain ⟨r161, er161, h⟩ := ob h
    try dsimp only at h
    refine fr_callSX (g1 := false) (k2 := (4 + ke)) (ev_L_borderIn er161) rfl cyL_borderIn w_1391 w_1392 (by rfl) (by omega) (by omega) (by rfl) (Nat.le_of_ble_eq_true rfl) dL_thrown_765 (Or.inl rfl) (fun v M9 q _ => ?_) (fun E M9 q _ => (Sum.inr_ne_inl q.1).elim)
    obtain rfl : v = some (.int r161) := Sum.inl.inj q.1
    obtain rfl := q.2.symm
    refine fr_st (S' := [.int r161]) rfl ?_
    refine fr_sipush (v := (-1003)) dL_thrown_768 (by decide) ?_
    refine fr_icmp_ne 802 dL_thrown_771 (by decide) (fun c162 => by rw [if_neg c162] at h; cases h) (fun c162 => ?_)
    rw [if_pos c162] at h
    refine fr_aload_n 0 dL_thrown_774 rfl ?_
    refine fr_iload 5 dL_thrown_775 rfl ?_
    obtain ⟨r163, er163, h⟩ := ob h
    try dsimp only at h
    refine fr_callSX (g1 := false) (k2 := (2 + ke)) (ev_L_pointsOf er163) rfl cyL_pointsOf w_1399 w_1400 (by rfl) (by omega) (by omega) (by rfl) (Nat.le_of_ble_eq_true rfl) dL_thrown_777 (Or.inl rfl) (fun v M9 q _ => ?_) (fun E M9 q _ => (Sum.inr_ne_inl q.1).elim)
    obtain rfl : v = some (.int r163) := Sum.inl.inj q.1
    obtain rfl := q.2.symm
    refine fr_st (S' := [.int r163]) rfl ?_
    refine fr_sipush (v := (-1002)) dL_thrown_780 (by decide) ?_
    refine fr_icmp_ne 802 dL_thrown_783 (by decide) (fun c164 => by rw [if_neg c164] at h; cases h) (fun c164 => ?_)
    rw [if_pos c164] at h
    refine fr_aload_n 0 dL_thrown_786 rfl ?_
    refine fr_iload 5 dL_thrown_787 rfl ?_
    obtain ⟨r165, er165, h⟩ := ob h
    try dsimp only at h
    refine fr_callSX (g1 := false) (k2 := ke) (ev_L_groupSize er165) rfl cyL_groupSize w_1407 w_1408 (by rfl) (by omega) (by omega) (by rfl) (Nat.le_of_ble_eq_true rfl) dL_thrown_789 (Or.inl rfl) (fun v M9 q _ => ?_) (fun E M9 q _ => (Sum.inr_ne_inl q.1).elim)
    obtain rfl : v = some (.int r165) := Sum.inl.inj q.1
    obtain rfl := q.2.symm
    refine fr_st (S' := [.int r165]) rfl ?_
    refine fr_sipush (v := (-1002)) dL_thrown_792 (by decide) ?_
    refine fr_icmp_ne 802 dL_thrown_795 (by decide) (fun c166 => by rw [if_neg c166] at h; cases h) (fun c166 => ?_)
    rw [if_pos c166] at h
    refine fr_iconst (v := 1) dL_thrown_798 (by decide) ?_
    refine fr_goto 803 dL_thrown_799 (by decide) ?_
    refine fr_istore (L' := [(0, .ref p_0), (1, .long l_1), (3, .int x_3), (4, .int x_4), (5, .int 1), (6, .int x_6)]) dL_thrown_803 (by decide) rfl ?_
    obtain rfl := Option.some.inj h
    exact he _ _ rfl
set_option maxRecDepth 20000 in
theorem lp_L_thrown_713_ok {G : Nat × (Nat → Int32) × Value} {P : Res → Mem → Prop} {n0 d ke : Nat} {p_0 : Nat} {l_1 : Int64} {x_3 : Int32} {x_4 : Int32} (hd : 20 ≤ d) : ∀ (n : Nat) (x_5 : Int32) (x_6 : Int32) (M_ : Mem) (res : (Int32 × Int32 × Mem) ⊕ (Int32 × Mem)), lp_L_thrown_713 p_0 l_1 x_3 x_4 n x_5 x_6 M_ = some res → (∀ (y_5 : Int32) (y_6 : Int32) (M9 : Mem), res = .inl (y_5, y_6, M9) → Fr (roG G) false n0 YL_thrown d ke 811 [(0, .ref p_0), (1, .long l_1), (3, .int x_3), (4, .int x_4), (5, .int y_5), (6, .int y_6)] [] M9 P) → (∀ r : Int32 × Mem, res = .inr r → P (wI r.1) r.2) → Fr (roG G) false n0 YL_thrown d (12 * n + ke) 713 [(0, .ref p_0), (1, .long l_1), (3, .int x_3), (4, .int x_4), (5, .int x_5), (6, .int x_6)] [] M_ P := by
  intro n
  induction n with
  | zero => intro x_5 x_6 M_ res h; unfold lp_L_thrown_713 at h; cases h
  | succ n ih =>
    intro x_5 x_6 M_ res h he hr
    unfold lp_L_thrown_713 at h
    refine fr_room (Nat.le_refl _) (show (12 * n + 12 + ke) ≤ 12 * (n + 1) + ke by omega) ?_
    refine fr_iload 5 dL_thrown_713 rfl ?_
    refine fr_bipush (v := 9) dL_thrown_715 (by decide) ?_
    refine fr_icmp_ge 811 dL_thrown_717 (by decide) (fun c153 => ?_) (fun c153 => ?_)
    · rw [if_pos c153] at h
      obtain rfl := Option.some.inj h
      refine fr_room (Nat.le_refl _) (show ke ≤ (12 * n + 12 + ke) by omega) ?_
      exact he _ _ _ rfl
    · rw [if_neg c153] at h
      obtain ⟨q167, eq167, h⟩ := ob h
      try dsimp only at h
      refine fr_room (k' := 12 + (12 * n + 0 + ke)) (Nat.le_refl _) (by omega) ?_
      refine rg_L_thrown_720_ok (by omega) eq167 (fun q167_5 q167_M e9 => ?_) (fun q167_r e9 => ?_)
      · subst e9
        try dsimp only at h
        refine fr_iinc (v := (x_6 + 1)) (L' := [(0, .ref p_0), (1, .long l_1), (3, .int x_3), (4, .int x_4), (5, .int q167_5), (6, .int (x_6 + 1))]) 5 dL_thrown_805 rfl rfl (by decide) rfl ?_
        refine fr_goto 713 dL_thrown_808 (by decide) ?_
        exact ih _ _ _ _ h he hr
      · subst e9
        try dsimp only at h
        obtain rfl := Option.some.inj h
        exact hr _ rfl
set_option maxRecDepth 20000 in
theorem rg_L_thrown_1073_ok {G : Nat × (Nat → Int32) × Value} {P : Res → Mem → Prop} {n0 d ke : Nat} {p_0 : Nat} {l_1 : Int64} {x_3 : Int32} {x_4 : Int32} {x_5 : Int32} {x_6 : Int32} {M_ : Mem} (hd : 20 ≤ d) {res : (Mem) ⊕ (Int32 × Mem)} (h : rg_L_thrown_1073 p_0 l_1 x_3 x_4 x_5 x_6 M_ = some res) (he : ∀ (M9 : Mem), res = .inl M9 → Fr (roG G) false n0 YL_thrown d ke 1101 [(0, .ref p_0), (1, .long l_1), (3, .int x_3), (4, .int x_4), (5, .int x_5), (6, .int x_6)] [] M9 P) (hr : ∀ r : Int32 × Mem, res = .inr r → P (wI r.1) r.2) : Fr (roG G) false n0 YL_thrown d (2 + ke) 1073 [(0, .ref p_0), (1, .long l_1), (3, .int x_3), (4, .int x_4), (5, .int x_5), (6, .int x_6)] [] M_ P := by
  unfold rg_L_thrown_1073 at h
  refine fr_aload_n 0 dL_thrown_1073 rfl ?_
  obtain ⟨u215, eu215, h⟩ := ob h
  try dsimp only at h
  obtain ⟨r214, er214, h⟩ := ob h
  try dsimp only at h
  refine fr_callV (g1 := false) (k2 := (2 + ke)) (ev_X10_emptyCells er214) rfl cyX10_emptyCells w_1456 w_1457 w_1458 (rc_ok eu215 rfl (by decide)) (by rfl) (by omega) (by omega) (by rfl) (Nat.le_of_ble_eq_true rfl) dL_thrown_1074 (Or.inl rfl) (fun v M9 q _ => ?_) (fun E M9 q _ => (Sum.inr_ne_inl q.1).elim)
  obtain rfl : v = some (.int r214) := Sum.inl.inj q.1
  obtain rfl := q.2.symm
  refine fr_st (S' := [.int r214]) rfl ?_
  refine fr_iconst (v := 4) dL_thrown_1077 (by decide) ?_
  refine fr_icmp_lt 1101 dL_thrown_1078 (by decide) (fun c216 => ?_) (fun c216 => ?_)
  · rw [if_pos c216] at h
    obtain rfl := Option.some.inj h
    refine fr_room (Nat.le_refl _) (show ke ≤ (2 + ke) by omega) ?_
    exact he _ rfl
  · rw [if_neg c216] at h
    refine fr_aload_n 0 dL_thrown_1081 rfl ?_
    obtain ⟨r217, er217, h⟩ := ob h
    try dsimp only at h
    refine fr_callSX (g1 := false) (k2 := (1 + ke)) (ev_L_completions er217) rfl cyL_completions w_996 w_997 (by rfl) (by omega) (by omega) (by rfl) (Nat.le_of_ble_eq_true rfl) dL_thrown_1082 (Or.inl rfl) (fun v M9 q _ => ?_) (fun E M9 q _ => (Sum.inr_ne_inl q.1).elim)
    obtain rfl : v = some (.int r217.1) := Sum.inl.inj q.1
    obtain rfl := q.2.symm
    refine fr_st (S' := [.int r217.1]) rfl ?_
    refine fr_sipush (v := (-1001)) dL_thrown_1085 (by decide) ?_
    refine fr_icmp_ne 1128 dL_thrown_1088 (by decide) (fun c218 => by rw [if_neg c218] at h; cases h) (fun c218 => ?_)
    rw [if_pos c218] at h
    refine fr_aload_n 0 dL_thrown_1091 rfl ?_
    obtain ⟨r219, er219, h⟩ := ob h
    try dsimp only at h
    refine fr_callSX (g1 := false) (k2 := ke) (ev_L_backwards er219) rfl cyL_backwards w_1460 w_1461 (by rfl) (by omega) (by omega) (by rfl) (Nat.le_of_ble_eq_true rfl) dL_thrown_1092 (Or.inl rfl) (fun v M9 q _ => ?_) (fun E M9 q _ => (Sum.inr_ne_inl q.1).elim)
    obtain rfl : v = some (.int r219.1) := Sum.inl.inj q.1
    obtain rfl := q.2.symm
    refine fr_st (S' := [.int r219.1]) rfl ?_
    refine fr_sipush (v := (-1001)) dL_thrown_1095 (by decide) ?_
    refine fr_icmp_ne 1128 dL_thrown_1098 (by decide) (fun c220 => by rw [if_neg c220] at h; cases h) (fun c220 => ?_)
    rw [if_pos c220] at h
    obtain rfl := Option.some.inj h
    exact he _ rfl
set_option maxRecDepth 20000 in
theorem ev_L_thrown {G : Nat × (Nat → Int32) × Value} {p0a : Nat} {M : Mem} {r : Int32 × Mem} (h : f_L_thrown p0a M = some r) : Ev (roG G) false YL_thrown 20 1439 [.ref p0a] M (fun a b => a = wI r.1 ∧ b = r.2) := by
  refine ev_of cyL_thrown.2.2.2.2 (Nat.le_of_ble_eq_true rfl) ?_
  show Fr _ _ _ _ _ _ 0 [(0, .ref p0a)] [] M _
  unfold f_L_thrown at h
  refine fr_aload_n 0 dL_thrown_0 rfl ?_
  obtain ⟨r1, er1, h⟩ := ob h
  try dsimp only at h
  refine fr_callS (g1 := false) (k2 := 1057) (ev_L_asks er1) rfl cyL_asks w_880 w_881 (by rfl) (by omega) (by omega) (by rfl) (Nat.le_of_ble_eq_true rfl) dL_thrown_1 (Or.inl rfl) (fun v M9 q _ => ?_) (fun E M9 q _ => (Sum.inr_ne_inl q.1).elim)
  obtain rfl : v = some (.long r1.1) := Sum.inl.inj q.1
  obtain rfl := q.2.symm
  refine fr_st (S' := [.long r1.1]) rfl ?_
  refine fr_lstore_n (L' := [(0, .ref p0a), (1, .long r1.1)]) dL_thrown_4 (by decide) rfl ?_
  refine fr_aload_n 0 dL_thrown_5 rfl ?_
  obtain ⟨u3, eu3, h⟩ := ob h
  try dsimp only at h
  obtain ⟨r2, er2, h⟩ := ob h
  try dsimp only at h
  refine fr_callV (g1 := false) (k2 := 1057) (ev_X10_sheetCount er2) rfl cyX10_sheetCount w_258 w_259 w_260 (rc_ok eu3 rfl (by decide)) (by rfl) (by omega) (by omega) (by rfl) (Nat.le_of_ble_eq_true rfl) dL_thrown_6 (Or.inl rfl) (fun v M9 q _ => ?_) (fun E M9 q _ => (Sum.inr_ne_inl q.1).elim)
  obtain rfl : v = some (.int r2) := Sum.inl.inj q.1
  obtain rfl := q.2.symm
  refine fr_st (S' := [.int r2]) rfl ?_
  refine fr_istore_n (L' := [(0, .ref p0a), (1, .long r1.1), (3, .int r2)]) dL_thrown_9 (by decide) rfl ?_
  refine fr_aload_n 0 dL_thrown_10 rfl ?_
  obtain ⟨u5, eu5, h⟩ := ob h
  try dsimp only at h
  obtain ⟨r4, er4, h⟩ := ob h
  try dsimp only at h
  refine fr_callV (g1 := false) (k2 := 1057) (ev_X10_undoCount er4) rfl cyX10_undoCount w_270 w_271 w_272 (rc_ok eu5 rfl (by decide)) (by rfl) (by omega) (by omega) (by rfl) (Nat.le_of_ble_eq_true rfl) dL_thrown_11 (Or.inl rfl) (fun v M9 q _ => ?_) (fun E M9 q _ => (Sum.inr_ne_inl q.1).elim)
  obtain rfl : v = some (.int r4) := Sum.inl.inj q.1
  obtain rfl := q.2.symm
  refine fr_st (S' := [.int r4]) rfl ?_
  refine fr_istore (L' := [(0, .ref p0a), (1, .long r1.1), (3, .int r2), (4, .int r4)]) dL_thrown_14 (by decide) rfl ?_
  refine fr_aload_n 0 dL_thrown_16 rfl ?_
  refine fr_iconst (v := (-1)) dL_thrown_17 (by decide) ?_
  refine fr_iconst (v := 0) dL_thrown_18 (by decide) ?_
  refine fr_iconst (v := 0) dL_thrown_19 (by decide) ?_
  refine fr_iconst (v := 0) dL_thrown_20 (by decide) ?_
  refine fr_bipush (v := 115) dL_thrown_21 (by decide) ?_
  obtain ⟨r6, er6, h⟩ := ob h
  try dsimp only at h
  refine fr_callSX (g1 := false) (k2 := 1056) (ev_L_addSheet er6) rfl cyL_addSheet w_293 w_294 (by rfl) (by omega) (by omega) (by rfl) (Nat.le_of_ble_eq_true rfl) dL_thrown_23 (Or.inl rfl) (fun v M9 q _ => ?_) (fun E M9 q _ => (Sum.inr_ne_inl q.1).elim)
  obtain rfl : v = some (.int r6.1) := Sum.inl.inj q.1
  obtain rfl := q.2.symm
  refine fr_st (S' := [.int r6.1]) rfl ?_
  refine fr_sipush (v := (-1001)) dL_thrown_26 (by decide) ?_
  refine fr_icmp_ne 291 dL_thrown_29 (by decide) (fun c7 => by rw [if_neg c7] at h; cases h) (fun c7 => ?_)
  rw [if_pos c7] at h
  refine fr_aload_n 0 dL_thrown_32 rfl ?_
  refine fr_iconst (v := 0) dL_thrown_33 (by decide) ?_
  refine fr_bipush (v := 10) dL_thrown_34 (by decide) ?_
  refine fr_iconst (v := 0) dL_thrown_36 (by decide) ?_
  refine fr_iconst (v := 0) dL_thrown_37 (by decide) ?_
  refine fr_bipush (v := 115) dL_thrown_38 (by decide) ?_
  obtain ⟨r8, er8, h⟩ := ob h
  try dsimp only at h
  refine fr_callSX (g1 := false) (k2 := 1055) (ev_L_addSheet er8) rfl cyL_addSheet w_293 w_294 (by rfl) (by omega) (by omega) (by rfl) (Nat.le_of_ble_eq_true rfl) dL_thrown_40 (Or.inl rfl) (fun v M9 q _ => ?_) (fun E M9 q _ => (Sum.inr_ne_inl q.1).elim)
  obtain rfl : v = some (.int r8.1) := Sum.inl.inj q.1
  obtain rfl := q.2.symm
  refine fr_st (S' := [.int r8.1]) rfl ?_
  refine fr_sipush (v := (-1001)) dL_thrown_43 (by decide) ?_
  refine fr_icmp_ne 291 dL_thrown_46 (by decide) (fun c9 => by rw [if_neg c9] at h; cases h) (fun c9 => ?_)
  rw [if_pos c9] at h
  refine fr_aload_n 0 dL_thrown_49 rfl ?_
  refine fr_iconst (v := 0) dL_thrown_50 (by decide) ?_
  refine fr_iconst (v := 0) dL_thrown_51 (by decide) ?_
  refine fr_iconst (v := 0) dL_thrown_52 (by decide) ?_
  refine fr_bipush (v := 10) dL_thrown_53 (by decide) ?_
  refine fr_bipush (v := 108) dL_thrown_55 (by decide) ?_
  obtain ⟨r10, er10, h⟩ := ob h
  try dsimp only at h
  refine fr_callSX (g1 := false) (k2 := 1054) (ev_L_addSheet er10) rfl cyL_addSheet w_293 w_294 (by rfl) (by omega) (by omega) (by rfl) (Nat.le_of_ble_eq_true rfl) dL_thrown_57 (Or.inl rfl) (fun v M9 q _ => ?_) (fun E M9 q _ => (Sum.inr_ne_inl q.1).elim)
  obtain rfl : v = some (.int r10.1) := Sum.inl.inj q.1
  obtain rfl := q.2.symm
  refine fr_st (S' := [.int r10.1]) rfl ?_
  refine fr_sipush (v := (-1001)) dL_thrown_60 (by decide) ?_
  refine fr_icmp_ne 291 dL_thrown_63 (by decide) (fun c11 => by rw [if_neg c11] at h; cases h) (fun c11 => ?_)
  rw [if_pos c11] at h
  refine fr_aload_n 0 dL_thrown_66 rfl ?_
  refine fr_iconst (v := 0) dL_thrown_67 (by decide) ?_
  refine fr_iconst (v := 0) dL_thrown_68 (by decide) ?_
  refine fr_iconst (v := 0) dL_thrown_69 (by decide) ?_
  refine fr_iconst (v := 0) dL_thrown_70 (by decide) ?_
  refine fr_bipush (v := 83) dL_thrown_71 (by decide) ?_
  obtain ⟨r12, er12, h⟩ := ob h
  try dsimp only at h
  refine fr_callSX (g1 := false) (k2 := 1053) (ev_L_addSheet er12) rfl cyL_addSheet w_293 w_294 (by rfl) (by omega) (by omega) (by rfl) (Nat.le_of_ble_eq_true rfl) dL_thrown_73 (Or.inl rfl) (fun v M9 q _ => ?_) (fun E M9 q _ => (Sum.inr_ne_inl q.1).elim)
  obtain rfl : v = some (.int r12.1) := Sum.inl.inj q.1
  obtain rfl := q.2.symm
  refine fr_st (S' := [.int r12.1]) rfl ?_
  refine fr_sipush (v := (-1001)) dL_thrown_76 (by decide) ?_
  refine fr_icmp_ne 291 dL_thrown_79 (by decide) (fun c13 => by rw [if_neg c13] at h; cases h) (fun c13 => ?_)
  rw [if_pos c13] at h
  obtain ⟨q17, eq17, h⟩ := ob h
  try dsimp only at h
  refine fr_room (k' := 1 + 1052) (Nat.le_refl _) (by omega) ?_
  refine rg_L_thrown_82_ok (by omega) eq17 (fun q17_M e9 => ?_) (fun q17_r e9 => ?_)
  · subst e9
    try dsimp only at h
    refine fr_aload_n 0 dL_thrown_104 rfl ?_
    refine fr_iload_n 2 dL_thrown_105 rfl ?_
    refine fr_bipush (v := 120) dL_thrown_106 (by decide) ?_
    obtain ⟨r18, er18, h⟩ := ob h
    try dsimp only at h
    refine fr_callSX (g1 := false) (k2 := 1051) (ev_L_addCrease er18) rfl cyL_addCrease w_471 w_472 (by rfl) (by omega) (by omega) (by rfl) (Nat.le_of_ble_eq_true rfl) dL_thrown_108 (Or.inl rfl) (fun v M9 q _ => ?_) (fun E M9 q _ => (Sum.inr_ne_inl q.1).elim)
    obtain rfl : v = some (.int r18.1) := Sum.inl.inj q.1
    obtain rfl := q.2.symm
    refine fr_st (S' := [.int r18.1]) rfl ?_
    refine fr_sipush (v := (-1001)) dL_thrown_111 (by decide) ?_
    refine fr_icmp_ne 291 dL_thrown_114 (by decide) (fun c19 => by rw [if_neg c19] at h; cases h) (fun c19 => ?_)
    rw [if_pos c19] at h
    refine fr_aload_n 0 dL_thrown_117 rfl ?_
    refine fr_iconst (v := 0) dL_thrown_118 (by decide) ?_
    refine fr_bipush (v := 120) dL_thrown_119 (by decide) ?_
    obtain ⟨r20, er20, h⟩ := ob h
    try dsimp only at h
    refine fr_callSX (g1 := false) (k2 := 1050) (ev_L_addCrease er20) rfl cyL_addCrease w_471 w_472 (by rfl) (by omega) (by omega) (by rfl) (Nat.le_of_ble_eq_true rfl) dL_thrown_121 (Or.inl rfl) (fun v M9 q _ => ?_) (fun E M9 q _ => (Sum.inr_ne_inl q.1).elim)
    obtain rfl : v = some (.int r20.1) := Sum.inl.inj q.1
    obtain rfl := q.2.symm
    refine fr_st (S' := [.int r20.1]) rfl ?_
    refine fr_sipush (v := (-1002)) dL_thrown_124 (by decide) ?_
    refine fr_icmp_ne 291 dL_thrown_127 (by decide) (fun c21 => by rw [if_neg c21] at h; cases h) (fun c21 => ?_)
    rw [if_pos c21] at h
    refine fr_aload_n 0 dL_thrown_130 rfl ?_
    refine fr_iload_n 2 dL_thrown_131 rfl ?_
    obtain ⟨r22, er22, h⟩ := ob h
    try dsimp only at h
    refine fr_callSX (g1 := false) (k2 := 1049) (ev_L_fold er22) rfl cyL_fold w_510 w_511 (by rfl) (by omega) (by omega) (by rfl) (Nat.le_of_ble_eq_true rfl) dL_thrown_132 (Or.inl rfl) (fun v M9 q _ => ?_) (fun E M9 q _ => (Sum.inr_ne_inl q.1).elim)
    obtain rfl : v = some (.int r22.1) := Sum.inl.inj q.1
    obtain rfl := q.2.symm
    refine fr_st (S' := [.int r22.1]) rfl ?_
    refine fr_sipush (v := (-1001)) dL_thrown_135 (by decide) ?_
    refine fr_icmp_ne 291 dL_thrown_138 (by decide) (fun c23 => by rw [if_neg c23] at h; cases h) (fun c23 => ?_)
    rw [if_pos c23] at h
    refine fr_aload_n 0 dL_thrown_141 rfl ?_
    refine fr_iconst (v := (-1)) dL_thrown_142 (by decide) ?_
    obtain ⟨r24, er24, h⟩ := ob h
    try dsimp only at h
    refine fr_callSX (g1 := false) (k2 := 1048) (ev_L_unfold er24) rfl cyL_unfold w_526 w_527 (by rfl) (by omega) (by omega) (by rfl) (Nat.le_of_ble_eq_true rfl) dL_thrown_143 (Or.inl rfl) (fun v M9 q _ => ?_) (fun E M9 q _ => (Sum.inr_ne_inl q.1).elim)
    obtain rfl : v = some (.int r24.1) := Sum.inl.inj q.1
    obtain rfl := q.2.symm
    refine fr_st (S' := [.int r24.1]) rfl ?_
    refine fr_sipush (v := (-1001)) dL_thrown_146 (by decide) ?_
    refine fr_icmp_ne 291 dL_thrown_149 (by decide) (fun c25 => by rw [if_neg c25] at h; cases h) (fun c25 => ?_)
    rw [if_pos c25] at h
    refine fr_aload_n 0 dL_thrown_152 rfl ?_
    refine fr_iload_n 2 dL_thrown_153 rfl ?_
    obtain ⟨r26, er26, h⟩ := ob h
    try dsimp only at h
    refine fr_callSX (g1 := false) (k2 := 1047) (ev_L_mend er26) rfl cyL_mend w_541 w_542 (by rfl) (by omega) (by omega) (by rfl) (Nat.le_of_ble_eq_true rfl) dL_thrown_154 (Or.inl rfl) (fun v M9 q _ => ?_) (fun E M9 q _ => (Sum.inr_ne_inl q.1).elim)
    obtain rfl : v = some (.int r26.1) := Sum.inl.inj q.1
    obtain rfl := q.2.symm
    refine fr_st (S' := [.int r26.1]) rfl ?_
    refine fr_sipush (v := (-1001)) dL_thrown_157 (by decide) ?_
    refine fr_icmp_ne 291 dL_thrown_160 (by decide) (fun c27 => by rw [if_neg c27] at h; cases h) (fun c27 => ?_)
    rw [if_pos c27] at h
    refine fr_aload_n 0 dL_thrown_163 rfl ?_
    refine fr_iload_n 2 dL_thrown_164 rfl ?_
    refine fr_iconst (v := 0) dL_thrown_165 (by decide) ?_
    refine fr_bipush (v := 9) dL_thrown_166 (by decide) ?_
    obtain ⟨r28, er28, h⟩ := ob h
    try dsimp only at h
    refine fr_callSX (g1 := false) (k2 := 1046) (ev_L_put er28) rfl cyL_put w_553 w_554 (by rfl) (by omega) (by omega) (by rfl) (Nat.le_of_ble_eq_true rfl) dL_thrown_168 (Or.inl rfl) (fun v M9 q _ => ?_) (fun E M9 q _ => (Sum.inr_ne_inl q.1).elim)
    obtain rfl : v = some (.int r28.1) := Sum.inl.inj q.1
    obtain rfl := q.2.symm
    refine fr_st (S' := [.int r28.1]) rfl ?_
    refine fr_sipush (v := (-1001)) dL_thrown_171 (by decide) ?_
    refine fr_icmp_ne 291 dL_thrown_174 (by decide) (fun c29 => by rw [if_neg c29] at h; cases h) (fun c29 => ?_)
    rw [if_pos c29] at h
    refine fr_aload_n 0 dL_thrown_177 rfl ?_
    refine fr_iconst (v := 0) dL_thrown_178 (by decide) ?_
    refine fr_bipush (v := 9) dL_thrown_179 (by decide) ?_
    refine fr_bipush (v := 9) dL_thrown_181 (by decide) ?_
    obtain ⟨r30, er30, h⟩ := ob h
    try dsimp only at h
    refine fr_callSX (g1 := false) (k2 := 1045) (ev_L_put er30) rfl cyL_put w_553 w_554 (by rfl) (by omega) (by omega) (by rfl) (Nat.le_of_ble_eq_true rfl) dL_thrown_183 (Or.inl rfl) (fun v M9 q _ => ?_) (fun E M9 q _ => (Sum.inr_ne_inl q.1).elim)
    obtain rfl : v = some (.int r30.1) := Sum.inl.inj q.1
    obtain rfl := q.2.symm
    refine fr_st (S' := [.int r30.1]) rfl ?_
    refine fr_sipush (v := (-1001)) dL_thrown_186 (by decide) ?_
    refine fr_icmp_ne 291 dL_thrown_189 (by decide) (fun c31 => by rw [if_neg c31] at h; cases h) (fun c31 => ?_)
    rw [if_pos c31] at h
    refine fr_aload_n 0 dL_thrown_192 rfl ?_
    refine fr_iconst (v := 0) dL_thrown_193 (by decide) ?_
    refine fr_iconst (v := (-1)) dL_thrown_194 (by decide) ?_
    refine fr_iconst (v := 0) dL_thrown_195 (by decide) ?_
    obtain ⟨r32, er32, h⟩ := ob h
    try dsimp only at h
    refine fr_callSX (g1 := false) (k2 := 1044) (ev_L_put er32) rfl cyL_put w_553 w_554 (by rfl) (by omega) (by omega) (by rfl) (Nat.le_of_ble_eq_true rfl) dL_thrown_196 (Or.inl rfl) (fun v M9 q _ => ?_) (fun E M9 q _ => (Sum.inr_ne_inl q.1).elim)
    obtain rfl : v = some (.int r32.1) := Sum.inl.inj q.1
    obtain rfl := q.2.symm
    refine fr_st (S' := [.int r32.1]) rfl ?_
    refine fr_sipush (v := (-1001)) dL_thrown_199 (by decide) ?_
    refine fr_icmp_ne 291 dL_thrown_202 (by decide) (fun c33 => by rw [if_neg c33] at h; cases h) (fun c33 => ?_)
    rw [if_pos c33] at h
    refine fr_aload_n 0 dL_thrown_205 rfl ?_
    refine fr_iconst (v := 0) dL_thrown_206 (by decide) ?_
    refine fr_iconst (v := 0) dL_thrown_207 (by decide) ?_
    refine fr_iconst (v := 4) dL_thrown_208 (by decide) ?_
    obtain ⟨r34, er34, h⟩ := ob h
    try dsimp only at h
    refine fr_callSX (g1 := false) (k2 := 1043) (ev_L_put er34) rfl cyL_put w_553 w_554 (by rfl) (by omega) (by omega) (by rfl) (Nat.le_of_ble_eq_true rfl) dL_thrown_209 (Or.inl rfl) (fun v M9 q _ => ?_) (fun E M9 q _ => (Sum.inr_ne_inl q.1).elim)
    obtain rfl : v = some (.int r34.1) := Sum.inl.inj q.1
    obtain rfl := q.2.symm
    refine fr_st (S' := [.int r34.1]) rfl ?_
    refine fr_sipush (v := (-1002)) dL_thrown_212 (by decide) ?_
    refine fr_icmp_ne 291 dL_thrown_215 (by decide) (fun c35 => by rw [if_neg c35] at h; cases h) (fun c35 => ?_)
    rw [if_pos c35] at h
    refine fr_aload_n 0 dL_thrown_218 rfl ?_
    refine fr_iconst (v := 0) dL_thrown_219 (by decide) ?_
    refine fr_iconst (v := 0) dL_thrown_220 (by decide) ?_
    refine fr_iconst (v := (-1)) dL_thrown_221 (by decide) ?_
    obtain ⟨r36, er36, h⟩ := ob h
    try dsimp only at h
    refine fr_callSX (g1 := false) (k2 := 1042) (ev_L_put er36) rfl cyL_put w_553 w_554 (by rfl) (by omega) (by omega) (by rfl) (Nat.le_of_ble_eq_true rfl) dL_thrown_222 (Or.inl rfl) (fun v M9 q _ => ?_) (fun E M9 q _ => (Sum.inr_ne_inl q.1).elim)
    obtain rfl : v = some (.int r36.1) := Sum.inl.inj q.1
    obtain rfl := q.2.symm
    refine fr_st (S' := [.int r36.1]) rfl ?_
    refine fr_sipush (v := (-1002)) dL_thrown_225 (by decide) ?_
    refine fr_icmp_ne 291 dL_thrown_228 (by decide) (fun c37 => by rw [if_neg c37] at h; cases h) (fun c37 => ?_)
    rw [if_pos c37] at h
    refine fr_aload_n 0 dL_thrown_231 rfl ?_
    refine fr_bipush (v := 9) dL_thrown_232 (by decide) ?_
    obtain ⟨r38, er38, h⟩ := ob h
    try dsimp only at h
    refine fr_callSX (g1 := false) (k2 := 1041) (ev_L_take er38) rfl cyL_take w_621 w_622 (by rfl) (by omega) (by omega) (by rfl) (Nat.le_of_ble_eq_true rfl) dL_thrown_234 (Or.inl rfl) (fun v M9 q _ => ?_) (fun E M9 q _ => (Sum.inr_ne_inl q.1).elim)
    obtain rfl : v = some (.int r38.1) := Sum.inl.inj q.1
    obtain rfl := q.2.symm
    refine fr_st (S' := [.int r38.1]) rfl ?_
    refine fr_sipush (v := (-1001)) dL_thrown_237 (by decide) ?_
    refine fr_icmp_ne 291 dL_thrown_240 (by decide) (fun c39 => by rw [if_neg c39] at h; cases h) (fun c39 => ?_)
    rw [if_pos c39] at h
    refine fr_aload_n 0 dL_thrown_243 rfl ?_
    refine fr_iconst (v := 0) dL_thrown_244 (by decide) ?_
    obtain ⟨r40, er40, h⟩ := ob h
    try dsimp only at h
    refine fr_callSX (g1 := false) (k2 := 1040) (ev_L_addPaste er40) rfl cyL_addPaste w_637 w_638 (by rfl) (by omega) (by omega) (by rfl) (Nat.le_of_ble_eq_true rfl) dL_thrown_245 (Or.inl rfl) (fun v M9 q _ => ?_) (fun E M9 q _ => (Sum.inr_ne_inl q.1).elim)
    obtain rfl : v = some (.int r40.1) := Sum.inl.inj q.1
    obtain rfl := q.2.symm
    refine fr_st (S' := [.int r40.1]) rfl ?_
    refine fr_sipush (v := (-1001)) dL_thrown_248 (by decide) ?_
    refine fr_icmp_ne 291 dL_thrown_251 (by decide) (fun c41 => by rw [if_neg c41] at h; cases h) (fun c41 => ?_)
    rw [if_pos c41] at h
    refine fr_aload_n 0 dL_thrown_254 rfl ?_
    refine fr_bipush (v := 21) dL_thrown_255 (by decide) ?_
    obtain ⟨r42, er42, h⟩ := ob h
    try dsimp only at h
    refine fr_callSX (g1 := false) (k2 := 1039) (ev_L_addPaste er42) rfl cyL_addPaste w_637 w_638 (by rfl) (by omega) (by omega) (by rfl) (Nat.le_of_ble_eq_true rfl) dL_thrown_257 (Or.inl rfl) (fun v M9 q _ => ?_) (fun E M9 q _ => (Sum.inr_ne_inl q.1).elim)
    obtain rfl : v = some (.int r42.1) := Sum.inl.inj q.1
    obtain rfl := q.2.symm
    refine fr_st (S' := [.int r42.1]) rfl ?_
    refine fr_sipush (v := (-1001)) dL_thrown_260 (by decide) ?_
    refine fr_icmp_ne 291 dL_thrown_263 (by decide) (fun c43 => by rw [if_neg c43] at h; cases h) (fun c43 => ?_)
    rw [if_pos c43] at h
    obtain ⟨q49, eq49, h⟩ := ob h
    try dsimp only at h
    refine fr_room (k' := 1 + 1038) (Nat.le_refl _) (by omega) ?_
    refine rg_L_thrown_266_ok (by omega) eq49 (fun q49_M e9 => ?_) (fun q49_r e9 => ?_)
    · subst e9
      try dsimp only at h
      refine fr_iconst (v := 1) dL_thrown_287 (by decide) ?_
      refine fr_goto 292 dL_thrown_288 (by decide) ?_
      refine fr_istore (L' := [(0, .ref p0a), (1, .long r1.1), (3, .int r2), (4, .int r4), (5, .int 1)]) dL_thrown_292 (by decide) rfl ?_
      refine fr_iconst (v := 0) dL_thrown_294 (by decide) ?_
      refine fr_istore (L' := [(0, .ref p0a), (1, .long r1.1), (3, .int r2), (4, .int r4), (5, .int 1), (6, .int 0)]) dL_thrown_295 (by decide) rfl ?_
      obtain ⟨q152, eq152, h⟩ := ob h
      try dsimp only at h
      refine fr_room (k' := 43 * 10 + 608) (Nat.le_refl _) (by omega) ?_
      refine lp_L_thrown_297_ok (by omega) 10 _ _ _ q152 eq152 (fun q152_5 q152_6 q152_M e9 => ?_) (fun q152_r e9 => ?_)
      · subst e9
        try dsimp only at h
        refine fr_iconst (v := 0) dL_thrown_710 (by decide) ?_
        refine fr_istore (L' := [(0, .ref p0a), (1, .long r1.1), (3, .int r2), (4, .int r4), (5, .int q152_5), (6, .int 0)]) dL_thrown_711 (by decide) rfl ?_
        obtain ⟨q168, eq168, h⟩ := ob h
        try dsimp only at h
        refine fr_room (k' := 12 * 10 + 488) (Nat.le_refl _) (by omega) ?_
        refine lp_L_thrown_713_ok (by omega) 10 _ _ _ q168 eq168 (fun q168_5 q168_6 q168_M e9 => ?_) (fun q168_r e9 => ?_)
        · subst e9
          try dsimp only at h
          refine fr_iload 4 dL_thrown_811 rfl ?_
          refine fr_if_eq 1128 dL_thrown_813 (by decide) (fun c169 => by rw [if_pos c169] at h; cases h) (fun c169 => ?_)
          rw [if_neg c169] at h
          refine fr_aload_n 0 dL_thrown_816 rfl ?_
          refine fr_iload_n 2 dL_thrown_817 rfl ?_
          obtain ⟨r170, er170, h⟩ := ob h
          try dsimp only at h
          refine fr_callSX (g1 := false) (k2 := 487) (ev_L_kind er170) rfl cyL_kind w_1421 w_1422 (by rfl) (by omega) (by omega) (by rfl) (Nat.le_of_ble_eq_true rfl) dL_thrown_818 (Or.inl rfl) (fun v M9 q _ => ?_) (fun E M9 q _ => (Sum.inr_ne_inl q.1).elim)
          obtain rfl : v = some (.int r170) := Sum.inl.inj q.1
          obtain rfl := q.2.symm
          refine fr_st (S' := [.int r170]) rfl ?_
          refine fr_sipush (v := (-1001)) dL_thrown_821 (by decide) ?_
          refine fr_icmp_ne 1128 dL_thrown_824 (by decide) (fun c171 => by rw [if_neg c171] at h; cases h) (fun c171 => ?_)
          rw [if_pos c171] at h
          refine fr_aload_n 0 dL_thrown_827 rfl ?_
          refine fr_iload_n 2 dL_thrown_828 rfl ?_
          refine fr_bipush (v := 9) dL_thrown_829 (by decide) ?_
          obtain ⟨r172, er172, h⟩ := ob h
          try dsimp only at h
          refine fr_callSX (g1 := false) (k2 := 485) (ev_L_border er172) rfl cyL_border w_1379 w_1380 (by rfl) (by omega) (by omega) (by rfl) (Nat.le_of_ble_eq_true rfl) dL_thrown_831 (Or.inl rfl) (fun v M9 q _ => ?_) (fun E M9 q _ => (Sum.inr_ne_inl q.1).elim)
          obtain rfl : v = some (.int r172) := Sum.inl.inj q.1
          obtain rfl := q.2.symm
          refine fr_st (S' := [.int r172]) rfl ?_
          refine fr_sipush (v := (-1001)) dL_thrown_834 (by decide) ?_
          refine fr_icmp_ne 1128 dL_thrown_837 (by decide) (fun c173 => by rw [if_neg c173] at h; cases h) (fun c173 => ?_)
          rw [if_pos c173] at h
          refine fr_aload_n 0 dL_thrown_840 rfl ?_
          refine fr_iload_n 2 dL_thrown_841 rfl ?_
          obtain ⟨r174, er174, h⟩ := ob h
          try dsimp only at h
          refine fr_callSX (g1 := false) (k2 := 484) (ev_L_wear er174) rfl cyL_wear w_648 w_649 (by rfl) (by omega) (by omega) (by rfl) (Nat.le_of_ble_eq_true rfl) dL_thrown_842 (Or.inl rfl) (fun v M9 q _ => ?_) (fun E M9 q _ => (Sum.inr_ne_inl q.1).elim)
          obtain rfl : v = some (.int r174) := Sum.inl.inj q.1
          obtain rfl := q.2.symm
          refine fr_st (S' := [.int r174]) rfl ?_
          refine fr_sipush (v := (-1001)) dL_thrown_845 (by decide) ?_
          refine fr_icmp_ne 1128 dL_thrown_848 (by decide) (fun c175 => by rw [if_neg c175] at h; cases h) (fun c175 => ?_)
          rw [if_pos c175] at h
          refine fr_aload_n 0 dL_thrown_851 rfl ?_
          refine fr_iconst (v := (-1)) dL_thrown_852 (by decide) ?_
          obtain ⟨r176, er176, h⟩ := ob h
          try dsimp only at h
          refine fr_callSX (g1 := false) (k2 := 483) (ev_L_isTorn er176) rfl cyL_isTorn w_1428 w_1429 (by rfl) (by omega) (by omega) (by rfl) (Nat.le_of_ble_eq_true rfl) dL_thrown_853 (Or.inl rfl) (fun v M9 q _ => ?_) (fun E M9 q _ => (Sum.inr_ne_inl q.1).elim)
          obtain rfl : v = some (.int r176) := Sum.inl.inj q.1
          obtain rfl := q.2.symm
          refine fr_st (S' := [.int r176]) rfl ?_
          refine fr_sipush (v := (-1001)) dL_thrown_856 (by decide) ?_
          refine fr_icmp_ne 1128 dL_thrown_859 (by decide) (fun c177 => by rw [if_neg c177] at h; cases h) (fun c177 => ?_)
          rw [if_pos c177] at h
          refine fr_aload_n 0 dL_thrown_862 rfl ?_
          refine fr_iload_n 2 dL_thrown_863 rfl ?_
          obtain ⟨r178, er178, h⟩ := ob h
          try dsimp only at h
          refine fr_callSX (g1 := false) (k2 := 482) (ev_L_isFolded er178) rfl cyL_isFolded w_661 w_662 (by rfl) (by omega) (by omega) (by rfl) (Nat.le_of_ble_eq_true rfl) dL_thrown_864 (Or.inl rfl) (fun v M9 q _ => ?_) (fun E M9 q _ => (Sum.inr_ne_inl q.1).elim)
          obtain rfl : v = some (.int r178) := Sum.inl.inj q.1
          obtain rfl := q.2.symm
          refine fr_st (S' := [.int r178]) rfl ?_
          refine fr_sipush (v := (-1001)) dL_thrown_867 (by decide) ?_
          refine fr_icmp_ne 1128 dL_thrown_870 (by decide) (fun c179 => by rw [if_neg c179] at h; cases h) (fun c179 => ?_)
          rw [if_pos c179] at h
          refine fr_aload_n 0 dL_thrown_873 rfl ?_
          refine fr_iload_n 2 dL_thrown_874 rfl ?_
          obtain ⟨r180, er180, h⟩ := ob h
          try dsimp only at h
          refine fr_callSX (g1 := false) (k2 := 481) (ev_L_creaseCount er180) rfl cyL_creaseCount w_668 w_669 (by rfl) (by omega) (by omega) (by rfl) (Nat.le_of_ble_eq_true rfl) dL_thrown_875 (Or.inl rfl) (fun v M9 q _ => ?_) (fun E M9 q _ => (Sum.inr_ne_inl q.1).elim)
          obtain rfl : v = some (.int r180) := Sum.inl.inj q.1
          obtain rfl := q.2.symm
          refine fr_st (S' := [.int r180]) rfl ?_
          refine fr_sipush (v := (-1001)) dL_thrown_878 (by decide) ?_
          refine fr_icmp_ne 1128 dL_thrown_881 (by decide) (fun c181 => by rw [if_neg c181] at h; cases h) (fun c181 => ?_)
          rw [if_pos c181] at h
          refine fr_aload_n 0 dL_thrown_884 rfl ?_
          refine fr_iload_n 2 dL_thrown_885 rfl ?_
          refine fr_iconst (v := 0) dL_thrown_886 (by decide) ?_
          obtain ⟨r182, er182, h⟩ := ob h
          try dsimp only at h
          refine fr_callSX (g1 := false) (k2 := 479) (ev_L_crease er182) rfl cyL_crease w_1363 w_1364 (by rfl) (by omega) (by omega) (by rfl) (Nat.le_of_ble_eq_true rfl) dL_thrown_887 (Or.inl rfl) (fun v M9 q _ => ?_) (fun E M9 q _ => (Sum.inr_ne_inl q.1).elim)
          obtain rfl : v = some (.int r182) := Sum.inl.inj q.1
          obtain rfl := q.2.symm
          refine fr_st (S' := [.int r182]) rfl ?_
          refine fr_sipush (v := (-1001)) dL_thrown_890 (by decide) ?_
          refine fr_icmp_ne 1128 dL_thrown_893 (by decide) (fun c183 => by rw [if_neg c183] at h; cases h) (fun c183 => ?_)
          rw [if_pos c183] at h
          refine fr_aload_n 0 dL_thrown_896 rfl ?_
          refine fr_iload_n 2 dL_thrown_897 rfl ?_
          obtain ⟨r184, er184, h⟩ := ob h
          try dsimp only at h
          refine fr_callSX (g1 := false) (k2 := 477) (ev_L_cellOf er184) rfl cyL_cellOf w_1344 w_1345 (by rfl) (by omega) (by omega) (by rfl) (Nat.le_of_ble_eq_true rfl) dL_thrown_898 (Or.inl rfl) (fun v M9 q _ => ?_) (fun E M9 q _ => (Sum.inr_ne_inl q.1).elim)
          obtain rfl : v = some (.int r184) := Sum.inl.inj q.1
          obtain rfl := q.2.symm
          refine fr_st (S' := [.int r184]) rfl ?_
          refine fr_sipush (v := (-1001)) dL_thrown_901 (by decide) ?_
          refine fr_icmp_ne 1128 dL_thrown_904 (by decide) (fun c185 => by rw [if_neg c185] at h; cases h) (fun c185 => ?_)
          rw [if_pos c185] at h
          refine fr_aload_n 0 dL_thrown_907 rfl ?_
          refine fr_iconst (v := (-1)) dL_thrown_908 (by decide) ?_
          obtain ⟨r186, er186, h⟩ := ob h
          try dsimp only at h
          refine fr_callSX (g1 := false) (k2 := 475) (ev_L_sheetIn er186) rfl cyL_sheetIn w_675 w_676 (by rfl) (by omega) (by omega) (by rfl) (Nat.le_of_ble_eq_true rfl) dL_thrown_909 (Or.inl rfl) (fun v M9 q _ => ?_) (fun E M9 q _ => (Sum.inr_ne_inl q.1).elim)
          obtain rfl : v = some (.int r186) := Sum.inl.inj q.1
          obtain rfl := q.2.symm
          refine fr_st (S' := [.int r186]) rfl ?_
          refine fr_sipush (v := (-1001)) dL_thrown_912 (by decide) ?_
          refine fr_icmp_ne 1128 dL_thrown_915 (by decide) (fun c187 => by rw [if_neg c187] at h; cases h) (fun c187 => ?_)
          rw [if_pos c187] at h
          refine fr_aload_n 0 dL_thrown_918 rfl ?_
          refine fr_bipush (v := 9) dL_thrown_919 (by decide) ?_
          obtain ⟨r188, er188, h⟩ := ob h
          try dsimp only at h
          refine fr_callSX (g1 := false) (k2 := 473) (ev_L_turnsIn er188) rfl cyL_turnsIn w_692 w_693 (by rfl) (by omega) (by omega) (by rfl) (Nat.le_of_ble_eq_true rfl) dL_thrown_921 (Or.inl rfl) (fun v M9 q _ => ?_) (fun E M9 q _ => (Sum.inr_ne_inl q.1).elim)
          obtain rfl : v = some (.int r188) := Sum.inl.inj q.1
          obtain rfl := q.2.symm
          refine fr_st (S' := [.int r188]) rfl ?_
          refine fr_sipush (v := (-1001)) dL_thrown_924 (by decide) ?_
          refine fr_icmp_ne 1128 dL_thrown_927 (by decide) (fun c189 => by rw [if_neg c189] at h; cases h) (fun c189 => ?_)
          rw [if_pos c189] at h
          refine fr_aload_n 0 dL_thrown_930 rfl ?_
          refine fr_bipush (v := 9) dL_thrown_931 (by decide) ?_
          refine fr_bipush (v := 9) dL_thrown_933 (by decide) ?_
          obtain ⟨r190, er190, h⟩ := ob h
          try dsimp only at h
          refine fr_callSX (g1 := false) (k2 := 470) (ev_L_borderIn er190) rfl cyL_borderIn w_1391 w_1392 (by rfl) (by omega) (by omega) (by rfl) (Nat.le_of_ble_eq_true rfl) dL_thrown_935 (Or.inl rfl) (fun v M9 q _ => ?_) (fun E M9 q _ => (Sum.inr_ne_inl q.1).elim)
          obtain rfl : v = some (.int r190) := Sum.inl.inj q.1
          obtain rfl := q.2.symm
          refine fr_st (S' := [.int r190]) rfl ?_
          refine fr_sipush (v := (-1001)) dL_thrown_938 (by decide) ?_
          refine fr_icmp_ne 1128 dL_thrown_941 (by decide) (fun c191 => by rw [if_neg c191] at h; cases h) (fun c191 => ?_)
          rw [if_pos c191] at h
          refine fr_aload_n 0 dL_thrown_944 rfl ?_
          refine fr_iconst (v := 0) dL_thrown_945 (by decide) ?_
          refine fr_bipush (v := 9) dL_thrown_946 (by decide) ?_
          obtain ⟨r192, er192, h⟩ := ob h
          try dsimp only at h
          refine fr_callSX (g1 := false) (k2 := 467) (ev_L_borderIn er192) rfl cyL_borderIn w_1391 w_1392 (by rfl) (by omega) (by omega) (by rfl) (Nat.le_of_ble_eq_true rfl) dL_thrown_948 (Or.inl rfl) (fun v M9 q _ => ?_) (fun E M9 q _ => (Sum.inr_ne_inl q.1).elim)
          obtain rfl : v = some (.int r192) := Sum.inl.inj q.1
          obtain rfl := q.2.symm
          refine fr_st (S' := [.int r192]) rfl ?_
          refine fr_sipush (v := (-1002)) dL_thrown_951 (by decide) ?_
          refine fr_icmp_ne 1128 dL_thrown_954 (by decide) (fun c193 => by rw [if_neg c193] at h; cases h) (fun c193 => ?_)
          rw [if_pos c193] at h
          refine fr_aload_n 0 dL_thrown_957 rfl ?_
          refine fr_iload_n 2 dL_thrown_958 rfl ?_
          refine fr_iconst (v := 0) dL_thrown_959 (by decide) ?_
          refine fr_bipush (v := 9) dL_thrown_960 (by decide) ?_
          obtain ⟨r194, er194, h⟩ := ob h
          try dsimp only at h
          refine fr_callSX (g1 := false) (k2 := 464) (ev_L_matches er194) rfl cyL_matches w_1353 w_1354 (by rfl) (by omega) (by omega) (by rfl) (Nat.le_of_ble_eq_true rfl) dL_thrown_962 (Or.inl rfl) (fun v M9 q _ => ?_) (fun E M9 q _ => (Sum.inr_ne_inl q.1).elim)
          obtain rfl : v = some (.int r194) := Sum.inl.inj q.1
          obtain rfl := q.2.symm
          refine fr_st (S' := [.int r194]) rfl ?_
          refine fr_sipush (v := (-1001)) dL_thrown_965 (by decide) ?_
          refine fr_icmp_ne 1128 dL_thrown_968 (by decide) (fun c195 => by rw [if_neg c195] at h; cases h) (fun c195 => ?_)
          rw [if_pos c195] at h
          refine fr_aload_n 0 dL_thrown_971 rfl ?_
          refine fr_iload_n 2 dL_thrown_972 rfl ?_
          obtain ⟨r196, er196, h⟩ := ob h
          try dsimp only at h
          refine fr_callSX (g1 := false) (k2 := 463) (ev_L_waysToPut er196) rfl cyL_waysToPut w_1045 w_1046 (by rfl) (by omega) (by omega) (by rfl) (Nat.le_of_ble_eq_true rfl) dL_thrown_973 (Or.inl rfl) (fun v M9 q _ => ?_) (fun E M9 q _ => (Sum.inr_ne_inl q.1).elim)
          obtain rfl : v = some (.int r196) := Sum.inl.inj q.1
          obtain rfl := q.2.symm
          refine fr_st (S' := [.int r196]) rfl ?_
          refine fr_sipush (v := (-1001)) dL_thrown_976 (by decide) ?_
          refine fr_icmp_ne 1128 dL_thrown_979 (by decide) (fun c197 => by rw [if_neg c197] at h; cases h) (fun c197 => ?_)
          rw [if_pos c197] at h
          refine fr_aload_n 0 dL_thrown_982 rfl ?_
          refine fr_iload_n 2 dL_thrown_983 rfl ?_
          obtain ⟨r198, er198, h⟩ := ob h
          try dsimp only at h
          refine fr_callSX (g1 := false) (k2 := 462) (ev_L_foldings er198) rfl cyL_foldings w_1076 w_1077 (by rfl) (by omega) (by omega) (by rfl) (Nat.le_of_ble_eq_true rfl) dL_thrown_984 (Or.inl rfl) (fun v M9 q _ => ?_) (fun E M9 q _ => (Sum.inr_ne_inl q.1).elim)
          obtain rfl : v = some (.int r198.1) := Sum.inl.inj q.1
          obtain rfl := q.2.symm
          refine fr_st (S' := [.int r198.1]) rfl ?_
          refine fr_sipush (v := (-1001)) dL_thrown_987 (by decide) ?_
          refine fr_icmp_ne 1128 dL_thrown_990 (by decide) (fun c199 => by rw [if_neg c199] at h; cases h) (fun c199 => ?_)
          rw [if_pos c199] at h
          refine fr_aload_n 0 dL_thrown_993 rfl ?_
          refine fr_iconst (v := (-1)) dL_thrown_994 (by decide) ?_
          obtain ⟨r200, er200, h⟩ := ob h
          try dsimp only at h
          refine fr_callSX (g1 := false) (k2 := 461) (ev_L_byPermutations er200) rfl cyL_byPermutations w_1436 w_1437 (by rfl) (by omega) (by omega) (by rfl) (Nat.le_of_ble_eq_true rfl) dL_thrown_995 (Or.inl rfl) (fun v M9 q _ => ?_) (fun E M9 q _ => (Sum.inr_ne_inl q.1).elim)
          obtain rfl : v = some (.int r200) := Sum.inl.inj q.1
          obtain rfl := q.2.symm
          refine fr_st (S' := [.int r200]) rfl ?_
          refine fr_sipush (v := (-1001)) dL_thrown_998 (by decide) ?_
          refine fr_icmp_ne 1128 dL_thrown_1001 (by decide) (fun c201 => by rw [if_neg c201] at h; cases h) (fun c201 => ?_)
          rw [if_pos c201] at h
          refine fr_aload_n 0 dL_thrown_1004 rfl ?_
          refine fr_iload_n 2 dL_thrown_1005 rfl ?_
          refine fr_iconst (v := 0) dL_thrown_1006 (by decide) ?_
          obtain ⟨r202, er202, h⟩ := ob h
          try dsimp only at h
          refine fr_callSX (g1 := false) (k2 := 459) (ev_L_onTop er202) rfl cyL_onTop w_1371 w_1372 (by rfl) (by omega) (by omega) (by rfl) (Nat.le_of_ble_eq_true rfl) dL_thrown_1007 (Or.inl rfl) (fun v M9 q _ => ?_) (fun E M9 q _ => (Sum.inr_ne_inl q.1).elim)
          obtain rfl : v = some (.int r202.1) := Sum.inl.inj q.1
          obtain rfl := q.2.symm
          refine fr_st (S' := [.int r202.1]) rfl ?_
          refine fr_sipush (v := (-1001)) dL_thrown_1010 (by decide) ?_
          refine fr_icmp_ne 1128 dL_thrown_1013 (by decide) (fun c203 => by rw [if_neg c203] at h; cases h) (fun c203 => ?_)
          rw [if_pos c203] at h
          refine fr_aload_n 0 dL_thrown_1016 rfl ?_
          refine fr_bipush (v := 9) dL_thrown_1017 (by decide) ?_
          obtain ⟨r204, er204, h⟩ := ob h
          try dsimp only at h
          refine fr_callSX (g1 := false) (k2 := 457) (ev_L_pointsOf er204) rfl cyL_pointsOf w_1399 w_1400 (by rfl) (by omega) (by omega) (by rfl) (Nat.le_of_ble_eq_true rfl) dL_thrown_1019 (Or.inl rfl) (fun v M9 q _ => ?_) (fun E M9 q _ => (Sum.inr_ne_inl q.1).elim)
          obtain rfl : v = some (.int r204) := Sum.inl.inj q.1
          obtain rfl := q.2.symm
          refine fr_st (S' := [.int r204]) rfl ?_
          refine fr_sipush (v := (-1001)) dL_thrown_1022 (by decide) ?_
          refine fr_icmp_ne 1128 dL_thrown_1025 (by decide) (fun c205 => by rw [if_neg c205] at h; cases h) (fun c205 => ?_)
          rw [if_pos c205] at h
          refine fr_aload_n 0 dL_thrown_1028 rfl ?_
          refine fr_bipush (v := 9) dL_thrown_1029 (by decide) ?_
          obtain ⟨r206, er206, h⟩ := ob h
          try dsimp only at h
          refine fr_callSX (g1 := false) (k2 := 455) (ev_L_groupSize er206) rfl cyL_groupSize w_1407 w_1408 (by rfl) (by omega) (by omega) (by rfl) (Nat.le_of_ble_eq_true rfl) dL_thrown_1031 (Or.inl rfl) (fun v M9 q _ => ?_) (fun E M9 q _ => (Sum.inr_ne_inl q.1).elim)
          obtain rfl : v = some (.int r206) := Sum.inl.inj q.1
          obtain rfl := q.2.symm
          refine fr_st (S' := [.int r206]) rfl ?_
          refine fr_sipush (v := (-1001)) dL_thrown_1034 (by decide) ?_
          refine fr_icmp_ne 1128 dL_thrown_1037 (by decide) (fun c207 => by rw [if_neg c207] at h; cases h) (fun c207 => ?_)
          rw [if_pos c207] at h
          refine fr_aload_n 0 dL_thrown_1040 rfl ?_
          refine fr_iload_n 2 dL_thrown_1041 rfl ?_
          obtain ⟨r208, er208, h⟩ := ob h
          try dsimp only at h
          refine fr_callSX (g1 := false) (k2 := 454) (ev_L_byWear er208) rfl cyL_byWear w_1056 w_1057 (by rfl) (by omega) (by omega) (by rfl) (Nat.le_of_ble_eq_true rfl) dL_thrown_1042 (Or.inl rfl) (fun v M9 q _ => ?_) (fun E M9 q _ => (Sum.inr_ne_inl q.1).elim)
          obtain rfl : v = some (.int r208) := Sum.inl.inj q.1
          obtain rfl := q.2.symm
          refine fr_st (S' := [.int r208]) rfl ?_
          refine fr_sipush (v := (-1001)) dL_thrown_1045 (by decide) ?_
          refine fr_icmp_ne 1128 dL_thrown_1048 (by decide) (fun c209 => by rw [if_neg c209] at h; cases h) (fun c209 => ?_)
          rw [if_pos c209] at h
          refine fr_aload_n 0 dL_thrown_1051 rfl ?_
          refine fr_iconst (v := (-1)) dL_thrown_1052 (by decide) ?_
          obtain ⟨r210, er210, h⟩ := ob h
          try dsimp only at h
          refine fr_callSX (g1 := false) (k2 := 453) (ev_L_byWear er210) rfl cyL_byWear w_1056 w_1057 (by rfl) (by omega) (by omega) (by rfl) (Nat.le_of_ble_eq_true rfl) dL_thrown_1053 (Or.inl rfl) (fun v M9 q _ => ?_) (fun E M9 q _ => (Sum.inr_ne_inl q.1).elim)
          obtain rfl : v = some (.int r210) := Sum.inl.inj q.1
          obtain rfl := q.2.symm
          refine fr_st (S' := [.int r210]) rfl ?_
          refine fr_sipush (v := (-1001)) dL_thrown_1056 (by decide) ?_
          refine fr_icmp_ne 1128 dL_thrown_1059 (by decide) (fun c211 => by rw [if_neg c211] at h; cases h) (fun c211 => ?_)
          rw [if_pos c211] at h
          refine fr_aload_n 0 dL_thrown_1062 rfl ?_
          refine fr_iload_n 2 dL_thrown_1063 rfl ?_
          obtain ⟨r212, er212, h⟩ := ob h
          try dsimp only at h
          refine fr_callSX (g1 := false) (k2 := 452) (ev_L_writeSheet er212) rfl cyL_writeSheet w_1107 w_1108 (by rfl) (by omega) (by omega) (by rfl) (Nat.le_of_ble_eq_true rfl) dL_thrown_1064 (Or.inl rfl) (fun v M9 q _ => ?_) (fun E M9 q _ => (Sum.inr_ne_inl q.1).elim)
          obtain rfl : v = some (.int r212.1) := Sum.inl.inj q.1
          obtain rfl := q.2.symm
          refine fr_st (S' := [.int r212.1]) rfl ?_
          refine fr_sipush (v := (-1001)) dL_thrown_1067 (by decide) ?_
          refine fr_icmp_ne 1128 dL_thrown_1070 (by decide) (fun c213 => by rw [if_neg c213] at h; cases h) (fun c213 => ?_)
          rw [if_pos c213] at h
          obtain ⟨q221, eq221, h⟩ := ob h
          try dsimp only at h
          refine fr_room (k' := 2 + 450) (Nat.le_refl _) (by omega) ?_
          refine rg_L_thrown_1073_ok (by omega) eq221 (fun q221_M e9 => ?_) (fun q221_r e9 => ?_)
          · subst e9
            try dsimp only at h
            refine fr_aload_n 0 dL_thrown_1101 rfl ?_
            refine fr_iconst (v := (-1)) dL_thrown_1102 (by decide) ?_
            obtain ⟨r222, er222, h⟩ := ob h
            try dsimp only at h
            refine fr_callSX (g1 := false) (k2 := 449) (ev_L_outputChar er222) rfl cyL_outputChar w_1037 w_1038 (by rfl) (by omega) (by omega) (by rfl) (Nat.le_of_ble_eq_true rfl) dL_thrown_1103 (Or.inl rfl) (fun v M9 q _ => ?_) (fun E M9 q _ => (Sum.inr_ne_inl q.1).elim)
            obtain rfl : v = some (.int r222) := Sum.inl.inj q.1
            obtain rfl := q.2.symm
            refine fr_st (S' := [.int r222]) rfl ?_
            refine fr_sipush (v := (-1001)) dL_thrown_1106 (by decide) ?_
            refine fr_icmp_ne 1128 dL_thrown_1109 (by decide) (fun c223 => by rw [if_neg c223] at h; cases h) (fun c223 => ?_)
            rw [if_pos c223] at h
            refine fr_aload_n 0 dL_thrown_1112 rfl ?_
            refine fr_bipush (v := 40) dL_thrown_1113 (by decide) ?_
            obtain ⟨r224, er224, h⟩ := ob h
            try dsimp only at h
            refine fr_callSX (g1 := false) (k2 := 448) (ev_L_outputChar er224) rfl cyL_outputChar w_1037 w_1038 (by rfl) (by omega) (by omega) (by rfl) (Nat.le_of_ble_eq_true rfl) dL_thrown_1115 (Or.inl rfl) (fun v M9 q _ => ?_) (fun E M9 q _ => (Sum.inr_ne_inl q.1).elim)
            obtain rfl : v = some (.int r224) := Sum.inl.inj q.1
            obtain rfl := q.2.symm
            refine fr_st (S' := [.int r224]) rfl ?_
            refine fr_sipush (v := (-1001)) dL_thrown_1118 (by decide) ?_
            refine fr_icmp_ne 1128 dL_thrown_1121 (by decide) (fun c225 => by rw [if_neg c225] at h; cases h) (fun c225 => ?_)
            rw [if_pos c225] at h
            refine fr_iconst (v := 1) dL_thrown_1124 (by decide) ?_
            refine fr_goto 1129 dL_thrown_1125 (by decide) ?_
            refine fr_istore (L' := [(0, .ref p0a), (1, .long r1.1), (3, .int r2), (4, .int r4), (5, .int 1), (6, .int q168_6)]) dL_thrown_1129 (by decide) rfl ?_
            refine fr_iload 4 dL_thrown_1131 rfl ?_
            refine fr_if_eq 1218 dL_thrown_1133 (by decide) (fun c226 => absurd c226 (by decide)) (fun c226 => ?_)
            refine fr_aload_n 0 dL_thrown_1136 rfl ?_
            refine fr_ldcSW (q := ROB + 50) (show _ ∈ roS from List.mem_of_getElem? (i := 30) rfl) dL_thrown_1137 ?_
            obtain ⟨r227, er227, h⟩ := ob h
            try dsimp only at h
            refine fr_callS (g1 := false) (k2 := 427) (ev_L_runs er227) rfl cyL_runs w_1337 w_1338 (by rfl) (by omega) (by omega) (by rfl) (Nat.le_of_ble_eq_true rfl) dL_thrown_1140 (Or.inl rfl) (fun v M9 q _ => ?_) (fun E M9 q _ => (Sum.inr_ne_inl q.1).elim)
            obtain rfl : v = some (.int r227.1) := Sum.inl.inj q.1
            obtain rfl := q.2.symm
            refine fr_st (S' := [.int r227.1]) rfl ?_
            refine fr_sipush (v := (-1001)) dL_thrown_1143 (by decide) ?_
            refine fr_icmp_ne 1218 dL_thrown_1146 (by decide) (fun c228 => by rw [if_neg c228] at h; cases h) (fun c228 => ?_)
            rw [if_pos c228] at h
            refine fr_aload_n 0 dL_thrown_1149 rfl ?_
            obtain ⟨r229, er229, h⟩ := ob h
            try dsimp only at h
            refine fr_callSX (g1 := false) (k2 := 426) (ev_L_errorPosition er229) rfl cyL_errorPosition w_840 w_841 (by rfl) (by omega) (by omega) (by rfl) (Nat.le_of_ble_eq_true rfl) dL_thrown_1150 (Or.inl rfl) (fun v M9 q _ => ?_) (fun E M9 q _ => (Sum.inr_ne_inl q.1).elim)
            obtain rfl : v = some (.int r229) := Sum.inl.inj q.1
            obtain rfl := q.2.symm
            refine fr_st (S' := [.int r229]) rfl ?_
            refine fr_if_ne 1218 dL_thrown_1153 (by decide) (fun c230 => by rw [if_neg c230] at h; cases h) (fun c230 => ?_)
            rw [if_pos c230] at h
            refine fr_aload_n 0 dL_thrown_1156 rfl ?_
            refine fr_ldcSW (q := ROB + 51) (show _ ∈ roS from List.mem_of_getElem? (i := 31) rfl) dL_thrown_1157 ?_
            obtain ⟨r231, er231, h⟩ := ob h
            try dsimp only at h
            refine fr_callS (g1 := false) (k2 := 405) (ev_L_runs er231) rfl cyL_runs w_1337 w_1338 (by rfl) (by omega) (by omega) (by rfl) (Nat.le_of_ble_eq_true rfl) dL_thrown_1160 (Or.inl rfl) (fun v M9 q _ => ?_) (fun E M9 q _ => (Sum.inr_ne_inl q.1).elim)
            obtain rfl : v = some (.int r231.1) := Sum.inl.inj q.1
            obtain rfl := q.2.symm
            refine fr_st (S' := [.int r231.1]) rfl ?_
            refine fr_sipush (v := (-1002)) dL_thrown_1163 (by decide) ?_
            refine fr_icmp_ne 1218 dL_thrown_1166 (by decide) (fun c232 => by rw [if_neg c232] at h; cases h) (fun c232 => ?_)
            rw [if_pos c232] at h
            refine fr_aload_n 0 dL_thrown_1169 rfl ?_
            obtain ⟨r233, er233, h⟩ := ob h
            try dsimp only at h
            refine fr_callSX (g1 := false) (k2 := 404) (ev_L_failedCommand er233) rfl cyL_failedCommand w_1469 w_1470 (by rfl) (by omega) (by omega) (by rfl) (Nat.le_of_ble_eq_true rfl) dL_thrown_1170 (Or.inl rfl) (fun v M9 q _ => ?_) (fun E M9 q _ => (Sum.inr_ne_inl q.1).elim)
            obtain rfl : v = some (.int r233) := Sum.inl.inj q.1
            obtain rfl := q.2.symm
            refine fr_st (S' := [.int r233]) rfl ?_
            refine fr_if_ne 1218 dL_thrown_1173 (by decide) (fun c234 => by rw [if_neg c234] at h; cases h) (fun c234 => ?_)
            rw [if_pos c234] at h
            refine fr_aload_n 0 dL_thrown_1176 rfl ?_
            refine fr_ldcSW (q := ROB + 53) (show _ ∈ roS from List.mem_of_getElem? (i := 33) rfl) dL_thrown_1177 ?_
            obtain ⟨r235, er235, h⟩ := ob h
            try dsimp only at h
            refine fr_callS (g1 := false) (k2 := 383) (ev_L_runs er235) rfl cyL_runs w_1337 w_1338 (by rfl) (by omega) (by omega) (by rfl) (Nat.le_of_ble_eq_true rfl) dL_thrown_1180 (Or.inl rfl) (fun v M9 q _ => ?_) (fun E M9 q _ => (Sum.inr_ne_inl q.1).elim)
            obtain rfl : v = some (.int r235.1) := Sum.inl.inj q.1
            obtain rfl := q.2.symm
            refine fr_st (S' := [.int r235.1]) rfl ?_
            refine fr_sipush (v := (-1002)) dL_thrown_1183 (by decide) ?_
            refine fr_icmp_ne 1218 dL_thrown_1186 (by decide) (fun c236 => by rw [if_neg c236] at h; cases h) (fun c236 => ?_)
            rw [if_pos c236] at h
            refine fr_aload_n 0 dL_thrown_1189 rfl ?_
            obtain ⟨r237, er237, h⟩ := ob h
            try dsimp only at h
            refine fr_callSX (g1 := false) (k2 := 382) (ev_L_errorPosition er237) rfl cyL_errorPosition w_840 w_841 (by rfl) (by omega) (by omega) (by rfl) (Nat.le_of_ble_eq_true rfl) dL_thrown_1190 (Or.inl rfl) (fun v M9 q _ => ?_) (fun E M9 q _ => (Sum.inr_ne_inl q.1).elim)
            obtain rfl : v = some (.int r237) := Sum.inl.inj q.1
            obtain rfl := q.2.symm
            refine fr_st (S' := [.int r237]) rfl ?_
            refine fr_if_ne 1218 dL_thrown_1193 (by decide) (fun c238 => by rw [if_neg c238] at h; cases h) (fun c238 => ?_)
            rw [if_pos c238] at h
            refine fr_aload_n 0 dL_thrown_1196 rfl ?_
            obtain ⟨u240, eu240, h⟩ := ob h
            try dsimp only at h
            obtain ⟨r239, er239, h⟩ := ob h
            try dsimp only at h
            refine fr_callV (g1 := false) (k2 := 382) (ev_X10_undoCount er239) rfl cyX10_undoCount w_270 w_271 w_272 (rc_ok eu240 rfl (by decide)) (by rfl) (by omega) (by omega) (by rfl) (Nat.le_of_ble_eq_true rfl) dL_thrown_1197 (Or.inl rfl) (fun v M9 q _ => ?_) (fun E M9 q _ => (Sum.inr_ne_inl q.1).elim)
            obtain rfl : v = some (.int r239) := Sum.inl.inj q.1
            obtain rfl := q.2.symm
            refine fr_st (S' := [.int r239]) rfl ?_
            refine fr_iload 3 dL_thrown_1200 rfl ?_
            refine fr_icmp_ne 1218 dL_thrown_1202 (by decide) (fun c241 => by rw [if_neg c241] at h; cases h) (fun c241 => ?_)
            rw [if_pos c241] at h
            refine fr_aload_n 0 dL_thrown_1205 rfl ?_
            obtain ⟨r242, er242, h⟩ := ob h
            try dsimp only at h
            refine fr_callS (g1 := false) (k2 := 0) (ev_L_asks er242) rfl cyL_asks w_880 w_881 (by rfl) (by omega) (by omega) (by rfl) (Nat.le_of_ble_eq_true rfl) dL_thrown_1206 (Or.inl rfl) (fun v M9 q _ => ?_) (fun E M9 q _ => (Sum.inr_ne_inl q.1).elim)
            obtain rfl : v = some (.long r242.1) := Sum.inl.inj q.1
            obtain rfl := q.2.symm
            refine fr_st (S' := [.long r242.1]) rfl ?_
            refine fr_lload_n 1 dL_thrown_1209 rfl ?_
            refine fr_lcmp dL_thrown_1210 ?_
            refine fr_if_ne 1218 dL_thrown_1211 (by decide) (fun c243 => by rw [if_neg c243] at h; cases h) (fun c243 => ?_)
            rw [if_pos c243] at h
            refine fr_iconst (v := 1) dL_thrown_1214 (by decide) ?_
            refine fr_goto 1219 dL_thrown_1215 (by decide) ?_
            obtain rfl := Option.some.inj h
            exact fr_zret (ty := .boolean) rfl rfl dL_thrown_1219 ⟨rfl, rfl⟩
          · subst e9
            try dsimp only at h
            obtain rfl := Option.some.inj h
            exact ⟨rfl, rfl⟩
        · subst e9
          try dsimp only at h
          obtain rfl := Option.some.inj h
          exact ⟨rfl, rfl⟩
      · subst e9
        try dsimp only at h
        obtain rfl := Option.some.inj h
        exact ⟨rfl, rfl⟩
    · subst e9
      try dsimp only at h
      obtain rfl := Option.some.inj h
      exact ⟨rfl, rfl⟩
  · subst e9
    try dsimp only at h
    obtain rfl := Option.some.inj h
    exact ⟨rfl, rfl⟩
