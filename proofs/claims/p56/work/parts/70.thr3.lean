/-! ===== pure: thrown ===== -/
section TH3
variable {b : Nat} {V : St}
theorem lg_self (x : Int64) : lg_cmp x x = 0 := by
  unfold lg_cmp
  simp
/-- an unreadable or refused text: the state stays -/
theorem g_bad {h : Hs} {M : Mem} (H : Hall b h M) (w : WH h) (h0 : hT h = []) {p : Nat} {T : List Int32} (hl : T.length ≤ 19) (hch : ∀ i, i < T.length → vp_nar .char (T.getD i 0) = T.getD i 0) (ht : ∀ M, Txt p T M) {x : Int32} {cs : Cms} (hr : mRead T = some (x, cs)) (hx : x ≠ -1) : ∃ h' M', f_L_runs b p M = some (-1001, M') ∧ Hall b h' M' ∧ WH h' ∧ hC h' = hC h ∧ hK h' = hK h ∧ hT h' = [] ∧ hM h' = x ∧ Fo b 343 M M' := by
  obtain ⟨M', f1, H1, o1⟩ := x_fed hl hch H h0 (fun M' _ => ht M') (fun M1 H1 => l_run_bad H1 (show T.length ≤ 60 by omega) hr hx)
  exact ⟨_, M', f1, H1, w_tx (w_pm (w_tx w (show T.length ≤ 60 by omega)) x) (Nat.zero_le _), rfl, rfl, rfl, rfl, o1⟩
theorem g_ref {h : Hs} {M : Mem} (H : Hall b h M) (w : WH h) (h0 : hT h = []) {p : Nat} {T : List Int32} (hl : T.length ≤ 19) (hch : ∀ i, i < T.length → vp_nar .char (T.getD i 0) = T.getD i 0) (ht : ∀ M', Fo b 343 M M' → Txt p T M') {cs : Cms} {r : Int32 × St} (hr : mRead T = some (-1, cs)) (hc : cs.length ≤ 60) (hj : ∀ i, i < cs.length → (cs.getD i (0, 0)).2 < 9) (hr2 : carM (b + 1) T cs 100 0 (hC h) = some r) (hx : r.1 ≠ -1) : ∃ h' M', f_L_runs b p M = some (-1002, M') ∧ Hall b h' M' ∧ WH h' ∧ hC h' = hC h ∧ hV h' = hV h ∧ hB h' = hB h ∧ hN h' = hN h ∧ hL h' = upL (hL h) (hN h) (hC h) ∧ hK h' = hK h ∧ hT h' = [] ∧ hM h' = hM h ∧ hF h' = r.1 ∧ Fo b 343 M M' := by
  have wT : WH (txH h T) := w_tx w (show T.length ≤ 60 by omega)
  have W := w_pf (w_tx (w_pre wT) (show ([] : List Int32).length ≤ 60 by decide)) r.1
  obtain ⟨M', f1, H1, o1⟩ := x_fed (h' := pfH (txH (hC h, (preH (txH h T)).2) []) r.1) hl hch H h0 ht (fun M1 H1 => by
    obtain ⟨M2, f2, H2, -, o2⟩ := l_run H1 wT hr hc hj hr2
    have e : runH (txH h T) cs.length r = (-1002, pfH (txH (hC h, (preH (txH h T)).2) []) r.1) := if_neg hx
    rw [e] at f2 H2
    exact ⟨M2, f2, H2, o2⟩)
  exact ⟨_, M', f1, H1, W, rfl, rfl, rfl, rfl, rfl, rfl, rfl, rfl, rfl, o1⟩
theorem one9 {c : Int32 × Nat} (hc : c.2 < 9) : ∀ i, i < [c].length → ([c].getD i (0, 0)).2 < 9 := by
  intro i hi
  have : i = 0 := by
    have : i < 1 := hi
    omega
  subst this
  exact hc
theorem car_o9 (hW : WF V) : carM (b + 1) to9 [(0, 3)] 100 0 V = some (0, V) := by
  have e : cmdM (b + 1) to9 (0, 3) V = some (-1, V) := by
    rw [cmd_of n_o9.1 n_o9.2.1 n_o9.2.2]
    show some (mUnfold (b + 1) V 9) = _
    unfold mUnfold
    rw [if_neg (no_hasS (hS_9 hW))]
  show (match cmdM (b + 1) to9 (0, 3) V with
    | none => none
    | some q => if 0 ≤ q.1 then carM (b + 1) to9 [(0, 3)] 99 1 q.2 else some (ni 0, q.2)) = _
  rw [e]
  rfl
theorem car_t9 (hW : WF V) : carM (b + 1) tt9 [(0, 6)] 100 0 V = some (0, V) := by
  have e : cmdM (b + 1) tt9 (0, 6) V = some (-1, V) := by
    rw [cmd_of n_t9.1 n_t9.2.1 n_t9.2.2]
    rfl
  show (match cmdM (b + 1) tt9 (0, 6) V with
    | none => none
    | some q => if 0 ≤ q.1 then carM (b + 1) tt9 [(0, 6)] 99 1 q.2 else some (ni 0, q.2)) = _
  rw [e]
  rfl
theorem ch_q : ∀ i, i < tq.length → vp_nar .char (tq.getD i 0) = tq.getD i 0 := by decide +kernel
theorem ch_o9 : ∀ i, i < to9.length → vp_nar .char (to9.getD i 0) = to9.getD i 0 := by decide +kernel
theorem ch_t9 : ∀ i, i < tt9.length → vp_nar .char (tt9.getD i 0) = tt9.getD i 0 := by decide +kernel
/-- the last part: three texts, then the digest again -/
def thrEnd (p0a : Nat) (l : Int64) (x4 : Int32) (M : Mem) : Option (Int32 × Mem) := (f_L_runs p0a (ROB + 50) M).bind fun r227 => if r227.1 = (-1001) then ((f_L_errorPosition p0a r227.2).bind fun r229 => if r229 = 0 then ((f_L_runs p0a (ROB + 51) r227.2).bind fun r231 => if r231.1 = (-1002) then ((f_L_failedCommand p0a r231.2).bind fun r233 => if r233 = 0 then ((f_L_runs p0a (ROB + 53) r231.2).bind fun r235 => if r235.1 = (-1002) then ((f_L_errorPosition p0a r235.2).bind fun r237 => if r237 = 0 then ((rc r235.2 10 p0a).bind fun _ => (f_X10_undoCount p0a r235.2).bind fun r239 => if r239 = x4 then ((f_L_asks p0a r235.2).bind fun r242 => if (lg_cmp r242.1 l) = 0 then (some (1, r242.2)) else none) else none) else none) else none) else none) else none) else none) else none
theorem t_end (hW : WF V) {k : Nat} {a : Int64} (hA : ∀ h M, Hall b h M → hC h = V → ∃ M', f_L_asks b M = some (a, M') ∧ Hall b h M' ∧ Fo b 343 M M') : TS b V k (fun M => ((1 : Int32), M)) (thrEnd b a (ni k)) := by
  rintro M ⟨h, H, w, e1, e2, e3⟩
  obtain ⟨h1, M1, f1, H1, w1, c1, k1, t1, m1, o1⟩ := g_bad H w e3 (by decide) ch_q t_q r_q (by decide)
  have d1 : hC h1 = V := c1.trans e1
  obtain ⟨h2, M2, f2, H2, w2, c2, -, -, -, -, k2, t2, m2, g2, o2⟩ := g_ref H1 w1 t1 (by decide) ch_o9 (fun M' _ => t_o9 M') r_o9 (by decide) (one9 (by decide)) (d1.symm ▸ car_o9 hW) (show (0 : Int32) ≠ -1 by decide)
  have d2 : hC h2 = V := c2.trans d1
  obtain ⟨h3, M3, f3, H3, w3, c3, -, -, -, -, k3, t3, m3, g3, o3⟩ := g_ref H2 w2 t2 (by decide) ch_t9 (fun M' _ => t_t9 M') r_t9 (by decide) (one9 (by decide)) (d2.symm ▸ car_t9 hW) (show (0 : Int32) ≠ -1 by decide)
  have d3 : hC h3 = V := c3.trans d2
  have q3 : hK h3 = k := ((k3.trans k2).trans k1).trans e2
  obtain ⟨M4, f4, H4, o4⟩ := hA _ M3 H3 d3
  refine ⟨M4, ?_, ⟨_, H4, w3, d3, q3, t3⟩, ((o1.tr o2).tr o3).tr o4⟩
  have p1 : f_L_errorPosition b M1 = some 0 := (l_errPos H1 (by rw [m1]; decide)).trans (by rw [m1])
  have p2 : f_L_failedCommand b M2 = some 0 := (l_failed H2 (by rw [g2]; exact (show (0 : Int32) ≠ -1 by decide))).trans (by rw [g2])
  have p3 : f_L_errorPosition b M3 = some 0 := (l_errPos H3 (by rw [m3, m2, m1]; decide)).trans (by rw [m3, m2, m1])
  have p4 : f_X10_undoCount b M3 = some (ni k) := (x_undos H3).trans (by rw [q3])
  unfold thrEnd
  rw [f1, Option.bind_some, if_pos rfl, p1, Option.bind_some, if_pos rfl, f2, Option.bind_some, if_pos rfl, p2, Option.bind_some, if_pos rfl, f3, Option.bind_some, if_pos rfl, p3, Option.bind_some, if_pos rfl, H3.rc10, Option.bind_some, p4, Option.bind_some, if_pos rfl, f4, Option.bind_some, if_pos (lg_self a)]
theorem TS.out40 {k : Nat} {β : Type} {mk : Mem → β} {g : Mem → Option β} {x : Int32} (hx : x < 0 ∨ 22 ≤ x) (nx : TS b V k mk g) : TS b V k mk (fun M => (f_L_outputChar b x M).bind fun r => if r = (-1001) then g M else none) := by
  intro M G
  obtain ⟨M', f', a⟩ := nx M G
  refine ⟨M', ?_, a⟩
  obtain ⟨h, H, w, e, -⟩ := id G
  obtain ⟨n, hn, e12⟩ := H.2.2.2.2.2.2.2.2.2.2.2
  show (f_L_outputChar b x M).bind _ = _
  rw [l_outChar_no G.hc hn e12 (hx.imp id (fun z => Int32.le_trans ((ni_le (j := 22) (by omega) (by omega)).mpr hn) z))]
  exact f'
def thrMid (p0a : Nat) (l : Int64) (x3 x4 : Int32) (M : Mem) : Option (Int32 × Mem) := (f_L_addSheet p0a (-1) 0 0 0 115 M).bind fun r6 => if r6.1 = (-1001) then ((f_L_addSheet p0a 0 10 0 0 115 r6.2).bind fun r8 => if r8.1 = (-1001) then ((f_L_addSheet p0a 0 0 0 10 108 r8.2).bind fun r10 => if r10.1 = (-1001) then ((f_L_addSheet p0a 0 0 0 0 83 r10.2).bind fun r12 => if r12.1 = (-1001) then ((rg_L_thrown_82 p0a l x3 x4 r12.2).bind fun q17 => match q17 with | .inl q17_M => ((f_L_addCrease p0a x3 120 q17_M).bind fun r18 => if r18.1 = (-1001) then ((f_L_addCrease p0a 0 120 r18.2).bind fun r20 => if r20.1 = (-1002) then ((f_L_fold p0a x3 r20.2).bind fun r22 => if r22.1 = (-1001) then ((f_L_unfold p0a (-1) r22.2).bind fun r24 => if r24.1 = (-1001) then ((f_L_mend p0a x3 r24.2).bind fun r26 => if r26.1 = (-1001) then ((f_L_put p0a x3 0 9 r26.2).bind fun r28 => if r28.1 = (-1001) then ((f_L_put p0a 0 9 9 r28.2).bind fun r30 => if r30.1 = (-1001) then ((f_L_put p0a 0 (-1) 0 r30.2).bind fun r32 => if r32.1 = (-1001) then ((f_L_put p0a 0 0 4 r32.2).bind fun r34 => if r34.1 = (-1002) then ((f_L_put p0a 0 0 (-1) r34.2).bind fun r36 => if r36.1 = (-1002) then ((f_L_take p0a 9 r36.2).bind fun r38 => if r38.1 = (-1001) then ((f_L_addPaste p0a 0 r38.2).bind fun r40 => if r40.1 = (-1001) then ((f_L_addPaste p0a 21 r40.2).bind fun r42 => if r42.1 = (-1001) then ((rg_L_thrown_266 p0a l x3 x4 r42.2).bind fun q49 => match q49 with | .inl q49_M => ((lp_L_thrown_297 p0a l x3 x4 10 1 0 q49_M).bind fun q152 => match q152 with | .inl (q152_5, q152_6, q152_M) => ((lp_L_thrown_713 p0a l x3 x4 10 q152_5 0 q152_M).bind fun q168 => match q168 with | .inl (q168_5, q168_6, q168_M) => (if q168_5 = 0 then none else ((f_L_kind p0a x3 q168_M).bind fun r170 => if r170 = (-1001) then ((f_L_border p0a x3 9 q168_M).bind fun r172 => if r172 = (-1001) then ((f_L_wear p0a x3 q168_M).bind fun r174 => if r174 = (-1001) then ((f_L_isTorn p0a (-1) q168_M).bind fun r176 => if r176 = (-1001) then ((f_L_isFolded p0a x3 q168_M).bind fun r178 => if r178 = (-1001) then ((f_L_creaseCount p0a x3 q168_M).bind fun r180 => if r180 = (-1001) then ((f_L_crease p0a x3 0 q168_M).bind fun r182 => if r182 = (-1001) then ((f_L_cellOf p0a x3 q168_M).bind fun r184 => if r184 = (-1001) then ((f_L_sheetIn p0a (-1) q168_M).bind fun r186 => if r186 = (-1001) then ((f_L_turnsIn p0a 9 q168_M).bind fun r188 => if r188 = (-1001) then ((f_L_borderIn p0a 9 9 q168_M).bind fun r190 => if r190 = (-1001) then ((f_L_borderIn p0a 0 9 q168_M).bind fun r192 => if r192 = (-1002) then ((f_L_matches p0a x3 0 9 q168_M).bind fun r194 => if r194 = (-1001) then ((f_L_waysToPut p0a x3 q168_M).bind fun r196 => if r196 = (-1001) then ((f_L_foldings p0a x3 q168_M).bind fun r198 => if r198.1 = (-1001) then ((f_L_byPermutations p0a (-1) r198.2).bind fun r200 => if r200 = (-1001) then ((f_L_onTop p0a x3 0 r198.2).bind fun r202 => if r202.1 = (-1001) then ((f_L_pointsOf p0a 9 r202.2).bind fun r204 => if r204 = (-1001) then ((f_L_groupSize p0a 9 r202.2).bind fun r206 => if r206 = (-1001) then ((f_L_byWear p0a x3 r202.2).bind fun r208 => if r208 = (-1001) then ((f_L_byWear p0a (-1) r202.2).bind fun r210 => if r210 = (-1001) then ((f_L_writeSheet p0a x3 r202.2).bind fun r212 => if r212.1 = (-1001) then ((rg_L_thrown_1073 p0a l x3 x4 q168_5 q168_6 r212.2).bind fun q221 => match q221 with | .inl q221_M => ((f_L_outputChar p0a (-1) q221_M).bind fun r222 => if r222 = (-1001) then ((f_L_outputChar p0a 40 q221_M).bind fun r224 => if r224 = (-1001) then ((f_L_runs p0a (ROB + 50) q221_M).bind fun r227 => if r227.1 = (-1001) then ((f_L_errorPosition p0a r227.2).bind fun r229 => if r229 = 0 then ((f_L_runs p0a (ROB + 51) r227.2).bind fun r231 => if r231.1 = (-1002) then ((f_L_failedCommand p0a r231.2).bind fun r233 => if r233 = 0 then ((f_L_runs p0a (ROB + 53) r231.2).bind fun r235 => if r235.1 = (-1002) then ((f_L_errorPosition p0a r235.2).bind fun r237 => if r237 = 0 then ((rc r235.2 10 p0a).bind fun _ => (f_X10_undoCount p0a r235.2).bind fun r239 => if r239 = x4 then ((f_L_asks p0a r235.2).bind fun r242 => if (lg_cmp r242.1 l) = 0 then (some (1, r242.2)) else none) else none) else none) else none) else none) else none) else none) else none) else none) else none) | .inr q221_r => some q221_r) else none) else none) else none) else none) else none) else none) else none) else none) else none) else none) else none) else none) else none) else none) else none) else none) else none) else none) else none) else none) else none) else none)) | .inr q168_r => some q168_r) | .inr q152_r => some q152_r) | .inr q49_r => some q49_r) else none) else none) else none) else none) else none) else none) else none) else none) else none) else none) else none) else none) else none) | .inr q17_r => some q17_r) else none) else none) else none) else none
theorem t_mid (hW : WF V) {n : Nat} (hn : n < 9) (hV : V 0 2 = ni (n + 1)) (k : Nat) {a : Int64} (hA : ∀ h M, Hall b h M → hC h = V → ∃ M', f_L_asks b M = some (a, M') ∧ Hall b h M' ∧ Fo b 343 M M') : TS b V k (fun M => ((1 : Int32), M)) (thrMid b a (ni (n + 1)) (ni k)) := by
  have hm : n + 1 ≤ 9 := by omega
  have hS0 : hasS V 0 = true := hS_of (i := 0) hm hV (by omega)
  have hSn : hasS V (ni (n + 1)) = false := hS_no hm hV
  have nS := no_hasS hSn
  have s1 : TS b V k (fun M => (c_addSheet (-2), M)) (f_L_addSheet b (-1) 0 0 0 115) := ts_sheet (if_neg (by decide)) (by decide)
  have s2 : TS b V k (fun M => (c_addSheet (-2), M)) (f_L_addSheet b 0 10 0 0 115) := ts_sheet (if_neg (by decide)) (by decide)
  have s3 : TS b V k (fun M => (c_addSheet (-2), M)) (f_L_addSheet b 0 0 0 10 108) := ts_sheet (if_neg (by decide)) (by decide)
  have s4 : TS b V k (fun M => (c_addSheet (-2), M)) (f_L_addSheet b 0 0 0 0 83) := ts_sheet (if_neg (by decide)) (by decide)
  have s5 : TS b V k (fun M => (c_addCrease (-1), M)) (f_L_addCrease b (ni (n + 1)) 120) := ts_crease (if_neg nS) (by decide)
  have s6 : TS b V k (fun M => (c_addCrease (-2), M)) (f_L_addCrease b 0 120) := ts_crease ((if_pos hS0).trans (if_neg (by decide))) (by decide)
  have s7 : TS b V k (fun M => (c_fold (-1), M)) (f_L_fold b (ni (n + 1))) := ts_fold (if_neg nS) (by decide)
  have s8 : TS b V k (fun M => (c_unfold (-1), M)) (f_L_unfold b (-1)) := ts_unfold (if_neg (no_hasS hS_neg)) (by decide)
  have s9 : TS b V k (fun M => (c_mend (-1), M)) (f_L_mend b (ni (n + 1))) := ts_mend (if_neg nS) (by decide)
  have s10 : TS b V k (fun M => (c_put (-1), M)) (f_L_put b (ni (n + 1)) 0 9) := ts_put (if_neg nS) (by decide)
  have s11 : TS b V k (fun M => (c_put (-1), M)) (f_L_put b 0 9 9) := ts_put ((if_pos hS0).trans (if_neg (by decide))) (by decide)
  have s12 : TS b V k (fun M => (c_put (-1), M)) (f_L_put b 0 (-1) 0) := ts_put ((if_pos hS0).trans (if_neg (by decide))) (by decide)
  have s13 : TS b V k (fun M => (c_put (-2), M)) (f_L_put b 0 0 4) := ts_put ((if_pos hS0).trans ((if_pos (by decide)).trans (if_neg (by decide)))) (by decide)
  have s14 : TS b V k (fun M => (c_put (-2), M)) (f_L_put b 0 0 (-1)) := ts_put ((if_pos hS0).trans ((if_pos (by decide)).trans (if_neg (by decide)))) (by decide)
  have s15 : TS b V k (fun M => (c_take (-1), M)) (f_L_take b 9) := ts_take (if_neg (by decide)) (by decide)
  have s16 : TS b V k (fun M => (c_addPaste (-2), M)) (f_L_addPaste b 0) := ts_paste (if_pos (by decide)) (by decide)
  have s17 : TS b V k (fun M => (c_addPaste (-2), M)) (f_L_addPaste b 21) := ts_paste ((if_neg (by decide)).trans (if_neg (by decide))) (by decide)
  unfold thrMid
  have q1 : c_addSheet (-2) = -1001 := by decide
  refine TS.s s1 q1 ?_
  dsimp only
  refine TS.s s2 (by decide) ?_
  dsimp only
  refine TS.s s3 (by decide) ?_
  dsimp only
  refine TS.s s4 (by decide) ?_
  dsimp only
  refine TS.w (t_82 hW hV a (ni k)) ?_
  dsimp only
  refine TS.s s5 (by decide) ?_
  dsimp only
  refine TS.s s6 (by decide) ?_
  dsimp only
  refine TS.s s7 (by decide) ?_
  dsimp only
  refine TS.s s8 (by decide) ?_
  dsimp only
  refine TS.s s9 (by decide) ?_
  dsimp only
  refine TS.s s10 (by decide) ?_
  dsimp only
  refine TS.s s11 (by decide) ?_
  dsimp only
  refine TS.s s12 (by decide) ?_
  dsimp only
  refine TS.s s13 (by decide) ?_
  dsimp only
  refine TS.s s14 (by decide) ?_
  dsimp only
  refine TS.s s15 (by decide) ?_
  dsimp only
  refine TS.s s16 (by decide) ?_
  dsimp only
  refine TS.s s17 (by decide) ?_
  dsimp only
  refine TS.w (t_266 hW a (ni (n + 1)) (ni k)) ?_
  have h297 := t_297 (b := b) (k := k) hW hm hV a (ni k) (n + 1) (Nat.le_refl _) 10 (by omega)
  rw [Nat.sub_self] at h297
  refine TS.w h297 ?_
  refine TS.w (t_713 (b := b) (k := k) hW a (ni (n + 1)) (ni k) 9 (Nat.le_refl _) 10 (by omega)) ?_
  dsimp only
  refine TS.neg (by decide) ?_
  refine TS.r (fun M H => l_kind_no H hW hSn) rfl ?_
  refine TS.r (fun M H => l_border_1 H hW _ hSn) rfl ?_
  refine TS.r (fun M H => (l_wear H hW _).trans (by rw [if_neg nS])) rfl ?_
  refine TS.r (fun M H => l_isTorn_no H hW hS_neg) rfl ?_
  refine TS.r (fun M H => (l_isFolded H hW _).trans (by rw [if_neg nS])) rfl ?_
  refine TS.r (fun M H => (l_creaseCount H hW _).trans (by rw [if_neg nS])) rfl ?_
  refine TS.r (fun M H => l_crease_no H hW (Or.inl hSn)) rfl ?_
  refine TS.r (fun M H => (l_cellOf H hW _).trans (by rw [if_neg nS])) rfl ?_
  refine TS.r (fun M H => (l_sheetIn H _).trans (by rw [if_neg (by decide)])) rfl ?_
  refine TS.r (fun M H => (l_turnsIn H hW _).trans (by rw [if_neg (by decide)])) rfl ?_
  refine TS.r (fun M H => l_borderIn_1 H _ (by decide)) rfl ?_
  refine TS.r (fun M H => l_borderIn_2 H (by decide) (by decide)) rfl ?_
  refine TS.r (fun M H => l_matches_1 H hW _ _ hSn) rfl ?_
  refine TS.r (fun M H => l_waysToPut_no H hW hSn) rfl ?_
  refine TS.s (ts_q (fun M H => l_foldings_no H hW hSn)) rfl ?_
  dsimp only
  refine TS.r (fun M H => l_byPerm_no H hW hS_neg) rfl ?_
  refine TS.s (ts_q (fun M H => l_onTop_no H hW (Or.inl hSn))) rfl ?_
  dsimp only
  refine TS.r (fun M H => l_pointsOf_1 H (by decide)) rfl ?_
  refine TS.r (fun M H => l_groupSize_1 H (by decide)) rfl ?_
  refine TS.r (fun M H => l_byWear_no H hSn) rfl ?_
  refine TS.r (fun M H => l_byWear_no H hS_neg) rfl ?_
  refine TS.s (ts_q (fun M H => l_writeSheet_no H hW hSn)) rfl ?_
  dsimp only
  refine TS.w (t_1073 a (ni (n + 1)) (ni k) 1 (ni 9)) ?_
  dsimp only
  refine TS.out40 (Or.inl (by decide)) ?_
  refine TS.out40 (Or.inr (by decide)) ?_
  exact t_end hW hA
theorem t_thrown (hW : WF V) {n : Nat} (hn : n < 9) (hV : V 0 2 = ni (n + 1)) (k : Nat) : TS b V k (fun M => ((1 : Int32), M)) (f_L_thrown b) := by
  obtain ⟨a, hA⟩ := l_asks b hW hn hV
  intro M G
  obtain ⟨h, H, w, e, e2, e3⟩ := G
  obtain ⟨M1, f1, H1, o1⟩ := hA h M H e
  obtain ⟨M2, f2, G2, o2⟩ := t_mid hW hn hV k hA M1 ⟨h, H1, w, e, e2, e3⟩
  refine ⟨M2, ?_, G2, o1.tr o2⟩
  unfold f_L_thrown
  rw [f1, Option.bind_some, H1.rc10, Option.bind_some, x_count H1.hc, Option.bind_some, Option.bind_some, x_undos H1, Option.bind_some, e, hV, e2]
  exact f2
end TH3
