/-! ===== pure: thrown ===== -/
section TH3
variable {b : Nat} {V : St}
theorem lg_self (x : Int64) : lg_cmp x x = 0 := by
  unfold lg_cmp
  simp
/-- an unreadable or refused text: the state stays -/
theorem g_bad {h : Hs} {M : Mem} (H : Hall b h M) (w : WH h) (h0 : hT h = []) {p : Nat} {T : List Int32} (hl : T.length ≤ 19) (hch : ∀ i, i < T.length → vp_nar .char (T.getD i 0) = T.getD i 0) (ht : ∀ M, Txt p T M) {x : Int32} {cs : Cms} (hr : mRead T = some (x, cs)) (hx : x ≠ -1) : ∃ M', f_L_runs b p M = some (-1001, M') ∧ Hall b (txH (pmH (txH h T) x) []) M' ∧ Fo b 343 M M' :=
  x_fed hl hch H h0 (fun M' _ => ht M') (fun M1 H1 => l_run_bad H1 (show T.length ≤ 60 by omega) hr hx)
theorem g_ref {h : Hs} {M : Mem} (H : Hall b h M) (w : WH h) (h0 : hT h = []) {p : Nat} {T : List Int32} (hl : T.length ≤ 19) (hch : ∀ i, i < T.length → vp_nar .char (T.getD i 0) = T.getD i 0) (ht : ∀ M, Txt p T M) {cs : Cms} {r : Int32 × St} (hr : mRead T = some (-1, cs)) (hc : cs.length ≤ 60) (hj : ∀ i, i < cs.length → (cs.getD i (0, 0)).2 < 9) (hr2 : carM (b + 1) T cs 100 0 (hC h) = some r) (hx : r.1 ≠ -1) : ∃ M', f_L_runs b p M = some (-1002, M') ∧ Hall b (pfH (txH (hC h, (preH (txH h T)).2) []) r.1) M' ∧ Fo b 343 M M' := by
  refine x_fed hl hch H h0 (fun M' _ => ht M') (fun M1 H1 => ?_)
  obtain ⟨M2, f2, H2, -, o2⟩ := l_run H1 (w_tx w (show T.length ≤ 60 by omega)) hr hc hj hr2
  have e : runH (txH h T) cs.length r = (-1002, pfH (txH (hC h, (preH (txH h T)).2) []) r.1) := if_neg hx
  rw [e] at f2 H2
  exact ⟨M2, f2, H2, o2⟩
theorem one9 {c : Int32 × Nat} (hc : c.2 < 9) : ∀ i, i < [c].length → ([c].getD i (0, 0)).2 < 9 := by
  intro i hi
  have : i = 0 := by
    have : i < 1 := hi
    omega
  subst this
  exact hc
theorem car_o9 (hW : WF V) : carM (b + 1) to9 [(0, 3)] 100 0 V = some (0, V) := by
  have e : cmdM (b + 1) to9 (0, 3) V = some (-1, V) := by
    rw [cmd_of n_o9.1 n_o9.2.1 n_o9.2.2]
    show some (mUnfold (b + 1) V 9) = _
    unfold mUnfold
    rw [if_neg (no_hasS (hS_9 hW))]
  show (match cmdM (b + 1) to9 (0, 3) V with
    | none => none
    | some q => if 0 ≤ q.1 then carM (b + 1) to9 [(0, 3)] 99 1 q.2 else some (ni 0, q.2)) = _
  rw [e]
  rfl
theorem car_t9 (hW : WF V) : carM (b + 1) tt9 [(0, 6)] 100 0 V = some (0, V) := by
  have e : cmdM (b + 1) tt9 (0, 6) V = some (-1, V) := by
    rw [cmd_of n_t9.1 n_t9.2.1 n_t9.2.2]
    rfl
  show (match cmdM (b + 1) tt9 (0, 6) V with
    | none => none
    | some q => if 0 ≤ q.1 then carM (b + 1) tt9 [(0, 6)] 99 1 q.2 else some (ni 0, q.2)) = _
  rw [e]
  rfl
theorem ch_q : ∀ i, i < tq.length → vp_nar .char (tq.getD i 0) = tq.getD i 0 := by decide +kernel
theorem ch_o9 : ∀ i, i < to9.length → vp_nar .char (to9.getD i 0) = to9.getD i 0 := by decide +kernel
theorem ch_t9 : ∀ i, i < tt9.length → vp_nar .char (tt9.getD i 0) = tt9.getD i 0 := by decide +kernel
/-- the last part: three texts, then the digest again -/
def thrEnd (p0a : Nat) (l : Int64) (x4 : Int32) (M : Mem) : Option (Int32 × Mem) := (f_L_runs p0a (ROB + 50) M).bind fun r227 => if r227.1 = (-1001) then ((f_L_errorPosition p0a r227.2).bind fun r229 => if r229 = 0 then ((f_L_runs p0a (ROB + 51) r227.2).bind fun r231 => if r231.1 = (-1002) then ((f_L_failedCommand p0a r231.2).bind fun r233 => if r233 = 0 then ((f_L_runs p0a (ROB + 53) r231.2).bind fun r235 => if r235.1 = (-1002) then ((f_L_errorPosition p0a r235.2).bind fun r237 => if r237 = 0 then ((rc r235.2 10 p0a).bind fun _ => (f_X10_undoCount p0a r235.2).bind fun r239 => if r239 = x4 then ((f_L_asks p0a r235.2).bind fun r242 => if (lg_cmp r242.1 l) = 0 then (some (1, r242.2)) else none) else none) else none) else none) else none) else none) else none) else none
theorem t_end (hW : WF V) {k : Nat} {a : Int64} (hA : ∀ h M, Hall b h M → hC h = V → ∃ M', f_L_asks b M = some (a, M') ∧ Hall b h M' ∧ Fo b 343 M M') : TS b V k (fun M => ((1 : Int32), M)) (thrEnd b a (ni k)) := by
  rintro M ⟨h, H, w, rfl, e2, e3⟩
  obtain ⟨M1, f1, H1, o1⟩ := g_bad H w e3 (by decide) ch_q t_q r_q (by decide)
  have w1 : WH (txH (pmH (txH h tq) 0) []) := w_tx (w_pm (w_tx w (by decide)) 0) (by decide)
  obtain ⟨M2, f2, H2, o2⟩ := g_ref H1 w1 rfl (by decide) ch_o9 t_o9 r_o9 (by decide) (one9 (by decide)) (car_o9 hW) (by decide)
  have w2 := w_pf (w_tx (w_cur (w_pre (w_tx w1 (show to9.length ≤ 60 by decide))) hW) (show ([] : List Int32).length ≤ 60 by decide)) 0
  obtain ⟨M3, f3, H3, o3⟩ := g_ref H2 w2 rfl (by decide) ch_t9 t_t9 r_t9 (by decide) (one9 (by decide)) (car_t9 hW) (by decide)
  have w3 := w_pf (w_tx (w_cur (w_pre (w_tx w2 (show tt9.length ≤ 60 by decide))) hW) (show ([] : List Int32).length ≤ 60 by decide)) 0
  obtain ⟨M4, f4, H4, o4⟩ := hA _ M3 H3 rfl
  refine ⟨M4, ?_, ⟨_, H4, w3, rfl, e2, rfl⟩, ((o1.tr o2).tr o3).tr o4⟩
  have p1 := l_errPos H1 (show (0 : Int32) ≠ -1 by decide)
  have p2 := l_failed H2 (show (0 : Int32) ≠ -1 by decide)
  have p3 := l_errPos H3 (show (0 : Int32) ≠ -1 by decide)
  have p4 := x_undos H3
  unfold thrEnd
  rw [f1, Option.bind_some, if_pos rfl, p1, Option.bind_some, if_pos rfl, f2, Option.bind_some, if_pos rfl, p2, Option.bind_some, if_pos rfl, f3, Option.bind_some, if_pos rfl, p3, Option.bind_some, if_pos rfl, H3.rc10, Option.bind_some, p4, Option.bind_some, if_pos (by rw [← e2]; rfl), f4, Option.bind_some, if_pos (lg_self a)]
theorem TS.out40 {k : Nat} {β : Type} {mk : Mem → β} {g : Mem → Option β} {x : Int32} (hx : x < 0 ∨ 22 ≤ x) (nx : TS b V k mk g) : TS b V k mk (fun M => (f_L_outputChar b x M).bind fun r => if r = (-1001) then g M else none) := by
  intro M G
  obtain ⟨M', f', a⟩ := nx M G
  refine ⟨M', ?_, a⟩
  obtain ⟨h, H, w, e, -⟩ := id G
  obtain ⟨n, hn, e12⟩ := H.2.2.2.2.2.2.2.2.2.2.2
  show (f_L_outputChar b x M).bind _ = _
  rw [l_outChar_no G.hc hn e12 (hx.imp id (fun z => Int32.le_trans ((ni_le (j := 22) (by omega) (by omega)).mpr hn) z))]
  exact f'
theorem t_thrown (hW : WF V) {n : Nat} (hn : n < 9) (hV : V 0 2 = ni (n + 1)) (k : Nat) : TS b V k (fun M => ((1 : Int32), M)) (f_L_thrown b) := by
  obtain ⟨a, hA⟩ := l_asks b hW hn hV
  have hm : n + 1 ≤ 9 := by omega
  have hS0 : hasS V 0 = true := hS_of (i := 0) hm hV (by omega)
  have hSn : hasS V (ni (n + 1)) = false := hS_no hm hV
  have nS := no_hasS hSn
  have askT : TS b V k (fun M => (a, M)) (f_L_asks b) := by
    rintro M ⟨h, H, w, e, e2, e3⟩
    obtain ⟨M', f1, H1, o1⟩ := hA h M H e
    exact ⟨M', f1, ⟨h, H1, w, e, e2, e3⟩, o1⟩
  unfold f_L_thrown
  refine TS.w askT ?_
  dsimp only
  refine TS.kk (fun M H => H.1.rc10) ?_
  refine TS.kk (fun M H => x_count H) ?_
  rw [hV]
  refine TS.kk (fun M H => H.1.rc10) ?_
  have und : ∀ {β : Type} {mk : Mem → β} {g : Int32 → Mem → Option β}, TS b V k mk (g (ni k)) → TS b V k mk (fun M => (f_X10_undoCount b M).bind fun r => g r M) := by
    intro β mk g nx M G
    obtain ⟨M', f', q⟩ := nx M G
    refine ⟨M', ?_, q⟩
    obtain ⟨h, H, w, e, e2, e3⟩ := G
    show (f_X10_undoCount b M).bind _ = _
    rw [x_undos H, e2]
    exact f'
  refine und ?_
  refine TS.s (ts_sheet (a := -2) (if_neg (by decide)) (by decide)) (by decide) ?_
  dsimp only
  refine TS.s (ts_sheet (a := -2) (if_neg (by decide)) (by decide)) (by decide) ?_
  dsimp only
  refine TS.s (ts_sheet (a := -2) (if_neg (by decide)) (by decide)) (by decide) ?_
  dsimp only
  refine TS.s (ts_sheet (a := -2) (if_neg (by decide)) (by decide)) (by decide) ?_
  dsimp only
  refine TS.w (t_82 hW hV a (ni k)) ?_
  dsimp only
  refine TS.s (ts_crease (a := -1) (if_neg nS) (by decide)) (by decide) ?_
  dsimp only
  refine TS.s (ts_crease (a := -2) ((if_pos hS0).trans (if_neg (by decide))) (by decide)) (by decide) ?_
  dsimp only
  refine TS.s (ts_fold (a := -1) (if_neg nS) (by decide)) (by decide) ?_
  dsimp only
  refine TS.s (ts_unfold (a := -1) (if_neg (no_hasS hS_neg)) (by decide)) (by decide) ?_
  dsimp only
  refine TS.s (ts_mend (a := -1) (if_neg nS) (by decide)) (by decide) ?_
  dsimp only
  refine TS.s (ts_put (a := -1) (if_neg nS) (by decide)) (by decide) ?_
  dsimp only
  refine TS.s (ts_put (a := -1) ((if_pos hS0).trans (if_neg (by decide))) (by decide)) (by decide) ?_
  dsimp only
  refine TS.s (ts_put (a := -1) ((if_pos hS0).trans (if_neg (by decide))) (by decide)) (by decide) ?_
  dsimp only
  refine TS.s (ts_put (a := -2) ((if_pos hS0).trans ((if_pos (by decide)).trans (if_neg (by decide)))) (by decide)) (by decide) ?_
  dsimp only
  refine TS.s (ts_put (a := -2) ((if_pos hS0).trans ((if_pos (by decide)).trans (if_neg (by decide)))) (by decide)) (by decide) ?_
  dsimp only
  refine TS.s (ts_take (a := -1) (if_neg (by decide)) (by decide)) (by decide) ?_
  dsimp only
  refine TS.s (ts_paste (a := -2) (if_pos (by decide)) (by decide)) (by decide) ?_
  dsimp only
  refine TS.s (ts_paste (a := -2) ((if_neg (by decide)).trans (if_neg (by decide))) (by decide)) (by decide) ?_
  dsimp only
  refine TS.w (t_266 hW a (ni (n + 1)) (ni k)) ?_
  have h297 := t_297 (b := b) (k := k) hW hm hV a (ni k) (n + 1) (Nat.le_refl _) 10 (by omega)
  rw [Nat.sub_self] at h297
  refine TS.w h297 ?_
  refine TS.w (t_713 (b := b) (k := k) hW a (ni (n + 1)) (ni k) 9 (Nat.le_refl _) 10 (by omega)) ?_
  dsimp only
  refine TS.neg (by decide) ?_
  refine TS.r (fun M H => l_kind_no H hW hSn) rfl ?_
  refine TS.r (fun M H => l_border_1 H hW _ hSn) rfl ?_
  refine TS.r (fun M H => (l_wear H hW _).trans (by rw [if_neg nS])) rfl ?_
  refine TS.r (fun M H => l_isTorn_no H hW hS_neg) rfl ?_
  refine TS.r (fun M H => (l_isFolded H hW _).trans (by rw [if_neg nS])) rfl ?_
  refine TS.r (fun M H => (l_creaseCount H hW _).trans (by rw [if_neg nS])) rfl ?_
  refine TS.r (fun M H => l_crease_no H hW (Or.inl hSn)) rfl ?_
  refine TS.r (fun M H => (l_cellOf H hW _).trans (by rw [if_neg nS])) rfl ?_
  refine TS.r (fun M H => (l_sheetIn H _).trans (by rw [if_neg (by decide)])) rfl ?_
  refine TS.r (fun M H => (l_turnsIn H hW _).trans (by rw [if_neg (by decide)])) rfl ?_
  refine TS.r (fun M H => l_borderIn_1 H _ (by decide)) rfl ?_
  refine TS.r (fun M H => l_borderIn_2 H (by decide) (by decide)) rfl ?_
  refine TS.r (fun M H => l_matches_1 H hW _ _ hSn) rfl ?_
  refine TS.r (fun M H => l_waysToPut_no H hW hSn) rfl ?_
  refine TS.s (ts_q (fun M H => l_foldings_no H hW hSn)) rfl ?_
  dsimp only
  refine TS.r (fun M H => l_byPerm_no H hW hS_neg) rfl ?_
  refine TS.s (ts_q (fun M H => l_onTop_no H hW (Or.inl hSn))) rfl ?_
  dsimp only
  refine TS.r (fun M H => l_pointsOf_1 H (by decide)) rfl ?_
  refine TS.r (fun M H => l_groupSize_1 H (by decide)) rfl ?_
  refine TS.r (fun M H => l_byWear_no H hSn) rfl ?_
  refine TS.r (fun M H => l_byWear_no H hS_neg) rfl ?_
  refine TS.s (ts_q (fun M H => l_writeSheet_no H hW hSn)) rfl ?_
  dsimp only
  refine TS.w (t_1073 a (ni (n + 1)) (ni k) 1 (ni 9)) ?_
  dsimp only
  refine TS.out40 (Or.inl (by decide)) ?_
  refine TS.out40 (Or.inr (by decide)) ?_
  exact t_end hW hA
end TH3
