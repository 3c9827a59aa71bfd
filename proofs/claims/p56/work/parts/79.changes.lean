/-! ===== pure: changes ===== -/
theorem ok_pf : ∀ d, d < 10 → okT (tpf d) := by
  unfold okT
  decide +kernel
theorem ok_op : ∀ d, d < 10 → okT (top d) := by
  unfold okT
  decide +kernel
theorem ch_pf : ∀ d, d < 10 → ∀ i, i < (tpf d).length → vp_nar .char ((tpf d).getD i 0) = (tpf d).getD i 0 := by decide +kernel
theorem ch_op : ∀ d, d < 10 → ∀ i, i < (top d).length → vp_nar .char ((top d).getD i 0) = (top d).getD i 0 := by decide +kernel
theorem le_pf : ∀ d, d < 10 → (tpf d).length ≤ 19 := by decide +kernel
theorem le_op : ∀ d, d < 10 → (top d).length ≤ 19 := by decide +kernel
theorem rt20 : rtx.getD (ROB + 40 + 80 - (ROB + 100)) [] = tx20 := by decide +kernel
theorem rt22 : rtx.getD (ROB + 42 + 80 - (ROB + 100)) [] = tx22 := by decide +kernel
theorem rt23 : rtx.getD (ROB + 43 + 80 - (ROB + 100)) [] = tx23 := by decide +kernel
theorem cl_1 {n b : Nat} (h : b < n) (x y z : Int32) : clLS n [(0, .ref b), (1, .int x), (2, .int y), (3, .int z)] [.ref b] = true := by simp [clLS, clo, h]
theorem cl_2 {n b k : Nat} (h : b < n) (hk : k < n) (x y z : Int32) : clLS n [(0, .ref b), (1, .int x), (2, .int y), (3, .int z)] [.ref k, .ref b] = true := by simp [clLS, clo, h, hk]
section CHG
variable {b : Nat}
theorem FG.lo {N m : Nat} {M M' : Mem} (l : Lo N M M') (h0 : mN M = N) (h1 : N ≤ mN M') (h2 : mN M' ≤ N + m) : FG b m M M' := ⟨by omega, by omega, fun k hk => ⟨(l k (by omega)).1, fun j => ((l k (by omega)).2 j).2.1, fun j => ((l k (by omega)).2 j).2.2, fun _ j => ((l k (by omega)).2 j).1⟩⟩
theorem x_pf {d : Nat} (hd : d < 10) : ∀ i, i < ([(0, 7), (8, 2)] : Cms).length → ∀ V, Cn V → ∃ q, cmdM (b + 1) (tpf d) (([(0, 7), (8, 2)] : Cms).getD i (0, 0)) V = some q ∧ Cn q.2 := by
  intro i hi V hc
  obtain ⟨n1, n2, n3, n4, n5, n6⟩ := n_pf d hd
  match i, hi with
  | 0, _ => exact ⟨_, (cmd_of n1 n2 n3).trans rfl, cn_paste hc 1⟩
  | 1, _ => exact ⟨_, (cmd_of n4 n5 n6).trans rfl, cn_fold hc (ni d)⟩
theorem x_op {d : Nat} (hd : d < 10) : ∀ i, i < ([(0, 3), (7, 7)] : Cms).length → ∀ V, Cn V → ∃ q, cmdM (b + 1) (top d) (([(0, 3), (7, 7)] : Cms).getD i (0, 0)) V = some q ∧ Cn q.2 := by
  intro i hi V hc
  obtain ⟨n1, n2, n3, n4, n5, n6⟩ := n_op d hd
  match i, hi with
  | 0, _ => exact ⟨_, (cmd_of n4 n5 n6).trans rfl, cn_unfold hc (b + 1) (ni d)⟩
  | 1, _ => exact ⟨_, (cmd_of n1 n2 n3).trans rfl, cn_paste hc 1⟩
theorem tc_pf {d : Nat} (hd : d < 10) (x r2 : Int32) : TC b 4 (fun M => (gd M [(0, .ref b), (1, .int x), (2, .int (ni d)), (3, .int r2)] [.ref b]).bind fun _ => (some (mNew M 1 0)).bind fun M75 => (gd M75 [(0, .ref b), (1, .int x), (2, .int (ni d)), (3, .int r2)] [.ref (mN M), .ref b]).bind fun _ => (f_J4_init_da8c8 (mN M) M75).bind fun r76 => (rc r76.2 1 (mN M)).bind fun _ => (f_J4_append_15ec4 (mN M) (ROB + 40) r76.2).bind fun r78 => (rc r78.2 1 r78.1).bind fun _ => (f_J4_append_bf812 r78.1 (ni d) r78.2).bind fun r80 => (rc r80.2 1 r80.1).bind fun _ => (gd r80.2 [(0, .ref b), (1, .int x), (2, .int (ni d)), (3, .int r2)] [.ref b]).bind fun _ => (f_J4_toString_0e30d r80.1 r80.2).bind fun r82 => (f_L_runs b r82.1 r82.2).bind fun r85 => if r85.1 < 0 then (some (0, r85.2)) else (some (1, r85.2))) := by
  intro h M H w cn h0 hR
  have hb := H.1.1
  obtain ⟨M1, f1, t1, n1, l1⟩ := sb_new (M := M) rfl (by omega)
  obtain ⟨M2, f2, t2, o2⟩ := sb_str t1 (s := ROB + 40) (by omega) (T := tx20) rt20 (by decide) (by decide)
  obtain ⟨M3, f3, t3, o3⟩ := sb_int t2 hd (by decide)
  have n3 : mN M3 = mN M + 2 := by rw [o3.1.N, o2.1.N, n1]
  obtain ⟨M4, f4, s4, n4, l4⟩ := sb_end (c := tpf d) t3 n3 (by omega) (ok_pf d hd)
  have l : Lo (mN M) M M4 := ((l1.tr (Lo.fo o2)).tr (Lo.fo o3)).tr l4
  have H4 : Hall b h M4 := H.lo l hb (by omega)
  obtain ⟨y, h', M5, f5, H5, w5, c5, e5, o5⟩ := g_run H4 w cn h0 (le_pf d hd) (ch_pf d hd) (fun M' o => (s4.fo o (by omega)).txt (ok_pf d hd)) (r_pf d hd) (by decide) (fun i hi => by match i, hi with | 0, _ => decide | 1, _ => decide) (x_pf hd)
  refine ⟨_, h', M5, ?_, H5, w5, c5, e5, (FG.lo l rfl (by omega) (by omega) : FG b 4 M M4).tr (FG.of o5 0)⟩
  dsimp only
  rw [gd_ok (by omega) (cl_1 (by omega) _ _ _)]
  simp only [Option.bind_some]
  rw [gd_ok (by rw [mN_new]; omega) (cl_2 (by rw [mN_new]; omega) (by rw [mN_new]; omega) _ _ _)]
  simp only [Option.bind_some, f1, t1.f.1, f2, t2.f.1, f3, t3.f.1]
  rw [gd_ok (by omega) (cl_1 (by omega) _ _ _)]
  simp only [Option.bind_some, f4, f5]
  split <;> rfl
theorem tc_op2 {d : Nat} (hd : d < 10) (x r2 : Int32) : TC b 4 (fun M => (gd M [(0, .ref b), (1, .int x), (2, .int (ni d)), (3, .int r2)] [.ref b]).bind fun _ => (some (mNew M 1 0)).bind fun M60 => (gd M60 [(0, .ref b), (1, .int x), (2, .int (ni d)), (3, .int r2)] [.ref (mN M), .ref b]).bind fun _ => (f_J4_init_da8c8 (mN M) M60).bind fun r61 => (rc r61.2 1 (mN M)).bind fun _ => (f_J4_append_15ec4 (mN M) (ROB + 42) r61.2).bind fun r63 => (rc r63.2 1 r63.1).bind fun _ => (f_J4_append_bf812 r63.1 (ni d) r63.2).bind fun r65 => (rc r65.2 1 r65.1).bind fun _ => (f_J4_append_15ec4 r65.1 (ROB + 43) r65.2).bind fun r67 => (rc r67.2 1 r67.1).bind fun _ => (gd r67.2 [(0, .ref b), (1, .int x), (2, .int (ni d)), (3, .int r2)] [.ref b]).bind fun _ => (f_J4_toString_0e30d r67.1 r67.2).bind fun r69 => (f_L_runs b r69.1 r69.2).bind fun r72 => if r72.1 < 0 then (some (0, r72.2)) else (some (1, r72.2))) := by
  intro h M H w cn h0 hR
  have hb := H.1.1
  obtain ⟨M1, f1, t1, n1, l1⟩ := sb_new (M := M) rfl (by omega)
  obtain ⟨M2, f2, t2, o2⟩ := sb_str t1 (s := ROB + 42) (by omega) (T := tx22) rt22 (by decide) (by decide)
  obtain ⟨M3, f3, t3, o3⟩ := sb_int t2 hd (by decide)
  obtain ⟨M6, f6, t6, o6⟩ := sb_str t3 (s := ROB + 43) (by omega) (T := tx23) rt23 (by simp [tx22, tx23]) (by decide)
  have n6 : mN M6 = mN M + 2 := by rw [o6.1.N, o3.1.N, o2.1.N, n1]
  obtain ⟨M4, f4, s4, n4, l4⟩ := sb_end (c := top d) t6 n6 (by omega) (ok_op d hd)
  have l : Lo (mN M) M M4 := (((l1.tr (Lo.fo o2)).tr (Lo.fo o3)).tr (Lo.fo o6)).tr l4
  have H4 : Hall b h M4 := H.lo l hb (by omega)
  obtain ⟨y, h', M5, f5, H5, w5, c5, e5, o5⟩ := g_run H4 w cn h0 (le_op d hd) (ch_op d hd) (fun M' o => (s4.fo o (by omega)).txt (ok_op d hd)) (r_op d hd) (by decide) (fun i hi => by match i, hi with | 0, _ => decide | 1, _ => decide) (x_op hd)
  refine ⟨_, h', M5, ?_, H5, w5, c5, e5, (FG.lo l rfl (by omega) (by omega) : FG b 4 M M4).tr (FG.of o5 0)⟩
  dsimp only
  rw [gd_ok (by omega) (cl_1 (by omega) _ _ _)]
  simp only [Option.bind_some]
  rw [gd_ok (by rw [mN_new]; omega) (cl_2 (by rw [mN_new]; omega) (by rw [mN_new]; omega) _ _ _)]
  simp only [Option.bind_some, f1, t1.f.1, f2, t2.f.1, f3, t3.f.1, f6, t6.f.1]
  rw [gd_ok (by omega) (cl_1 (by omega) _ _ _)]
  simp only [Option.bind_some, f4, f5]
  split <;> rfl
theorem TC.kk {m : Nat} {α : Type} {r : α} {f : Mem → Option α} {g : α → Mem → Option (Int32 × Mem)} (h : ∀ M, f M = some r) (nx : TC b m (g r)) : TC b m (fun M => (f M).bind fun r => g r M) := by
  intro h' M H w cn h0 hR
  obtain ⟨r', q⟩ := nx h' M H w cn h0 hR
  refine ⟨r', ?_⟩
  show ∃ h'' M', (f M).bind _ = _ ∧ _
  rw [h M]
  exact q
theorem TC.i {m : Nat} {c : Prop} [Decidable c] {f g : Mem → Option (Int32 × Mem)} (h1 : c → TC b m f) (h2 : ¬ c → TC b m g) : TC b m (fun M => if c then f M else g M) := by
  intro h' M H w cn h0 hR
  show ∃ r h'' M', (if c then _ else _) = _ ∧ _
  by_cases hc : c
  · rw [if_pos hc]
    exact h1 hc h' M H w cn h0 hR
  · rw [if_neg hc]
    exact h2 hc h' M H w cn h0 hR
theorem k_c (x : Int32) {a : Nat} (h0 : 0 < a) (h1 : a ≤ 100) {m : Nat} {g : Int32 → Mem → Option (Int32 × Mem)} (nx : ∀ r, r < a → TC b m (g (ni r))) : TC b m (fun M => (f_L_some x (ni a) M).bind fun r => g r M) := by
  obtain ⟨r, hr, e⟩ := l_some x h0 h1
  exact TC.kk e (nx r hr)
theorem k_chr {s n : Nat} (hs : ROB + 20 ≤ s ∧ s < ROB + 63) (hx : ∀ r, r < n → (f_J0_charAt_5068e s (ni r) eM).isSome = true) {r : Nat} (hr : r < n) {m : Nat} {g : Int32 → Mem → Option (Int32 × Mem)} (nx : ∀ c, TC b m (g c)) : TC b m (fun M => (f_J0_charAt_5068e s (ni r) M).bind fun c => g c M) := by
  obtain ⟨c, hc⟩ := Option.isSome_iff_exists.mp (hx r hr)
  exact TC.kk (fun M => (ro_chr M _ hs).trans hc) (nx c)
theorem c38 : ∀ r, r < 4 → (f_J0_charAt_5068e (ROB + 38) (ni r) eM).isSome = true := by decide +kernel
theorem c39 : ∀ r, r < 3 → (f_J0_charAt_5068e (ROB + 39) (ni r) eM).isSome = true := by decide +kernel
theorem t_changes (x : Int32) : TC b 4 (f_L_changes b x) := by
  unfold f_L_changes
  refine k_c (a := 10) _ (by decide) (by decide) (fun r1 h1 => ?_)
  refine k_c (a := 10) _ (by decide) (by decide) (fun r2 h2 => ?_)
  refine k_c (a := 24) _ (by decide) (by decide) (fun r3 h3 => ?_)
  have cr : TC b 4 (fun M => (f_L_some (x >>> (8 &&& 31)) 3 M).bind fun r17 => (rcS M (ROB + 39)).bind fun _ => (f_J0_charAt_5068e (ROB + 39) r17 M).bind fun r18 => (f_L_addCrease b (ni r1) r18 M).bind fun r20 => if r20.1 < 0 then (some (0, r20.2)) else (some (1, r20.2))) := by
    refine k_c (a := 3) _ (by decide) (by decide) (fun r17 h17 => ?_)
    refine TC.kk (fun M => rcS_ro M (by omega)) ?_
    refine k_chr (by omega) c39 h17 (fun c => ?_)
    exact tc_crease _ _
  have pa : TC b 4 (fun M => (f_L_some (x >>> (4 &&& 31)) 23 M).bind fun r46 => (f_L_addPaste b r46 M).bind fun r47 => if r47.1 < 0 then (some (0, r47.2)) else (some (1, r47.2))) := by
    refine k_c (a := 23) _ (by decide) (by decide) (fun r46 h46 => ?_)
    exact tc_paste _
  refine TC.i (fun _ => ?_) (fun _ => ?_)
  · refine k_c (a := 11) _ (by decide) (by decide) (fun r8 h8 => ?_)
    refine k_c (a := 3) _ (by decide) (by decide) (fun r9 h9 => ?_)
    refine k_c (a := 3) _ (by decide) (by decide) (fun r10 h10 => ?_)
    refine k_c (a := 3) _ (by decide) (by decide) (fun r11 h11 => ?_)
    refine k_c (a := 4) _ (by decide) (by decide) (fun r12 h12 => ?_)
    refine TC.kk (fun M => rcS_ro M (by omega)) ?_
    refine k_chr (by omega) c38 h12 (fun c => ?_)
    exact tc_sheet _ _ _ _ _
  refine TC.i (fun _ => cr) (fun _ => ?_)
  refine TC.i (fun _ => cr) (fun _ => ?_)
  refine TC.i (fun _ => cr) (fun _ => ?_)
  refine TC.i (fun _ => tc_fold _) (fun _ => ?_)
  refine TC.i (fun _ => tc_fold _) (fun _ => ?_)
  refine TC.i (fun _ => tc_fold _) (fun _ => ?_)
  refine TC.i (fun _ => tc_unfold _) (fun _ => ?_)
  refine TC.i (fun _ => tc_unfold _) (fun _ => ?_)
  refine TC.i (fun _ => tc_mend _) (fun _ => ?_)
  refine TC.i (fun _ => tc_mend _) (fun _ => ?_)
  refine TC.i (fun _ => pa) (fun _ => ?_)
  refine TC.i (fun _ => pa) (fun _ => ?_)
  refine TC.i (fun _ => tc_take _) (fun _ => ?_)
  refine TC.i (fun _ => tc_take _) (fun _ => ?_)
  refine TC.i (fun _ => tc_take _) (fun _ => ?_)
  refine TC.i (fun _ => ?_) (fun _ => ?_)
  · exact TC.i (fun _ => tc_pf h1 x (ni r2)) (fun _ => tc_op2 h1 x (ni r2))
  refine TC.i (fun _ => ?_) (fun _ => ?_)
  · exact TC.i (fun _ => tc_pf h1 x (ni r2)) (fun _ => tc_op2 h1 x (ni r2))
  refine k_c (a := 5) _ (by decide) (by decide) (fun r4 h4 => ?_)
  exact tc_put _ _ _
end CHG
