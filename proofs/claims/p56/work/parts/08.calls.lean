/-! ===== calls, ends by a throw, handlers ===== -/
theorem PcG_blind (F : ROF) (D : va_G) (CA : Nat → ClassId) (ad : Nat → Nat) (sz : Nat) (as : List Value) (M : Mem) : FrameBlind (PcG F D CA ad sz as M) := by
  intro a U g mk q
  obtain ⟨q0, q1, qP, qK, qD, qO, qZ⟩ := q
  exact ⟨q0, q1, qP, va_K.moved (u := U) (U := U.calling g mk a) (Vm.Alike.refl U.vm) qK, qD, qO, qZ.calling⟩
theorem Wd_free {F : ROF} {D : va_G} {CA : Nat → ClassId} {ad : Nat → Nat} {A : Nat → Prop} {M : Mem} {s : State} {H : Heap} {locs : List Loc} (hw : Wd F D CA ad A M s H locs) : ∀ q, va_A (wsM CA ad M) H.size q → A q := by
  intro q h
  rcases h with ⟨k, e, h⟩ | h
  · exact hw.2.2.2.1.2 k _ h
  · exact hw.2.2.2.2.2.1 q (Nat.le_trans hw.2.2.2.2.1.1 h)
theorem PcG_now {F : ROF} {D : va_G} {CA : Nat → ClassId} {ad : Nat → Nat} {A : Nat → Prop} {M : Mem} {s : State} {H : Heap} {locs : List Loc} (as : List Value) (hw : Wd F D CA ad A M s H locs) : ∀ U : State, U.heap = H → s.WarmedH U.vm → PcG F D CA ad H.size as M (as.map (cv ad)).toArray U := by
  intro U hU hW
  refine ⟨rfl, by rw [hU], by rw [hU]; exact hw.2.2.1, va_K.moved hW.alike hw.1, hw.2.2.2.1.weaken (fun _ _ _ _ => trivial), hw.2.2.2.2.2.2, ?_⟩
  rw [hU]
  exact ((hw.2.1.kept hw.2.2.2.2.1.2.1).narrow (Wd_free hw)).warm hW
theorem wsY_good {Y : MD} (h : cdW Y ∈ wsG) : GoodIn wsG (wsY Y) := by
  intro w hw
  rcases List.mem_cons.mp hw with rfl | hw
  · exact ⟨h, wsG_good h⟩
  · exact ⟨hw, wsG_good hw⟩
theorem wsY_code {Y : MD} (h : Y.2.2.2.2 = []) : wsY Y = Cond.code Y.1 Y.2.1 Y.2.2.1 Y.2.2.2.1 :: wsG := by unfold wsY cdW; rw [h]; rfl
theorem wsY_codeWith {Y : MD} (h : Y.2.2.2.2.isEmpty = false) : wsY Y = Cond.codeWith Y.1 Y.2.1 Y.2.2.1 Y.2.2.2.1 Y.2.2.2.2 :: wsG := by unfold wsY cdW; rw [h]; rfl
def rob (v : Value) : Prop := match v with
  | .ref k => ROB ≤ k
  | _ => True
/-- all that nobody writes has numbers from ROB on -/
def Fok (F : ROF) : Prop := (∀ q ∈ fZ F, rob q.2.2.2) ∧ (∀ q ∈ fT F, ROB ≤ q.2.1 ∧ ∀ j, rob (q.2.2.2 j)) ∧ (∀ q ∈ fO F, ROB ≤ q.2) ∧ (∀ q ∈ fF F, rob q.2.2.2.1 ∧ ROB ≤ q.2.2.2.2) ∧ (∀ q ∈ fS F, ROB ≤ q.2.2.2)
theorem cv_rob {a b : Nat → Nat} {v : Value} (h : ∀ i, ROB ≤ i → a i = b i) (hv : rob v) : cv a v = cv b v := by
  cases v <;> try rfl
  exact congrArg Value.ref (h _ hv)
theorem Zr.ad {F : ROF} {a b : Nat → Nat} {A : Nat → Prop} {U : State} {H : Heap} (hF : Fok F) (h : ∀ i, ROB ≤ i → a i = b i) (hZ : Zr F b A U H) : Zr F a A U H := by
  obtain ⟨h1, h2, h3, h4, h5, h6, h7, h8⟩ := hZ
  obtain ⟨f1, f2, f3, f4, f5⟩ := hF
  refine ⟨h1, h2, fun q hq => ?_, fun q hq => ?_, fun q hq => ?_, fun q hq => ?_, fun q hq => ?_, h8⟩
  · rw [cv_rob h (f1 q hq)]; exact h3 q hq
  · rw [h _ (f2 q hq).1, show (fun j => cv a (q.2.2.2 j)) = (fun j => cv b (q.2.2.2 j)) from funext fun j => cv_rob h ((f2 q hq).2 j)]; exact h4 q hq
  · rw [h _ (f3 q hq)]; exact h5 q hq
  · rw [cv_rob h (f4 q hq).1, h _ (f4 q hq).2]; exact h6 q hq
  · rw [h _ (f5 q hq)]; exact h7 q hq
theorem cv_clo {a b : Nat → Nat} {n : Nat} {v : Value} (h : ∀ i, i < n ∨ ROB ≤ i → a i = b i) (hv : clo n v = true) : cv a v = cv b v := by
  cases v <;> try rfl
  rename_i k
  have : k < n ∨ ROB ≤ k := by simpa [clo] using hv
  exact congrArg Value.ref (h k this)
def clLS (n : Nat) (L : List (Nat × Value)) (S : List Value) : Bool := L.all (fun q => clo n q.2) && S.all (clo n)
theorem clLS_L {a b : Nat → Nat} {n : Nat} {L : List (Nat × Value)} {S : List Value} (h : ∀ i, i < n ∨ ROB ≤ i → a i = b i) (hc : clLS n L S = true) : lvc a L = lvc b L ∧ S.map (cv a) = S.map (cv b) := by
  simp only [clLS, Bool.and_eq_true, List.all_eq_true] at hc
  refine ⟨List.map_congr_left fun q hq => ?_, List.map_congr_left fun v hv => cv_clo h (hc.2 v hv)⟩
  rw [cv_clo h (hc.1 q hq)]
theorem agr.use {n0 : Nat} {a b : Nat → Nat} (h : agr true n0 a b) : ∀ i, i < n0 ∨ ROB ≤ i → a i = b i := h
/-- behind a call, whatever came of it -/
theorem fr_fin {F : ROF} {g g1 : Bool} {n0 : Nat} {Y : MD} {d k k1 k2 pc : Nat} {L : List (Nat × Value)} {S : List Value} {M : Mem} {P P1 : Res → Mem → Prop} {p : Program} {l : Launch} {e : Env} {R : Room} {s : State} {m : MethodId} {args : Array Value} {below : List Frame} {meth : Method} {c : Code} {H : Heap} {locs : List Loc} {cells slots mc ms : Nat} {ls : Array Slot} {D : va_G} {CA : Nat → ClassId} {adE ad : Nat → Nat} {A : Nat → Prop} {st0 : List Value} {a : Array Value}
    (hc : Cx Y p l s m args meth c) (ha : agr g n0 ad adE) (hn : n0 ≤ mN M) (hw : Wd F D CA ad A M s H locs) (hr : Rm d k R cells slots mc ms) (hl : lv_has ls Y.2.2.1 (lvc ad L)) (hk : k1 + k2 ≤ k)
    (hgr : g1 = false ∨ (g = true ∧ clLS (mN M) L S = true ∧ Fok F))
    (kr : ∀ v M', P1 (.inl v) M' → mN M ≤ mN M' → Fr F g n0 Y d k2 (pc + 3) L (v.toList ++ S) M' P) (kx : ∀ E M', P1 (.inr E) M' → mN M ≤ mN M' → Fx F g n0 Y d k2 pc L M' E P)
    (hrun : vx_Run p l e R s m args below meth c H locs cells slots k1 (64 * k1) (F0 m pc ls st0) (S.map (cv ad)) (QcG g1 (mN M) D CA ad (va_A (wsM CA ad M) H.size) P1 a) (XcG g1 (mN M) D CA ad (va_A (wsM CA ad M) H.size) P1) (va_A (wsM CA ad M) H.size)) :
    W p l e R s m args below meth c H locs cells slots (vx_MQ below (QcG g n0 D CA adE A P) (XcG g n0 D CA adE A P) args s mc ms A) (F0 m pc ls st0) := by
  have hA1 := Wd_free hw
  have hS := hw.2.2.2.2.1
  have hr2 : Rm d k2 R (cells + k1) (slots + 64 * k1) mc ms := ⟨hr.1, hr.2.1, by have := hr.2.2.1; omega, by have := hr.2.2.2.1; omega, hr.2.2.2.2⟩
  have key : ∀ ad', agr g1 (mN M) ad' ad → lvc ad' L = lvc ad L ∧ S.map (cv ad') = S.map (cv ad) ∧ agr g n0 ad' adE ∧ Zr F ad' A s s.heap := by
    intro ad' h1
    rcases hgr with rfl | ⟨rfl, hcl, hF⟩
    · have e1 : ad' = ad := h1
      subst e1
      exact ⟨rfl, rfl, ha, hw.2.1⟩
    · have h2 : ∀ i, i < mN M ∨ ROB ≤ i → ad' i = ad i := by
        cases g1
        · intro i _; rw [show ad' = ad from h1]
        · exact h1
      obtain ⟨e1, e2⟩ := clLS_L h2 hcl
      exact ⟨e1, e2, agr.tr (g := true) hn h2 ha, hw.2.1.ad hF (fun i hi => h2 i (Or.inr hi))⟩
  intro T hT X
  rcases hrun T hT X with ⟨v, st₀, t, T', Lx, h0, X', hL, e1, e2, ⟨⟨v', M', ad', q1, q2, hv, q3, q4, q5, q6, q7⟩, hF⟩, st⟩ | ⟨q, st₀, t, T', Lx, E, ce, h0, X', hL, e1, e2, ⟨⟨M', ad', q1, q2, q3, q4, q5, q6, q7⟩, hF⟩, hce, hcv, hcl, st⟩
  · cases hv
    obtain ⟨k1', k2', k3'⟩ := vx_keep h0 e1 hS (fun q _ h => hA1 q h) hA1 hL hF
    obtain ⟨y1, y2, y3, y4⟩ := key ad' q1
    have h9 := kr v' M' q3 q2 p l e R s m args below meth c T'.heap (locs ++ Lx) (cells + k1) (slots + 64 * k1) mc ms ls D CA adE ad' A hc y3 (Nat.le_trans hn q2) ⟨hw.1, y4, by rw [e1]; exact q4, q6.weaken (fun _ _ _ h => hA1 _ h), k3', hw.2.2.2.2.2.1, q7⟩ hr2 (by rw [y1]; exact hl)
    obtain ⟨t2, a1, b1⟩ := h9 T' rfl X'
    refine ⟨t2, st t2 ?_, b1⟩
    rw [List.map_append, y2] at a1
    cases v' <;> exact a1
  · obtain ⟨k1', k2', k3'⟩ := vx_keep h0 e1 hS (fun q _ h => hA1 q h) hA1 hL hF
    obtain ⟨y1, y2, y3, y4⟩ := key ad' q1
    have h9 := kx E M' q3 q2 p l e R s m args below meth c T'.heap (locs ++ Lx) (cells + k1) (slots + 64 * k1) mc ms ls D CA adE ad' A (S.map (cv ad)) q ce hc y3 (Nat.le_trans hn q2) ⟨hw.1, y4, by rw [e1]; exact q4, q6.weaken (fun _ _ _ h => hA1 _ h), k3', hw.2.2.2.2.2.1, q7⟩ hr2 (by rw [y1]; exact hl) (by rw [e1]; exact hce) hcv hcl
    obtain ⟨t2, a1, b1⟩ := h9 T' rfl X'
    exact ⟨t2, st.trans a1, b1⟩
/-- what a program decides of a callee -/
def Cy (Y1 : MD) (n : Nat) : Prop := (Y1.1.cls ≠ "java/lang/invoke/MethodHandle" ∧ Y1.1.cls ≠ "java/lang/invoke/VarHandle" ∧ (parseMethodDescriptor Y1.1.desc).map (fun d => d.parameters.length) = some n) ∧ cdW Y1 ∈ wsG ∧ Cond.initialized Y1.1.cls ∈ wsG ∧ Y1.2.2.1 ≤ 40 ∧ plainFor Y1.1 = true
theorem rm_ok {d d1 k k1 k2 : Nat} {R : Room} {cells slots mc ms nL : Nat} (hr : Rm d k R cells slots mc ms) (hd : d1 + 1 ≤ d) (hk : k1 + k2 ≤ k) (hL : nL ≤ 40) : ((rmG d1 k1).frames + 1 ≤ R.frames ∧ 8 + (nL + 11) + (rmG d1 k1).locals ≤ R.locals) ∧ cells + k1 ≤ R.cells ∧ slots + 64 * k1 ≤ R.slots := by
  obtain ⟨h1, h2, h3, h4, h5, h6⟩ := hr
  refine ⟨⟨Nat.le_trans hd h1, ?_⟩, by omega, by omega⟩
  show 8 + (nL + 11) + 64 * d1 ≤ R.locals
  omega
theorem cat_map (ad : Nat → Nat) (S : List Value) : ((S.map (cv ad)).map fun v => v.category).sum = (S.map fun v => v.category).sum := by
  rw [List.map_map]
  congr 1
  exact List.map_congr_left fun v _ => cv_cat ad v
section CL
variable {F : ROF} {g g1 : Bool} {n0 : Nat} {Y Y1 : MD} {d d1 k k1 pc : Nat} {L : List (Nat × Value)} {S as st0 : List Value} {M : Mem} {P P1 : Res → Mem → Prop} {idx n : Nat}
theorem fr_callS (k2 : Nat) (hev : Ev F g1 Y1 d1 k1 as M P1) (hh : Y1.2.2.2.2 = []) (hy : Cy Y1 n) (hk1 : Cond.methodLink Y.1.cls idx Y1.1 ∈ wsG) (hk2 : Cond.static Y1.1 ∈ wsG) (hn1 : as.length = n) (hd : d1 + 1 ≤ d) (hkk : k1 + k2 ≤ k) (hst : st0 = as.reverse ++ S) (hS : (S.map fun v => v.category).sum ≤ 8) (hdg : decode Y.2.1 pc = .ok (.invokestatic idx, 3)) (hgr : g1 = false ∨ (g = true ∧ clLS (mN M) L S = true ∧ Fok F))
    (kr : ∀ v M', P1 (.inl v) M' → mN M ≤ mN M' → Fr F g n0 Y d k2 (pc + 3) L (v.toList ++ S) M' P) (kx : ∀ E M', P1 (.inr E) M' → mN M ≤ mN M' → Fx F g n0 Y d k2 pc L M' E P) : Fr F g n0 Y d k pc L st0 M P := by
  intro p l e R s m args below meth c H locs cells slots mc ms ls D CA adE ad A hc ha hn hw hr hl
  subst hst
  obtain ⟨r1, r2⟩ := rm_ok (nL := Y1.2.2.1) hr hd hkk hy.2.2.2.1
  have hts := hc.2.2.2.2.1
  refine fr_fin hc ha hn hw hr hl hkk hgr kr kx (vx_runS (y := Y1.1) (bytes := Y1.2.1) (maxL := Y1.2.2.1) (nL := Y.2.2.1) (ret := Y1.2.2.2.1) (Ts := wsG) (own := Y.1.cls) (As := as.map (cv ad)) (rest := S.map (cv ad)) (n := n) ⟨hc.1, hc.2.1, hc.2.2.1, hc.2.2.2.1, hts⟩ (hev l D CA ad H.size hc.2.2.2.2.2.2.2.2.1) ⟨callB_of n hts (wsY_good hy.2.1) (wsY_code hh) rfl rfl (hts _ hy.2.2.1) (hts _ hk1) hy.1 r1, hts _ hk2⟩ ⟨PcG_blind F D CA ad H.size as M, PcG_now as hw⟩ rfl (by rw [List.length_map]; exact hn1) hl.1 (by show List.map (cv ad) (as.reverse ++ S) = _; rw [List.map_append, List.map_reverse]) (by show 2 * 0 + _ ≤ 8; rw [cat_map]; omega) hdg r2)
theorem fr_callSN (k2 : Nat) (host : String) (hev : Ev F g1 Y1 d1 k1 as M P1) (hh : Y1.2.2.2.2 = []) (hy : Cy Y1 n) (hk1 : (Y.1.cls, idx, Y1.1, host) ∈ fM F) (hk2 : Cond.static Y1.1 ∈ wsG) (hn1 : as.length = n) (hd : d1 + 1 ≤ d) (hkk : k1 + k2 ≤ k) (hst : st0 = as.reverse ++ S) (hS : (S.map fun v => v.category).sum ≤ 8) (hdg : decode Y.2.1 pc = .ok (.invokestatic idx, 3)) (hgr : g1 = false ∨ (g = true ∧ clLS (mN M) L S = true ∧ Fok F))
    (kr : ∀ v M', P1 (.inl v) M' → mN M ≤ mN M' → Fr F g n0 Y d k2 (pc + 3) L (v.toList ++ S) M' P) (kx : ∀ E M', P1 (.inr E) M' → mN M ≤ mN M' → Fx F g n0 Y d k2 pc L M' E P) : Fr F g n0 Y d k pc L st0 M P := by
  intro p l e R s m args below meth c H locs cells slots mc ms ls D CA adE ad A hc ha hn hw hr hl
  subst hst
  obtain ⟨r1, r2⟩ := rm_ok (nL := Y1.2.2.1) hr hd hkk hy.2.2.2.1
  have hts := hc.2.2.2.2.1
  have hlink : va_Nw (.methodLinkNest Y.1.cls idx Y1.1 host) s := hw.2.1.2.2.2.2.2.2.2.2.1 (Y.1.cls, idx, Y1.1, host) hk1
  refine fr_fin hc ha hn hw hr hl hkk hgr kr kx (vx_runSN (y := Y1.1) (bytes := Y1.2.1) (maxL := Y1.2.2.1) (nL := Y.2.2.1) (ret := Y1.2.2.2.1) (Ts := wsG) (own := Y.1.cls) (host := host) (As := as.map (cv ad)) (rest := S.map (cv ad)) (n := n) ⟨hc.1, hc.2.1, hc.2.2.1, hc.2.2.2.1, hts⟩ (hev l D CA ad H.size hc.2.2.2.2.2.2.2.2.1) ⟨va_cnB n hts (wsY_good hy.2.1) (wsY_code hh) rfl rfl hlink (hts _ hy.2.2.1) hy.1 r1, hts _ hk2, trivial⟩ ⟨PcG_blind F D CA ad H.size as M, PcG_now as hw⟩ rfl (by rw [List.length_map]; exact hn1) hl.1 (by show List.map (cv ad) (as.reverse ++ S) = _; rw [List.map_append, List.map_reverse]) (by show 2 * 0 + _ ≤ 8; rw [cat_map]; omega) hdg r2)
theorem fr_callSX (k2 : Nat) (hev : Ev F g1 Y1 d1 k1 as M P1) (hh : Y1.2.2.2.2.isEmpty = false) (hy : Cy Y1 n) (hk1 : Cond.methodLink Y.1.cls idx Y1.1 ∈ wsG) (hk2 : Cond.static Y1.1 ∈ wsG) (hn1 : as.length = n) (hd : d1 + 1 ≤ d) (hkk : k1 + k2 ≤ k) (hst : st0 = as.reverse ++ S) (hS : (S.map fun v => v.category).sum ≤ 8) (hdg : decode Y.2.1 pc = .ok (.invokestatic idx, 3)) (hgr : g1 = false ∨ (g = true ∧ clLS (mN M) L S = true ∧ Fok F))
    (kr : ∀ v M', P1 (.inl v) M' → mN M ≤ mN M' → Fr F g n0 Y d k2 (pc + 3) L (v.toList ++ S) M' P) (kx : ∀ E M', P1 (.inr E) M' → mN M ≤ mN M' → Fx F g n0 Y d k2 pc L M' E P) : Fr F g n0 Y d k pc L st0 M P := by
  intro p l e R s m args below meth c H locs cells slots mc ms ls D CA adE ad A hc ha hn hw hr hl
  subst hst
  obtain ⟨r1, r2⟩ := rm_ok (nL := Y1.2.2.1) hr hd hkk hy.2.2.2.1
  have hts := hc.2.2.2.2.1
  have hG : GoodIn wsG (va_wsS Y.1.cls idx Y1.1 (wsY Y1)) := by
    intro w hw9
    unfold va_wsS at hw9
    rcases List.mem_append.mp hw9 with h | h
    · simp only [List.mem_cons, List.not_mem_nil, or_false] at h
      rcases h with rfl | rfl | rfl
      · exact ⟨hk1, wsG_good hk1⟩
      · exact ⟨hk2, wsG_good hk2⟩
      · exact ⟨hy.2.2.1, wsG_good hy.2.2.1⟩
    · exact wsY_good hy.2.1 w h
  refine fr_fin hc ha hn hw hr hl hkk hgr kr kx (vx_runSX (y := Y1.1) (bytes := Y1.2.1) (maxL := Y1.2.2.1) (nL := Y.2.2.1) (ret := Y1.2.2.2.1) (Ts := wsG) (own := Y.1.cls) (As := as.map (cv ad)) (rest := S.map (cv ad)) (n := n) ⟨hc.1, hc.2.1, hc.2.2.1, hc.2.2.2.1, hts⟩ (hev l D CA ad H.size hc.2.2.2.2.2.2.2.2.1) (vx_cwSW n hts hG (wsY_codeWith hh) rfl rfl hy.1 r1) ⟨PcG_blind F D CA ad H.size as M, PcG_now as hw⟩ rfl (by rw [List.length_map]; exact hn1) hl.1 (by show List.map (cv ad) (as.reverse ++ S) = _; rw [List.map_append, List.map_reverse]) (by show 2 * 0 + _ ≤ 8; rw [cat_map]; omega) hdg r2)
/-- whose method it is: an object of the memory, or one that nobody writes -/
def Rcv (F : ROF) (M : Mem) (C : String) (o : Nat) : Prop := (∃ ci T N, vwCl[ci]? = some (C, T, N) ∧ ci < 100 ∧ (mS M o).1 = ci ∧ o < mN M) ∨ (C, o) ∈ fO F
theorem Rcv.cell {C : String} {o : Nat} {D : va_G} {CA : Nat → ClassId} {ad : Nat → Nat} {A : Nat → Prop} {s : State} {H : Heap} {locs : List Loc} (h : Rcv F M C o) (hw : Wd F D CA ad A M s H locs) : ∃ cell : Cell, H[ad o]? = some cell ∧ cell.vm.isStatics = false ∧ s.vm.findClass C = some cell.cls := by
  rcases h with ⟨ci, T, N, h1, h2, h3, h4⟩ | h
  · exact va_recv hw.1 hw.2.2.1 h1 (ws_obj h4 h3 h2)
  · exact va_Orecv (hw.2.1.2.2.2.2.1 (C, o) h) hw.2.2.2.2.1
theorem fr_callV (k2 : Nat) {C : String} {o : Nat} (hev : Ev F g1 Y1 d1 k1 (.ref o :: as) M P1) (hh : Y1.2.2.2.2 = []) (hy : Cy Y1 n) (hk1 : Cond.methodLink Y.1.cls idx Y1.1 ∈ wsG) (hk2 : Cond.instanceMethod Y1.1 ∈ wsG) (hk3 : Cond.selects C Y1.1 Y1.1 ∈ wsG) (ho : Rcv F M C o) (hn1 : as.length = n) (hd : d1 + 1 ≤ d) (hkk : k1 + k2 ≤ k) (hst : st0 = as.reverse ++ .ref o :: S) (hS : (S.map fun v => v.category).sum ≤ 8) (hdg : decode Y.2.1 pc = .ok (.invokevirtual idx, 3)) (hgr : g1 = false ∨ (g = true ∧ clLS (mN M) L S = true ∧ Fok F))
    (kr : ∀ v M', P1 (.inl v) M' → mN M ≤ mN M' → Fr F g n0 Y d k2 (pc + 3) L (v.toList ++ S) M' P) (kx : ∀ E M', P1 (.inr E) M' → mN M ≤ mN M' → Fx F g n0 Y d k2 pc L M' E P) : Fr F g n0 Y d k pc L st0 M P := by
  intro p l e R s m args below meth c H locs cells slots mc ms ls D CA adE ad A hc ha hn hw hr hl
  subst hst
  obtain ⟨r1, r2⟩ := rm_ok (nL := Y1.2.2.1) hr hd hkk hy.2.2.2.1
  have hts := hc.2.2.2.2.1
  refine fr_fin hc ha hn hw hr hl hkk hgr kr kx (vx_runV (C := C) (b := ad o) (y := Y1.1) (bytes := Y1.2.1) (maxL := Y1.2.2.1) (nL := Y.2.2.1) (ret := Y1.2.2.2.1) (Ts := wsG) (own := Y.1.cls) (As := as.map (cv ad)) (rest := S.map (cv ad)) (n := n) ⟨hc.1, hc.2.1, hc.2.2.1, hc.2.2.2.1, hts⟩ (hev l D CA ad H.size hc.2.2.2.2.2.2.2.2.1) ⟨callB_of n hts (wsY_good hy.2.1) (wsY_code hh) rfl rfl (hts _ hy.2.2.1) (hts _ hk1) hy.1 r1, hts _ hk2, hts _ hk3⟩ ⟨PcG_blind F D CA ad H.size (.ref o :: as) M, ho.cell hw, PcG_now (.ref o :: as) hw⟩ rfl (by rw [List.length_map]; exact hn1) hl.1 (by show List.map (cv ad) (as.reverse ++ .ref o :: S) = _; rw [List.map_append, List.map_reverse]; rfl) (by show 2 * 0 + _ ≤ 8; rw [cat_map]; omega) hdg r2)
theorem fr_callI (k2 : Nat) {o : Nat} (hev : Ev F g1 Y1 d1 k1 (.ref o :: as) M P1) (hh : Y1.2.2.2.2 = []) (hy : Cy Y1 n) (hin : Y1.1.name = "<init>") (hrt : Y1.2.2.2.1 = none) (hk1 : Cond.methodLink Y.1.cls idx Y1.1 ∈ wsG) (hk2 : Cond.instanceMethod Y1.1 ∈ wsG) (hn1 : as.length = n) (hd : d1 + 1 ≤ d) (hkk : k1 + k2 ≤ k) (hst : st0 = as.reverse ++ .ref o :: S) (hS : (S.map fun v => v.category).sum ≤ 8) (hdg : decode Y.2.1 pc = .ok (.invokespecial idx, 3)) (hgr : g1 = false ∨ (g = true ∧ clLS (mN M) L S = true ∧ Fok F))
    (kr : ∀ v M', P1 (.inl v) M' → mN M ≤ mN M' → Fr F g n0 Y d k2 (pc + 3) L (v.toList ++ S) M' P) (kx : ∀ E M', P1 (.inr E) M' → mN M ≤ mN M' → Fx F g n0 Y d k2 pc L M' E P) : Fr F g n0 Y d k pc L st0 M P := by
  intro p l e R s m args below meth c H locs cells slots mc ms ls D CA adE ad A hc ha hn hw hr hl
  subst hst
  obtain ⟨r1, r2⟩ := rm_ok (nL := Y1.2.2.1) hr hd hkk hy.2.2.2.1
  have hts := hc.2.2.2.2.1
  refine fr_fin hc ha hn hw hr hl hkk hgr kr kx (vx_runI (b := ad o) (y := Y1.1) (bytes := Y1.2.1) (maxL := Y1.2.2.1) (nL := Y.2.2.1) (Ts := wsG) (own := Y.1.cls) (As := as.map (cv ad)) (rest := S.map (cv ad)) (n := n) ⟨hc.1, hc.2.1, hc.2.2.1, hc.2.2.2.1, hts⟩ (hev l D CA ad H.size hc.2.2.2.2.2.2.2.2.1) ⟨callB_of n hts (wsY_good hy.2.1) (by rw [wsY_code hh, hrt]) rfl rfl (hts _ hy.2.2.1) (hts _ hk1) hy.1 r1, hin, hts _ hk2⟩ ⟨PcG_blind F D CA ad H.size (.ref o :: as) M, PcG_now (.ref o :: as) hw⟩ rfl (by rw [List.length_map]; exact hn1) hl.1 (by show List.map (cv ad) (as.reverse ++ .ref o :: S) = _; rw [List.map_append, List.map_reverse]; rfl) (by show 2 * 0 + _ ≤ 8; rw [cat_map]; omega) hdg r2)
theorem fr_callIN (k2 : Nat) (host : String) {o : Nat} (hev : Ev F g1 Y1 d1 k1 (.ref o :: as) M P1) (hh : Y1.2.2.2.2 = []) (hy : Cy Y1 n) (hin : Y1.1.name = "<init>") (hrt : Y1.2.2.2.1 = none) (hk1 : (Y.1.cls, idx, Y1.1, host) ∈ fM F) (hk2 : Cond.instanceMethod Y1.1 ∈ wsG) (hn1 : as.length = n) (hd : d1 + 1 ≤ d) (hkk : k1 + k2 ≤ k) (hst : st0 = as.reverse ++ .ref o :: S) (hS : (S.map fun v => v.category).sum ≤ 8) (hdg : decode Y.2.1 pc = .ok (.invokespecial idx, 3)) (hgr : g1 = false ∨ (g = true ∧ clLS (mN M) L S = true ∧ Fok F))
    (kr : ∀ v M', P1 (.inl v) M' → mN M ≤ mN M' → Fr F g n0 Y d k2 (pc + 3) L (v.toList ++ S) M' P) (kx : ∀ E M', P1 (.inr E) M' → mN M ≤ mN M' → Fx F g n0 Y d k2 pc L M' E P) : Fr F g n0 Y d k pc L st0 M P := by
  intro p l e R s m args below meth c H locs cells slots mc ms ls D CA adE ad A hc ha hn hw hr hl
  subst hst
  obtain ⟨r1, r2⟩ := rm_ok (nL := Y1.2.2.1) hr hd hkk hy.2.2.2.1
  have hts := hc.2.2.2.2.1
  have hlink : va_Nw (.methodLinkNest Y.1.cls idx Y1.1 host) s := hw.2.1.2.2.2.2.2.2.2.2.1 (Y.1.cls, idx, Y1.1, host) hk1
  refine fr_fin hc ha hn hw hr hl hkk hgr kr kx (vx_runIN (b := ad o) (y := Y1.1) (bytes := Y1.2.1) (maxL := Y1.2.2.1) (nL := Y.2.2.1) (Ts := wsG) (own := Y.1.cls) (host := host) (As := as.map (cv ad)) (rest := S.map (cv ad)) (n := n) ⟨hc.1, hc.2.1, hc.2.2.1, hc.2.2.2.1, hts⟩ (hev l D CA ad H.size hc.2.2.2.2.2.2.2.2.1) ⟨va_cnB n hts (wsY_good hy.2.1) (by rw [wsY_code hh, hrt]) rfl rfl hlink (hts _ hy.2.2.1) hy.1 r1, hin, hts _ hk2⟩ ⟨PcG_blind F D CA ad H.size (.ref o :: as) M, PcG_now (.ref o :: as) hw⟩ rfl (by rw [List.length_map]; exact hn1) hl.1 (by show List.map (cv ad) (as.reverse ++ .ref o :: S) = _; rw [List.map_append, List.map_reverse]; rfl) (by show 2 * 0 + _ ≤ 8; rw [cat_map]; omega) hdg r2)
end CL
