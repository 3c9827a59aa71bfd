/-! ===== a throw whose constructor names the one above by another number (NoSuchElementException); the making of the object is the kit's vx_ctorMadeS with the other number ===== -/
abbrev nsN : String := "java/util/NoSuchElementException"
def nsB : ByteArray := ⟨#[0x2a, 0x2b, 0xb7, 0x00, 0x0d, 0xb1]⟩
theorem ns_fit : Bundle.fit nsN = true := by decide +kernel
def nsA (own : String) (ic : Nat) : List Cond :=
  Bundle.throwableAtoms ++ Bundle.throwableSAtoms ++ (Bundle.passSAtoms nsN "java/lang/RuntimeException" 13 nsB ++ Bundle.chainSAtoms "java/lang/RuntimeException" ["java/lang/Exception"]) ++
  [.methodLink own ic (Bundle.initS nsN), .instantiable nsN 6, .selects nsN Bundle.tFill0 Bundle.tFill0, .selects nsN Bundle.tFill Bundle.tFill,
   .lays nsN Bundle.tN "cause" "Ljava/lang/Throwable;", .lays nsN Bundle.tN "stackTrace" Bundle.steD, .lays nsN Bundle.tN "suppressedExceptions" Bundle.listD, .lays nsN Bundle.tN "detailMessage" "Ljava/lang/String;",
   .isRef (.static Bundle.tN "UNASSIGNED_STACK" Bundle.steD), .isRef (.static Bundle.tN "SUPPRESSED_SENTINEL" Bundle.listD),
   .fieldLink Bundle.tN 198 Bundle.tN "backtrace" "Ljava/lang/Object;", .lays Bundle.tN Bundle.tN "backtrace" "Ljava/lang/Object;", .lays nsN Bundle.tN "backtrace" "Ljava/lang/Object;"]
theorem ns_chain {args : Array Value} {s : State} {pl : Platform} (hpl : pl.magicAccessors = ({} : Platform).magicAccessors) {top : MethodId} (htop : s.methodNamed? (Bundle.initS Bundle.tN) = some top) (h : ∀ c ∈ Bundle.passSAtoms nsN "java/lang/RuntimeException" 13 nsB ++ Bundle.chainSAtoms "java/lang/RuntimeException" ["java/lang/Exception"], c.before args s = true) :
    ∃ (P1 : PassC) (Ps : List PassC), Ps.length = 2 ∧ P1.LinksS pl s ∧ (∀ P, P ∈ Ps → P.LinksS pl s) ∧ s.methodNamed? (Bundle.initS nsN) = some P1.m ∧ P1.sup = firstOf top (Ps.map (·.toPassT)) ∧ PassesOn top (Ps.map (·.toPassT)) := by
  have hR : Bundle.fit "java/lang/RuntimeException" = true := by decide +kernel
  have hE : Bundle.fit "java/lang/Exception" = true := by decide +kernel
  obtain ⟨P, L, hm, hs⟩ := PassC.ofS_atoms (args := args) (s := s) hpl (X := nsN) (Y := "java/lang/RuntimeException") (Bundle.fit_spec ns_fit).1 (Bundle.fit_spec hR).2 (index := 13) (bytes := nsB) (by decide +kernel) (by decide +kernel) (by decide +kernel) (by decide +kernel) (fun c hc => h c (List.mem_append_left _ hc))
  obtain ⟨P', Ps, hlen, L', hL, hm', hsup, hpass⟩ := Bundle.chainS (args := args) hpl htop ["java/lang/Exception"] "java/lang/RuntimeException" hR (fun n hn => by rw [List.mem_singleton.mp hn]; exact hE) (fun c hc => h c (List.mem_append_right _ hc))
  refine ⟨P, P' :: Ps, by rw [List.length_cons, hlen]; rfl, L, ?_, hm, Option.some.inj (hs.symm.trans hm'), hsup, hpass⟩
  intro Q hQ
  rcases List.mem_cons.mp hQ with rfl | hQ
  · exact L'
  · exact hL Q hQ
section NSV
variable {p : Program} {l : Launch} {e : Env} {R : Room} {s : State} {m₀ : MethodId} {args : Array Value} {below : List Frame} {meth : Method} {c : Code} {W : State} {locs : List Loc} {cells slots : Nat}
set_option maxHeartbeats 1000000 in
theorem ns_made (X : Stand p l e R s m₀ args below meth c W locs cells slots) (hexec : p.tables.exec = Jvm.exec) (htr : e.platform.stackTraces = false) {own : String} {ic : Nat}
    (hown : s.vm.findClass own = some m₀.cls)
    (h : ∀ a ∈ nsA own ic, a.before args s = true)
    (hlocs : ∀ x ∈ locs, ∀ cell, s.heap[x.base]? = some cell → cell.vm.isStatics = false)
    {a : Addr} {cX : ClassId} {kX : Class} (hfoundX : s.vm.findClass nsN = some cX) (hkX : s.vm.classes[cX]? = some kX) (hcell : W.heap[a]? = some (freshCell cX kX)) (hnew : s.heap.size ≤ a)
    {msg : Value} (hmsg : msg.isRef = true)
    {g : JFrame} (hg : g.method = m₀) (hsize : g.locals.size = c.maxLocals) {rest : List Value} (hstack : g.stack = msg :: .ref a :: .ref a :: rest)
    (hd6 : decode c.code g.pc = .ok (.invokespecial ic, 3))
    (hRframes : 2 + 3 < R.frames) (hRlocals : 2 * g.monitorRoom + ((Value.ref a :: rest).map fun v => v.category).sum + (13 * (2 + 1) + 42) ≤ R.locals) :
    ∃ (V : State) (ce : Cell) (L : List Loc), Stand p l e R s m₀ args below meth c (V.setCell a ce) (locs ++ L) cells slots ∧ (∀ y ∈ L, y.base = a) ∧ a < V.heap.size ∧ ce.cls = cX ∧ ce.vm = .none ∧
      ∀ target, Steps p.tables e below ((V.setCell a ce).setTop { g with stack := .ref a :: rest, pc := g.pc + 3 }) target → Steps p.tables e below (W.setTop g) target := by
  have howns : e.platform.frameOwnsMonitors = true := by rw [X.admits.platform]
  have hfin : e.platform.finalization = false := by rw [X.admits.platform]
  have hpl : e.platform.magicAccessors = ({} : Platform).magicAccessors := by rw [X.admits.platform]
  have a' : ∀ x, x ∈ nsA own ic → x.holds args s none s [] = true := fun x hx => h x hx
  obtain ⟨T, Z0, L, -, Y⟩ := ThrowableC.of_atoms (args := args) howns hfin hpl (fun x hx => h x (by simp [nsA, hx]))
  obtain ⟨Z, M, LZ, LM, hnZ⟩ := Init0T.ofS_atoms (args := args) hpl L Y (fun x hx => h x (by simp [nsA, hx]))
  obtain ⟨P1, Ps, hlen, L1, hL, hP1m, hlink1, hlink⟩ := ns_chain (args := args) hpl hnZ (fun x hx => h x (by unfold nsA; exact List.mem_append_left _ (List.mem_append_right _ hx)))
  have hfound : s.vm.findClass nsN = some P1.m.cls := findClass_of_methodNamed hP1m
  cases Option.some.inj (hfoundX.symm.trans hfound)
  obtain ⟨c1, kX', hc1, hk, hord, -, -, hn6⟩ := Cond.instantiable_spec (a' (.instantiable nsN 6) (by simp [nsA]))
  cases Option.some.inj (hc1.symm.trans hfound)
  cases Option.some.inj (hkX.symm.trans hk)
  have hsel0 : selectMethod e.platform s.vm P1.m.cls T.fill0 = .method T.fill0 := by
    obtain ⟨c2, r2, m2, q1, q2, q3, q4, -⟩ := Cond.selects_spec (a' (.selects nsN Bundle.tFill0 Bundle.tFill0) (by simp [nsA]))
    cases Option.some.inj (q1.symm.trans hfound)
    cases Option.some.inj (q2.symm.trans (State.methodFound?_of_named Y.fill0 (by decide)))
    cases Option.some.inj (q3.symm.trans Y.fill0)
    rw [Launch.admits_selectMethod X.admits]; exact q4
  have hselF : selectMethod e.platform s.vm P1.m.cls T.fill = .method T.fill := by
    obtain ⟨c2, r2, m2, q1, q2, q3, q4, -⟩ := Cond.selects_spec (a' (.selects nsN Bundle.tFill Bundle.tFill) (by simp [nsA]))
    cases Option.some.inj (q1.symm.trans hfound)
    cases Option.some.inj (q2.symm.trans (State.methodFound?_of_named Y.fill (by decide)))
    cases Option.some.inj (q3.symm.trans Y.fill)
    rw [Launch.admits_selectMethod X.admits]; exact q4
  obtain ⟨cellS0, hcS0, hiss⟩ := Y.statics
  obtain ⟨u0, hu0⟩ := Cond.staticRefV Y.unassigned L.unassignedStatic L.statics hcS0 hiss (a' (.isRef (.static Bundle.tN "UNASSIGNED_STACK" Bundle.steD)) (by simp [nsA]))
  obtain ⟨sen, hsen⟩ := Cond.staticRefV Y.sentinel L.sentinelStatic L.statics hcS0 hiss (a' (.isRef (.static Bundle.tN "SUPPRESSED_SENTINEL" Bundle.listD)) (by simp [nsA]))
  obtain ⟨ci198, i198, fB, hk198, hg198, ha198, hsB, -, hnB, htB, hffB⟩ := Cond.ownField (t := .object "java/lang/Object") Y.found L.cls (by decide +kernel) (a' (.fieldLink Bundle.tN 198 Bundle.tN "backtrace" "Ljava/lang/Object;") (by simp [nsA])) (a' (.lays Bundle.tN Bundle.tN "backtrace" "Ljava/lang/Object;") (by simp [nsA])) e.platform hpl
  obtain ⟨cellS, hcS', heS, -, hkeep⟩ := X.same.2.2.2.2.2 T.aS cellS0 hcS0
  have hcellS : W.heap[T.aS]? = some cellS := hcS'
  have hout' : ∀ i, (⟨T.aS, i⟩ : Loc) ∉ locs := fun i hmem => by
    have := hlocs _ hmem cellS0 hcS0
    rw [hiss] at this; cases this
  have hknownS : cellS.vm ≠ .unknown := by
    rw [heS]; intro hu
    rw [show cellS0.vm = .unknown from hu] at hiss
    cases hiss
  have hneS : T.aS ≠ a := Nat.ne_of_lt (Nat.lt_of_lt_of_le (Array.getElem?_eq_some_iff.mp hcS0).1 hnew)
  obtain ⟨iM, hffM⟩ := Y.msg
  obtain ⟨tyC, dC, hdC, hdnC⟩ := Cond.laysAt hfound hk Y.cause (a' (.lays nsN Bundle.tN "cause" "Ljava/lang/Throwable;") (by simp [nsA]))
  obtain ⟨tyS, dS, hdS, hdnS⟩ := Cond.laysAt hfound hk Y.stack (a' (.lays nsN Bundle.tN "stackTrace" Bundle.steD) (by simp [nsA]))
  obtain ⟨tyP, dP, hdP, hdnP⟩ := Cond.laysAt hfound hk Y.supp (a' (.lays nsN Bundle.tN "suppressedExceptions" Bundle.listD) (by simp [nsA]))
  obtain ⟨tyM, dM, hdM, hdnM⟩ := Cond.laysAt hfound hk hffM (a' (.lays nsN Bundle.tN "detailMessage" "Ljava/lang/String;") (by simp [nsA]))
  obtain ⟨tyB, dB, hdB, hdnB⟩ := Cond.laysAt hfound hk hffB (a' (.lays nsN Bundle.tN "backtrace" "Ljava/lang/Object;") (by simp [nsA]))
  have bC := Cond.laysApart hdB hdC hdnB hdnC (by rw [hnB, Y.causeName]; decide)
  have bS := Cond.laysApart hdB hdS hdnB hdnS (by rw [hnB, Y.stackName]; decide)
  have bP := Cond.laysApart hdB hdP hdnB hdnP (by rw [hnB, Y.suppName]; decide)
  have hskip : SkipFacts T e.platform s (fun u => u) u0 ((preparedCellV T.toThrowableT (freshCell P1.m.cls kX) a u0 sen).withEntry W.cur) :=
    ⟨{ ci198 := ci198, i198 := i198, fBack := fB }, ⟨hk198, hg198, ha198, hsB⟩, by
      have := fresh_default (c := P1.m.cls) tyB
      rw [htB] at this
      simpa [preparedCellV, Cell.setSlot, Cell.withEntry, Array.getElem?_setIfInBounds, bC, bS, bP, bC.symm, bS.symm, bP.symm, defaultValue] using this, fun _ _ => rfl⟩
  obtain ⟨tm, methC, cdC, kC, vm₁, hnC, -, -, -, -, -, -, -, hW₁, st1⟩ := Steps.initColdS (tb := p.tables) (e := e) (below := below) (s := s) (U := W) X.here hexec X.warmed hpl hown (t := Bundle.initS nsN) rfl rfl (Bundle.fit_spec ns_fit).2
    (a' (.methodLink own ic (Bundle.initS nsN)) (by simp [nsA])) (h (.instanceMethod (Bundle.initS nsN)) (by simp [nsA, Bundle.passSAtoms])) (bytes := nsB) (maxL := 2) (h (.code (Bundle.initS nsN) nsB 2 none) (by simp [nsA, Bundle.passSAtoms]))
    (f := g) hg (a := a) (msg := msg) (rest := .ref a :: rest) hstack hd6
  cases Option.some.inj (hnC.symm.trans hP1m)
  have X₁ := X.noted hW₁
  obtain ⟨vm₂, X₂, st2⟩ := X₁.ctorMessageOffV hexec (g := { g with stack := .ref a :: rest }) hg hsize T L Z LZ M LM (P1 :: Ps)
    (fun P hP => by rcases List.mem_cons.mp hP with rfl | hP; exact L1; exact hL P hP) ⟨hlink1, hlink⟩ (u0 := u0) (sen := sen) (self := a) hmsg (cell := freshCell P1.m.cls kX) (cellS := cellS)
    hcell (fun _ => by simp) (by simp) rfl rfl hsel0 hselF hcellS hneS hknownS (by rw [hkeep _ (hout' _)]; exact hu0) (by rw [hkeep _ (hout' _)]; exact hsen)
    (Takes.of_laid hk hord tyC (by rw [Y.causeType]; rfl)) (Takes.of_laid hk hord tyS (by rw [Y.stackType]; exact fits_refV_array _ u0)) (Takes.of_laid hk hord tyP (by rw [Y.suppType]; exact fits_refV_object _ sen))
    (Takes.of_laid hk hord tyM (by rw [Y.msgType]; exact fits_refV_object _ ⟨msg, hmsg⟩)) Y.objLocals hskip htr [] hd6
    (by simp only [List.length_cons, hlen]; omega) (by simp only [List.length_cons, hlen]; exact hRlocals)
  have hlt : a < ((W.setVm vm₁).setVm vm₂).heap.size := (Array.getElem?_eq_some_iff.mp hcell).1
  refine ⟨(W.setVm vm₁).setVm vm₂, _, _, X₂, fun y hy => ?_, hlt, rfl, rfl, fun target hwalk => st1 _ (fun acts => ?_)⟩
  · simp only [List.mem_cons, List.not_mem_nil, or_false] at hy
    rcases hy with rfl | rfl | rfl | rfl | rfl <;> rfl
  · rw [doInvoke_state]
    exact st2 _ hwalk
end NSV
/-- its words: the good ones of the tables, those of two lists, two of the statics -/
def nsOk (own : String) (ic : Nat) (dl : List MethodName) (cl : List (String × String)) : Prop :=
  (∀ w ∈ ((nsA own ic).filter vx_no).filter goodWord, w ∈ wsG) ∧ (((nsA own ic).filter vx_no).filter (fun w => !goodWord w)).all (fun w => match w with
    | .declares x => decide (x ∈ dl)
    | .castable a b => decide ((a, b) ∈ cl)
    | _ => false) = true
theorem ns_words {F : ROF} {own : String} {ic : Nat} {ad : Nat → Nat} {A : Nat → Prop} {s : State} {H : Heap} {args : Array Value} (h : nsOk own ic (fD F) (fC F)) (hts : ∀ w ∈ wsG, w.before args s = true) (hZ : Zr F ad A s H) : ∀ w ∈ (nsA own ic).filter vx_no, w.before args s = true := by
  intro w hw
  by_cases hg : goodWord w = true
  · exact hts w (h.1 w (List.mem_filter.mpr ⟨hw, hg⟩))
  · have h2 := List.all_eq_true.mp h.2 w (List.mem_filter.mpr ⟨hw, by simpa using hg⟩)
    obtain ⟨-, -, -, -, -, -, -, -, -, -, z11, -, z13⟩ := hZ
    cases w with
    | declares x => exact (z13 x (of_decide_eq_true h2)).use rfl
    | castable a b => exact (z11 (a, b) (of_decide_eq_true h2)).use rfl
    | _ => simp at h2
theorem ns_ot {own : String} {ic : Nat} {dl : List MethodName} {cl : List (String × String)} (h : nsOk own ic dl cl) : ∀ w ∈ (nsA own ic).filter vx_no, vx_ot w = true := by
  intro w hw
  unfold vx_ot
  by_cases hg : goodWord w = true
  · rw [hg, Bool.or_true]
  · have h2 := List.all_eq_true.mp h.2 w (List.mem_filter.mpr ⟨hw, by simpa using hg⟩)
    cases w with
    | declares x => rfl
    | castable a b => rfl
    | _ => simp at h2
section NSW
variable {F : ROF} {g : Bool} {n0 : Nat} {Y : MD} {d k pc : Nat} {L : List (Nat × Value)} {S : List Value} {M : Mem} {P : Res → Mem → Prop}
theorem ns_throw {text : String} {ik ia ic sa len : Nat} (hT : nsOk Y.1.cls ic (fD F) (fC F)) (hk1 : Cond.classLink Y.1.cls ik nsN ∈ wsG) (hk2 : Cond.initialized nsN ∈ wsG) (hs : (Y.1.cls, ia, text, sa) ∈ fS F)
    (d0 : decode Y.2.1 pc = .ok (.new ik, 3)) (d3 : decode Y.2.1 (pc + 3) = .ok (.dup, 1)) (d4 : (len = 2 ∧ decode Y.2.1 (pc + 4) = .ok (.ldc ia, 2)) ∨ (len = 3 ∧ decode Y.2.1 (pc + 4) = .ok (.ldc_w ia, 3))) (d6 : decode Y.2.1 (pc + 4 + len) = .ok (.invokespecial ic, 3)) (d9 : decode Y.2.1 (pc + 4 + len + 3) = .ok (.athrow, 1))
    (hd : 7 ≤ d) (hS : (S.map fun v => v.category).sum ≤ 8) (kk : Fx F g n0 Y d k (pc + 4 + len + 3) L M nsN P) : Fr F g n0 Y d (k + 1) pc L S M P := by
  intro p l e R s m args below meth c H locs cells slots mc ms ls D CA adE ad A hc ha hn hw hr hl
  have hts := hc.2.2.2.2.1
  have hl9 := hc.2.2.2.2.2.2.2.2.1
  have hb := hc.2.1
  have hown := hc.2.2.2.1
  have hSS := hw.2.2.2.2.1
  have hstr := hw.2.1.2.2.2.2.2.2.1 (Y.1.cls, ia, text, sa) hs
  have hU := hw.2.1.1
  have hN := hw.2.1.2.1
  have hat := ns_words hT hts hw.2.1
  have hA := hw.2.2.2.2.2.1
  have hsize : ls.size = c.maxLocals := hl.1.trans hc.2.2.1.symm
  have hrest : ((S.map (cv ad)).map fun v => v.category).sum ≤ 8 := by rw [cat_map]; exact hS
  obtain ⟨r1, r2, r3, r4, r5, r6⟩ := hr
  intro T hT9 X
  subst hT9
  have htr : e.platform.stackTraces = false := (show e.platform.stackTraces = l.stackTraces by rw [X.admits.platform]).trans hl9
  have Y9 := vx_rebase X (R' := { frames := R.frames, locals := R.locals, cells := 1, slots := 6 }) (Nat.le_refl _) (Nat.le_refl _) (show cells + 1 ≤ R.cells by omega) (show slots + 6 ≤ R.slots by omega)
  obtain ⟨s', hA'⟩ : ∃ z, z = (T.setVm s.vm).setFrames (.invoking m args :: below) := ⟨_, rfl⟩
  rw [← hA'] at Y9
  have hvm : s'.vm = s.vm := by rw [hA']; rfl
  have hhp : s'.heap = T.heap := by rw [hA']; rfl
  have hW0 : s.WarmedH s'.vm := by rw [hvm]; exact State.WarmedH.refl s
  have hat' : ∀ w ∈ (nsA Y.1.cls ic).filter vx_no, w.before args s' = true := fun w hw => vx_ot_at hW0 hvm.symm (ns_ot hT w hw) (hat w hw)
  have hk' : (Cond.classLink Y.1.cls ik nsN).before args s' = true := vx_ot_at hW0 hvm.symm rfl (hts _ hk1)
  have hini' : (Cond.initialized nsN).before args s' = true := vx_ot_at hW0 hvm.symm rfl (hts _ hk2)
  have hU' : vx_Zq Bundle.tN "UNASSIGNED_STACK" Bundle.steD A s' s'.heap := by rw [hhp]; exact vx_Zq.moved hW0.alike (hU.kept hSS.2.1)
  have hN' : vx_Zq Bundle.tN "SUPPRESSED_SENTINEL" Bundle.listD A s' s'.heap := by rw [hhp]; exact vx_Zq.moved hW0.alike (hN.kept hSS.2.1)
  have h : ∀ w ∈ nsA Y.1.cls ic, w.before args s' = true := vx_own hat' (vx_isRefq hU'.1) (vx_isRefq hN'.1) hU'.2.word hN'.2.word
  have hown' : s'.vm.findClass Y.1.cls = some m.cls := by rw [hvm]; exact hown
  have hins : (Cond.instantiable nsN 6).before args s' = true := h _ (by simp [nsA])
  obtain ⟨vm₁, cX, kX, hfX, hkX, -, -, X₁, st1⟩ := Y9.newCold hc.1 (own := Y.1.cls) (C := nsN) (index := ik) (n := 6) hown' hk' hins hini'
    (g := F0 m pc ls (S.map (cv ad))) rfl (by rw [hb]; exact d0) (Nat.le_refl _) (Nat.le_refl _)
  generalize hT1 : (T.setVm vm₁).pushCell { cls := cX, slots := kX.instanceTypes.map defaultValue, vm := .none } = T1 at X₁ st1
  have hcat : (Value.ref T.heap.size).category = 1 := rfl
  have hcellA : T1.heap[T.heap.size]? = some (freshCell cX kX) := by rw [← hT1]; exact State.heap_pushCell_size _ _
  have d3' : decode c.code (pc + 3) = .ok (.dup, 1) := by rw [hb]; exact d3
  have hstr' : vk_R Y.1.cls ia text (ad sa) s' := vk_R.warm hW0 hstr
  obtain ⟨V, ce, L9, Z, hL, hlt, hcl9, hvm9, st⟩ := ns_made X₁ hc.1 htr (own := Y.1.cls) (ic := ic) hown' h (fun x hx => nomatch hx) hfX hkX hcellA (by rw [hhp]; exact Nat.le_refl _) (msg := .ref (ad sa)) rfl
    (g := { method := m, pc := pc + 4 + len, locals := ls, stack := .ref (ad sa) :: .ref T.heap.size :: .ref T.heap.size :: S.map (cv ad), locked := none }) rfl hsize (rest := S.map (cv ad)) rfl
    (by rw [hb]; exact d6) (show 2 + 3 < R.frames by omega) (by show 2 * 0 + (((Value.ref T.heap.size :: S.map (cv ad)).map fun v => v.category).sum) + (13 * (2 + 1) + 42) ≤ R.locals; simp only [List.map_cons, List.sum_cons, hcat]; omega)
  have Z0 := Stand.forget (locs := []) Z (fun y hy => by rw [hL y hy, hhp]; exact Nat.le_refl _)
  obtain ⟨f1, f2⟩ := vx_frame Z0.same
  rw [hhp] at f1 f2
  have hcid : s.vm.findClass nsN = some ce.cls := by
    rw [hcl9, ← hvm]
    exact hfX
  have hh : (V.setCell T.heap.size ce).heap[T.heap.size]? = some ce := heapAt_setCell_self (s := V) ce hlt
  subst hA'
  have X5 := vx_back9 X Y9 Z0
  have X6 : Stand p l e R s m args below meth c (V.setCell T.heap.size ce) locs (cells + 1) (slots + 6) := { X5 with same := X5.same.mono (by omega) (by omega) }
  have hk9 : ∀ (k : Nat) (x : Nat × va_E), (wsM CA ad M)[k]? = some x → (V.setCell T.heap.size ce).heap[x.1]? = T.heap[x.1]? := fun k x hx => f2 x.1 ((hw.2.2.1 k x hx).lt) (fun z hz => nomatch hz)
  have hS9 : va_S A s.heap (V.setCell T.heap.size ce).heap locs := ⟨Nat.le_trans hSS.1 f1, fun q h1 h2 => (f2 q (Nat.lt_of_lt_of_le h1 hSS.1) (fun z hz => nomatch hz)).trans (hSS.2.1 q h1 h2), hSS.2.2⟩
  obtain ⟨t, a1, b1⟩ := vx_athrow hc.1 hb (pc := pc + 4 + len + 3) (ls := ls) (rest := S.map (cv ad)) (q := T.heap.size) d9 (kk p l e R s m args below meth c (V.setCell T.heap.size ce).heap locs (cells + 1) (slots + 6) mc ms ls D CA adE ad A (S.map (cv ad)) T.heap.size ce hc ha hn ⟨hw.1, hw.2.1, hw.2.2.1.kept hk9, hw.2.2.2.1, hS9, hA, hw.2.2.2.2.2.2⟩ ⟨r1, r2, by omega, by omega, r5, r6⟩ hl hh hvm9 hcid) _ rfl X6
  refine ⟨t, st1 _ ?_, b1⟩
  show Steps p.tables e below (T1.setTop { method := m, pc := pc + 3, locals := ls, stack := .ref T.heap.size :: S.map (cv ad), locked := none }) _
  jvm_step X₁.here [X₁.here.top, hc.1, d3', Value.category]
  rcases d4 with ⟨rfl, d4⟩ | ⟨rfl, d4⟩
  · exact X₁.ldcString hc.1 (own := Y.1.cls) (text := text) (index := ia) (a := ad sa) hown' hstr'.1 hstr'.2
      (g := { method := m, pc := pc + 4, locals := ls, stack := .ref T.heap.size :: .ref T.heap.size :: S.map (cv ad), locked := none }) rfl (by rw [hb]; exact d4) _ (st _ a1)
  · exact X₁.ldcStringW hc.1 (own := Y.1.cls) (text := text) (index := ia) (a := ad sa) hown' hstr'.1 hstr'.2
      (g := { method := m, pc := pc + 4, locals := ls, stack := .ref T.heap.size :: .ref T.heap.size :: S.map (cv ad), locked := none }) rfl (by rw [hb]; exact d4) _ (st _ a1)
theorem fr_throwWX {text : String} {ik ia ic sa : Nat} (hY : Y.2.2.2.2 = []) (hT : nsOk Y.1.cls ic (fD F) (fC F)) (hk1 : Cond.classLink Y.1.cls ik nsN ∈ wsG) (hk2 : Cond.initialized nsN ∈ wsG) (hs : (Y.1.cls, ia, text, sa) ∈ fS F)
    (d0 : decode Y.2.1 pc = .ok (.new ik, 3)) (d3 : decode Y.2.1 (pc + 3) = .ok (.dup, 1)) (d4 : decode Y.2.1 (pc + 4) = .ok (.ldc_w ia, 3)) (d7 : decode Y.2.1 (pc + 7) = .ok (.invokespecial ic, 3)) (d10 : decode Y.2.1 (pc + 10) = .ok (.athrow, 1))
    (hd : 7 ≤ d) (hk : 1 ≤ k) (hS : (S.map fun v => v.category).sum ≤ 8) (hP : P (.inr nsN) M) : Fr F g n0 Y d k pc L S M P :=
  fr_room (k' := k - 1 + 1) (Nat.le_refl _) (by omega) (ns_throw (len := 3) hT hk1 hk2 hs d0 d3 (Or.inr ⟨rfl, d4⟩) d7 d10 hd hS (fx_no hY hP))
theorem fr_throwSX {text : String} {ik ia ic sa : Nat} (hY : Y.2.2.2.2 = []) (hT : nsOk Y.1.cls ic (fD F) (fC F)) (hk1 : Cond.classLink Y.1.cls ik nsN ∈ wsG) (hk2 : Cond.initialized nsN ∈ wsG) (hs : (Y.1.cls, ia, text, sa) ∈ fS F)
    (d0 : decode Y.2.1 pc = .ok (.new ik, 3)) (d3 : decode Y.2.1 (pc + 3) = .ok (.dup, 1)) (d4 : decode Y.2.1 (pc + 4) = .ok (.ldc ia, 2)) (d6 : decode Y.2.1 (pc + 6) = .ok (.invokespecial ic, 3)) (d9 : decode Y.2.1 (pc + 9) = .ok (.athrow, 1))
    (hd : 7 ≤ d) (hk : 1 ≤ k) (hS : (S.map fun v => v.category).sum ≤ 8) (hP : P (.inr nsN) M) : Fr F g n0 Y d k pc L S M P :=
  fr_room (k' := k - 1 + 1) (Nat.le_refl _) (by omega) (ns_throw (len := 2) hT hk1 hk2 hs d0 d3 (Or.inl ⟨rfl, d4⟩) d6 d9 hd hS (fx_no hY hP))
end NSW
theorem thX10_149_0 : ∀ w ∈ ((nsA RX10 149).filter vx_no).filter goodWord, w ∈ lw_tbl := by decide +kernel
theorem thX10_149 : nsOk RX10 149 roD roC := ⟨fun w h => wsG_of (thX10_149_0 w h) (List.mem_filter.mp h).2, by decide +kernel⟩
