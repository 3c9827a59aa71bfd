section
-- ===== PART A: goes FIRST, ahead of the names: the tables' words, and 'selects' of the private methods out of them =====
/-- a private method of a class that the tables say can be made, by its rows of tables_1 -/
def lw_okq (q : MethodName × Nat) : Prop := (q.1.cls ≠ "java/lang/invoke/MethodHandle" ∧ q.1.cls ≠ "java/lang/invoke/VarHandle") ∧ Cond.instantiable q.1.cls q.2 ∈ tables_1 ∧ Cond.privateMethod q.1 ∈ tables_1 ∧ Cond.instanceMethod q.1 ∈ tables_1
theorem lw_p0 : lw_okq (⟨"MapHall", "recorded", "(I)I"⟩, 10) := ⟨⟨by decide +kernel, by decide +kernel⟩, List.mem_of_getElem? (i := 38) (by decide +kernel), List.mem_of_getElem? (i := 309) (by decide +kernel), List.mem_of_getElem? (i := 310) (by decide +kernel)⟩
theorem lw_p1 : lw_okq (⟨"java/lang/Throwable", "fillInStackTrace", "(I)Ljava/lang/Throwable;"⟩, 6) := ⟨⟨by decide +kernel, by decide +kernel⟩, List.mem_of_getElem? (i := 358) (by decide +kernel), List.mem_of_getElem? (i := 356) (by decide +kernel), List.mem_of_getElem? (i := 357) (by decide +kernel)⟩
theorem lw_p2 : lw_okq (⟨"MapHall", "demandedSheet", "(I)LMapHall$Sheet;"⟩, 10) := ⟨⟨by decide +kernel, by decide +kernel⟩, List.mem_of_getElem? (i := 38) (by decide +kernel), List.mem_of_getElem? (i := 643) (by decide +kernel), List.mem_of_getElem? (i := 644) (by decide +kernel)⟩
theorem lw_p3 : lw_okq (⟨"MapHall", "demandOccupied", "(I)V"⟩, 10) := ⟨⟨by decide +kernel, by decide +kernel⟩, List.mem_of_getElem? (i := 38) (by decide +kernel), List.mem_of_getElem? (i := 675) (by decide +kernel), List.mem_of_getElem? (i := 676) (by decide +kernel)⟩
theorem lw_p4 : lw_okq (⟨"MapHall$Script", "noteCommand", "(III)Z"⟩, 5) := ⟨⟨by decide +kernel, by decide +kernel⟩, List.mem_of_getElem? (i := 175) (by decide +kernel), List.mem_of_getElem? (i := 720) (by decide +kernel), List.mem_of_getElem? (i := 721) (by decide +kernel)⟩
theorem lw_p5 : lw_okq (⟨"MapHall", "carryOutAll", "()I"⟩, 10) := ⟨⟨by decide +kernel, by decide +kernel⟩, List.mem_of_getElem? (i := 38) (by decide +kernel), List.mem_of_getElem? (i := 790) (by decide +kernel), List.mem_of_getElem? (i := 791) (by decide +kernel)⟩
theorem lw_p6 : lw_okq (⟨"MapHall", "answerOfCommand", "(I)I"⟩, 10) := ⟨⟨by decide +kernel, by decide +kernel⟩, List.mem_of_getElem? (i := 38) (by decide +kernel), List.mem_of_getElem? (i := 794) (by decide +kernel), List.mem_of_getElem? (i := 795) (by decide +kernel)⟩
theorem lw_p7 : lw_okq (⟨"MapHall", "demandFewEmptyCells", "()V"⟩, 10) := ⟨⟨by decide +kernel, by decide +kernel⟩, List.mem_of_getElem? (i := 38) (by decide +kernel), List.mem_of_getElem? (i := 991) (by decide +kernel), List.mem_of_getElem? (i := 992) (by decide +kernel)⟩
theorem lw_p8 : lw_okq (⟨"MapHall$Output", "write", "(C)V"⟩, 2) := ⟨⟨by decide +kernel, by decide +kernel⟩, List.mem_of_getElem? (i := 200) (by decide +kernel), List.mem_of_getElem? (i := 1011) (by decide +kernel), List.mem_of_getElem? (i := 1012) (by decide +kernel)⟩
theorem lw_p9 : lw_okq (⟨"MapHall$Output", "writeDigit", "(I)V"⟩, 2) := ⟨⟨by decide +kernel, by decide +kernel⟩, List.mem_of_getElem? (i := 200) (by decide +kernel), List.mem_of_getElem? (i := 1016) (by decide +kernel), List.mem_of_getElem? (i := 1017) (by decide +kernel)⟩
theorem lw_p10 : lw_okq (⟨"MapHall$Output", "writeTimes", "(CI)V"⟩, 2) := ⟨⟨by decide +kernel, by decide +kernel⟩, List.mem_of_getElem? (i := 200) (by decide +kernel), List.mem_of_getElem? (i := 1021) (by decide +kernel), List.mem_of_getElem? (i := 1022) (by decide +kernel)⟩
theorem lw_p11 : lw_okq (⟨"MapHall$State", "countBefore", "(I)I"⟩, 6) := ⟨⟨by decide +kernel, by decide +kernel⟩, List.mem_of_getElem? (i := 46) (by decide +kernel), List.mem_of_getElem? (i := 1056) (by decide +kernel), List.mem_of_getElem? (i := 1057) (by decide +kernel)⟩
theorem lw_p12 : lw_okq (⟨"MapHall$State", "comesBefore", "(II)Z"⟩, 6) := ⟨⟨by decide +kernel, by decide +kernel⟩, List.mem_of_getElem? (i := 46) (by decide +kernel), List.mem_of_getElem? (i := 1060) (by decide +kernel), List.mem_of_getElem? (i := 1061) (by decide +kernel)⟩
def lw_privs_1 : List (MethodName × Nat) := [(⟨"MapHall", "recorded", "(I)I"⟩, 10), (⟨"java/lang/Throwable", "fillInStackTrace", "(I)Ljava/lang/Throwable;"⟩, 6), (⟨"MapHall", "demandedSheet", "(I)LMapHall$Sheet;"⟩, 10), (⟨"MapHall", "demandOccupied", "(I)V"⟩, 10), (⟨"MapHall$Script", "noteCommand", "(III)Z"⟩, 5), (⟨"MapHall", "carryOutAll", "()I"⟩, 10), (⟨"MapHall", "answerOfCommand", "(I)I"⟩, 10), (⟨"MapHall", "demandFewEmptyCells", "()V"⟩, 10), (⟨"MapHall$Output", "write", "(C)V"⟩, 2), (⟨"MapHall$Output", "writeDigit", "(I)V"⟩, 2), (⟨"MapHall$Output", "writeTimes", "(CI)V"⟩, 2), (⟨"MapHall$State", "countBefore", "(I)I"⟩, 6), (⟨"MapHall$State", "comesBefore", "(II)Z"⟩, 6)]
theorem lw_r1 : ∀ q ∈ lw_privs_1, lw_okq q := List.forall_mem_cons.mpr ⟨lw_p0, List.forall_mem_cons.mpr ⟨lw_p1, List.forall_mem_cons.mpr ⟨lw_p2, List.forall_mem_cons.mpr ⟨lw_p3, List.forall_mem_cons.mpr ⟨lw_p4, List.forall_mem_cons.mpr ⟨lw_p5, List.forall_mem_cons.mpr ⟨lw_p6, List.forall_mem_cons.mpr ⟨lw_p7, List.forall_mem_cons.mpr ⟨lw_p8, List.forall_mem_cons.mpr ⟨lw_p9, List.forall_mem_cons.mpr ⟨lw_p10, List.forall_mem_cons.mpr ⟨lw_p11, List.forall_mem_cons.mpr ⟨lw_p12, fun _ h => absurd h List.not_mem_nil⟩⟩⟩⟩⟩⟩⟩⟩⟩⟩⟩⟩⟩
def lw_privs : List (MethodName × Nat) := lw_privs_1
def lw_tbl : List Cond := k2_sels lw_privs ++ tables_1
theorem lw_privs_ok : ∀ q ∈ lw_privs, lw_okq q := lw_r1
/-- the streams that the claim lets the run draw from -/
abbrev lw_cs : List Choice := [Jvm.Choice.named "NaN.bits"]
theorem lw_bits : nanBits ∈ lw_cs := by first | decide | exact List.mem_cons_self | simp [lw_cs, nanBits]

/-! ===== BEGIN words of one list among another's, by their places ===== -/
theorem goodIn_r {big : List Cond} (ws : List Cond) (ps : List Nat) (hp : ws = ps.filterMap (fun i => big[i]?)) (h : ws.all goodWord = true) : GoodIn big ws := by
  intro w hw
  have h1 := List.all_eq_true.mp h w hw
  rw [hp] at hw
  obtain ⟨i, -, hi⟩ := List.mem_filterMap.mp hw
  have hm : w ∈ big := by first | exact List.mem_of_getElem? hi | exact List.getElem?_mem hi
  exact ⟨hm, good_of_word h1⟩
theorem goodIn_app {big a b : List Cond} (ha : GoodIn big a) (hb : GoodIn big b) : GoodIn big (a ++ b) := fun w h => (List.mem_append.mp h).elim (ha w) (hb w)
theorem goodIn_ca {big a b : List Cond} {c : Cond} (ha : GoodIn big (c :: a)) (hb : GoodIn big b) : GoodIn big (c :: (a ++ b)) := fun w h => (List.mem_cons.mp h).elim (fun e => ha w (List.mem_cons.mpr (Or.inl e))) (fun h => (List.mem_append.mp h).elim (fun h => ha w (List.mem_cons.mpr (Or.inr h))) (hb w))
theorem goodIn_sub {big ws : List Cond} (hm : ∀ w ∈ ws, w ∈ big) (h : ws.all goodWord = true) : GoodIn big ws := fun w hw => ⟨hm w hw, good_of_word (List.all_eq_true.mp h w hw)⟩
/-! ===== END ===== -/
/-! ===== BEGIN exceptions that leave a method, and their catching by the caller (launches without stack traces) ===== -/
section VXA
/-! The laws vx_back, vx_callV, vx_callS, vx_callSW, vx_throw0, vx_throwS follow proofs of the library, with one case more: JvmDerived/Free/Laws.lean (Back.of_free), Shelf42/LK1.lean (callV, callS), Shelf/KitTraced.lean (throwNew0V, throwNewS). -/
/-- where a method has thrown q: the class by its name, the cell, what was written, the world -/
def vx_T (XC : String → State → State → Prop) (st : State) (q : Addr) (t : State) (mc ms : Nat) (free : Addr → Prop) : Prop :=
  ∃ (E : String) (ce : Cell) (L : List Loc), XC E st t ∧ t.heap[q]? = some ce ∧ ce.vm = .none ∧ st.vm.findClass E = some ce.cls ∧ st.WarmedH t.vm ∧ st.sameButNew ({ t with vm := st.vm } : State) L mc ms ∧ ∀ z ∈ L, free z.base
def vx_Q (Qc : Array Value → State → Outcome → State → Prop) (XC : String → State → State → Prop) (mc ms : Nat) (free : Addr → Prop) : Array Value → State → Outcome → State → Prop := fun a st o t =>
  (Qc a st o t ∧ ∃ L, FrameEnd st o t L mc ms ∧ ∀ q ∈ L, free q.base) ∨ ∃ q, o = .threw q ∧ vx_T XC st q t mc ms free
/-- a callee that returns or throws -/
def vx_Met (l : Launch) (y : MethodName) (ws : List Cond) (rm : Room) (Pc : Array Value → State → Prop) (Qc : Array Value → State → Outcome → State → Prop) (XC : String → State → State → Prop) (mc ms : Nat) (free : Addr → Prop) : Prop :=
  MetFree l y (headSpec ws rm) Pc (fun _ _ _ _ _ => True) (vx_Q Qc XC mc ms free)
def vx_Post (XC : String → State → State → Prop) (mc ms : Nat) (free : Addr → Prop) : Pt → Array Value → Addr → Pt → Prop := fun A a q B =>
  ∃ (g : JFrame) (mk : MethodId) (t : State) (L : List Loc) (E : String) (ce : Cell), B.U.heap = t.heap ∧ B.U.vm = t.vm ∧ XC E (A.U.calling g mk a) t ∧ t.heap[q]? = some ce ∧ ce.vm = .none ∧ A.U.vm.findClass E = some ce.cls ∧ B.locs = A.locs ++ L ∧ (∀ z ∈ L, free z.base) ∧ B.cells = A.cells + mc ∧ B.slots = A.slots + ms
def vx_Back (l : Launch) (R : Room) (p : Program) (e : Env) (below : List Frame) (s : State) (sargs : Array Value) (y : MethodName) (len W9 : Nat)
    (Pre : Pt → Array Value → Prop) (Post : Pt → Array Value → Option Value → Pt → Prop) (PostX : Pt → Array Value → Addr → Pt → Prop) : Prop :=
  ∀ (m : MethodId) (meth : Method) (c : Code) (A : Pt) (g : JFrame) (ig : Instr) (mk : MethodId) (a : Array Value),
    Stand p l e R s m sargs below meth c A.U A.locs A.cells A.slots → g.method = m → g.locals.size = c.maxLocals → decode c.code g.pc = .ok (ig, len) →
    2 * g.monitorRoom + (g.stack.map fun v => v.category).sum ≤ W9 → A.U.methodNamed? y = some mk → Pre A a →
    (∃ (v : Option Value) (B : Pt), Stand p l e R s m sargs below meth c B.U B.locs B.cells B.slots ∧ Post A a v B ∧
      Steps p.tables e below (doInvoke e (A.U.setTop g) [] mk a).1 (B.U.setTop { g with pc := g.pc + len, stack := v.toList ++ g.stack })) ∨
    (∃ (q : Addr) (B : Pt), Stand p l e R s m sargs below meth c B.U B.locs B.cells B.slots ∧ PostX A a q B ∧
      Steps p.tables e below (doInvoke e (A.U.setTop g) [] mk a).1 ((B.U.setTop g).pushFrame (.throwing q)))
section Payer
variable {l : Launch} {R : Room} {p : Program} {e : Env} {below : List Frame} {s : State} {sargs : Array Value} {y : MethodName} {len W9 : Nat}
theorem vx_back {ws : List Cond} {rm : Room} {Pc : Array Value → State → Prop} {Qc : Array Value → State → Outcome → State → Prop} {XC : String → State → State → Prop} {mc ms : Nat} {free : Addr → Prop} {bytes : ByteArray} {maxL : Nat} {ret : Option FieldType}
    (hM : vx_Met l y ws rm Pc Qc XC mc ms free) (hblind : FrameBlind Pc) (hrc : rm.cells = mc) (hrs : rm.slots = ms)
    (hframes : rm.frames + 1 ≤ R.frames) (hlocals : W9 + (maxL + 11) + rm.locals ≤ R.locals)
    (hws : ∀ w ∈ ws, ∀ a' U, s.WarmedH U.vm → w.before a' U = true) (hcode : Cond.code y bytes maxL ret ∈ ws) (hinit : ∀ a' U, s.WarmedH U.vm → (Cond.initialized y.cls).before a' U = true) :
    vx_Back l R p e below s sargs y len W9 (PreOf R mc ms Pc) (PostOf Qc mc ms free) (vx_Post XC mc ms free) := by
  intro m meth c A g ig mk a X hg hsize hdg hW hn hp
  have h1 : (headSpec ws rm).pre.before a A.U = true := atoms_intro fun w hw => hws w hw _ _ X.warmed
  have h2 : (Cond.code y bytes maxL ret).before a A.U = true := hws _ hcode _ _ X.warmed
  have h3 : (Cond.initialized y.cls).before a A.U = true := hinit _ _ X.warmed
  have h4 : A.cells + (headSpec ws rm).room.cells ≤ R.cells := by rw [show (headSpec ws rm).room.cells = mc from hrc]; exact hp.1
  have h5 : A.slots + (headSpec ws rm).room.slots ≤ R.slots := by rw [show (headSpec ws rm).room.slots = ms from hrs]; exact hp.2.1
  have hPc : Pc a (A.U.calling g mk a) := hblind _ _ _ _ hp.2.2
  obtain ⟨U, Ls, c0, s0⟩ := A
  dsimp only [Pt.U, Pt.locs, Pt.cells, Pt.slots] at h1 h2 h3 h4 h5 X hn hPc ⊢
  obtain ⟨methY, cY, hmY, hcY, -, hlY, -, -, -, -⟩ := Cond.code_spec hn h2
  obtain ⟨kY, hkY, -⟩ := className_of_methodNamed hn
  have hinitY : kY.init = .initialized := Cond.initialized_spec (findClass_of_methodNamed hn) hkY h3
  have h : At U g.method c below := by rw [hg]; exact X.here
  have hlocals9 : W9 + (maxL + 11) + (headSpec ws rm).room.locals ≤ R.locals := hlocals
  have happ : (headSpec ws rm).appliesLoose y e.platform (U.calling g mk a) = true :=
    Spec.appliesLoose_calling (g := g) h hdg hn hkY hinitY
      (X.room_calling (g := g) (R' := (headSpec ws rm).room) hsize hmY hcY hframes (by rw [hlY]; omega) h4 h5) h1
  obtain ⟨mid, hmid⟩ := h.above
  have hfr : (U.setTop g).frames = (.java g :: mid) ++ below := by rw [State.frames_setTop' g h.top, hmid]; rfl
  obtain ⟨o, s₂, hsteps, -, hend, hq⟩ := Steps.callFree hM p X.admits X.cas X.clock (acts := []) hfr happ hPc trivial
  have hq' : vx_Q Qc XC mc ms free a (U.calling g mk a) o s₂ := hq
  rw [State.frames_setTop' g h.top] at hend
  obtain ⟨g₀, hg0⟩ := Option.isSome_iff_exists.mp h.top
  obtain ⟨r, hr⟩ := State.topJava?_eq_some.mp hg0
  have hr' : (({ U with heap := s₂.heap, slotsUsed := s₂.slotsUsed } : State).setVm s₂.vm).frames = .java g₀ :: r := hr
  rcases hq' with ⟨hqc, L, hfe, hL⟩ | ⟨q, rfl, E, ce, L, hx, hce, hcv, hcl, hW₂, hsm, hL⟩
  · obtain ⟨⟨v, rfl⟩, hW₂, e2, q2, q3, q4, q5, q6⟩ := id hfe
    have e3 : s₂ = ({ (U.calling g mk a).setFrames s₂.frames with heap := s₂.heap, slotsUsed := s₂.slotsUsed } : State).setVm s₂.vm := by
      have : s₂ = ({ s₂ with vm := (U.calling g mk a).vm } : State).setVm s₂.vm := rfl
      rw [e2] at this
      exact this
    obtain ⟨c₂, i₂, len₂, hc₂, hd₂, hf₂⟩ := hend
    have hW' : U.WarmedH s₂.vm := hW₂
    have hcc : c₂ = c := by
      have h1 : s₂.code? g.method = U.code? g.method := by
        rw [State.code?_eq, State.code?_eq, hW'.alike.method?]
      exact Option.some.inj (hc₂.symm.trans (h1.trans h.code))
    subst hcc
    have hlen : len₂ = len := by rw [hdg] at hd₂; cases hd₂; rfl
    subst hlen
    have hs₂ : s₂ = (({ U with heap := s₂.heap, slotsUsed := s₂.slotsUsed } : State).setVm s₂.vm).setTop { g with pc := g.pc + len₂, stack := v.toList ++ g.stack } := by
      refine e3.trans ?_
      rw [hf₂, State.calling_eq h.top, State.setFrames_setFrames, State.setTop_of_frames _ hr', hr]
      rfl
    have hsame : U.sameButNew ({ U with heap := s₂.heap, slotsUsed := s₂.slotsUsed } : State) L mc ms := by
      refine ⟨?_, q2, q3, q4, q5, q6⟩
      obtain ⟨t, ht, -⟩ := State.frames_cons hr
      show ({ U with heap := s₂.heap, slotsUsed := s₂.slotsUsed } : State) = { U.setFrames U.frames with heap := s₂.heap, slotsUsed := s₂.slotsUsed }
      rw [State.setFrames_self ht]
    subst hg
    refine Or.inl ⟨v, ⟨(({ U with heap := s₂.heap, slotsUsed := s₂.slotsUsed } : State).setVm s₂.vm), Ls ++ L, c0 + mc, s0 + ms⟩,
      ⟨X.admits, X.cas, X.clock, X.frames, X.room, X.hears, X.method, X.code, (X.here.setHeapUsed s₂.heap s₂.slotsUsed).setVm hW'.alike, X.tail, State.WarmedH.trans X.warmed hW', X.limits, X.bytes, X.same.trans (hsame.setVm s.vm)⟩,
      ⟨g, mk, s₂, L, rfl, rfl, hqc, rfl, hL, rfl, rfl⟩, ?_⟩
    show Steps p.tables e below _ ((({ U with heap := s₂.heap, slotsUsed := s₂.slotsUsed } : State).setVm s₂.vm).setTop { g with pc := g.pc + len₂, stack := v.toList ++ g.stack })
    rw [← hs₂]
    exact hsteps
  · obtain ⟨e2, q2, q3, q4, q5, q6⟩ := id hsm
    have e3 : s₂ = ({ (U.calling g mk a).setFrames s₂.frames with heap := s₂.heap, slotsUsed := s₂.slotsUsed } : State).setVm s₂.vm := by
      have : s₂ = ({ s₂ with vm := (U.calling g mk a).vm } : State).setVm s₂.vm := rfl
      rw [e2] at this
      exact this
    have hf₂ : s₂.frames = .throwing q :: .java g :: U.frames.tail := hend
    have hW' : U.WarmedH s₂.vm := hW₂
    have hs₂ : s₂ = ((({ U with heap := s₂.heap, slotsUsed := s₂.slotsUsed } : State).setVm s₂.vm).setTop g).pushFrame (.throwing q) := by
      refine e3.trans ?_
      rw [hf₂, State.calling_eq h.top, State.setFrames_setFrames, State.pushFrame, State.frames_setTop _ hr', State.setTop_of_frames _ hr', State.setFrames_setFrames, hr]
      rfl
    have hsame : U.sameButNew ({ U with heap := s₂.heap, slotsUsed := s₂.slotsUsed } : State) L mc ms := by
      refine ⟨?_, q2, q3, q4, q5, q6⟩
      obtain ⟨t, ht, -⟩ := State.frames_cons hr
      show ({ U with heap := s₂.heap, slotsUsed := s₂.slotsUsed } : State) = { U.setFrames U.frames with heap := s₂.heap, slotsUsed := s₂.slotsUsed }
      rw [State.setFrames_self ht]
    subst hg
    refine Or.inr ⟨q, ⟨(({ U with heap := s₂.heap, slotsUsed := s₂.slotsUsed } : State).setVm s₂.vm), Ls ++ L, c0 + mc, s0 + ms⟩,
      ⟨X.admits, X.cas, X.clock, X.frames, X.room, X.hears, X.method, X.code, (X.here.setHeapUsed s₂.heap s₂.slotsUsed).setVm hW'.alike, X.tail, State.WarmedH.trans X.warmed hW', X.limits, X.bytes, X.same.trans (hsame.setVm s.vm)⟩,
      ⟨g, mk, s₂, L, E, ce, rfl, rfl, hx, hce, hcv, hcl, rfl, hL, rfl, rfl⟩, ?_⟩
    show Steps p.tables e below _ (((({ U with heap := s₂.heap, slotsUsed := s₂.slotsUsed } : State).setVm s₂.vm).setTop g).pushFrame (.throwing q))
    rw [← hs₂]
    exact hsteps
end Payer
section Calls
variable {p : Program} {l : Launch} {e : Env} {R : Room} {s : State} {m : MethodId} {args : Array Value} {below : List Frame} {meth : Method} {c : Code} {T : State} {locs : List Loc} {cells slots : Nat}
theorem vx_callV (X : Stand p l e R s m args below meth c T locs cells slots) (hexec : p.tables.exec = Jvm.exec) {own C : String} {index : Nat} {y : MethodName} {bytes : ByteArray} {maxL : Nat} {ret : Option FieldType}
    (hown : s.vm.findClass own = some m.cls) (hlink : (Cond.methodLink own index y).before args s = true) (hinst : (Cond.instanceMethod y).before args s = true) (hsel : (Cond.selects C y y).before args s = true)
    (hcode : (Cond.code y bytes maxL ret).before args s = true) (hy : y.cls ≠ "java/lang/invoke/MethodHandle" ∧ y.cls ≠ "java/lang/invoke/VarHandle")
    {W9 : Nat} {Pre : Pt → Array Value → Prop} {Post : Pt → Array Value → Option Value → Pt → Prop} {PostX : Pt → Array Value → Addr → Pt → Prop} (hK : vx_Back l R p e below s args y 3 W9 Pre Post PostX)
    {b : Addr} {cellB : Cell} (hcell : T.heap[b]? = some cellB) (hobj : cellB.vm.isStatics = false) (hcls : s.vm.findClass C = some cellB.cls)
    {g : JFrame} (hg : g.method = m) (hsize : g.locals.size = c.maxLocals) {argsL rest : List Value} (hlen : ∀ sig, parseMethodDescriptor y.desc = some sig → argsL.length = sig.parameters.length)
    (hstack : g.stack = argsL.reverse ++ .ref b :: rest) (hW : 2 * g.monitorRoom + (rest.map fun v => v.category).sum ≤ W9) (hdg : decode c.code g.pc = .ok (.invokevirtual index, 3))
    (hpre : ∀ vm₁, s.WarmedH vm₁ → Pre ⟨T.setVm vm₁, locs, cells, slots⟩ (Value.ref b :: argsL).toArray) :
    (∃ (v : Option Value) (vm₁ : Vm) (B : Pt), s.WarmedH vm₁ ∧ Stand p l e R s m args below meth c B.U B.locs B.cells B.slots ∧ Post ⟨T.setVm vm₁, locs, cells, slots⟩ (Value.ref b :: argsL).toArray v B ∧
      ∀ target, Steps p.tables e below (B.U.setTop { g with pc := g.pc + 3, stack := v.toList ++ rest }) target → Steps p.tables e below (T.setTop g) target) ∨
    (∃ (q : Addr) (vm₁ : Vm) (B : Pt), s.WarmedH vm₁ ∧ Stand p l e R s m args below meth c B.U B.locs B.cells B.slots ∧ PostX ⟨T.setVm vm₁, locs, cells, slots⟩ (Value.ref b :: argsL).toArray q B ∧
      Steps p.tables e below (T.setTop g) ((B.U.setTop { g with stack := rest }).pushFrame (.throwing q))) := by
  obtain ⟨mk, methM, hnamed, hmethM, hstM, habM⟩ := Cond.instanceMethod_spec hinst
  obtain ⟨methM', cM, hmethM', -, -, -, -, -, -, hsigM⟩ := Cond.code_spec hnamed hcode
  cases hmethM.symm.trans hmethM'
  obtain ⟨c2, r2, m2, q1, q2, q3, q4, kP, hkP, hkPi⟩ := Cond.selects_spec hsel
  cases hcls.symm.trans q1
  cases (State.methodFound?_of_named hnamed hy).symm.trans q2
  cases hnamed.symm.trans q3
  have hselP : selectMethod e.platform s.vm cellB.cls mk = .method mk := by rw [Launch.admits_selectMethod X.admits]; exact q4
  obtain ⟨vm₁, X₁, hstep₁⟩ := X.invokevirtual hexec hown hlink hnamed hmethM hstM hkP hkPi hy (a := b) (cell := cellB) hcell
    (fun z h => by rw [h] at hobj; cases hobj) hselP hmethM habM hkP hkPi (g := g) hg (argsL := argsL) (rest := rest) (hlen _ hsigM) hstack hdg
  rcases hK m meth c ⟨T.setVm vm₁, locs, cells, slots⟩ { g with stack := rest } (.invokevirtual index) mk (Value.ref b :: argsL).toArray X₁ hg hsize hdg hW (X₁.named hnamed) (hpre vm₁ X₁.warmed) with ⟨v, B, X', hpost, hsteps⟩ | ⟨q, B, X', hpost, hsteps⟩
  · exact Or.inl ⟨v, vm₁, B, X₁.warmed, X', hpost, fun target h => hstep₁ _ fun acts => by rw [doInvoke_state]; exact hsteps.trans h⟩
  · exact Or.inr ⟨q, vm₁, B, X₁.warmed, X', hpost, hstep₁ _ fun acts => by rw [doInvoke_state]; exact hsteps⟩
theorem vx_callS (X : Stand p l e R s m args below meth c T locs cells slots) (hexec : p.tables.exec = Jvm.exec) {own : String} {index : Nat} {y : MethodName} {bytes : ByteArray} {maxL : Nat} {ret : Option FieldType}
    (hown : s.vm.findClass own = some m.cls) (hlink : (Cond.methodLink own index y).before args s = true) (hstat : (Cond.static y).before args s = true) (hinit : (Cond.initialized y.cls).before args s = true)
    (hcode : (Cond.code y bytes maxL ret).before args s = true) (hy : y.cls ≠ "java/lang/invoke/MethodHandle" ∧ y.cls ≠ "java/lang/invoke/VarHandle")
    {W9 : Nat} {Pre : Pt → Array Value → Prop} {Post : Pt → Array Value → Option Value → Pt → Prop} {PostX : Pt → Array Value → Addr → Pt → Prop} (hK : vx_Back l R p e below s args y 3 W9 Pre Post PostX)
    {g : JFrame} (hg : g.method = m) (hsize : g.locals.size = c.maxLocals) {argsL rest : List Value} (hlen : ∀ sig, parseMethodDescriptor y.desc = some sig → argsL.length = sig.parameters.length)
    (hstack : g.stack = argsL.reverse ++ rest) (hW : 2 * g.monitorRoom + (rest.map fun v => v.category).sum ≤ W9) (hdg : decode c.code g.pc = .ok (.invokestatic index, 3))
    (hpre : ∀ vm₁, s.WarmedH vm₁ → Pre ⟨T.setVm vm₁, locs, cells, slots⟩ argsL.toArray) :
    (∃ (v : Option Value) (vm₁ : Vm) (B : Pt), s.WarmedH vm₁ ∧ Stand p l e R s m args below meth c B.U B.locs B.cells B.slots ∧ Post ⟨T.setVm vm₁, locs, cells, slots⟩ argsL.toArray v B ∧
      ∀ target, Steps p.tables e below (B.U.setTop { g with pc := g.pc + 3, stack := v.toList ++ rest }) target → Steps p.tables e below (T.setTop g) target) ∨
    (∃ (q : Addr) (vm₁ : Vm) (B : Pt), s.WarmedH vm₁ ∧ Stand p l e R s m args below meth c B.U B.locs B.cells B.slots ∧ PostX ⟨T.setVm vm₁, locs, cells, slots⟩ argsL.toArray q B ∧
      Steps p.tables e below (T.setTop g) ((B.U.setTop { g with stack := rest }).pushFrame (.throwing q))) := by
  obtain ⟨mk, hnamed⟩ := Cond.code_named hcode
  obtain ⟨methM, cM, hmethM, -, -, -, -, -, -, hsigM⟩ := Cond.code_spec hnamed hcode
  have hstatic : methM.isStatic = true := Cond.static_spec hnamed hmethM hstat
  obtain ⟨kP, hkP, -⟩ := className_of_methodNamed hnamed
  have hinitP : kP.init = .initialized := Cond.initialized_spec (findClass_of_methodNamed hnamed) hkP hinit
  obtain ⟨vm₁, X₁, hstep₁⟩ := X.invokestatic hexec hown hlink hnamed hmethM hstatic hkP hinitP hy (g := g) hg (argsL := argsL) (rest := rest) (hlen _ hsigM) hstack hdg
  rcases hK m meth c ⟨T.setVm vm₁, locs, cells, slots⟩ { g with stack := rest } (.invokestatic index) mk argsL.toArray X₁ hg hsize hdg hW (X₁.named hnamed) (hpre vm₁ X₁.warmed) with ⟨v, B, X', hpost, hsteps⟩ | ⟨q, B, X', hpost, hsteps⟩
  · exact Or.inl ⟨v, vm₁, B, X₁.warmed, X', hpost, fun target h => hstep₁ _ fun acts => by rw [doInvoke_state]; exact hsteps.trans h⟩
  · exact Or.inr ⟨q, vm₁, B, X₁.warmed, X', hpost, hstep₁ _ fun acts => by rw [doInvoke_state]; exact hsteps⟩
end Calls
theorem vx_cls {s : State} {T : State} {vm₁ : Vm} {E : String} {k : ClassId} (hW : s.WarmedH vm₁) (h : (T.setVm vm₁).vm.findClass E = some k) : s.vm.findClass E = some k := by
  have h1 : vm₁.findClass E = some k := h
  rw [hW.alike.findClass] at h1
  exact h1
/-- the method's frame g, with q thrown over it -/
def vx_W (p : Program) (l : Launch) (e : Env) (R : Room) (s : State) (m : MethodId) (args : Array Value) (below : List Frame) (meth : Method) (c : Code) (H : Heap) (locs : List Loc) (cells slots : Nat) (Q : State → Prop) (g : JFrame) (q : Addr) : Prop :=
  ∀ T : State, T.heap = H → Stand p l e R s m args below meth c T locs cells slots → ∃ t, Steps p.tables e below ((T.setTop g).pushFrame (.throwing q)) t ∧ Q t
def vx_Run (p : Program) (l : Launch) (e : Env) (R : Room) (s : State) (m : MethodId) (args : Array Value) (below : List Frame) (meth : Method) (c : Code) (H : Heap) (locs : List Loc) (cells slots mc ms : Nat) (g : JFrame) (rest : List Value) (Qa : State → Outcome → State → Prop) (XC : String → State → State → Prop) (free : Addr → Prop) : Prop :=
  ∀ T : State, T.heap = H → Stand p l e R s m args below meth c T locs cells slots →
    (∃ (v : Option Value) (st₀ t T' : State) (L : List Loc), st₀.heap = H ∧ Stand p l e R s m args below meth c T' (locs ++ L) (cells + mc) (slots + ms) ∧ (∀ q ∈ L, free q.base) ∧ T'.heap = t.heap ∧ T'.vm = t.vm ∧ Qa st₀ (.returned v) t ∧
      Goes p e below T g T' { g with pc := g.pc + 3, stack := v.toList ++ rest }) ∨
    (∃ (q : Addr) (st₀ t T' : State) (L : List Loc) (E : String) (ce : Cell), st₀.heap = H ∧ Stand p l e R s m args below meth c T' (locs ++ L) (cells + mc) (slots + ms) ∧ (∀ z ∈ L, free z.base) ∧ T'.heap = t.heap ∧ T'.vm = t.vm ∧ XC E st₀ t ∧ t.heap[q]? = some ce ∧ ce.vm = .none ∧ s.vm.findClass E = some ce.cls ∧
      Steps p.tables e below (T.setTop g) ((T'.setTop { g with stack := rest }).pushFrame (.throwing q)))
def vx_X {S : Type} (px : S → Prop) (B : String → S → State → Prop) (A : Nat → Prop) : String → State → State → Prop := fun E st t => ∃ u : S, px u ∧ B E u t ∧ va_F A st t
section Runs
variable {p : Program} {l : Launch} {e : Env} {R : Room} {s : State} {m : MethodId} {args : Array Value} {below : List Frame} {meth : Method} {c : Code} {H : Heap} {locs : List Loc} {cells slots : Nat}
variable {y : MethodName} {bytes cc : ByteArray} {maxL nL mc ms n index : Nat} {ret : Option FieldType} {ws : List Cond} {rm : Room} {Pc : Array Value → State → Prop} {Qc : Array Value → State → Outcome → State → Prop} {XC : String → State → State → Prop} {free : Addr → Prop} {Ts : List Cond} {own C : String} {b : Addr} {As rest : List Value} {g : JFrame}
theorem vx_callBack (cb : CallB R s args own index y bytes maxL ret ws rm mc ms n) (hM : vx_Met l y ws rm Pc Qc XC mc ms free) (hbl : FrameBlind Pc) : vx_Back l R p e below s args y 3 8 (PreOf R mc ms Pc) (PostOf Qc mc ms free) (vx_Post XC mc ms free) := by
  obtain ⟨hrc, hrs, hfr, hlo, hws, hcw, -, hini, -⟩ := cb
  exact vx_back (bytes := bytes) (maxL := maxL) (ret := ret) hM hbl hrc hrs hfr hlo hws hcw (fun a' U hW => word_at hW (Or.inl (by first | rfl | simp [Cond.onTables, Cond.keeps, Cond.steady])) hini)
theorem vx_runV (S : CallFix p m c cc nL s args Ts own) (hM : vx_Met l y ws rm Pc Qc XC mc ms free) (cw : CallW R s args own C index y bytes maxL ret ws rm mc ms n) (hp : PreV s H C b Pc As)
    (hg : g.method = m) (hn : As.length = n) (hsize : g.locals.size = nL) (hstack : g.stack = As.reverse ++ .ref b :: rest) (hW : 2 * g.monitorRoom + (rest.map fun v => v.category).sum ≤ 8) (hdg : decode cc g.pc = .ok (.invokevirtual index, 3)) (hf : cells + mc ≤ R.cells ∧ slots + ms ≤ R.slots) :
    vx_Run p l e R s m args below meth c H locs cells slots mc ms g rest (Qc (Value.ref b :: As).toArray) XC free := by
  have hK : vx_Back l R p e below s args y 3 8 (PreOf R mc ms Pc) (PostOf Qc mc ms free) (vx_Post XC mc ms free) := vx_callBack cw.1 hM hp.1
  obtain ⟨⟨-, -, -, -, -, -, hcode, -, hy, hlen, hl⟩, hin, hse⟩ := cw
  obtain ⟨hx, hb, hml, ho, -⟩ := S
  obtain ⟨-, ⟨cellB, hcB, hoB, hclB⟩, hPc⟩ := hp
  intro T hT X
  rcases vx_callV X hx (C := C) (bytes := bytes) (maxL := maxL) (ret := ret) ho hl hin hse hcode hy hK (by rw [hT]; exact hcB) hoB hclB hg (hsize.trans hml.symm) (argsL := As) (rest := rest) (fun sig h => hn.trans (hlen sig h)) hstack hW (by rw [hb]; exact hdg)
    (fun vm₁ hW₁ => ⟨hf.1, hf.2, hPc (T.setVm vm₁) hT hW₁⟩) with ⟨v, vm₁, ⟨U', l2, c2, s2⟩, hW₁, X', ⟨g', mk, t, L, e1, e2, hq, h1, hL, h2, h3⟩, st⟩ | ⟨q, vm₁, ⟨U', l2, c2, s2⟩, hW₁, X', ⟨g', mk, t, L, E, ce, e1, e2, hq, hce, hcv, hcl, h1, hL, h2, h3⟩, st⟩
  · dsimp only [Pt.U, Pt.locs, Pt.cells, Pt.slots] at X' e1 e2 h1 h2 h3 st
    subst h1; subst h2; subst h3
    exact Or.inl ⟨v, (T.setVm vm₁).calling g' mk (Value.ref b :: As).toArray, t, U', L, hT, X', hL, e1, e2, hq, st⟩
  · dsimp only [Pt.U, Pt.locs, Pt.cells, Pt.slots] at X' e1 e2 h1 h2 h3 st hcl
    subst h1; subst h2; subst h3
    exact Or.inr ⟨q, (T.setVm vm₁).calling g' mk (Value.ref b :: As).toArray, t, U', L, E, ce, hT, X', hL, e1, e2, hq, hce, hcv, vx_cls hW₁ hcl, st⟩
theorem vx_runS (S : CallFix p m c cc nL s args Ts own) (hM : vx_Met l y ws rm Pc Qc XC mc ms free) (cw : CallB R s args own index y bytes maxL ret ws rm mc ms n ∧ (Cond.static y).before args s = true) (hp : PreS s H Pc As)
    (hg : g.method = m) (hn : As.length = n) (hsize : g.locals.size = nL) (hstack : g.stack = As.reverse ++ rest) (hW : 2 * g.monitorRoom + (rest.map fun v => v.category).sum ≤ 8) (hdg : decode cc g.pc = .ok (.invokestatic index, 3)) (hf : cells + mc ≤ R.cells ∧ slots + ms ≤ R.slots) :
    vx_Run p l e R s m args below meth c H locs cells slots mc ms g rest (Qc As.toArray) XC free := by
  have hK : vx_Back l R p e below s args y 3 8 (PreOf R mc ms Pc) (PostOf Qc mc ms free) (vx_Post XC mc ms free) := vx_callBack cw.1 hM hp.1
  obtain ⟨⟨-, -, -, -, -, -, hcode, hini, hy, hlen, hl⟩, hstt⟩ := cw
  obtain ⟨hx, hb, hml, ho, -⟩ := S
  intro T hT X
  rcases vx_callS X hx (bytes := bytes) (maxL := maxL) (ret := ret) ho hl hstt hini hcode hy hK hg (hsize.trans hml.symm) (argsL := As) (rest := rest) (fun sig h => hn.trans (hlen sig h)) hstack hW (by rw [hb]; exact hdg)
    (fun vm₁ hW₁ => ⟨hf.1, hf.2, hp.2 (T.setVm vm₁) hT hW₁⟩) with ⟨v, vm₁, ⟨U', l2, c2, s2⟩, hW₁, X', ⟨g', mk, t, L, e1, e2, hq, h1, hL, h2, h3⟩, st⟩ | ⟨q, vm₁, ⟨U', l2, c2, s2⟩, hW₁, X', ⟨g', mk, t, L, E, ce, e1, e2, hq, hce, hcv, hcl, h1, hL, h2, h3⟩, st⟩
  · dsimp only [Pt.U, Pt.locs, Pt.cells, Pt.slots] at X' e1 e2 h1 h2 h3 st
    subst h1; subst h2; subst h3
    exact Or.inl ⟨v, (T.setVm vm₁).calling g' mk As.toArray, t, U', L, hT, X', hL, e1, e2, hq, st⟩
  · dsimp only [Pt.U, Pt.locs, Pt.cells, Pt.slots] at X' e1 e2 h1 h2 h3 st hcl
    subst h1; subst h2; subst h3
    exact Or.inr ⟨q, (T.setVm vm₁).calling g' mk As.toArray, t, U', L, E, ce, hT, X', hL, e1, e2, hq, hce, hcv, vx_cls hW₁ hcl, st⟩
end Runs
section Rows
variable {p : Program} {l : Launch} {e : Env} {R : Room} {s : State} {m : MethodId} {args : Array Value} {below : List Frame} {meth : Method} {c : Code} {H : Heap} {locs : List Loc} {cells slots : Nat} {Q : State → Prop}
variable {mc ms : Nat} {free : Addr → Prop} {A0 A1 : Nat → Prop} {H0 : Heap} {a : Array Value} {pc : Nat} {ls : Array Slot} {st0 rest : List Value}
theorem vx_keep {st₀ t T' : State} {L : List Loc} (h0 : st₀.heap = H) (e1 : T'.heap = t.heap) (hS : va_S A0 H0 H locs) (hA : ∀ q, q < H.size → A1 q → A0 q) (hf : ∀ q, free q → A0 q) (hL : ∀ q ∈ L, free q.base) (hF : va_F A1 st₀ t) :
    H.size ≤ T'.heap.size ∧ (∀ q : Nat, q < H.size → ¬ A1 q → T'.heap[q]? = H[q]?) ∧ va_S A0 H0 T'.heap (locs ++ L) := by
  obtain ⟨hz, hk⟩ := hF
  rw [h0] at hz hk
  exact ⟨by rw [e1]; exact hz, fun q h1 h2 => by rw [e1]; exact hk q h1 h2,
    ⟨Nat.le_trans hS.1 (by rw [e1]; exact hz), fun q h1 h2 => by rw [e1, hk q (Nat.lt_of_lt_of_le h1 hS.1) (fun z => h2 (hA q (Nat.lt_of_lt_of_le h1 hS.1) z))]; exact hS.2.1 q h1 h2, fun q hq => by
      rcases List.mem_append.mp hq with h | h
      · exact hS.2.2 q h
      · exact hf _ (hL q h)⟩⟩
theorem vx_calli {S SX : Type} {post : Int32 → S → Prop} {px : SX → Prop} {B : S → State → Prop} {BX : String → SX → State → Prop} {AX : Nat → Prop} (hr : vx_Run p l e R s m args below meth c H locs cells slots mc ms (F0 m pc ls st0) rest (va_Qi post B A1 a) (vx_X px BX AX) free) (hS : va_S A0 H0 H locs) (hA : ∀ q, q < H.size → A1 q → A0 q) (hf : ∀ q, free q → A0 q) (hAX : ∀ q, q < H.size → AX q → A0 q)
    (kx : ∀ (E : String) (ce : Cell) (q9 : Addr) (u : SX) (t : State) (H1 : Heap) (locs1 : List Loc), t.heap = H1 → s.vm.Alike t.vm → px u → BX E u t → H.size ≤ H1.size → (∀ q : Nat, q < H.size → ¬ AX q → H1[q]? = H[q]?) → va_S A0 H0 H1 locs1 → H1[q9]? = some ce → ce.vm = .none → s.vm.findClass E = some ce.cls → vx_W p l e R s m args below meth c H1 locs1 (cells + mc) (slots + ms) Q (F0 m pc ls rest) q9)
    (kk : ∀ (r : Int32) (u : S) (t : State) (H1 : Heap) (locs1 : List Loc), t.heap = H1 → s.vm.Alike t.vm → post r u → B u t → H.size ≤ H1.size → (∀ q : Nat, q < H.size → ¬ A1 q → H1[q]? = H[q]?) → va_S A0 H0 H1 locs1 → W p l e R s m args below meth c H1 locs1 (cells + mc) (slots + ms) Q (F0 m (pc + 3) ls (.int r :: rest))) : W p l e R s m args below meth c H locs cells slots Q (F0 m pc ls st0) := by
  intro T hT X
  rcases hr T hT X with ⟨v, st₀, t, T', L, h0, X', hL, e1, e2, ⟨⟨r, u, hv, hp, hb⟩, hF⟩, st⟩ | ⟨q, st₀, t, T', L, E, ce, h0, X', hL, e1, e2, ⟨u, hp, hb, hF⟩, hce, hcv, hcl, st⟩
  · cases hv
    obtain ⟨k1, k2, k3⟩ := vx_keep h0 e1 hS hA hf hL hF
    obtain ⟨t2, a1, b1⟩ := kk r u t T'.heap (locs ++ L) e1.symm (by rw [← e2]; exact X'.warmed.alike) hp hb k1 k2 k3 T' rfl X'
    exact ⟨t2, st t2 a1, b1⟩
  · obtain ⟨k1, k2, k3⟩ := vx_keep h0 e1 hS hAX hf hL hF
    obtain ⟨t2, a1, b1⟩ := kx E ce q u t T'.heap (locs ++ L) e1.symm (by rw [← e2]; exact X'.warmed.alike) hp hb k1 k2 k3 (by rw [e1]; exact hce) hcv hcl T' rfl X'
    exact ⟨t2, st.trans a1, b1⟩
theorem vx_calll {S SX : Type} {post : Int64 → S → Prop} {px : SX → Prop} {B : S → State → Prop} {BX : String → SX → State → Prop} {AX : Nat → Prop} (hr : vx_Run p l e R s m args below meth c H locs cells slots mc ms (F0 m pc ls st0) rest (va_Ql post B A1 a) (vx_X px BX AX) free) (hS : va_S A0 H0 H locs) (hA : ∀ q, q < H.size → A1 q → A0 q) (hf : ∀ q, free q → A0 q) (hAX : ∀ q, q < H.size → AX q → A0 q)
    (kx : ∀ (E : String) (ce : Cell) (q9 : Addr) (u : SX) (t : State) (H1 : Heap) (locs1 : List Loc), t.heap = H1 → s.vm.Alike t.vm → px u → BX E u t → H.size ≤ H1.size → (∀ q : Nat, q < H.size → ¬ AX q → H1[q]? = H[q]?) → va_S A0 H0 H1 locs1 → H1[q9]? = some ce → ce.vm = .none → s.vm.findClass E = some ce.cls → vx_W p l e R s m args below meth c H1 locs1 (cells + mc) (slots + ms) Q (F0 m pc ls rest) q9)
    (kk : ∀ (r : Int64) (u : S) (t : State) (H1 : Heap) (locs1 : List Loc), t.heap = H1 → s.vm.Alike t.vm → post r u → B u t → H.size ≤ H1.size → (∀ q : Nat, q < H.size → ¬ A1 q → H1[q]? = H[q]?) → va_S A0 H0 H1 locs1 → W p l e R s m args below meth c H1 locs1 (cells + mc) (slots + ms) Q (F0 m (pc + 3) ls (.long r :: rest))) : W p l e R s m args below meth c H locs cells slots Q (F0 m pc ls st0) := by
  intro T hT X
  rcases hr T hT X with ⟨v, st₀, t, T', L, h0, X', hL, e1, e2, ⟨⟨r, u, hv, hp, hb⟩, hF⟩, st⟩ | ⟨q, st₀, t, T', L, E, ce, h0, X', hL, e1, e2, ⟨u, hp, hb, hF⟩, hce, hcv, hcl, st⟩
  · cases hv
    obtain ⟨k1, k2, k3⟩ := vx_keep h0 e1 hS hA hf hL hF
    obtain ⟨t2, a1, b1⟩ := kk r u t T'.heap (locs ++ L) e1.symm (by rw [← e2]; exact X'.warmed.alike) hp hb k1 k2 k3 T' rfl X'
    exact ⟨t2, st t2 a1, b1⟩
  · obtain ⟨k1, k2, k3⟩ := vx_keep h0 e1 hS hAX hf hL hF
    obtain ⟨t2, a1, b1⟩ := kx E ce q u t T'.heap (locs ++ L) e1.symm (by rw [← e2]; exact X'.warmed.alike) hp hb k1 k2 k3 (by rw [e1]; exact hce) hcv hcl T' rfl X'
    exact ⟨t2, st.trans a1, b1⟩
theorem vx_callf {S SX : Type} {post : UInt32 → S → Prop} {px : SX → Prop} {B : S → State → Prop} {BX : String → SX → State → Prop} {AX : Nat → Prop} (hr : vx_Run p l e R s m args below meth c H locs cells slots mc ms (F0 m pc ls st0) rest (va_Qf post B A1 a) (vx_X px BX AX) free) (hS : va_S A0 H0 H locs) (hA : ∀ q, q < H.size → A1 q → A0 q) (hf : ∀ q, free q → A0 q) (hAX : ∀ q, q < H.size → AX q → A0 q)
    (kx : ∀ (E : String) (ce : Cell) (q9 : Addr) (u : SX) (t : State) (H1 : Heap) (locs1 : List Loc), t.heap = H1 → s.vm.Alike t.vm → px u → BX E u t → H.size ≤ H1.size → (∀ q : Nat, q < H.size → ¬ AX q → H1[q]? = H[q]?) → va_S A0 H0 H1 locs1 → H1[q9]? = some ce → ce.vm = .none → s.vm.findClass E = some ce.cls → vx_W p l e R s m args below meth c H1 locs1 (cells + mc) (slots + ms) Q (F0 m pc ls rest) q9)
    (kk : ∀ (r : UInt32) (u : S) (t : State) (H1 : Heap) (locs1 : List Loc), t.heap = H1 → s.vm.Alike t.vm → post r u → B u t → H.size ≤ H1.size → (∀ q : Nat, q < H.size → ¬ A1 q → H1[q]? = H[q]?) → va_S A0 H0 H1 locs1 → W p l e R s m args below meth c H1 locs1 (cells + mc) (slots + ms) Q (F0 m (pc + 3) ls (.float r :: rest))) : W p l e R s m args below meth c H locs cells slots Q (F0 m pc ls st0) := by
  intro T hT X
  rcases hr T hT X with ⟨v, st₀, t, T', L, h0, X', hL, e1, e2, ⟨⟨r, u, hv, hp, hb⟩, hF⟩, st⟩ | ⟨q, st₀, t, T', L, E, ce, h0, X', hL, e1, e2, ⟨u, hp, hb, hF⟩, hce, hcv, hcl, st⟩
  · cases hv
    obtain ⟨k1, k2, k3⟩ := vx_keep h0 e1 hS hA hf hL hF
    obtain ⟨t2, a1, b1⟩ := kk r u t T'.heap (locs ++ L) e1.symm (by rw [← e2]; exact X'.warmed.alike) hp hb k1 k2 k3 T' rfl X'
    exact ⟨t2, st t2 a1, b1⟩
  · obtain ⟨k1, k2, k3⟩ := vx_keep h0 e1 hS hAX hf hL hF
    obtain ⟨t2, a1, b1⟩ := kx E ce q u t T'.heap (locs ++ L) e1.symm (by rw [← e2]; exact X'.warmed.alike) hp hb k1 k2 k3 (by rw [e1]; exact hce) hcv hcl T' rfl X'
    exact ⟨t2, st.trans a1, b1⟩
theorem vx_calld {S SX : Type} {post : UInt64 → S → Prop} {px : SX → Prop} {B : S → State → Prop} {BX : String → SX → State → Prop} {AX : Nat → Prop} (hr : vx_Run p l e R s m args below meth c H locs cells slots mc ms (F0 m pc ls st0) rest (va_Qd post B A1 a) (vx_X px BX AX) free) (hS : va_S A0 H0 H locs) (hA : ∀ q, q < H.size → A1 q → A0 q) (hf : ∀ q, free q → A0 q) (hAX : ∀ q, q < H.size → AX q → A0 q)
    (kx : ∀ (E : String) (ce : Cell) (q9 : Addr) (u : SX) (t : State) (H1 : Heap) (locs1 : List Loc), t.heap = H1 → s.vm.Alike t.vm → px u → BX E u t → H.size ≤ H1.size → (∀ q : Nat, q < H.size → ¬ AX q → H1[q]? = H[q]?) → va_S A0 H0 H1 locs1 → H1[q9]? = some ce → ce.vm = .none → s.vm.findClass E = some ce.cls → vx_W p l e R s m args below meth c H1 locs1 (cells + mc) (slots + ms) Q (F0 m pc ls rest) q9)
    (kk : ∀ (r : UInt64) (u : S) (t : State) (H1 : Heap) (locs1 : List Loc), t.heap = H1 → s.vm.Alike t.vm → post r u → B u t → H.size ≤ H1.size → (∀ q : Nat, q < H.size → ¬ A1 q → H1[q]? = H[q]?) → va_S A0 H0 H1 locs1 → W p l e R s m args below meth c H1 locs1 (cells + mc) (slots + ms) Q (F0 m (pc + 3) ls (.double r :: rest))) : W p l e R s m args below meth c H locs cells slots Q (F0 m pc ls st0) := by
  intro T hT X
  rcases hr T hT X with ⟨v, st₀, t, T', L, h0, X', hL, e1, e2, ⟨⟨r, u, hv, hp, hb⟩, hF⟩, st⟩ | ⟨q, st₀, t, T', L, E, ce, h0, X', hL, e1, e2, ⟨u, hp, hb, hF⟩, hce, hcv, hcl, st⟩
  · cases hv
    obtain ⟨k1, k2, k3⟩ := vx_keep h0 e1 hS hA hf hL hF
    obtain ⟨t2, a1, b1⟩ := kk r u t T'.heap (locs ++ L) e1.symm (by rw [← e2]; exact X'.warmed.alike) hp hb k1 k2 k3 T' rfl X'
    exact ⟨t2, st t2 a1, b1⟩
  · obtain ⟨k1, k2, k3⟩ := vx_keep h0 e1 hS hAX hf hL hF
    obtain ⟨t2, a1, b1⟩ := kx E ce q u t T'.heap (locs ++ L) e1.symm (by rw [← e2]; exact X'.warmed.alike) hp hb k1 k2 k3 (by rw [e1]; exact hce) hcv hcl T' rfl X'
    exact ⟨t2, st.trans a1, b1⟩
theorem vx_callv {S SX : Type} {post : S → Prop} {px : SX → Prop} {B : S → State → Prop} {BX : String → SX → State → Prop} {AX : Nat → Prop} (hr : vx_Run p l e R s m args below meth c H locs cells slots mc ms (F0 m pc ls st0) rest (va_Qv post B A1 a) (vx_X px BX AX) free) (hS : va_S A0 H0 H locs) (hA : ∀ q, q < H.size → A1 q → A0 q) (hf : ∀ q, free q → A0 q) (hAX : ∀ q, q < H.size → AX q → A0 q)
    (kx : ∀ (E : String) (ce : Cell) (q9 : Addr) (u : SX) (t : State) (H1 : Heap) (locs1 : List Loc), t.heap = H1 → s.vm.Alike t.vm → px u → BX E u t → H.size ≤ H1.size → (∀ q : Nat, q < H.size → ¬ AX q → H1[q]? = H[q]?) → va_S A0 H0 H1 locs1 → H1[q9]? = some ce → ce.vm = .none → s.vm.findClass E = some ce.cls → vx_W p l e R s m args below meth c H1 locs1 (cells + mc) (slots + ms) Q (F0 m pc ls rest) q9)
    (kk : ∀ (u : S) (t : State) (H1 : Heap) (locs1 : List Loc), t.heap = H1 → s.vm.Alike t.vm → post u → B u t → H.size ≤ H1.size → (∀ q : Nat, q < H.size → ¬ A1 q → H1[q]? = H[q]?) → va_S A0 H0 H1 locs1 → W p l e R s m args below meth c H1 locs1 (cells + mc) (slots + ms) Q (F0 m (pc + 3) ls (rest))) : W p l e R s m args below meth c H locs cells slots Q (F0 m pc ls st0) := by
  intro T hT X
  rcases hr T hT X with ⟨v, st₀, t, T', L, h0, X', hL, e1, e2, ⟨⟨u, hv, hp, hb⟩, hF⟩, st⟩ | ⟨q, st₀, t, T', L, E, ce, h0, X', hL, e1, e2, ⟨u, hp, hb, hF⟩, hce, hcv, hcl, st⟩
  · cases hv
    obtain ⟨k1, k2, k3⟩ := vx_keep h0 e1 hS hA hf hL hF
    obtain ⟨t2, a1, b1⟩ := kk u t T'.heap (locs ++ L) e1.symm (by rw [← e2]; exact X'.warmed.alike) hp hb k1 k2 k3 T' rfl X'
    exact ⟨t2, st t2 a1, b1⟩
  · obtain ⟨k1, k2, k3⟩ := vx_keep h0 e1 hS hAX hf hL hF
    obtain ⟨t2, a1, b1⟩ := kx E ce q u t T'.heap (locs ++ L) e1.symm (by rw [← e2]; exact X'.warmed.alike) hp hb k1 k2 k3 (by rw [e1]; exact hce) hcv hcl T' rfl X'
    exact ⟨t2, st.trans a1, b1⟩
/-- caught by the row x of this method's table; the rows ahead don't take it -/
theorem vx_catch {own name : String} {E : String} {ce : Cell} {q : Addr} (hown : s.vm.findClass own = some m.cls) (pre : List ExceptionTableEntry) (x : ExceptionTableEntry) (suf : List ExceptionTableEntry) (hsplit : c.exceptionTable.toList = pre ++ x :: suf)
    (hpass : ∀ z ∈ pre, covers z pc = false ∨ (z.catchType ≠ 0 ∧ ∃ nm : String, (Cond.classLink own z.catchType nm).before args s = true ∧ va_Nc E nm s)) (hx : covers x pc = true) (h0 : x.catchType ≠ 0)
    (hlink : (Cond.classLink own x.catchType name).before args s = true) (hcast : (Cond.castable E name).before args s = true) (hcell : H[q]? = some ce) (hv : ce.vm = .none) (hcl : s.vm.findClass E = some ce.cls)
    (kk : W p l e R s m args below meth c H locs cells slots Q (F0 m x.handlerPc ls [.ref q])) : vx_W p l e R s m args below meth c H locs cells slots Q (F0 m pc ls rest) q := by
  intro T hT X
  have hpl : e.platform.magicAccessors = ({} : Platform).magicAccessors := by rw [X.admits.platform]
  obtain ⟨c3, c4, hc3, hc4, hasg⟩ := Cond.castable_spec hcast
  cases Option.some.inj (hc3.symm.trans hcl)
  obtain ⟨c5, hc5, hcl5⟩ := Cond.classLink_spec hown hlink e.platform hpl
  cases Option.some.inj (hc4.symm.trans hc5)
  obtain ⟨vm', X', st⟩ := X.thenCaughtThrough q (g := F0 m pc ls rest) rfl (Steps.refl _) (by rw [hT]; exact hcell) (by rw [hv]; rfl) (by obtain ⟨k9, h9, -⟩ := Vm.findClass_spec hcl; exact ⟨k9, h9⟩) pre x suf hsplit
    (fun z hz => by
      rcases hpass z hz with h | ⟨hz0, nm, hl1, hn1⟩
      · exact Or.inl h
      · obtain ⟨c6, hc6, hcl6⟩ := Cond.classLink_spec hown hl1 e.platform hpl
        obtain ⟨a8, b8, h1, h2, h3⟩ := hn1
        cases Option.some.inj (h1.symm.trans hcl)
        cases Option.some.inj (h2.symm.trans hc6)
        exact Or.inr ⟨hz0, _, hcl6, h3⟩) hx (Or.inr ⟨h0, c4, hcl5, hasg⟩)
  obtain ⟨t, a1, b1⟩ := kk (T.setVm vm') hT X'
  exact ⟨t, st.trans a1, b1⟩
end Rows
section Ends
variable {p : Program} {l : Launch} {e : Env} {R : Room} {s : State} {m : MethodId} {args : Array Value} {below : List Frame} {meth : Method} {c : Code} {H : Heap} {locs : List Loc} {cells slots : Nat} {Q : State → Prop}
variable {mc ms : Nat} {free : Addr → Prop} {A0 A1 : Nat → Prop} {H0 : Heap} {a : Array Value} {ls : Array Slot} {st0 rest : List Value}
variable {Qc : Array Value → State → Outcome → State → Prop} {XC : String → State → State → Prop}
/-- what a body that may throw owes at its end -/
def vx_MQ (below : List Frame) (Qc : Array Value → State → Outcome → State → Prop) (XC : String → State → State → Prop) (a : Array Value) (s : State) (mc ms : Nat) (free : Addr → Prop) : State → Prop := fun t =>
  ∃ o, t.status = .running ∧ Ended t below o ∧ vx_Q Qc XC mc ms free a s o t
theorem vx_ret {g : JFrame} {mc ms : Nat} (k : W p l e R s m args below meth c H locs cells slots (MQ below Qc args s mc ms free) g) : W p l e R s m args below meth c H locs cells slots (vx_MQ below Qc XC args s mc ms free) g := by
  intro T hT X
  obtain ⟨t, a1, o, b1, b2, b3, b4⟩ := k T hT X
  exact ⟨t, a1, o, b1, b2, Or.inl ⟨b3, b4⟩⟩
/-- not caught here: it goes on to the caller -/
theorem vx_widen {g : JFrame} {q : Addr} {k n : Nat} (h1 : cells ≤ k) (h2 : slots ≤ n) (kk : vx_W p l e R s m args below meth c H locs k n Q g q) : vx_W p l e R s m args below meth c H locs cells slots Q g q := fun T hT X => kk T hT (stand_widen X h1 h2)
theorem vx_out {pc : Nat} {E : String} {ce : Cell} {q : Addr} {mc ms : Nat} (hout : ∀ x ∈ c.exceptionTable.toList, covers x pc = false) (hlocks : meth.locks = false) (hcell : H[q]? = some ce) (hv : ce.vm = .none) (hcl : s.vm.findClass E = some ce.cls)
    (hx : ∀ t : State, t.heap = H → s.vm.Alike t.vm → XC E s t) (hf : ∀ z ∈ locs, free z.base) (hc : cells ≤ mc) (hs : slots ≤ ms) :
    vx_W p l e R s m args below meth c H locs cells slots (vx_MQ below Qc XC args s mc ms free) (F0 m pc ls rest) q := by
  intro T hT X
  obtain ⟨st1, hrun, hend, hW, hsm⟩ := X.leaveThrown q (g := F0 m pc ls rest) rfl rfl rfl hout hlocks
  have hcell9 : (T.setFrames (.throwing q :: below)).heap[q]? = some ce := by
    show T.heap[q]? = some ce
    rw [hT]; exact hcell
  exact ⟨_, st1, .threw q, hrun, hend, Or.inr ⟨q, rfl, E, ce, locs, hx _ hT hW.alike, hcell9, hv, hcl, hW, hsm.mono hc hs, hf⟩⟩
theorem vx_frame {U : State} {k n : Nat} (h : s.sameButNew ({ U with vm := s.vm } : State) locs k n) : s.heap.size ≤ U.heap.size ∧ ∀ q : Nat, q < s.heap.size → (∀ z ∈ locs, z.base ≠ q) → U.heap[q]? = s.heap[q]? := by
  obtain ⟨-, h2, -, -, -, h6⟩ := h
  refine ⟨h2, fun q hq hz => ?_⟩
  obtain ⟨c9, e1, e2, e3, e4⟩ := h6 q _ (Array.getElem?_eq_getElem hq)
  have hs : c9.slots = (s.heap[q]).slots := Array.ext_getElem? fun i => e4 i fun hm => hz _ hm rfl
  have h9 : c9 = s.heap[q] := by
    rw [hs] at e2
    exact e2
  have e5 : U.heap[q]? = some c9 := e1
  rw [e5, h9, Array.getElem?_eq_getElem hq]
/-- the words of a throw but the four that speak of the heap -/
def vx_no (w : Cond) : Bool := decide (w ≠ .isRef (.static Bundle.tN "UNASSIGNED_STACK" Bundle.steD)) && decide (w ≠ .isRef (.static Bundle.tN "SUPPRESSED_SENTINEL" Bundle.listD)) && decide (w ≠ .laysStatic Bundle.tN "UNASSIGNED_STACK" Bundle.steD) && decide (w ≠ .laysStatic Bundle.tN "SUPPRESSED_SENTINEL" Bundle.listD)
def vx_at0 (own : String) (ic : Nat) (X : String) (names : List String) : List Cond := (Bundle.ownAtoms0 own ic X names).filter vx_no
def vx_atS (own : String) (ic : Nat) (X : String) (names : List String) : List Cond := (Bundle.ownAtoms own ic X names).filter vx_no
/-- a word that the tables alone decide, or a good one -/
def vx_ot (w : Cond) : Bool := w.onTables || goodWord w
theorem vx_ot_at {args a' : Array Value} {s U : State} {w : Cond} (hW : s.WarmedH U.vm) (hvm : s.vm = U.vm) (hg : vx_ot w = true) (h : w.before args s = true) : w.before a' U = true := by
  simp only [vx_ot, Bool.or_eq_true] at hg
  rcases hg with hg | hg
  · exact va_tabs hg hvm h
  · exact word_at hW (good_of_word hg) h
/-- a list's words: the good ones out of the method's own list, the others by premises of their own -/
theorem vx_hat {args : Array Value} {s : State} {L B : List Cond} (h1 : ∀ w ∈ L.filter goodWord, w.before args s = true) (h2 : ∀ w ∈ L.filter (fun w => !goodWord w), w ∈ B) (h3 : ∀ w ∈ B, w.before args s = true) : ∀ w ∈ L, w.before args s = true := by
  intro w hw
  by_cases g : goodWord w = true
  · exact h1 w (List.mem_filter.mpr ⟨hw, g⟩)
  · refine h3 w (h2 w (List.mem_filter.mpr ⟨hw, ?_⟩))
    show (!goodWord w) = true
    cases hgw : goodWord w
    · rfl
    · exact absurd hgw g
theorem vx_c {args : Array Value} {s : State} {w : Cond} {B : List Cond} (h : w.before args s = true) (t : ∀ w ∈ B, w.before args s = true) : ∀ w' ∈ w :: B, w'.before args s = true := fun w' h' => (List.mem_cons.mp h').elim (fun e => by rw [e]; exact h) (t w')
theorem vx_n {args : Array Value} {s : State} : ∀ w ∈ ([] : List Cond), w.before args s = true := fun _ h => nomatch h
theorem vx_own {args : Array Value} {s : State} {L : List Cond} (h1 : ∀ w ∈ L.filter vx_no, w.before args s = true)
    (hU : (Cond.isRef (.static Bundle.tN "UNASSIGNED_STACK" Bundle.steD)).before args s = true) (hN : (Cond.isRef (.static Bundle.tN "SUPPRESSED_SENTINEL" Bundle.listD)).before args s = true)
    (lU : (Cond.laysStatic Bundle.tN "UNASSIGNED_STACK" Bundle.steD).before args s = true) (lN : (Cond.laysStatic Bundle.tN "SUPPRESSED_SENTINEL" Bundle.listD).before args s = true) : ∀ w ∈ L, w.before args s = true := by
  intro w hw
  by_cases e1 : w = .isRef (.static Bundle.tN "UNASSIGNED_STACK" Bundle.steD)
  · rw [e1]; exact hU
  · by_cases e2 : w = .isRef (.static Bundle.tN "SUPPRESSED_SENTINEL" Bundle.listD)
    · rw [e2]; exact hN
    · by_cases e3 : w = .laysStatic Bundle.tN "UNASSIGNED_STACK" Bundle.steD
      · rw [e3]; exact lU
      · by_cases e4 : w = .laysStatic Bundle.tN "SUPPRESSED_SENTINEL" Bundle.listD
        · rw [e4]; exact lN
        · exact h1 w (List.mem_filter.mpr ⟨hw, by unfold vx_no; rw [decide_eq_true e1, decide_eq_true e2, decide_eq_true e3, decide_eq_true e4]; rfl⟩)
/-- where a static field lies, its class's statics cell in H -/
def vx_L (C n d : String) (A : Nat → Prop) (U : State) (H : Heap) : Prop := ∃ (c : ClassId) (k : Class) (i : Nat) (f : Field) (a : Nat) (cell : Cell), U.vm.findClass C = some c ∧ U.fieldFound? C n d = some (c, k, i, f) ∧ f.isStatic = true ∧ k.statics = some a ∧ H[a]? = some cell ∧ cell.vm.isStatics = true ∧ cell.cls = c ∧ f.slot < cell.slots.size ∧ k.staticTypes[f.slot]? = some f.type ∧ ¬ A a
theorem vx_L.moved {C n d : String} {A : Nat → Prop} {u U : State} {H : Heap} (hvm : u.vm.Alike U.vm) (h : vx_L C n d A u H) : vx_L C n d A U H := by
  obtain ⟨c, k, i, f, a, cell, h1, h2, h3, h4, h5, h6, h7, h8, h9, h10⟩ := h
  obtain ⟨k', hi', he⟩ := State.fieldFound?_setVm hvm h2
  exact ⟨c, k', i, f, a, cell, by rw [hvm.findClass]; exact h1, hi', h3, by rw [he]; exact h4, h5, h6, h7, h8, by rw [he]; exact h9, h10⟩
theorem vx_L.kept {C n d : String} {A : Nat → Prop} {U : State} {H H1 : Heap} (h : vx_L C n d A U H) (hq : ∀ a : Nat, a < H.size → ¬ A a → H1[a]? = H[a]?) : vx_L C n d A U H1 := by
  obtain ⟨c, k, i, f, a, cell, h1, h2, h3, h4, h5, h6, h7, h8, h9, h10⟩ := h
  exact ⟨c, k, i, f, a, cell, h1, h2, h3, h4, by rw [hq a (Array.getElem?_eq_some_iff.mp h5).1 h10]; exact h5, h6, h7, h8, h9, h10⟩
theorem vx_L.narrow {C n d : String} {A B : Nat → Prop} {U : State} {H : Heap} (h : vx_L C n d A U H) (hAB : ∀ q, B q → A q) : vx_L C n d B U H := by
  obtain ⟨c, k, i, f, a, cell, h1, h2, h3, h4, h5, h6, h7, h8, h9, h10⟩ := h
  exact ⟨c, k, i, f, a, cell, h1, h2, h3, h4, h5, h6, h7, h8, h9, fun z => h10 (hAB _ z)⟩
theorem vx_L.word {C n d : String} {A : Nat → Prop} {s : State} {args : Array Value} (h : vx_L C n d A s s.heap) : (Cond.laysStatic C n d).before args s = true := by
  obtain ⟨c, k, i, f, a, cell, h1, h2, h3, h4, h5, h6, h7, h8, h9, -⟩ := h
  show (Cond.laysStatic C n d).holds args s none s [] = true
  exact Cond.laysStatic_of h1 h2 h3 h4 h5 h6 h7 h8 h9
/-- .. and what it holds: null or some reference -/
def vx_Zq (C n d : String) (A : Nat → Prop) (U : State) (H : Heap) : Prop := va_Zq C n d A U H ∧ vx_L C n d A U H
theorem vx_Zq.moved {C n d : String} {A : Nat → Prop} {u U : State} {H : Heap} (hvm : u.vm.Alike U.vm) (h : vx_Zq C n d A u H) : vx_Zq C n d A U H := ⟨va_Zq.moved hvm h.1, vx_L.moved hvm h.2⟩
theorem vx_Zq.kept {C n d : String} {A : Nat → Prop} {U : State} {H H1 : Heap} (h : vx_Zq C n d A U H) (hq : ∀ a : Nat, a < H.size → ¬ A a → H1[a]? = H[a]?) : vx_Zq C n d A U H1 := ⟨va_Zq.kept h.1 hq, vx_L.kept h.2 hq⟩
theorem vx_Zq.narrow {C n d : String} {A B : Nat → Prop} {U : State} {H : Heap} (h : vx_Zq C n d A U H) (hAB : ∀ q, B q → A q) : vx_Zq C n d B U H := ⟨va_Zq.narrow h.1 hAB, vx_L.narrow h.2 hAB⟩
theorem vx_Zqof {args : Array Value} {s : State} {C n d : String} {A : Nat → Prop} (hl : (Cond.laysStatic C n d).before args s = true) (hini : (Cond.initialized C).before args s = true) (h : (Cond.isRef (.static C n d)).before args s = true) (hA : ∀ a : Nat, a < s.heap.size → ¬ A a) : vx_Zq C n d A s s.heap := by
  refine ⟨va_Zqof hl hini h hA, ?_⟩
  obtain ⟨c, k, i, f, a, cell, h1, h2, h3, h4, h5, h6, h7, h8, h9⟩ := Cond.laysStatic_spec hl
  exact ⟨c, k, i, f, a, cell, h1, h2, h3, h4, h5, h6, h7, h8, h9, hA a (Array.getElem?_eq_some_iff.mp h5).1⟩
theorem vx_isRef {C n d : String} {v : Value} {A : Nat → Prop} {s : State} {args : Array Value} (h : va_Z C n d v A s s.heap) (hv : v.isRef = true) : (Cond.isRef (.static C n d)).before args s = true := by
  obtain ⟨cf, kf, fi, f, a, cell, h1, h2, h3, h4, h5, h6, h7, -⟩ := h
  have he : (Term.static C n d).eval args s none [] s = some v := by
    simp [Term.eval, State.fieldNamed?, h1, h2, h4, h5, h6, h7]
  simp only [Cond.before, Cond.holds, Cond.value, he]
  cases v <;> simp_all [Value.isRef]
theorem vx_isRefq {C n d : String} {A : Nat → Prop} {s : State} {args : Array Value} (h : va_Zq C n d A s s.heap) : (Cond.isRef (.static C n d)).before args s = true := by
  rcases h with h | ⟨t, h⟩
  · exact vx_isRef h rfl
  · exact vx_isRef h rfl
/-- the same frame, seen from here: as if the method were called anew in this heap -/
theorem vx_rebase {T : State} (X : Stand p l e R s m args below meth c T locs cells slots) {R' : Room} (hf : R'.frames ≤ R.frames) (hl : R'.locals ≤ R.locals) (hc : cells + R'.cells ≤ R.cells) (hs : slots + R'.slots ≤ R.slots) :
    Stand p l e R' ((T.setVm s.vm).setFrames (.invoking m args :: below)) m args below meth c T [] 0 0 := by
  have htop : (T.setVm s.vm).topJava?.isSome := X.here.top
  have hF : ((T.setVm s.vm).setFrames (.invoking m args :: below)).frames = .invoking m args :: below := State.frames_setFrames _ (State.cur_lt_of_top htop)
  obtain ⟨g₀, hg0⟩ := Option.isSome_iff_exists.mp htop
  obtain ⟨r, hr⟩ := State.topJava?_eq_some.mp hg0
  have hl9 : e.platform.stackLimits (T.setVm s.vm).me = e.platform.stackLimits s.me := X.limits
  have hb9 : (T.setVm s.vm).me.stackBytes = s.me.stackBytes := X.bytes
  refine ⟨X.admits, X.cas, X.clock, hF, ?_, X.hears, X.method, X.code, X.here, X.tail, X.warmed, ?_, ?_, ?_⟩
  · have h := X.room
    have hU : ((T.setVm s.vm).setFrames (.invoking m args :: below)).localsInUse = s.localsInUse := by
      rw [State.localsInUse_invoking hF (meth := meth) (c := c) X.method X.code, State.localsInUse_invoking X.frames X.method X.code]
    simp only [State.hasRoom, Bool.and_eq_true, decide_eq_true_eq] at h ⊢
    obtain ⟨⟨⟨⟨h1, h2, h3, h4, h5, h6⟩, h7⟩, h8⟩, h9⟩ := h
    rw [X.frames, List.length_cons] at h2 h3
    have q1 := X.heapSize
    have q2 := X.used
    simp only [hF, hU, List.length_cons, State.stackLimits_setFrames, State.stackBytes_setFrames, hl9, hb9]
    refine ⟨⟨⟨⟨by omega, by omega, by omega, by omega, by omega, h6⟩, ?_⟩, ?_⟩, X.book⟩
    · show T.heap.size + R'.cells ≤ e.platform.maxCells
      omega
    · show T.slotsUsed + R'.slots ≤ e.platform.maxSlots
      omega
  · rw [State.stackLimits_setFrames]; rfl
  · rw [State.stackBytes_setFrames]; rfl
  · refine ⟨?_, Nat.le_refl _, Nat.le_refl _, ?_, ?_, fun a c9 h9 => ⟨c9, h9, rfl, rfl, fun _ _ => rfl⟩⟩
    · obtain ⟨t, ht, -⟩ := State.frames_cons hr
      show T.setVm s.vm = { ((T.setVm s.vm).setFrames (.invoking m args :: below)).setFrames (T.setVm s.vm).frames with heap := T.heap, slotsUsed := T.slotsUsed }
      rw [State.setFrames_setFrames, State.setFrames_self ht]
      rfl
    · show T.slotsUsed = T.slotsUsed + ((T.heap.toList.drop T.heap.size).map (·.slots.size)).sum
      rw [List.drop_eq_nil_of_le (Nat.le_of_eq Array.length_toList)]
      rfl
    · show ((T.heap.toList.drop T.heap.size).map (·.slots.size)).sum ≤ 0
      rw [List.drop_eq_nil_of_le (Nat.le_of_eq Array.length_toList)]
      exact Nat.le_refl _
/-- 'throw new E()': new; dup; invokespecial; athrow -/
theorem vx_throw0 {cc : ByteArray} {pc : Nat} (hexec : p.tables.exec = Jvm.exec) (hb : c.code = cc) (hl : l.stackTraces = false) {own cls : String} {names : List String} {ik ic mc ms : Nat} {A : Nat → Prop}
    (hown : s.vm.findClass own = some m.cls) (hcls : Bundle.fit cls = true) (hnames : ∀ n ∈ names, Bundle.fit n = true)
    (hk : (Cond.classLink own ik cls).before args s = true) (hini : (Cond.initialized cls).before args s = true) (hat : ∀ w ∈ vx_at0 own ic cls names, w.before args s = true)
    (hgood : ∀ w ∈ Cond.classLink own ik cls :: Cond.initialized cls :: vx_at0 own ic cls names, vx_ot w = true)
    (hU : vx_Zq Bundle.tN "UNASSIGNED_STACK" Bundle.steD A s s.heap) (hN : vx_Zq Bundle.tN "SUPPRESSED_SENTINEL" Bundle.listD A s s.heap) (hS : va_S A s.heap H locs) (hsize : ls.size = c.maxLocals)
    (d0 : decode cc pc = .ok (.new ik, 3)) (d3 : decode cc (pc + 3) = .ok (.dup, 1)) (d4 : decode cc (pc + 4) = .ok (.invokespecial ic, 3)) (d7 : decode cc (pc + 7) = .ok (.athrow, 1))
    (hout : ∀ x ∈ c.exceptionTable.toList, covers x (pc + 7) = false)
    (hRframes : names.length + 3 < R.frames) (hRlocals : (rest.map fun v => v.category).sum + (13 * (names.length + 1) + 42) ≤ R.locals) (hRcells : cells + 1 ≤ R.cells) (hRslots : slots + 6 ≤ R.slots) (hlocks : meth.locks = false)
    (hx : ∀ t : State, s.vm.Alike t.vm → H.size ≤ t.heap.size → (∀ q : Nat, q < H.size → t.heap[q]? = H[q]?) → XC cls s t)
    (hf : ∀ z ∈ locs, free z.base) (hc : cells + 1 ≤ mc) (hs : slots + 6 ≤ ms) :
    W p l e R s m args below meth c H locs cells slots (vx_MQ below Qc XC args s mc ms free) (F0 m pc ls rest) := by
  intro T hT X
  have htr : e.platform.stackTraces = false := (show e.platform.stackTraces = l.stackTraces by rw [X.admits.platform]).trans hl
  have Y := vx_rebase X (R' := { frames := R.frames, locals := R.locals, cells := 1, slots := 6 }) (Nat.le_refl _) (Nat.le_refl _) hRcells hRslots
  obtain ⟨s', hA⟩ : ∃ z, z = (T.setVm s.vm).setFrames (.invoking m args :: below) := ⟨_, rfl⟩
  rw [← hA] at Y
  have hvm : s'.vm = s.vm := by rw [hA]; rfl
  have hhp : s'.heap = H := by rw [hA]; exact hT
  have hW0 : s.WarmedH s'.vm := by rw [hvm]; exact State.WarmedH.refl s
  have hat' : ∀ w ∈ vx_at0 own ic cls names, w.before args s' = true := fun w hw => vx_ot_at hW0 hvm.symm (hgood w (List.mem_cons_of_mem _ (List.mem_cons_of_mem _ hw))) (hat w hw)
  have hk' : (Cond.classLink own ik cls).before args s' = true := vx_ot_at hW0 hvm.symm (hgood _ List.mem_cons_self) hk
  have hini' : (Cond.initialized cls).before args s' = true := vx_ot_at hW0 hvm.symm (hgood _ (List.mem_cons_of_mem _ List.mem_cons_self)) hini
  have hU' : vx_Zq Bundle.tN "UNASSIGNED_STACK" Bundle.steD A s' s'.heap := by rw [hhp]; exact vx_Zq.moved hW0.alike (hU.kept hS.2.1)
  have hN' : vx_Zq Bundle.tN "SUPPRESSED_SENTINEL" Bundle.listD A s' s'.heap := by rw [hhp]; exact vx_Zq.moved hW0.alike (hN.kept hS.2.1)
  have h : ∀ w ∈ Bundle.ownAtoms0 own ic cls names, w.before args s' = true := vx_own hat' (vx_isRefq hU'.1) (vx_isRefq hN'.1) hU'.2.word hN'.2.word
  have hown' : s'.vm.findClass own = some m.cls := by rw [hvm]; exact hown
  have hins : (Cond.instantiable cls 6).before args s' = true := h _ (by simp [Bundle.ownAtoms0])
  obtain ⟨vm₁, cX, kX, hfX, hkX, -, -, X₁, st1⟩ := Y.newCold hexec (own := own) (C := cls) (index := ik) (n := 6) hown' hk' hins hini'
    (g := F0 m pc ls rest) rfl (by rw [hb]; exact d0) (Nat.le_refl _) (Nat.le_refl _)
  generalize hT1 : (T.setVm vm₁).pushCell { cls := cX, slots := kX.instanceTypes.map defaultValue, vm := .none } = T1 at X₁ st1
  have hcat : (Value.ref T.heap.size).category = 1 := rfl
  have hcellA : T1.heap[T.heap.size]? = some (freshCell cX kX) := by rw [← hT1]; exact State.heap_pushCell_size _ _
  have d3' : decode c.code (pc + 3) = .ok (.dup, 1) := by rw [hb]; exact d3
  obtain ⟨U, hsteps, hrun, hend, hW, hsame, ce, hce, hO⟩ := X₁.ctorThrow0 hexec htr (own := own) (cls := cls) (names := names) (ic := ic) hown' hcls hnames h (fun x hx => nomatch hx) hfX hkX hcellA (by rw [hhp, hT]; exact Nat.le_refl _)
    (g := { method := m, pc := pc + 4, locals := ls, stack := .ref T.heap.size :: .ref T.heap.size :: rest, locked := none }) rfl hsize rfl rfl (rest := rest) rfl
    (by rw [hb]; exact d4) (by rw [hb]; exact d7) hout hRframes (by simp only [List.map_cons, List.sum_cons, hcat]; omega) hlocks
  obtain ⟨f1, f2⟩ := vx_frame hsame
  rw [hhp] at f1 f2
  have hWs : s.WarmedH U.vm := State.WarmedH.trans hW0 hW
  have hcl : s.vm.findClass cls = some ce.cls := by
    have h9 := hO.cls
    rw [hvm] at h9
    exact h9
  have hall : s.sameButNew ({ U with vm := s.vm } : State) locs mc ms := by
    subst hA
    obtain ⟨e1, e2⟩ := hsame
    rw [State.setFrames_setFrames] at e1
    have h2 : (T.setVm s.vm).sameButNew ({ U with vm := s.vm } : State) [] (0 + 1) (0 + 6) := ⟨e1, e2⟩
    have h3 := X.same.trans h2
    rw [List.append_nil] at h3
    exact h3.mono hc hs
  refine ⟨U, ?_, .threw T.heap.size, hrun, hend, Or.inr ⟨T.heap.size, rfl, cls, ce, locs, hx U hWs.alike f1 (fun q hq => f2 q hq (fun z hz => nomatch hz)), hce, hO.vm, hcl, hWs, hall, hf⟩⟩
  refine st1 _ ?_
  show Steps p.tables e below (T1.setTop { method := m, pc := pc + 3, locals := ls, stack := .ref T.heap.size :: rest, locked := none }) _
  jvm_step X₁.here [X₁.here.top, hexec, d3', Value.category]
  exact hsteps
/-- 'throw new E("text")': new; dup; ldc; invokespecial; athrow -/
theorem vx_throwS {cc : ByteArray} {pc : Nat} (hexec : p.tables.exec = Jvm.exec) (hb : c.code = cc) (hl : l.stackTraces = false) {own cls text : String} {names : List String} {ik is ic mc ms sa : Nat} {A : Nat → Prop}
    (hown : s.vm.findClass own = some m.cls) (hcls : Bundle.fit cls = true) (hnames : ∀ n ∈ names, Bundle.fit n = true)
    (hk : (Cond.classLink own ik cls).before args s = true) (hini : (Cond.initialized cls).before args s = true) (hstr : vk_R own is text sa s) (hat : ∀ w ∈ vx_atS own ic cls names, w.before args s = true)
    (hgood : ∀ w ∈ Cond.classLink own ik cls :: Cond.initialized cls :: vx_atS own ic cls names, vx_ot w = true)
    (hU : vx_Zq Bundle.tN "UNASSIGNED_STACK" Bundle.steD A s s.heap) (hN : vx_Zq Bundle.tN "SUPPRESSED_SENTINEL" Bundle.listD A s s.heap) (hS : va_S A s.heap H locs) (hsize : ls.size = c.maxLocals)
    (d0 : decode cc pc = .ok (.new ik, 3)) (d3 : decode cc (pc + 3) = .ok (.dup, 1)) (d4 : decode cc (pc + 4) = .ok (.ldc is, 2)) (d6 : decode cc (pc + 6) = .ok (.invokespecial ic, 3)) (d9 : decode cc (pc + 9) = .ok (.athrow, 1))
    (hout : ∀ x ∈ c.exceptionTable.toList, covers x (pc + 9) = false)
    (hRframes : names.length + 3 < R.frames) (hRlocals : (rest.map fun v => v.category).sum + (13 * (names.length + 1) + 43) ≤ R.locals) (hRcells : cells + 1 ≤ R.cells) (hRslots : slots + 6 ≤ R.slots) (hlocks : meth.locks = false)
    (hx : ∀ t : State, s.vm.Alike t.vm → H.size ≤ t.heap.size → (∀ q : Nat, q < H.size → t.heap[q]? = H[q]?) → XC cls s t)
    (hf : ∀ z ∈ locs, free z.base) (hc : cells + 1 ≤ mc) (hs : slots + 6 ≤ ms) :
    W p l e R s m args below meth c H locs cells slots (vx_MQ below Qc XC args s mc ms free) (F0 m pc ls rest) := by
  intro T hT X
  have htr : e.platform.stackTraces = false := (show e.platform.stackTraces = l.stackTraces by rw [X.admits.platform]).trans hl
  have Y := vx_rebase X (R' := { frames := R.frames, locals := R.locals, cells := 1, slots := 6 }) (Nat.le_refl _) (Nat.le_refl _) hRcells hRslots
  obtain ⟨s', hA⟩ : ∃ z, z = (T.setVm s.vm).setFrames (.invoking m args :: below) := ⟨_, rfl⟩
  rw [← hA] at Y
  have hvm : s'.vm = s.vm := by rw [hA]; rfl
  have hhp : s'.heap = H := by rw [hA]; exact hT
  have hW0 : s.WarmedH s'.vm := by rw [hvm]; exact State.WarmedH.refl s
  have hat' : ∀ w ∈ vx_atS own ic cls names, w.before args s' = true := fun w hw => vx_ot_at hW0 hvm.symm (hgood w (List.mem_cons_of_mem _ (List.mem_cons_of_mem _ hw))) (hat w hw)
  have hk' : (Cond.classLink own ik cls).before args s' = true := vx_ot_at hW0 hvm.symm (hgood _ List.mem_cons_self) hk
  have hini' : (Cond.initialized cls).before args s' = true := vx_ot_at hW0 hvm.symm (hgood _ (List.mem_cons_of_mem _ List.mem_cons_self)) hini
  have hU' : vx_Zq Bundle.tN "UNASSIGNED_STACK" Bundle.steD A s' s'.heap := by rw [hhp]; exact vx_Zq.moved hW0.alike (hU.kept hS.2.1)
  have hN' : vx_Zq Bundle.tN "SUPPRESSED_SENTINEL" Bundle.listD A s' s'.heap := by rw [hhp]; exact vx_Zq.moved hW0.alike (hN.kept hS.2.1)
  have h : ∀ w ∈ Bundle.ownAtoms own ic cls names, w.before args s' = true := vx_own hat' (vx_isRefq hU'.1) (vx_isRefq hN'.1) hU'.2.word hN'.2.word
  have hown' : s'.vm.findClass own = some m.cls := by rw [hvm]; exact hown
  have hins : (Cond.instantiable cls 6).before args s' = true := h _ (by simp [Bundle.ownAtoms])
  obtain ⟨vm₁, cX, kX, hfX, hkX, -, -, X₁, st1⟩ := Y.newCold hexec (own := own) (C := cls) (index := ik) (n := 6) hown' hk' hins hini'
    (g := F0 m pc ls rest) rfl (by rw [hb]; exact d0) (Nat.le_refl _) (Nat.le_refl _)
  generalize hT1 : (T.setVm vm₁).pushCell { cls := cX, slots := kX.instanceTypes.map defaultValue, vm := .none } = T1 at X₁ st1
  have hcat : (Value.ref T.heap.size).category = 1 := rfl
  have hcellA : T1.heap[T.heap.size]? = some (freshCell cX kX) := by rw [← hT1]; exact State.heap_pushCell_size _ _
  have d3' : decode c.code (pc + 3) = .ok (.dup, 1) := by rw [hb]; exact d3
  have d4' : decode c.code (pc + 4) = .ok (.ldc is, 2) := by rw [hb]; exact d4
  have hstr' : vk_R own is text sa s' := vk_R.warm hW0 hstr
  obtain ⟨U, hsteps, hrun, hend, hW, hsame, ce, hce, hO⟩ := X₁.ctorThrowS hexec htr (own := own) (cls := cls) (names := names) (ic := ic) hown' hcls hnames h (fun x hx => nomatch hx) hfX hkX hcellA (by rw [hhp, hT]; exact Nat.le_refl _) (msg := .ref sa) rfl
    (g := { method := m, pc := pc + 6, locals := ls, stack := .ref sa :: .ref T.heap.size :: .ref T.heap.size :: rest, locked := none }) rfl hsize rfl rfl (rest := rest) rfl
    (by rw [hb]; exact d6) (by rw [hb]; exact d9) hout hRframes (by simp only [List.map_cons, List.sum_cons, hcat]; omega) hlocks
  obtain ⟨f1, f2⟩ := vx_frame hsame
  rw [hhp] at f1 f2
  have hWs : s.WarmedH U.vm := State.WarmedH.trans hW0 hW
  have hcl : s.vm.findClass cls = some ce.cls := by
    have h9 := hO.cls
    rw [hvm] at h9
    exact h9
  have hall : s.sameButNew ({ U with vm := s.vm } : State) locs mc ms := by
    subst hA
    obtain ⟨e1, e2⟩ := hsame
    rw [State.setFrames_setFrames] at e1
    have h2 : (T.setVm s.vm).sameButNew ({ U with vm := s.vm } : State) [] (0 + 1) (0 + 6) := ⟨e1, e2⟩
    have h3 := X.same.trans h2
    rw [List.append_nil] at h3
    exact h3.mono hc hs
  refine ⟨U, ?_, .threw T.heap.size, hrun, hend, Or.inr ⟨T.heap.size, rfl, cls, ce, locs, hx U hWs.alike f1 (fun q hq => f2 q hq (fun z hz => nomatch hz)), hce, hO.vm, hcl, hWs, hall, hf⟩⟩
  refine st1 _ ?_
  show Steps p.tables e below (T1.setTop { method := m, pc := pc + 3, locals := ls, stack := .ref T.heap.size :: rest, locked := none }) _
  jvm_step X₁.here [X₁.here.top, hexec, d3', Value.category]
  exact X₁.ldcString hexec (own := own) (text := text) (index := is) (a := sa) hown' hstr'.1 hstr'.2
    (g := { method := m, pc := pc + 4, locals := ls, stack := .ref T.heap.size :: .ref T.heap.size :: rest, locked := none }) rfl d4' _ hsteps
/-- 'throw new E("text")', the text by a wide index -/
theorem vx_throwSW {cc : ByteArray} {pc : Nat} (hexec : p.tables.exec = Jvm.exec) (hb : c.code = cc) (hl : l.stackTraces = false) {own cls text : String} {names : List String} {ik is ic mc ms sa : Nat} {A : Nat → Prop}
    (hown : s.vm.findClass own = some m.cls) (hcls : Bundle.fit cls = true) (hnames : ∀ n ∈ names, Bundle.fit n = true)
    (hk : (Cond.classLink own ik cls).before args s = true) (hini : (Cond.initialized cls).before args s = true) (hstr : vk_R own is text sa s) (hat : ∀ w ∈ vx_atS own ic cls names, w.before args s = true)
    (hgood : ∀ w ∈ Cond.classLink own ik cls :: Cond.initialized cls :: vx_atS own ic cls names, vx_ot w = true)
    (hU : vx_Zq Bundle.tN "UNASSIGNED_STACK" Bundle.steD A s s.heap) (hN : vx_Zq Bundle.tN "SUPPRESSED_SENTINEL" Bundle.listD A s s.heap) (hS : va_S A s.heap H locs) (hsize : ls.size = c.maxLocals)
    (d0 : decode cc pc = .ok (.new ik, 3)) (d3 : decode cc (pc + 3) = .ok (.dup, 1)) (d4 : decode cc (pc + 4) = .ok (.ldc_w is, 3)) (d7 : decode cc (pc + 7) = .ok (.invokespecial ic, 3)) (d10 : decode cc (pc + 10) = .ok (.athrow, 1))
    (hout : ∀ x ∈ c.exceptionTable.toList, covers x (pc + 10) = false)
    (hRframes : names.length + 3 < R.frames) (hRlocals : (rest.map fun v => v.category).sum + (13 * (names.length + 1) + 43) ≤ R.locals) (hRcells : cells + 1 ≤ R.cells) (hRslots : slots + 6 ≤ R.slots) (hlocks : meth.locks = false)
    (hx : ∀ t : State, s.vm.Alike t.vm → H.size ≤ t.heap.size → (∀ q : Nat, q < H.size → t.heap[q]? = H[q]?) → XC cls s t)
    (hf : ∀ z ∈ locs, free z.base) (hc : cells + 1 ≤ mc) (hs : slots + 6 ≤ ms) :
    W p l e R s m args below meth c H locs cells slots (vx_MQ below Qc XC args s mc ms free) (F0 m pc ls rest) := by
  intro T hT X
  have htr : e.platform.stackTraces = false := (show e.platform.stackTraces = l.stackTraces by rw [X.admits.platform]).trans hl
  have Y := vx_rebase X (R' := { frames := R.frames, locals := R.locals, cells := 1, slots := 6 }) (Nat.le_refl _) (Nat.le_refl _) hRcells hRslots
  obtain ⟨s', hA⟩ : ∃ z, z = (T.setVm s.vm).setFrames (.invoking m args :: below) := ⟨_, rfl⟩
  rw [← hA] at Y
  have hvm : s'.vm = s.vm := by rw [hA]; rfl
  have hhp : s'.heap = H := by rw [hA]; exact hT
  have hW0 : s.WarmedH s'.vm := by rw [hvm]; exact State.WarmedH.refl s
  have hat' : ∀ w ∈ vx_atS own ic cls names, w.before args s' = true := fun w hw => vx_ot_at hW0 hvm.symm (hgood w (List.mem_cons_of_mem _ (List.mem_cons_of_mem _ hw))) (hat w hw)
  have hk' : (Cond.classLink own ik cls).before args s' = true := vx_ot_at hW0 hvm.symm (hgood _ List.mem_cons_self) hk
  have hini' : (Cond.initialized cls).before args s' = true := vx_ot_at hW0 hvm.symm (hgood _ (List.mem_cons_of_mem _ List.mem_cons_self)) hini
  have hU' : vx_Zq Bundle.tN "UNASSIGNED_STACK" Bundle.steD A s' s'.heap := by rw [hhp]; exact vx_Zq.moved hW0.alike (hU.kept hS.2.1)
  have hN' : vx_Zq Bundle.tN "SUPPRESSED_SENTINEL" Bundle.listD A s' s'.heap := by rw [hhp]; exact vx_Zq.moved hW0.alike (hN.kept hS.2.1)
  have h : ∀ w ∈ Bundle.ownAtoms own ic cls names, w.before args s' = true := vx_own hat' (vx_isRefq hU'.1) (vx_isRefq hN'.1) hU'.2.word hN'.2.word
  have hown' : s'.vm.findClass own = some m.cls := by rw [hvm]; exact hown
  have hins : (Cond.instantiable cls 6).before args s' = true := h _ (by simp [Bundle.ownAtoms])
  obtain ⟨vm₁, cX, kX, hfX, hkX, -, -, X₁, st1⟩ := Y.newCold hexec (own := own) (C := cls) (index := ik) (n := 6) hown' hk' hins hini'
    (g := F0 m pc ls rest) rfl (by rw [hb]; exact d0) (Nat.le_refl _) (Nat.le_refl _)
  generalize hT1 : (T.setVm vm₁).pushCell { cls := cX, slots := kX.instanceTypes.map defaultValue, vm := .none } = T1 at X₁ st1
  have hcat : (Value.ref T.heap.size).category = 1 := rfl
  have hcellA : T1.heap[T.heap.size]? = some (freshCell cX kX) := by rw [← hT1]; exact State.heap_pushCell_size _ _
  have d3' : decode c.code (pc + 3) = .ok (.dup, 1) := by rw [hb]; exact d3
  have d4' : decode c.code (pc + 4) = .ok (.ldc_w is, 3) := by rw [hb]; exact d4
  have hstr' : vk_R own is text sa s' := vk_R.warm hW0 hstr
  obtain ⟨U, hsteps, hrun, hend, hW, hsame, ce, hce, hO⟩ := X₁.ctorThrowS hexec htr (own := own) (cls := cls) (names := names) (ic := ic) hown' hcls hnames h (fun x hx => nomatch hx) hfX hkX hcellA (by rw [hhp, hT]; exact Nat.le_refl _) (msg := .ref sa) rfl
    (g := { method := m, pc := pc + 7, locals := ls, stack := .ref sa :: .ref T.heap.size :: .ref T.heap.size :: rest, locked := none }) rfl hsize rfl rfl (rest := rest) rfl
    (by rw [hb]; exact d7) (by rw [hb]; exact d10) hout hRframes (by simp only [List.map_cons, List.sum_cons, hcat]; omega) hlocks
  obtain ⟨f1, f2⟩ := vx_frame hsame
  rw [hhp] at f1 f2
  have hWs : s.WarmedH U.vm := State.WarmedH.trans hW0 hW
  have hcl : s.vm.findClass cls = some ce.cls := by
    have h9 := hO.cls
    rw [hvm] at h9
    exact h9
  have hall : s.sameButNew ({ U with vm := s.vm } : State) locs mc ms := by
    subst hA
    obtain ⟨e1, e2⟩ := hsame
    rw [State.setFrames_setFrames] at e1
    have h2 : (T.setVm s.vm).sameButNew ({ U with vm := s.vm } : State) [] (0 + 1) (0 + 6) := ⟨e1, e2⟩
    have h3 := X.same.trans h2
    rw [List.append_nil] at h3
    exact h3.mono hc hs
  refine ⟨U, ?_, .threw T.heap.size, hrun, hend, Or.inr ⟨T.heap.size, rfl, cls, ce, locs, hx U hWs.alike f1 (fun q hq => f2 q hq (fun z hz => nomatch hz)), hce, hO.vm, hcl, hWs, hall, hf⟩⟩
  refine st1 _ ?_
  show Steps p.tables e below (T1.setTop { method := m, pc := pc + 3, locals := ls, stack := .ref T.heap.size :: rest, locked := none }) _
  jvm_step X₁.here [X₁.here.top, hexec, d3', Value.category]
  exact X₁.ldcStringW hexec (own := own) (text := text) (index := is) (a := sa) hown' hstr'.1 hstr'.2
    (g := { method := m, pc := pc + 4, locals := ls, stack := .ref T.heap.size :: .ref T.heap.size :: rest, locked := none }) rfl d4' _ hsteps
end Ends
section Bodies
variable {l : Launch}
theorem vx_ofW {y : MethodName} {ws ws' : List Cond} {rm : Room} {Pc : Array Value → State → Prop} {Qc : Array Value → State → Outcome → State → Prop} {XC : String → State → State → Prop} {mc ms : Nat} {free : Addr → Prop} {cc : ByteArray} {maxL : Nat} {ret : Option FieldType}
    (hy : plainName y.cls = true) (hw : ws = Cond.code y cc maxL ret :: ws')
    (body : ∀ p e s m args below meth c s₁, BodyLoose p l y (headSpec ws rm) cc maxL ret e s m args below meth c s₁ → c.maxLocals = maxL → (∀ x ∈ c.exceptionTable.toList, False) → Pc args s →
      W p l e (headSpec ws rm).room s m args below meth c s.heap [] 0 0 (vx_MQ below Qc XC args s mc ms free) (entryFrame m args maxL)) : vx_Met l y ws rm Pc Qc XC mc ms free := by
  refine MetFree.of_bodyS (code := cc) (maxLocals := maxL) (ret := ret) hy ?_ ?_
  · intro args s m h hn
    obtain ⟨meth, c, h1, h2, h3, h4, h5, h6, -, -⟩ := Cond.code_spec hn (atoms_spec (ws := ws) h _ (by rw [hw]; exact List.mem_cons_self))
    exact ⟨meth, c, h1, h2, h3, h4, h5, h6⟩
  · intro p e s m args below meth c s₁ B hml hP _
    have hh0 : s₁.heap = s.heap := by rw [B.state]; rfl
    have ht : ∀ x ∈ c.exceptionTable.toList, False := by
      obtain ⟨meth9, c9, h1, h2, -, -, -, -, h7, -⟩ := Cond.code_spec B.named (atoms_spec (ws := ws) B.pre _ (by rw [hw]; exact List.mem_cons_self))
      cases Option.some.inj (h1.symm.trans B.method)
      cases Option.some.inj (h2.symm.trans (Stand.of_body B).code)
      intro x hx
      rw [Array.isEmpty_iff.mp h7] at hx
      cases hx
    obtain ⟨t, a1, o, b1, b2, b3⟩ := body p e s m args below meth c s₁ B hml ht hP s₁ hh0 (Stand.of_body B)
    exact ⟨t, o, a1, b1, b2, b3⟩
/-- the table of a body with handlers -/
theorem vx_table {p : Program} {x y : MethodName} {S : Spec} {cc bytes : ByteArray} {maxL maxL' : Nat} {ret ret' : Option FieldType} {e : Env} {s s₁ : State} {m : MethodId} {args : Array Value} {below : List Frame} {meth : Method} {c : Code} {hh : List (Nat × Nat × Nat × Nat)}
    (B : BodyLoose p l y S cc maxL ret e s m args below meth c s₁) (h : (Cond.codeWith y bytes maxL' ret' hh).before args s = true) : c.exceptionTable.toList = tableOf hh := by
  obtain ⟨m9, meth9, c9, hn9, h1, h2, -, -, h6, -⟩ := Cond.codeWith_spec h
  cases Option.some.inj (hn9.symm.trans B.named)
  cases Option.some.inj (h1.symm.trans B.method)
  cases Option.some.inj (h2.symm.trans (Stand.of_body B).code)
  rw [← h6, table_eq]
end Bodies
end VXA
/-! ===== END ===== -/
/-! ===== BEGIN a static call of a method with an exception table ===== -/
section VXS
variable {p : Program} {l : Launch} {e : Env} {R : Room} {s : State} {m : MethodId} {args : Array Value} {below : List Frame} {meth : Method} {c : Code} {T : State} {H : Heap} {locs : List Loc} {cells slots : Nat}
abbrev vx_CSW (R : Room) (s : State) (args : Array Value) (own : String) (index : Nat) (y : MethodName) (bytes : ByteArray) (maxL : Nat) (ret : Option FieldType) (hh : List (Nat × Nat × Nat × Nat)) (ws : List Cond) (rm : Room) (mc ms n : Nat) : Prop :=
  (rm.cells = mc ∧ rm.slots = ms ∧ rm.frames + 1 ≤ R.frames ∧ 8 + (maxL + 11) + rm.locals ≤ R.locals ∧ (∀ w ∈ ws, ∀ (a' : Array Value) (U : State), s.WarmedH U.vm → w.before a' U = true) ∧ Cond.codeWith y bytes maxL ret hh ∈ ws) ∧
  (Cond.codeWith y bytes maxL ret hh).before args s = true ∧ (Cond.initialized y.cls).before args s = true ∧ (y.cls ≠ "java/lang/invoke/MethodHandle" ∧ y.cls ≠ "java/lang/invoke/VarHandle") ∧
  (∀ sig, parseMethodDescriptor y.desc = some sig → n = sig.parameters.length) ∧ (Cond.methodLink own index y).before args s = true ∧ (Cond.static y).before args s = true
theorem vx_cwSW {own : String} {index maxL mc ms : Nat} {y : MethodName} {bytes : ByteArray} {ret : Option FieldType} {hh : List (Nat × Nat × Nat × Nat)} {Ts ws ws' : List Cond} {rm : Room} (n : Nat) (ht : ∀ w ∈ Ts, w.before args s = true) (hT : GoodIn Ts (va_wsS own index y ws)) (hw : ws = Cond.codeWith y bytes maxL ret hh :: ws') (hrc : rm.cells = mc) (hrs : rm.slots = ms)
    (hd : y.cls ≠ "java/lang/invoke/MethodHandle" ∧ y.cls ≠ "java/lang/invoke/VarHandle" ∧ (parseMethodDescriptor y.desc).map (fun d => d.parameters.length) = some n) (hR : rm.frames + 1 ≤ R.frames ∧ 8 + (maxL + 11) + rm.locals ≤ R.locals) :
    vx_CSW R s args own index y bytes maxL ret hh ws rm mc ms n := by
  have ok : ∀ w ∈ va_wsS own index y ws, w.before args s = true := fun w h => ht w (hT w h).1
  have hG : GoodIn Ts ws := fun w h => hT w (by unfold va_wsS; exact List.mem_append_right _ h)
  have hc : Cond.codeWith y bytes maxL ret hh ∈ ws := by rw [hw]; exact List.mem_cons_self
  refine ⟨⟨hrc, hrs, hR.1, hR.2, pay_in ht hG, hc⟩, ht _ (hG _ hc).1, ok _ (by simp [va_wsS]), ⟨hd.1, hd.2.1⟩, fun sig h => ?_, ok _ (by simp [va_wsS]), ok _ (by simp [va_wsS])⟩
  have h2 := hd.2.2
  rw [h] at h2
  exact (Option.some.inj h2).symm
theorem vx_callSW (X : Stand p l e R s m args below meth c T locs cells slots) (hexec : p.tables.exec = Jvm.exec) {own : String} {index : Nat} {y : MethodName} {bytes : ByteArray} {maxL : Nat} {ret : Option FieldType} {hh : List (Nat × Nat × Nat × Nat)}
    (hown : s.vm.findClass own = some m.cls) (hlink : (Cond.methodLink own index y).before args s = true) (hstat : (Cond.static y).before args s = true) (hinit : (Cond.initialized y.cls).before args s = true)
    (hcode : (Cond.codeWith y bytes maxL ret hh).before args s = true) (hy : y.cls ≠ "java/lang/invoke/MethodHandle" ∧ y.cls ≠ "java/lang/invoke/VarHandle")
    {W9 : Nat} {Pre : Pt → Array Value → Prop} {Post : Pt → Array Value → Option Value → Pt → Prop} (hK : Back l R p e below s args y 3 W9 Pre Post)
    {g : JFrame} (hg : g.method = m) (hsize : g.locals.size = c.maxLocals) {argsL rest : List Value} (hlen : ∀ sig, parseMethodDescriptor y.desc = some sig → argsL.length = sig.parameters.length)
    (hstack : g.stack = argsL.reverse ++ rest) (hW : 2 * g.monitorRoom + (rest.map fun v => v.category).sum ≤ W9) (hdg : decode c.code g.pc = .ok (.invokestatic index, 3))
    (hpre : ∀ vm₁, s.WarmedH vm₁ → Pre ⟨T.setVm vm₁, locs, cells, slots⟩ argsL.toArray) :
    ∃ (v : Option Value) (vm₁ : Vm) (B : Pt), s.WarmedH vm₁ ∧ Stand p l e R s m args below meth c B.U B.locs B.cells B.slots ∧ Post ⟨T.setVm vm₁, locs, cells, slots⟩ argsL.toArray v B ∧
      ∀ target, Steps p.tables e below (B.U.setTop { g with pc := g.pc + 3, stack := v.toList ++ rest }) target → Steps p.tables e below (T.setTop g) target := by
  obtain ⟨mk, methM, cM, hnamed, hmethM, -, -, -, -, -, -, hsigM⟩ := Cond.codeWith_spec hcode
  have hstatic : methM.isStatic = true := Cond.static_spec hnamed hmethM hstat
  obtain ⟨kP, hkP, -⟩ := className_of_methodNamed hnamed
  have hinitP : kP.init = .initialized := Cond.initialized_spec (findClass_of_methodNamed hnamed) hkP hinit
  obtain ⟨vm₁, X₁, hstep₁⟩ := X.invokestatic hexec hown hlink hnamed hmethM hstatic hkP hinitP hy (g := g) hg (argsL := argsL) (rest := rest) (hlen _ hsigM) hstack hdg
  obtain ⟨v, B, X', hpost, hsteps⟩ := hK m meth c ⟨T.setVm vm₁, locs, cells, slots⟩ { g with stack := rest } (.invokestatic index) mk argsL.toArray X₁ hg hsize hdg hW (X₁.named hnamed) (hpre vm₁ X₁.warmed)
  exact ⟨v, vm₁, B, X₁.warmed, X', hpost, fun target h => hstep₁ _ fun acts => by rw [doInvoke_state]; exact hsteps.trans h⟩
theorem vx_runSW {y : MethodName} {bytes cc : ByteArray} {maxL nL mc ms n index : Nat} {ret : Option FieldType} {hh : List (Nat × Nat × Nat × Nat)} {ws : List Cond} {rm : Room} {Pc : Array Value → State → Prop} {Qc : Array Value → State → Outcome → State → Prop} {free : Addr → Prop} {Ts : List Cond} {own : String} {As rest : List Value} {g : JFrame}
    (S : CallFix p m c cc nL s args Ts own) (hM : Met l y ws rm Pc Qc mc ms free) (cw : vx_CSW R s args own index y bytes maxL ret hh ws rm mc ms n) (hp : PreS s H Pc As)
    (hg : g.method = m) (hn : As.length = n) (hsize : g.locals.size = nL) (hstack : g.stack = As.reverse ++ rest) (hW : 2 * g.monitorRoom + (rest.map fun v => v.category).sum ≤ 8) (hdg : decode cc g.pc = .ok (.invokestatic index, 3)) (hf : cells + mc ≤ R.cells ∧ slots + ms ≤ R.slots) :
    va_Run p l e R s m args below meth c H locs cells slots mc ms g rest (Qc As.toArray) (free) := by
  obtain ⟨⟨hrc, hrs, hfr, hlo, hws, hcw⟩, hcode, hini, hy, hlen, hl, hstt⟩ := cw
  have hK : Back l R p e below s args y 3 8 (PreOf R mc ms Pc) (PostOf Qc mc ms free) := va_backW (hh := hh) (bytes := bytes) (maxL := maxL) (ret := ret) hM hp.1 hrc hrs hfr hlo hws hcw (fun a' U hW => word_at hW (Or.inl (by first | rfl | simp [Cond.onTables, Cond.keeps, Cond.steady])) hini)
  obtain ⟨hx, hb, hml, ho, -⟩ := S
  intro T hT X
  obtain ⟨v, vm₁, ⟨U', l2, c2, s2⟩, hW₁, X', ⟨g', mk, t, L, e1, e2, hq, h1, hL, h2, h3⟩, st⟩ := vx_callSW X hx (hh := hh) (bytes := bytes) (maxL := maxL) (ret := ret) ho hl hstt hini hcode hy hK hg (hsize.trans hml.symm) (argsL := As) (rest := rest) (fun sig h => hn.trans (hlen sig h)) hstack hW (by rw [hb]; exact hdg)
    (fun vm₁ hW₁ => ⟨hf.1, hf.2, hp.2 (T.setVm vm₁) hT hW₁⟩)
  dsimp only [Pt.U, Pt.locs, Pt.cells, Pt.slots] at X' e1 e2 h1 h2 h3 st
  subst h1; subst h2; subst h3
  exact ⟨v, (T.setVm vm₁).calling g' mk As.toArray, t, U', L, hT, X', hL, e1, e2, hq, st⟩
/-- not caught here, past rows that name other classes: it goes on to the caller -/
theorem vx_outP {p : Program} {l : Launch} {e : Env} {R : Room} {s : State} {m : MethodId} {args : Array Value} {below : List Frame} {meth : Method} {c : Code} {H : Heap} {locs : List Loc} {cells slots : Nat} {free : Addr → Prop} {ls : Array Slot} {rest : List Value} {Qc : Array Value → State → Outcome → State → Prop} {XC : String → State → State → Prop}
    {pc : Nat} {own E : String} {ce : Cell} {q : Addr} {mc ms : Nat} (hown : s.vm.findClass own = some m.cls) (hlocks : meth.locks = false)
    (hpass : ∀ z ∈ c.exceptionTable.toList, covers z pc = false ∨ (z.catchType ≠ 0 ∧ ∃ nm : String, (Cond.classLink own z.catchType nm).before args s = true ∧ va_Nc E nm s)) (hcell : H[q]? = some ce) (hv : ce.vm = .none) (hcl : s.vm.findClass E = some ce.cls)
    (hx : ∀ t : State, t.heap = H → s.vm.Alike t.vm → XC E s t) (hf : ∀ z ∈ locs, free z.base) (hc : cells ≤ mc) (hs : slots ≤ ms) :
    vx_W p l e R s m args below meth c H locs cells slots (vx_MQ below Qc XC args s mc ms free) (F0 m pc ls rest) q := by
  intro T hT X
  have hpl : e.platform.magicAccessors = ({} : Platform).magicAccessors := by rw [X.admits.platform]
  obtain ⟨vm', hW', X', st⟩ := X.outThrough hlocks q (g := F0 m pc ls rest) rfl rfl rfl (cell := ce) (by rw [hT]; exact hcell) (by rw [hv]; rfl)
    (by obtain ⟨k9, h9, -⟩ := Vm.findClass_spec hcl; exact ⟨k9, h9⟩) (fun z hz => by
      rcases hpass z hz with h | ⟨hz0, nm, hl1, hn1⟩
      · exact Or.inl h
      · obtain ⟨c6, hc6, hcl6⟩ := Cond.classLink_spec hown hl1 e.platform hpl
        obtain ⟨a8, b8, h1, h2, h3⟩ := hn1
        cases Option.some.inj (h1.symm.trans hcl)
        cases Option.some.inj (h2.symm.trans hc6)
        exact Or.inr ⟨hz0, _, hcl6, h3⟩)
  obtain ⟨g₀, hfr⟩ := X'.frames_eq
  have hcell9 : ((T.setVm vm').setFrames (.throwing q :: below)).heap[q]? = some ce := by
    show T.heap[q]? = some ce
    rw [hT]; exact hcell
  have hend : Ended ((T.setVm vm').setFrames (.throwing q :: below)) below (.threw q) := State.frames_setFrames _ (State.cur_lt_of_frames hfr)
  refine ⟨(T.setVm vm').setFrames (.throwing q :: below), ?_, .threw q, X'.here.running, hend, Or.inr ⟨q, rfl, E, ce, locs, hx _ hT (X'.ends _).1.alike, hcell9, hv, hcl, (X'.ends _).1, (X'.ends _).2.mono hc hs, hf⟩⟩
  rw [X.pushThrowing_eq]
  exact st
/-- a thing of a world lies in the heap -/
theorem vx_lt {D : va_G} {cl : List vw_C} {ws : va_W} {H1 : Heap} (h : va_P D cl ws H1) {k : Nat} {q : Nat × va_E} (hk : ws[k]? = some q) : q.1 < H1.size := (h k q hk).lt
end VXS
/-! ===== END ===== -/
/-! ===== BEGIN methods with a table of their own: called by a name, returning or throwing ===== -/
section VXH
/-! vx_backW, vx_callVX, vx_callSX, vx_callVW, vx_runVW, vx_runVX, vx_runSX, vx_ofWH follow the same proofs as their sisters above (Free/Laws.lean, Shelf42/LK1.lean); vx_outP calls Shelf42/NT130.lean (outThrough). -/
section
variable {l : Launch} {R : Room} {p : Program} {e : Env} {below : List Frame} {s : State} {sargs : Array Value} {y : MethodName} {len W9 : Nat}
theorem vx_backW {ws : List Cond} {rm : Room} {Pc : Array Value → State → Prop} {Qc : Array Value → State → Outcome → State → Prop} {XC : String → State → State → Prop} {mc ms : Nat} {free : Addr → Prop} {bytes : ByteArray} {maxL : Nat} {ret : Option FieldType} {hh : List (Nat × Nat × Nat × Nat)}
    (hM : vx_Met l y ws rm Pc Qc XC mc ms free) (hblind : FrameBlind Pc) (hrc : rm.cells = mc) (hrs : rm.slots = ms)
    (hframes : rm.frames + 1 ≤ R.frames) (hlocals : W9 + (maxL + 11) + rm.locals ≤ R.locals)
    (hws : ∀ w ∈ ws, ∀ a' U, s.WarmedH U.vm → w.before a' U = true) (hcode : Cond.codeWith y bytes maxL ret hh ∈ ws) (hinit : ∀ a' U, s.WarmedH U.vm → (Cond.initialized y.cls).before a' U = true) :
    vx_Back l R p e below s sargs y len W9 (PreOf R mc ms Pc) (PostOf Qc mc ms free) (vx_Post XC mc ms free) := by
  intro m meth c A g ig mk a X hg hsize hdg hW hn hp
  have h1 : (headSpec ws rm).pre.before a A.U = true := atoms_intro fun w hw => hws w hw _ _ X.warmed
  have h2 : (Cond.codeWith y bytes maxL ret hh).before a A.U = true := hws _ hcode _ _ X.warmed
  have h3 : (Cond.initialized y.cls).before a A.U = true := hinit _ _ X.warmed
  have h4 : A.cells + (headSpec ws rm).room.cells ≤ R.cells := by rw [show (headSpec ws rm).room.cells = mc from hrc]; exact hp.1
  have h5 : A.slots + (headSpec ws rm).room.slots ≤ R.slots := by rw [show (headSpec ws rm).room.slots = ms from hrs]; exact hp.2.1
  have hPc : Pc a (A.U.calling g mk a) := hblind _ _ _ _ hp.2.2
  obtain ⟨U, Ls, c0, s0⟩ := A
  dsimp only [Pt.U, Pt.locs, Pt.cells, Pt.slots] at h1 h2 h3 h4 h5 X hn hPc ⊢
  obtain ⟨m9, methY, cY, hn9, hmY, hcY, -, hlY, -⟩ := Cond.codeWith_spec h2
  cases Option.some.inj (hn9.symm.trans hn)
  obtain ⟨kY, hkY, -⟩ := className_of_methodNamed hn
  have hinitY : kY.init = .initialized := Cond.initialized_spec (findClass_of_methodNamed hn) hkY h3
  have h : At U g.method c below := by rw [hg]; exact X.here
  have hlocals9 : W9 + (maxL + 11) + (headSpec ws rm).room.locals ≤ R.locals := hlocals
  have happ : (headSpec ws rm).appliesLoose y e.platform (U.calling g mk a) = true :=
    Spec.appliesLoose_calling (g := g) h hdg hn hkY hinitY
      (X.room_calling (g := g) (R' := (headSpec ws rm).room) hsize hmY hcY hframes (by rw [hlY]; omega) h4 h5) h1
  obtain ⟨mid, hmid⟩ := h.above
  have hfr : (U.setTop g).frames = (.java g :: mid) ++ below := by rw [State.frames_setTop' g h.top, hmid]; rfl
  obtain ⟨o, s₂, hsteps, -, hend, hq⟩ := Steps.callFree hM p X.admits X.cas X.clock (acts := []) hfr happ hPc trivial
  have hq' : vx_Q Qc XC mc ms free a (U.calling g mk a) o s₂ := hq
  rw [State.frames_setTop' g h.top] at hend
  obtain ⟨g₀, hg0⟩ := Option.isSome_iff_exists.mp h.top
  obtain ⟨r, hr⟩ := State.topJava?_eq_some.mp hg0
  have hr' : (({ U with heap := s₂.heap, slotsUsed := s₂.slotsUsed } : State).setVm s₂.vm).frames = .java g₀ :: r := hr
  rcases hq' with ⟨hqc, L, hfe, hL⟩ | ⟨q, rfl, E, ce, L, hx, hce, hcv, hcl, hW₂, hsm, hL⟩
  · obtain ⟨⟨v, rfl⟩, hW₂, e2, q2, q3, q4, q5, q6⟩ := id hfe
    have e3 : s₂ = ({ (U.calling g mk a).setFrames s₂.frames with heap := s₂.heap, slotsUsed := s₂.slotsUsed } : State).setVm s₂.vm := by
      have : s₂ = ({ s₂ with vm := (U.calling g mk a).vm } : State).setVm s₂.vm := rfl
      rw [e2] at this
      exact this
    obtain ⟨c₂, i₂, len₂, hc₂, hd₂, hf₂⟩ := hend
    have hW' : U.WarmedH s₂.vm := hW₂
    have hcc : c₂ = c := by
      have h1 : s₂.code? g.method = U.code? g.method := by
        rw [State.code?_eq, State.code?_eq, hW'.alike.method?]
      exact Option.some.inj (hc₂.symm.trans (h1.trans h.code))
    subst hcc
    have hlen : len₂ = len := by rw [hdg] at hd₂; cases hd₂; rfl
    subst hlen
    have hs₂ : s₂ = (({ U with heap := s₂.heap, slotsUsed := s₂.slotsUsed } : State).setVm s₂.vm).setTop { g with pc := g.pc + len₂, stack := v.toList ++ g.stack } := by
      refine e3.trans ?_
      rw [hf₂, State.calling_eq h.top, State.setFrames_setFrames, State.setTop_of_frames _ hr', hr]
      rfl
    have hsame : U.sameButNew ({ U with heap := s₂.heap, slotsUsed := s₂.slotsUsed } : State) L mc ms := by
      refine ⟨?_, q2, q3, q4, q5, q6⟩
      obtain ⟨t, ht, -⟩ := State.frames_cons hr
      show ({ U with heap := s₂.heap, slotsUsed := s₂.slotsUsed } : State) = { U.setFrames U.frames with heap := s₂.heap, slotsUsed := s₂.slotsUsed }
      rw [State.setFrames_self ht]
    subst hg
    refine Or.inl ⟨v, ⟨(({ U with heap := s₂.heap, slotsUsed := s₂.slotsUsed } : State).setVm s₂.vm), Ls ++ L, c0 + mc, s0 + ms⟩,
      ⟨X.admits, X.cas, X.clock, X.frames, X.room, X.hears, X.method, X.code, (X.here.setHeapUsed s₂.heap s₂.slotsUsed).setVm hW'.alike, X.tail, State.WarmedH.trans X.warmed hW', X.limits, X.bytes, X.same.trans (hsame.setVm s.vm)⟩,
      ⟨g, mk, s₂, L, rfl, rfl, hqc, rfl, hL, rfl, rfl⟩, ?_⟩
    show Steps p.tables e below _ ((({ U with heap := s₂.heap, slotsUsed := s₂.slotsUsed } : State).setVm s₂.vm).setTop { g with pc := g.pc + len₂, stack := v.toList ++ g.stack })
    rw [← hs₂]
    exact hsteps
  · obtain ⟨e2, q2, q3, q4, q5, q6⟩ := id hsm
    have e3 : s₂ = ({ (U.calling g mk a).setFrames s₂.frames with heap := s₂.heap, slotsUsed := s₂.slotsUsed } : State).setVm s₂.vm := by
      have : s₂ = ({ s₂ with vm := (U.calling g mk a).vm } : State).setVm s₂.vm := rfl
      rw [e2] at this
      exact this
    have hf₂ : s₂.frames = .throwing q :: .java g :: U.frames.tail := hend
    have hW' : U.WarmedH s₂.vm := hW₂
    have hs₂ : s₂ = ((({ U with heap := s₂.heap, slotsUsed := s₂.slotsUsed } : State).setVm s₂.vm).setTop g).pushFrame (.throwing q) := by
      refine e3.trans ?_
      rw [hf₂, State.calling_eq h.top, State.setFrames_setFrames, State.pushFrame, State.frames_setTop _ hr', State.setTop_of_frames _ hr', State.setFrames_setFrames, hr]
      rfl
    have hsame : U.sameButNew ({ U with heap := s₂.heap, slotsUsed := s₂.slotsUsed } : State) L mc ms := by
      refine ⟨?_, q2, q3, q4, q5, q6⟩
      obtain ⟨t, ht, -⟩ := State.frames_cons hr
      show ({ U with heap := s₂.heap, slotsUsed := s₂.slotsUsed } : State) = { U.setFrames U.frames with heap := s₂.heap, slotsUsed := s₂.slotsUsed }
      rw [State.setFrames_self ht]
    subst hg
    refine Or.inr ⟨q, ⟨(({ U with heap := s₂.heap, slotsUsed := s₂.slotsUsed } : State).setVm s₂.vm), Ls ++ L, c0 + mc, s0 + ms⟩,
      ⟨X.admits, X.cas, X.clock, X.frames, X.room, X.hears, X.method, X.code, (X.here.setHeapUsed s₂.heap s₂.slotsUsed).setVm hW'.alike, X.tail, State.WarmedH.trans X.warmed hW', X.limits, X.bytes, X.same.trans (hsame.setVm s.vm)⟩,
      ⟨g, mk, s₂, L, E, ce, rfl, rfl, hx, hce, hcv, hcl, rfl, hL, rfl, rfl⟩, ?_⟩
    show Steps p.tables e below _ (((({ U with heap := s₂.heap, slotsUsed := s₂.slotsUsed } : State).setVm s₂.vm).setTop g).pushFrame (.throwing q))
    rw [← hs₂]
    exact hsteps
end
variable {p : Program} {l : Launch} {e : Env} {R : Room} {s : State} {m : MethodId} {args : Array Value} {below : List Frame} {meth : Method} {c : Code} {T : State} {H : Heap} {locs : List Loc} {cells slots : Nat}
theorem vx_callVX (X : Stand p l e R s m args below meth c T locs cells slots) (hexec : p.tables.exec = Jvm.exec) {own C : String} {index : Nat} {y : MethodName} {bytes : ByteArray} {maxL : Nat} {ret : Option FieldType} {hh : List (Nat × Nat × Nat × Nat)}
    (hown : s.vm.findClass own = some m.cls) (hlink : (Cond.methodLink own index y).before args s = true) (hinst : (Cond.instanceMethod y).before args s = true) (hsel : (Cond.selects C y y).before args s = true)
    (hcode : (Cond.codeWith y bytes maxL ret hh).before args s = true) (hy : y.cls ≠ "java/lang/invoke/MethodHandle" ∧ y.cls ≠ "java/lang/invoke/VarHandle")
    {W9 : Nat} {Pre : Pt → Array Value → Prop} {Post : Pt → Array Value → Option Value → Pt → Prop} {PostX : Pt → Array Value → Addr → Pt → Prop} (hK : vx_Back l R p e below s args y 3 W9 Pre Post PostX)
    {b : Addr} {cellB : Cell} (hcell : T.heap[b]? = some cellB) (hobj : cellB.vm.isStatics = false) (hcls : s.vm.findClass C = some cellB.cls)
    {g : JFrame} (hg : g.method = m) (hsize : g.locals.size = c.maxLocals) {argsL rest : List Value} (hlen : ∀ sig, parseMethodDescriptor y.desc = some sig → argsL.length = sig.parameters.length)
    (hstack : g.stack = argsL.reverse ++ .ref b :: rest) (hW : 2 * g.monitorRoom + (rest.map fun v => v.category).sum ≤ W9) (hdg : decode c.code g.pc = .ok (.invokevirtual index, 3))
    (hpre : ∀ vm₁, s.WarmedH vm₁ → Pre ⟨T.setVm vm₁, locs, cells, slots⟩ (Value.ref b :: argsL).toArray) :
    (∃ (v : Option Value) (vm₁ : Vm) (B : Pt), s.WarmedH vm₁ ∧ Stand p l e R s m args below meth c B.U B.locs B.cells B.slots ∧ Post ⟨T.setVm vm₁, locs, cells, slots⟩ (Value.ref b :: argsL).toArray v B ∧
      ∀ target, Steps p.tables e below (B.U.setTop { g with pc := g.pc + 3, stack := v.toList ++ rest }) target → Steps p.tables e below (T.setTop g) target) ∨
    (∃ (q : Addr) (vm₁ : Vm) (B : Pt), s.WarmedH vm₁ ∧ Stand p l e R s m args below meth c B.U B.locs B.cells B.slots ∧ PostX ⟨T.setVm vm₁, locs, cells, slots⟩ (Value.ref b :: argsL).toArray q B ∧
      Steps p.tables e below (T.setTop g) ((B.U.setTop { g with stack := rest }).pushFrame (.throwing q))) := by
  obtain ⟨mk, methM, hnamed, hmethM, hstM, habM⟩ := Cond.instanceMethod_spec hinst
  obtain ⟨m8, methM', cM, hn8, hmethM', -, -, -, -, -, -, hsigM⟩ := Cond.codeWith_spec hcode
  cases Option.some.inj (hn8.symm.trans hnamed)
  cases hmethM.symm.trans hmethM'
  obtain ⟨c2, r2, m2, q1, q2, q3, q4, kP, hkP, hkPi⟩ := Cond.selects_spec hsel
  cases hcls.symm.trans q1
  cases (State.methodFound?_of_named hnamed hy).symm.trans q2
  cases hnamed.symm.trans q3
  have hselP : selectMethod e.platform s.vm cellB.cls mk = .method mk := by rw [Launch.admits_selectMethod X.admits]; exact q4
  obtain ⟨vm₁, X₁, hstep₁⟩ := X.invokevirtual hexec hown hlink hnamed hmethM hstM hkP hkPi hy (a := b) (cell := cellB) hcell
    (fun z h => by rw [h] at hobj; cases hobj) hselP hmethM habM hkP hkPi (g := g) hg (argsL := argsL) (rest := rest) (hlen _ hsigM) hstack hdg
  rcases hK m meth c ⟨T.setVm vm₁, locs, cells, slots⟩ { g with stack := rest } (.invokevirtual index) mk (Value.ref b :: argsL).toArray X₁ hg hsize hdg hW (X₁.named hnamed) (hpre vm₁ X₁.warmed) with ⟨v, B, X', hpost, hsteps⟩ | ⟨q, B, X', hpost, hsteps⟩
  · exact Or.inl ⟨v, vm₁, B, X₁.warmed, X', hpost, fun target h => hstep₁ _ fun acts => by rw [doInvoke_state]; exact hsteps.trans h⟩
  · exact Or.inr ⟨q, vm₁, B, X₁.warmed, X', hpost, hstep₁ _ fun acts => by rw [doInvoke_state]; exact hsteps⟩
theorem vx_callSX (X : Stand p l e R s m args below meth c T locs cells slots) (hexec : p.tables.exec = Jvm.exec) {own : String} {index : Nat} {y : MethodName} {bytes : ByteArray} {maxL : Nat} {ret : Option FieldType} {hh : List (Nat × Nat × Nat × Nat)}
    (hown : s.vm.findClass own = some m.cls) (hlink : (Cond.methodLink own index y).before args s = true) (hstat : (Cond.static y).before args s = true) (hinit : (Cond.initialized y.cls).before args s = true)
    (hcode : (Cond.codeWith y bytes maxL ret hh).before args s = true) (hy : y.cls ≠ "java/lang/invoke/MethodHandle" ∧ y.cls ≠ "java/lang/invoke/VarHandle")
    {W9 : Nat} {Pre : Pt → Array Value → Prop} {Post : Pt → Array Value → Option Value → Pt → Prop} {PostX : Pt → Array Value → Addr → Pt → Prop} (hK : vx_Back l R p e below s args y 3 W9 Pre Post PostX)
    {g : JFrame} (hg : g.method = m) (hsize : g.locals.size = c.maxLocals) {argsL rest : List Value} (hlen : ∀ sig, parseMethodDescriptor y.desc = some sig → argsL.length = sig.parameters.length)
    (hstack : g.stack = argsL.reverse ++ rest) (hW : 2 * g.monitorRoom + (rest.map fun v => v.category).sum ≤ W9) (hdg : decode c.code g.pc = .ok (.invokestatic index, 3))
    (hpre : ∀ vm₁, s.WarmedH vm₁ → Pre ⟨T.setVm vm₁, locs, cells, slots⟩ argsL.toArray) :
    (∃ (v : Option Value) (vm₁ : Vm) (B : Pt), s.WarmedH vm₁ ∧ Stand p l e R s m args below meth c B.U B.locs B.cells B.slots ∧ Post ⟨T.setVm vm₁, locs, cells, slots⟩ argsL.toArray v B ∧
      ∀ target, Steps p.tables e below (B.U.setTop { g with pc := g.pc + 3, stack := v.toList ++ rest }) target → Steps p.tables e below (T.setTop g) target) ∨
    (∃ (q : Addr) (vm₁ : Vm) (B : Pt), s.WarmedH vm₁ ∧ Stand p l e R s m args below meth c B.U B.locs B.cells B.slots ∧ PostX ⟨T.setVm vm₁, locs, cells, slots⟩ argsL.toArray q B ∧
      Steps p.tables e below (T.setTop g) ((B.U.setTop { g with stack := rest }).pushFrame (.throwing q))) := by
  obtain ⟨mk, methM, cM, hnamed, hmethM, -, -, -, -, -, -, hsigM⟩ := Cond.codeWith_spec hcode
  have hstatic : methM.isStatic = true := Cond.static_spec hnamed hmethM hstat
  obtain ⟨kP, hkP, -⟩ := className_of_methodNamed hnamed
  have hinitP : kP.init = .initialized := Cond.initialized_spec (findClass_of_methodNamed hnamed) hkP hinit
  obtain ⟨vm₁, X₁, hstep₁⟩ := X.invokestatic hexec hown hlink hnamed hmethM hstatic hkP hinitP hy (g := g) hg (argsL := argsL) (rest := rest) (hlen _ hsigM) hstack hdg
  rcases hK m meth c ⟨T.setVm vm₁, locs, cells, slots⟩ { g with stack := rest } (.invokestatic index) mk argsL.toArray X₁ hg hsize hdg hW (X₁.named hnamed) (hpre vm₁ X₁.warmed) with ⟨v, B, X', hpost, hsteps⟩ | ⟨q, B, X', hpost, hsteps⟩
  · exact Or.inl ⟨v, vm₁, B, X₁.warmed, X', hpost, fun target h => hstep₁ _ fun acts => by rw [doInvoke_state]; exact hsteps.trans h⟩
  · exact Or.inr ⟨q, vm₁, B, X₁.warmed, X', hpost, hstep₁ _ fun acts => by rw [doInvoke_state]; exact hsteps⟩
theorem vx_callVW (X : Stand p l e R s m args below meth c T locs cells slots) (hexec : p.tables.exec = Jvm.exec) {own C : String} {index : Nat} {y : MethodName} {bytes : ByteArray} {maxL : Nat} {ret : Option FieldType} {hh : List (Nat × Nat × Nat × Nat)}
    (hown : s.vm.findClass own = some m.cls) (hlink : (Cond.methodLink own index y).before args s = true) (hinst : (Cond.instanceMethod y).before args s = true) (hsel : (Cond.selects C y y).before args s = true)
    (hcode : (Cond.codeWith y bytes maxL ret hh).before args s = true) (hy : y.cls ≠ "java/lang/invoke/MethodHandle" ∧ y.cls ≠ "java/lang/invoke/VarHandle")
    {W9 : Nat} {Pre : Pt → Array Value → Prop} {Post : Pt → Array Value → Option Value → Pt → Prop} (hK : Back l R p e below s args y 3 W9 Pre Post)
    {b : Addr} {cellB : Cell} (hcell : T.heap[b]? = some cellB) (hobj : cellB.vm.isStatics = false) (hcls : s.vm.findClass C = some cellB.cls)
    {g : JFrame} (hg : g.method = m) (hsize : g.locals.size = c.maxLocals) {argsL rest : List Value} (hlen : ∀ sig, parseMethodDescriptor y.desc = some sig → argsL.length = sig.parameters.length)
    (hstack : g.stack = argsL.reverse ++ .ref b :: rest) (hW : 2 * g.monitorRoom + (rest.map fun v => v.category).sum ≤ W9) (hdg : decode c.code g.pc = .ok (.invokevirtual index, 3))
    (hpre : ∀ vm₁, s.WarmedH vm₁ → Pre ⟨T.setVm vm₁, locs, cells, slots⟩ (Value.ref b :: argsL).toArray) :
    ∃ (v : Option Value) (vm₁ : Vm) (B : Pt), s.WarmedH vm₁ ∧ Stand p l e R s m args below meth c B.U B.locs B.cells B.slots ∧ Post ⟨T.setVm vm₁, locs, cells, slots⟩ (Value.ref b :: argsL).toArray v B ∧
      ∀ target, Steps p.tables e below (B.U.setTop { g with pc := g.pc + 3, stack := v.toList ++ rest }) target → Steps p.tables e below (T.setTop g) target := by
  obtain ⟨mk, methM, hnamed, hmethM, hstM, habM⟩ := Cond.instanceMethod_spec hinst
  obtain ⟨m8, methM', cM, hn8, hmethM', -, -, -, -, -, -, hsigM⟩ := Cond.codeWith_spec hcode
  cases Option.some.inj (hn8.symm.trans hnamed)
  cases hmethM.symm.trans hmethM'
  obtain ⟨c2, r2, m2, q1, q2, q3, q4, kP, hkP, hkPi⟩ := Cond.selects_spec hsel
  cases hcls.symm.trans q1
  cases (State.methodFound?_of_named hnamed hy).symm.trans q2
  cases hnamed.symm.trans q3
  have hselP : selectMethod e.platform s.vm cellB.cls mk = .method mk := by rw [Launch.admits_selectMethod X.admits]; exact q4
  obtain ⟨vm₁, X₁, hstep₁⟩ := X.invokevirtual hexec hown hlink hnamed hmethM hstM hkP hkPi hy (a := b) (cell := cellB) hcell
    (fun z h => by rw [h] at hobj; cases hobj) hselP hmethM habM hkP hkPi (g := g) hg (argsL := argsL) (rest := rest) (hlen _ hsigM) hstack hdg
  obtain ⟨v, B, X', hpost, hsteps⟩ := hK m meth c ⟨T.setVm vm₁, locs, cells, slots⟩ { g with stack := rest } (.invokevirtual index) mk (Value.ref b :: argsL).toArray X₁ hg hsize hdg hW (X₁.named hnamed) (hpre vm₁ X₁.warmed)
  exact ⟨v, vm₁, B, X₁.warmed, X', hpost, fun target h => hstep₁ _ fun acts => by rw [doInvoke_state]; exact hsteps.trans h⟩
abbrev vx_CVW (R : Room) (s : State) (args : Array Value) (own C : String) (index : Nat) (y : MethodName) (bytes : ByteArray) (maxL : Nat) (ret : Option FieldType) (hh : List (Nat × Nat × Nat × Nat)) (ws : List Cond) (rm : Room) (mc ms n : Nat) : Prop :=
  (rm.cells = mc ∧ rm.slots = ms ∧ rm.frames + 1 ≤ R.frames ∧ 8 + (maxL + 11) + rm.locals ≤ R.locals ∧ (∀ w ∈ ws, ∀ (a' : Array Value) (U : State), s.WarmedH U.vm → w.before a' U = true) ∧ Cond.codeWith y bytes maxL ret hh ∈ ws) ∧
  (Cond.codeWith y bytes maxL ret hh).before args s = true ∧ (Cond.initialized y.cls).before args s = true ∧ (y.cls ≠ "java/lang/invoke/MethodHandle" ∧ y.cls ≠ "java/lang/invoke/VarHandle") ∧
  (∀ sig, parseMethodDescriptor y.desc = some sig → n = sig.parameters.length) ∧ (Cond.methodLink own index y).before args s = true ∧ (Cond.instanceMethod y).before args s = true ∧ (Cond.selects C y y).before args s = true
theorem vx_cwVW {own C : String} {index maxL mc ms : Nat} {y : MethodName} {bytes : ByteArray} {ret : Option FieldType} {hh : List (Nat × Nat × Nat × Nat)} {Ts ws ws' : List Cond} {rm : Room} (n : Nat) (ht : ∀ w ∈ Ts, w.before args s = true) (hT : GoodIn Ts (wsV own index C y ws)) (hw : ws = Cond.codeWith y bytes maxL ret hh :: ws') (hrc : rm.cells = mc) (hrs : rm.slots = ms)
    (hd : y.cls = C ∧ y.cls ≠ "java/lang/invoke/MethodHandle" ∧ y.cls ≠ "java/lang/invoke/VarHandle" ∧ (parseMethodDescriptor y.desc).map (fun d => d.parameters.length) = some n) (hR : rm.frames + 1 ≤ R.frames ∧ 8 + (maxL + 11) + rm.locals ≤ R.locals) :
    vx_CVW R s args own C index y bytes maxL ret hh ws rm mc ms n := by
  obtain ⟨hC, hd⟩ := hd
  subst hC
  have ok : ∀ w ∈ wsV own index y.cls y ws, w.before args s = true := fun w h => ht w (hT w h).1
  have hG : GoodIn Ts ws := fun w h => hT w (by unfold wsV; exact List.mem_append_right _ h)
  have hc : Cond.codeWith y bytes maxL ret hh ∈ ws := by rw [hw]; exact List.mem_cons_self
  refine ⟨⟨hrc, hrs, hR.1, hR.2, pay_in ht hG, hc⟩, ht _ (hG _ hc).1, ok _ (by simp [wsV]), ⟨hd.1, hd.2.1⟩, fun sig h => ?_, ok _ (by simp [wsV]), ok _ (by simp [wsV]), ok _ (by simp [wsV])⟩
  have h2 := hd.2.2
  rw [h] at h2
  exact (Option.some.inj h2).symm
theorem vx_runVW {y : MethodName} {bytes cc : ByteArray} {maxL nL mc ms n index : Nat} {ret : Option FieldType} {hh : List (Nat × Nat × Nat × Nat)} {ws : List Cond} {rm : Room} {Pc : Array Value → State → Prop} {Qc : Array Value → State → Outcome → State → Prop} {free : Addr → Prop} {Ts : List Cond} {own C : String} {b : Addr} {As rest : List Value} {g : JFrame}
    (S : CallFix p m c cc nL s args Ts own) (hM : Met l y ws rm Pc Qc mc ms free) (cw : vx_CVW R s args own C index y bytes maxL ret hh ws rm mc ms n) (hp : PreV s H C b Pc As)
    (hg : g.method = m) (hn : As.length = n) (hsize : g.locals.size = nL) (hstack : g.stack = As.reverse ++ .ref b :: rest) (hW : 2 * g.monitorRoom + (rest.map fun v => v.category).sum ≤ 8) (hdg : decode cc g.pc = .ok (.invokevirtual index, 3)) (hf : cells + mc ≤ R.cells ∧ slots + ms ≤ R.slots) :
    va_Run p l e R s m args below meth c H locs cells slots mc ms g rest (Qc (Value.ref b :: As).toArray) free := by
  obtain ⟨⟨hrc, hrs, hfr, hlo, hws, hcw⟩, hcode, hini, hy, hlen, hl, hin, hse⟩ := cw
  have hK : Back l R p e below s args y 3 8 (PreOf R mc ms Pc) (PostOf Qc mc ms free) := va_backW (hh := hh) (bytes := bytes) (maxL := maxL) (ret := ret) hM hp.1 hrc hrs hfr hlo hws hcw (fun a' U hW => word_at hW (Or.inl (by first | rfl | simp [Cond.onTables, Cond.keeps, Cond.steady])) hini)
  obtain ⟨hx, hb, hml, ho, -⟩ := S
  obtain ⟨-, ⟨cellB, hcB, hoB, hclB⟩, hPc⟩ := hp
  intro T hT X
  obtain ⟨v, vm₁, ⟨U', l2, c2, s2⟩, hW₁, X', ⟨g', mk, t, L, e1, e2, hq, h1, hL, h2, h3⟩, st⟩ := vx_callVW X hx (C := C) (hh := hh) (bytes := bytes) (maxL := maxL) (ret := ret) ho hl hin hse hcode hy hK (by rw [hT]; exact hcB) hoB hclB hg (hsize.trans hml.symm) (argsL := As) (rest := rest) (fun sig h => hn.trans (hlen sig h)) hstack hW (by rw [hb]; exact hdg)
    (fun vm₁ hW₁ => ⟨hf.1, hf.2, hPc (T.setVm vm₁) hT hW₁⟩)
  dsimp only [Pt.U, Pt.locs, Pt.cells, Pt.slots] at X' e1 e2 h1 h2 h3 st
  subst h1; subst h2; subst h3
  exact ⟨v, (T.setVm vm₁).calling g' mk (Value.ref b :: As).toArray, t, U', L, hT, X', hL, e1, e2, hq, st⟩
section
variable {y : MethodName} {bytes cc : ByteArray} {maxL nL mc ms n index : Nat} {ret : Option FieldType} {ws : List Cond} {rm : Room} {Pc : Array Value → State → Prop} {Qc : Array Value → State → Outcome → State → Prop} {XC : String → State → State → Prop} {free : Addr → Prop} {Ts : List Cond} {own C : String} {b : Addr} {As rest : List Value} {g : JFrame}
theorem vx_runVX {hh : List (Nat × Nat × Nat × Nat)} (S : CallFix p m c cc nL s args Ts own) (hM : vx_Met l y ws rm Pc Qc XC mc ms free) (cw : vx_CVW R s args own C index y bytes maxL ret hh ws rm mc ms n) (hp : PreV s H C b Pc As)
    (hg : g.method = m) (hn : As.length = n) (hsize : g.locals.size = nL) (hstack : g.stack = As.reverse ++ .ref b :: rest) (hW : 2 * g.monitorRoom + (rest.map fun v => v.category).sum ≤ 8) (hdg : decode cc g.pc = .ok (.invokevirtual index, 3)) (hf : cells + mc ≤ R.cells ∧ slots + ms ≤ R.slots) :
    vx_Run p l e R s m args below meth c H locs cells slots mc ms g rest (Qc (Value.ref b :: As).toArray) XC free := by
  obtain ⟨⟨hrc, hrs, hfr, hlo, hws, hcw⟩, hcode, hini, hy, hlen, hl, hin, hse⟩ := cw
  have hK : vx_Back l R p e below s args y 3 8 (PreOf R mc ms Pc) (PostOf Qc mc ms free) (vx_Post XC mc ms free) := vx_backW (hh := hh) (bytes := bytes) (maxL := maxL) (ret := ret) hM hp.1 hrc hrs hfr hlo hws hcw (fun a' U hW => word_at hW (Or.inl (by first | rfl | simp [Cond.onTables, Cond.keeps, Cond.steady])) hini)
  obtain ⟨hx, hb, hml, ho, -⟩ := S
  obtain ⟨-, ⟨cellB, hcB, hoB, hclB⟩, hPc⟩ := hp
  intro T hT X
  rcases vx_callVX X hx (C := C) (hh := hh) (bytes := bytes) (maxL := maxL) (ret := ret) ho hl hin hse hcode hy hK (by rw [hT]; exact hcB) hoB hclB hg (hsize.trans hml.symm) (argsL := As) (rest := rest) (fun sig h => hn.trans (hlen sig h)) hstack hW (by rw [hb]; exact hdg)
    (fun vm₁ hW₁ => ⟨hf.1, hf.2, hPc (T.setVm vm₁) hT hW₁⟩) with ⟨v, vm₁, ⟨U', l2, c2, s2⟩, hW₁, X', ⟨g', mk, t, L, e1, e2, hq, h1, hL, h2, h3⟩, st⟩ | ⟨q, vm₁, ⟨U', l2, c2, s2⟩, hW₁, X', ⟨g', mk, t, L, E, ce, e1, e2, hq, hce, hcv, hcl, h1, hL, h2, h3⟩, st⟩
  · dsimp only [Pt.U, Pt.locs, Pt.cells, Pt.slots] at X' e1 e2 h1 h2 h3 st
    subst h1; subst h2; subst h3
    exact Or.inl ⟨v, (T.setVm vm₁).calling g' mk (Value.ref b :: As).toArray, t, U', L, hT, X', hL, e1, e2, hq, st⟩
  · dsimp only [Pt.U, Pt.locs, Pt.cells, Pt.slots] at X' e1 e2 h1 h2 h3 st hcl
    subst h1; subst h2; subst h3
    exact Or.inr ⟨q, (T.setVm vm₁).calling g' mk (Value.ref b :: As).toArray, t, U', L, E, ce, hT, X', hL, e1, e2, hq, hce, hcv, vx_cls hW₁ hcl, st⟩
theorem vx_runSX {hh : List (Nat × Nat × Nat × Nat)} (S : CallFix p m c cc nL s args Ts own) (hM : vx_Met l y ws rm Pc Qc XC mc ms free) (cw : vx_CSW R s args own index y bytes maxL ret hh ws rm mc ms n) (hp : PreS s H Pc As)
    (hg : g.method = m) (hn : As.length = n) (hsize : g.locals.size = nL) (hstack : g.stack = As.reverse ++ rest) (hW : 2 * g.monitorRoom + (rest.map fun v => v.category).sum ≤ 8) (hdg : decode cc g.pc = .ok (.invokestatic index, 3)) (hf : cells + mc ≤ R.cells ∧ slots + ms ≤ R.slots) :
    vx_Run p l e R s m args below meth c H locs cells slots mc ms g rest (Qc As.toArray) XC free := by
  obtain ⟨⟨hrc, hrs, hfr, hlo, hws, hcw⟩, hcode, hini, hy, hlen, hl, hstt⟩ := cw
  have hK : vx_Back l R p e below s args y 3 8 (PreOf R mc ms Pc) (PostOf Qc mc ms free) (vx_Post XC mc ms free) := vx_backW (hh := hh) (bytes := bytes) (maxL := maxL) (ret := ret) hM hp.1 hrc hrs hfr hlo hws hcw (fun a' U hW => word_at hW (Or.inl (by first | rfl | simp [Cond.onTables, Cond.keeps, Cond.steady])) hini)
  obtain ⟨hx, hb, hml, ho, -⟩ := S
  intro T hT X
  rcases vx_callSX X hx (hh := hh) (bytes := bytes) (maxL := maxL) (ret := ret) ho hl hstt hini hcode hy hK hg (hsize.trans hml.symm) (argsL := As) (rest := rest) (fun sig h => hn.trans (hlen sig h)) hstack hW (by rw [hb]; exact hdg)
    (fun vm₁ hW₁ => ⟨hf.1, hf.2, hp.2 (T.setVm vm₁) hT hW₁⟩) with ⟨v, vm₁, ⟨U', l2, c2, s2⟩, hW₁, X', ⟨g', mk, t, L, e1, e2, hq, h1, hL, h2, h3⟩, st⟩ | ⟨q, vm₁, ⟨U', l2, c2, s2⟩, hW₁, X', ⟨g', mk, t, L, E, ce, e1, e2, hq, hce, hcv, hcl, h1, hL, h2, h3⟩, st⟩
  · dsimp only [Pt.U, Pt.locs, Pt.cells, Pt.slots] at X' e1 e2 h1 h2 h3 st
    subst h1; subst h2; subst h3
    exact Or.inl ⟨v, (T.setVm vm₁).calling g' mk As.toArray, t, U', L, hT, X', hL, e1, e2, hq, st⟩
  · dsimp only [Pt.U, Pt.locs, Pt.cells, Pt.slots] at X' e1 e2 h1 h2 h3 st hcl
    subst h1; subst h2; subst h3
    exact Or.inr ⟨q, (T.setVm vm₁).calling g' mk As.toArray, t, U', L, E, ce, hT, X', hL, e1, e2, hq, hce, hcv, vx_cls hW₁ hcl, st⟩
end
end VXH
theorem vx_ofWH {l : Launch} {y : MethodName} {ws ws' : List Cond} {rm : Room} {Pc : Array Value → State → Prop} {Qc : Array Value → State → Outcome → State → Prop} {XC : String → State → State → Prop} {mc ms : Nat} {free : Addr → Prop} {cc : ByteArray} {maxL : Nat} {ret : Option FieldType} {hh : List (Nat × Nat × Nat × Nat)}
    (hy : plainName y.cls = true) (hw : ws = Cond.codeWith y cc maxL ret hh :: ws')
    (body : ∀ p e s m args below meth c s₁, BodyLoose p l y (headSpec ws rm) cc maxL ret e s m args below meth c s₁ → c.maxLocals = maxL → Pc args s →
      W p l e (headSpec ws rm).room s m args below meth c s.heap [] 0 0 (vx_MQ below Qc XC args s mc ms free) (entryFrame m args maxL)) : vx_Met l y ws rm Pc Qc XC mc ms free := by
  refine MetFree.of_bodyS (code := cc) (maxLocals := maxL) (ret := ret) hy ?_ ?_
  · intro args s m h hn
    obtain ⟨m9, meth, c, hn9, h1, h2, h3, h4, -, h5, h6, -⟩ := Cond.codeWith_spec (atoms_spec (ws := ws) h _ (by rw [hw]; exact List.mem_cons_self))
    cases hn.symm.trans hn9
    exact ⟨meth, c, h1, h2, h3, h4, h5, h6⟩
  · intro p e s m args below meth c s₁ B hml hP _
    have hh0 : s₁.heap = s.heap := by rw [B.state]; rfl
    obtain ⟨t, a1, o, b1, b2, b3⟩ := body p e s m args below meth c s₁ B hml hP s₁ hh0 (Stand.of_body B)
    exact ⟨t, o, a1, b1, b2, b3⟩
/-! ===== END ===== -/
/-! ===== BEGIN what the machine throws by itself, no traces kept ===== -/
section VXM
set_option maxHeartbeats 1000000 in
/-- the machine throws cls with the message text, no traces kept: from its note over the frame g to 'throwing' over the same frame (follows the proofs of Stand.vmThrowsMessage, Shelf/KitTracedVmS.lean, and Stand.throwsMessageColdBareV, StandMessageColdV.lean, without the step out of the frame) -/
theorem vx_vmAt {p : Program} {l : Launch} {e : Env} {R : Room} {s : State} {m₀ : MethodId} {args : Array Value} {below : List Frame} {meth : Method} {c : Code} {W : State} {locs : List Loc} {cells slots : Nat}
    (X : Stand p l e R s m₀ args below meth c W locs cells slots) (hexec : p.tables.exec = Jvm.exec) (htr : e.platform.stackTraces = false) {cls : String} {names : List String} {text : String}
    (hcls : Bundle.fit cls = true) (hnames : ∀ n ∈ names, Bundle.fit n = true) (hsoe : (cls == "java/lang/StackOverflowError") = false) (hoom : (cls == "java/lang/OutOfMemoryError") = false)
    (h : ∀ a ∈ Bundle.messageArmAtoms cls names, a.before args s = true)
    (hlocs : ∀ x ∈ locs, ∀ cell, s.heap[x.base]? = some cell → cell.vm.isStatics = false)
    (htext : (text == notModelled) = false) (hlimit : ¬ (stringBytes (stringToUtf16 text)).size > e.platform.arrayLengthLimit) (hheap : ¬ (stringBytes (stringToUtf16 text)).size * componentBytes .byte > e.platform.maxHeapBytes)
    {g : JFrame} (hg : g.method = m₀) (hsize : g.locals.size = c.maxLocals)
    (hRframes : names.length + 4 < R.frames) (hRlocals : 2 * g.monitorRoom + (g.stack.map fun v => v.category).sum + 10240 ≤ R.locals) (hshort : 13 * names.length + 55 ≤ 10240)
    (hRcells : cells + 3 ≤ R.cells) (hRslots : slots + ((stringBytes (stringToUtf16 text)).size + 4 + 6) ≤ R.slots) (hlocks : meth.locks = false) :
    ∃ (S : State) (q : Addr) (ce : Cell), (∀ target, Steps p.tables e below ((S.setTop g).pushFrame (.throwing q)) target → Steps p.tables e below ((W.setTop g).pushFrame (.throwNew cls (some text) none)) target) ∧
      Stand p l e R s m₀ args below meth c S locs (cells + 3) (slots + ((stringBytes (stringToUtf16 text)).size + 4 + 6)) ∧ S.heap[q]? = some ce ∧ s.vm.findClass cls = some ce.cls ∧ ce.vm = .none := by
  have howns : e.platform.frameOwnsMonitors = true := by rw [X.admits.platform]
  have hfin : e.platform.finalization = false := by rw [X.admits.platform]
  have hpl : e.platform.magicAccessors = ({} : Platform).magicAccessors := by rw [X.admits.platform]
  have a : ∀ x, x ∈ Bundle.messageArmAtoms cls names → x.holds args s none s [] = true := fun x hx => h x hx
  obtain ⟨T, Z0, L, -, Y⟩ := ThrowableC.of_atoms (args := args) howns hfin hpl (fun x hx => h x (by simp [Bundle.messageArmAtoms, hx]))
  obtain ⟨Z, M, LZ, LM, hnZ⟩ := Init0T.ofS_atoms (args := args) hpl L Y (fun x hx => h x (by simp [Bundle.messageArmAtoms, hx]))
  obtain ⟨P1, Ps, hlen, L1, hL, hP1m, hlink1, hlink⟩ := Bundle.chainS (args := args) hpl hnZ names cls hcls hnames (fun x hx => h x (by simp [Bundle.messageArmAtoms, hx]))
  obtain ⟨Zs, LZs, hn4, hfitv, hfitc⟩ := StringT.of_atoms (args := args) (fun x hx => h x (by simp [Bundle.messageArmAtoms, hx]))
  have hfound : s.vm.findClass cls = some P1.m.cls := findClass_of_methodNamed hP1m
  obtain ⟨c1, kX, hc1, hk, hord, -, -, hn6⟩ := Cond.instantiable_spec (a (.instantiable cls 6) (by simp [Bundle.messageArmAtoms]))
  cases Option.some.inj (hc1.symm.trans hfound)
  have hinit := Cond.initialized_spec hfound hk (a (.initialized cls) (by simp [Bundle.messageArmAtoms]))
  have hctor : kX.findMethod "<init>" "(Ljava/lang/String;)V" = some P1.m.idx := findMethod_of_methodNamed hP1m hk
  have hsel0 : selectMethod e.platform s.vm P1.m.cls T.fill0 = .method T.fill0 := by
    obtain ⟨c2, r2, m2, q1, q2, q3, q4, -⟩ := Cond.selects_spec (a (.selects cls Bundle.tFill0 Bundle.tFill0) (by simp [Bundle.messageArmAtoms]))
    cases Option.some.inj (q1.symm.trans hfound)
    cases Option.some.inj (q2.symm.trans (State.methodFound?_of_named Y.fill0 (by decide)))
    cases Option.some.inj (q3.symm.trans Y.fill0)
    rw [Launch.admits_selectMethod X.admits]; exact q4
  have hselF : selectMethod e.platform s.vm P1.m.cls T.fill = .method T.fill := by
    obtain ⟨c2, r2, m2, q1, q2, q3, q4, -⟩ := Cond.selects_spec (a (.selects cls Bundle.tFill Bundle.tFill) (by simp [Bundle.messageArmAtoms]))
    cases Option.some.inj (q1.symm.trans hfound)
    cases Option.some.inj (q2.symm.trans (State.methodFound?_of_named Y.fill (by decide)))
    cases Option.some.inj (q3.symm.trans Y.fill)
    rw [Launch.admits_selectMethod X.admits]; exact q4
  obtain ⟨cellS0, hcS0, hiss⟩ := Y.statics
  obtain ⟨u0, hu0⟩ := Cond.staticRefV Y.unassigned L.unassignedStatic L.statics hcS0 hiss (a (.isRef (.static Bundle.tN "UNASSIGNED_STACK" Bundle.steD)) (by simp [Bundle.messageArmAtoms]))
  obtain ⟨sen, hsen⟩ := Cond.staticRefV Y.sentinel L.sentinelStatic L.statics hcS0 hiss (a (.isRef (.static Bundle.tN "SUPPRESSED_SENTINEL" Bundle.listD)) (by simp [Bundle.messageArmAtoms]))
  obtain ⟨ci198, i198, fB, hk198, hg198, ha198, hsB, -, hnB, htB, hffB⟩ := Cond.ownField (t := .object "java/lang/Object") Y.found L.cls (by decide +kernel) (a (.fieldLink Bundle.tN 198 Bundle.tN "backtrace" "Ljava/lang/Object;") (by simp [Bundle.messageArmAtoms])) (a (.lays Bundle.tN Bundle.tN "backtrace" "Ljava/lang/Object;") (by simp [Bundle.messageArmAtoms])) e.platform hpl
  obtain ⟨cellS, hcS', heS, -, hkeep⟩ := X.same.2.2.2.2.2 T.aS cellS0 hcS0
  have hcellS : W.heap[T.aS]? = some cellS := hcS'
  have hout' : ∀ i, (⟨T.aS, i⟩ : Loc) ∉ locs := fun i hmem => by
    have := hlocs _ hmem cellS0 hcS0
    rw [hiss] at this; cases this
  have hknownS : cellS.vm ≠ .unknown := by
    rw [heS]; intro hu
    rw [show cellS0.vm = .unknown from hu] at hiss
    cases hiss
  have hvU : cellS.slots[T.fUnassigned.slot]? = some u0.v := by rw [hkeep _ (hout' _)]; exact hu0
  have hvSen : cellS.slots[T.fSentinel.slot]? = some sen.v := by rw [hkeep _ (hout' _)]; exact hsen
  obtain ⟨iM, hffM⟩ := Y.msg
  obtain ⟨tyC, dC, hdC, hdnC⟩ := Cond.laysAt hfound hk Y.cause (a (.lays cls Bundle.tN "cause" "Ljava/lang/Throwable;") (by simp [Bundle.messageArmAtoms]))
  obtain ⟨tyS, dS, hdS, hdnS⟩ := Cond.laysAt hfound hk Y.stack (a (.lays cls Bundle.tN "stackTrace" Bundle.steD) (by simp [Bundle.messageArmAtoms]))
  obtain ⟨tyP, dP, hdP, hdnP⟩ := Cond.laysAt hfound hk Y.supp (a (.lays cls Bundle.tN "suppressedExceptions" Bundle.listD) (by simp [Bundle.messageArmAtoms]))
  obtain ⟨tyM, dM, hdM, hdnM⟩ := Cond.laysAt hfound hk hffM (a (.lays cls Bundle.tN "detailMessage" "Ljava/lang/String;") (by simp [Bundle.messageArmAtoms]))
  obtain ⟨tyB, dB, hdB, hdnB⟩ := Cond.laysAt hfound hk hffB (a (.lays cls Bundle.tN "backtrace" "Ljava/lang/Object;") (by simp [Bundle.messageArmAtoms]))
  have bC := Cond.laysApart hdB hdC hdnB hdnC (by rw [hnB, Y.causeName]; decide)
  have bS := Cond.laysApart hdB hdS hdnB hdnS (by rw [hnB, Y.stackName]; decide)
  have bP := Cond.laysApart hdB hdP hdnB hdnP (by rw [hnB, Y.suppName]; decide)
  have hbk : ((preparedCellV T.toThrowableT (freshCell P1.m.cls kX) (W.heap.size + 2) u0 sen).withEntry W.cur).slots[fB.slot]? = some .null := by
    have := fresh_default (c := P1.m.cls) tyB
    rw [htB] at this
    simpa [preparedCellV, Cell.setSlot, Cell.withEntry, Array.getElem?_setIfInBounds, bC, bS, bP, bC.symm, bS.symm, bP.symm, defaultValue] using this
  have tkC := Takes.of_laid (v := .ref (W.heap.size + 2)) hk hord tyC (by rw [Y.causeType]; rfl)
  have tkS := Takes.of_laid (v := u0.v) hk hord tyS (by rw [Y.stackType]; exact fits_refV_array _ u0)
  have tkP := Takes.of_laid (v := sen.v) hk hord tyP (by rw [Y.suppType]; exact fits_refV_object _ sen)
  have tkM := Takes.of_laid (v := .ref (W.heap.size + 1)) hk hord tyM (by rw [Y.msgType]; rfl)
  have hskip : SkipFacts T e.platform s (fun u => u) u0 ((preparedCellV T.toThrowableT (freshCell P1.m.cls kX) (W.heap.size + 2) u0 sen).withEntry W.cur) := ⟨{ ci198 := ci198, i198 := i198, fBack := fB }, ⟨hk198, hg198, ha198, hsB⟩, hbk, fun _ _ => rfl⟩
  have h0 : At W g.method c below := by rw [hg]; exact X.here
  obtain ⟨hbeyond, hfreeW⟩ := X.vmMayThrow hsize (.throwNew cls (some text) none) (fun f hf => by cases hf) rfl hRlocals
  have hfr' : W.frames.length + Ps.length + 4 < (e.platform.stackLimits W.me).1 := by have := X.framesAbove hRframes; omega
  have hwd' : (stackUse (.java g :: W.frames.tail)).2 + 13 * Ps.length + 55 ≤ (e.platform.stackLimits W.me).2 := by have := X.stackAbove hsize (K := 13 * Ps.length + 55) (by omega); omega
  have hslots : W.slotsUsed + (stringBytes (stringToUtf16 text)).size + Zs.kS.instanceTypes.size + kX.instanceTypes.size ≤ e.platform.maxSlots := by
    have := X.slotsAbove hRslots
    rw [hn4, hn6]
    omega
  obtain ⟨vm', hW', st⟩ := Steps.vmThrowsMessageColdByV p (s₀ := s) (S := W) (g := g) h0 hexec T L Z LZ M LM X.warmed (t := W.cur) rfl Zs LZs P1 L1 Ps hL hlink1 hlink hsoe hoom hfound hk hinit hord hctor
    (Launch.admits_hotImplicitExceptions X.admits) hbeyond hfreeW htext hlimit hheap (X.cellsAbove hRcells) hslots (hfitv _) (hfitc _)
    (Nn := fun u => u) heapOnly_id (fun _ _ => rfl) (fun _ => rfl) (fun u x y => setCell_twice _ _ _ _) (fun _ => Nat.le_refl _) (cN := ((preparedCellV T.toThrowableT (freshCell P1.m.cls kX) (W.heap.size + 2) u0 sen).withEntry W.cur))
    hsel0 hcellS hknownS hvU tkS (fun _ hu => hu) (fun _ hu => hu) rfl rfl rfl (by simp [preparedCellV, Cell.setSlot, Cell.withEntry]) hskip (fun _ _ hA hW _ hroom _ hrest => L.nativeOff p htr hA hW hroom hrest) hselF hvSen tkC tkP tkM Y.objLocals rfl hfr' hwd'
  rw [plainBareV_eq T.toThrowableT (W.heap.size + 2) u0 sen (.ref (W.heap.size + 1)) W.cur rfl rfl] at st
  obtain ⟨-, -, w3, w4, -, -, -⟩ := withThrown_facts e.platform W Zs text P1.m.cls kX
  have X3 := ((X.pushed (bytesOf Zs.cB (stringToUtf16 text))).pushed (stringAt Zs.cS Zs.kS Zs.fv Zs.fc (stringToUtf16 text) W.heap.size)).pushed (freshCell P1.m.cls kX)
  rw [← withString_eq] at X3
  have X4 := X3.noted hW'
  have ha : (W.heap.size + 2) < ((withThrown W Zs text P1.m.cls kX).setVm vm').heap.size := by show _ < (withThrown W Zs text P1.m.cls kX).heap.size; rw [w3]; omega
  have hcell : ((withThrown W Zs text P1.m.cls kX).setVm vm').heap[(W.heap.size + 2)]? = some (freshCell P1.m.cls kX) := w4
  have X5 := ((((X4.stored hcell T.fCause.slot (.ref (W.heap.size + 2))).storedAgain ha T.fStack.slot u0.v).storedAgain ha T.fSupp.slot sen.v).storedAgain ha T.fStack.slot u0.v).storedAgain ha T.fMsg.slot (.ref (W.heap.size + 1))
  obtain ⟨g₁, hfrM⟩ := X5.frames_eq
  have hU : ((((withThrown W Zs text P1.m.cls kX).setVm vm').setCell (W.heap.size + 2) (plainBareV T.toThrowableT (freshCell P1.m.cls kX) (W.heap.size + 2) u0 sen (.ref (W.heap.size + 1)))).setTop g).pushFrame (.throwing (W.heap.size + 2)) = (((withThrown W Zs text P1.m.cls kX).setVm vm').setCell (W.heap.size + 2) (plainBareV T.toThrowableT (freshCell P1.m.cls kX) (W.heap.size + 2) u0 sen (.ref (W.heap.size + 1)))).setFrames (.throwing (W.heap.size + 2) :: .java g :: below) := by
    rw [State.pushFrame, State.frames_setTop _ hfrM, State.setTop_of_frames _ hfrM, State.setFrames_setFrames]
  have b1 : (bytesOf Zs.cB (stringToUtf16 text)).slots.size = (stringBytes (stringToUtf16 text)).size := by
    rw [(Cell.writeAll_facts _ _).2.2]; simp [bytes0]
  have b2 : (stringAt Zs.cS Zs.kS Zs.fv Zs.fc (stringToUtf16 text) W.heap.size).slots.size = 4 := by simp [string0, Cell.setSlot, hn4]
  have b3 : (freshCell P1.m.cls kX).slots.size = 6 := by simp [hn6]
  rw [b1, b2, b3] at X5
  have e9 : slots + (stringBytes (stringToUtf16 text)).size + 4 + 6 = slots + ((stringBytes (stringToUtf16 text)).size + 4 + 6) := by omega
  rw [e9] at X5
  simp only [List.append_assoc, List.cons_append, List.nil_append] at X5
  refine ⟨((withThrown W Zs text P1.m.cls kX).setVm vm').setCell (W.heap.size + 2) (plainBareV T.toThrowableT (freshCell P1.m.cls kX) (W.heap.size + 2) u0 sen (.ref (W.heap.size + 1))), W.heap.size + 2, _, fun target ht => st _ (by rw [X.tail, ← hU]; exact ht),
    X5.forget (fun y hy => ?_), heapAt_setCell_self _ ha, hfound, rfl⟩
  simp only [List.mem_cons, List.not_mem_nil, or_false] at hy
  have hge : s.heap.size ≤ W.heap.size := X.same.2.1
  rcases hy with rfl | rfl | rfl | rfl | rfl <;> exact Nat.le_trans hge (Nat.le_add_right _ 2)
set_option maxHeartbeats 1000000 in
/-- the machine throws NullPointerException, no traces kept: from its note over the frame g to 'throwing' over the same frame (follows the proof of Stand.vmThrowsNpe, Shelf42/KT2.lean; throwsNpeColdBareVAt, Shelf42/NT91.lean, called) -/
theorem vx_npeAt {p : Program} {l : Launch} {e : Env} {R : Room} {s : State} {m₀ : MethodId} {args : Array Value} {below : List Frame} {meth : Method} {c : Code} {W : State} {locs : List Loc} {cells slots : Nat}
    (X : Stand p l e R s m₀ args below meth c W locs cells slots) (hexec : p.tables.exec = Jvm.exec) (htr : e.platform.stackTraces = false) {n : Nat}
    (h : ∀ a ∈ Bundle.npeArmAtoms n, a.before args s = true)
    (hlocs : ∀ x ∈ locs, ∀ cell, s.heap[x.base]? = some cell → cell.vm.isStatics = false)
    {g : JFrame} (hg : g.method = m₀) (hsize : g.locals.size = c.maxLocals)
    (hRframes : 7 < R.frames) (hRlocals : 2 * g.monitorRoom + (g.stack.map fun v => v.category).sum + 10240 ≤ R.locals)
    (hRcells : cells + 1 ≤ R.cells) (hRslots : slots + n ≤ R.slots) (hlocks : meth.locks = false) :
    ∃ (S : State) (q : Addr) (ce : Cell), (∀ target, Steps p.tables e below ((S.setTop g).pushFrame (.throwing q)) target → Steps p.tables e below ((W.setTop g).pushFrame (.throwNew "java/lang/NullPointerException" none none)) target) ∧
      Stand p l e R s m₀ args below meth c S locs (cells + 1) (slots + n) ∧ S.heap[q]? = some ce ∧ s.vm.findClass "java/lang/NullPointerException" = some ce.cls ∧ ce.vm = .none := by
  have howns : e.platform.frameOwnsMonitors = true := by rw [X.admits.platform]
  have hfin : e.platform.finalization = false := by rw [X.admits.platform]
  have hpl : e.platform.magicAccessors = ({} : Platform).magicAccessors := by rw [X.admits.platform]
  have hpl2 : e.platform.arrayCloneIsPublic = true := by rw [X.admits.platform]
  have a' : ∀ x, x ∈ Bundle.npeArmAtoms n → x.holds args s none s [] = true := fun x hx => h x hx
  obtain ⟨T, Z, L, LZ, Y⟩ := ThrowableC.of_atoms (args := args) howns hfin hpl (fun x hx => h x (by simp [Bundle.npeArmAtoms, hx]))
  obtain ⟨N, LN, hcN, hnNF, hordN, hffS⟩ := NpeC.of_atoms (args := args) hpl hpl2 L Y (fun x hx => h x (by simp [Bundle.npeArmAtoms, hx]))
  obtain ⟨P1, L1, hP1m, hP1s⟩ := PassC.of_atoms (args := args) (s := s) hpl (X := Bundle.nN) (Y := Bundle.rN) (by decide) (by decide) LibCode.NullPointerException.Init0.at_0 LibCode.NullPointerException.Init0.at_1 LibCode.NullPointerException.Init0.at_4 (fun x hx => h x (by simp [Bundle.npeArmAtoms, hx]))
  obtain ⟨PR, LR, hPRm, hPRs⟩ := PassC.of_atoms (args := args) (s := s) hpl (X := Bundle.rN) (Y := Bundle.eN) (by decide) (by decide) LibCode.RuntimeException.Init0.at_0 LibCode.RuntimeException.Init0.at_1 LibCode.RuntimeException.Init0.at_4 (fun x hx => h x (by simp [Bundle.npeArmAtoms, hx]))
  obtain ⟨PE, LEx, hPEm, hPEs⟩ := PassC.of_atoms (args := args) (s := s) hpl (X := Bundle.eN) (Y := Bundle.tN) (by decide) (by decide) LibCode.Exception.Init0.at_0 LibCode.Exception.Init0.at_1 LibCode.Exception.Init0.at_4 (fun x hx => h x (by simp [Bundle.npeArmAtoms, hx]))
  have hfound : s.vm.findClass Bundle.nN = some P1.m.cls := findClass_of_methodNamed hP1m
  have ecls : N.cN = P1.m.cls := Option.some.inj (hcN.symm.trans hfound)
  have hk : s.vm.classes[P1.m.cls]? = some N.kN := by rw [← ecls]; exact LN.cls
  have hinit := Cond.initialized_spec hfound hk (a' (.initialized Bundle.nN) (by simp [Bundle.npeArmAtoms]))
  have hctor : N.kN.findMethod "<init>" "()V" = some P1.m.idx := findMethod_of_methodNamed hP1m hk
  obtain ⟨c1, k1, hc1, hk1, -, -, -, hn⟩ := Cond.instantiable_spec (a' (.instantiable Bundle.nN n) (by simp [Bundle.npeArmAtoms]))
  cases Option.some.inj (hc1.symm.trans hfound)
  cases Option.some.inj (hk1.symm.trans hk)
  have hfsz : (freshCell P1.m.cls N.kN).slots.size = n := by simp [hn]
  have hlink1 : P1.sup = PR.m := Option.some.inj (hP1s.symm.trans hPRm)
  have hlinkR : PR.sup = PE.m := Option.some.inj (hPRs.symm.trans hPEm)
  have hlinkE : PE.sup = Z.m T.toThrowableT := Option.some.inj (hPEs.symm.trans Y.init0)
  have hLs : ∀ P, P ∈ [PR, PE] → P.Links0 e.platform s := fun P hP => by
    simp only [List.mem_cons, List.not_mem_nil, or_false] at hP
    rcases hP with rfl | rfl
    · exact LR
    · exact LEx
  have hsel0 : selectMethod e.platform s.vm P1.m.cls T.fill0 = .method T.fill0 := by
    obtain ⟨c2, r2, m2, q1, q2, q3, q4, -⟩ := Cond.selects_spec (a' (.selects Bundle.nN Bundle.tFill0 Bundle.tFill0) (by simp [Bundle.npeArmAtoms]))
    cases Option.some.inj (q1.symm.trans hfound)
    cases Option.some.inj (q2.symm.trans (State.methodFound?_of_named Y.fill0 (by decide)))
    cases Option.some.inj (q3.symm.trans Y.fill0)
    rw [Launch.admits_selectMethod X.admits]; exact q4
  have hselF : selectMethod e.platform s.vm P1.m.cls T.fill = .method N.fill := by
    obtain ⟨c2, r2, m2, q1, q2, q3, q4, -⟩ := Cond.selects_spec (a' (.selects Bundle.nN Bundle.tFill Bundle.nFill) (by simp [Bundle.npeArmAtoms]))
    cases Option.some.inj (q1.symm.trans hfound)
    cases Option.some.inj (q2.symm.trans (State.methodFound?_of_named Y.fill (by decide)))
    cases Option.some.inj (q3.symm.trans hnNF)
    rw [Launch.admits_selectMethod X.admits]; exact q4
  obtain ⟨cellS0, hcS0, hiss⟩ := Y.statics
  obtain ⟨u0, hu0⟩ := Cond.staticRefV Y.unassigned L.unassignedStatic L.statics hcS0 hiss (a' (.isRef (.static Bundle.tN "UNASSIGNED_STACK" Bundle.steD)) (by simp [Bundle.npeArmAtoms]))
  obtain ⟨sen, hsen⟩ := Cond.staticRefV Y.sentinel L.sentinelStatic L.statics hcS0 hiss (a' (.isRef (.static Bundle.tN "SUPPRESSED_SENTINEL" Bundle.listD)) (by simp [Bundle.npeArmAtoms]))
  obtain ⟨ci198, i198, fB, hk198, hg198, ha198, hsB, -, hnB, htB, hffB⟩ := Cond.ownField (t := .object "java/lang/Object") Y.found L.cls (by decide +kernel) (a' (.fieldLink Bundle.tN 198 Bundle.tN "backtrace" Bundle.objD) (by simp [Bundle.npeArmAtoms])) (a' (.lays Bundle.tN Bundle.tN "backtrace" Bundle.objD) (by simp [Bundle.npeArmAtoms])) e.platform hpl
  obtain ⟨cellS, hcS', heS, -, hkeep⟩ := X.same.2.2.2.2.2 T.aS cellS0 hcS0
  have hcellS : W.heap[T.aS]? = some cellS := hcS'
  have hout' : ∀ i, (⟨T.aS, i⟩ : Loc) ∉ locs := fun i hmem => by
    have := hlocs _ hmem cellS0 hcS0
    rw [hiss] at this; cases this
  have hknownS : cellS.vm ≠ .unknown := by
    rw [heS]; intro hu
    rw [show cellS0.vm = .unknown from hu] at hiss
    cases hiss
  have hvU : cellS.slots[T.fUnassigned.slot]? = some u0.v := by rw [hkeep _ (hout' _)]; exact hu0
  have hvSen : cellS.slots[T.fSentinel.slot]? = some sen.v := by rw [hkeep _ (hout' _)]; exact hsen
  obtain ⟨tyC, dC, hdC, hdnC⟩ := Cond.laysAt hfound hk Y.cause (a' (.lays Bundle.nN Bundle.tN "cause" "Ljava/lang/Throwable;") (by simp [Bundle.npeArmAtoms]))
  obtain ⟨tyS, dS, hdS, hdnS⟩ := Cond.laysAt hfound hk Y.stack (a' (.lays Bundle.nN Bundle.tN "stackTrace" Bundle.steD) (by simp [Bundle.npeArmAtoms]))
  obtain ⟨tyP, dP, hdP, hdnP⟩ := Cond.laysAt hfound hk Y.supp (a' (.lays Bundle.nN Bundle.tN "suppressedExceptions" Bundle.listD) (by simp [Bundle.npeArmAtoms]))
  obtain ⟨tyX, dX, hdX, hdnX⟩ := Cond.laysAt hfound hk hffS (a' (.lays Bundle.nN Bundle.nN "extendedMessageState" "I") (by simp [Bundle.npeArmAtoms, Bundle.npeAtoms]))
  obtain ⟨hnX, htX⟩ := State.fieldFound?_type hffS (t := .int) (by decide +kernel)
  have xC := Cond.laysApart hdC hdX hdnC hdnX (by rw [hnX, Y.causeName]; decide)
  have xS := Cond.laysApart hdS hdX hdnS hdnX (by rw [hnX, Y.stackName]; decide)
  have xP := Cond.laysApart hdP hdX hdnP hdnX (by rw [hnX, Y.suppName]; decide)
  have hv0 : (freshCell P1.m.cls N.kN).slots[N.fState.slot]? = some (.int 0) := by
    have := fresh_default (c := P1.m.cls) tyX
    rw [htX] at this; exact this
  obtain ⟨tyB, dB, hdB, hdnB⟩ := Cond.laysAt hfound hk hffB (a' (.lays Bundle.nN Bundle.tN "backtrace" Bundle.objD) (by simp [Bundle.npeArmAtoms]))
  have bC := Cond.laysApart hdB hdC hdnB hdnC (by rw [hnB, Y.causeName]; decide)
  have bS := Cond.laysApart hdB hdS hdnB hdnS (by rw [hnB, Y.stackName]; decide)
  have bP := Cond.laysApart hdB hdP hdnB hdnP (by rw [hnB, Y.suppName]; decide)
  have bX := Cond.laysApart hdB hdX hdnB hdnX (by rw [hnB, hnX]; decide)
  have hbk : ((npeCell N.toNpeT (preparedCellV T.toThrowableT (freshCell P1.m.cls N.kN) W.heap.size u0 sen) W.cur).withEntry W.cur).slots[fB.slot]? = some .null := by
    have := fresh_default (c := P1.m.cls) tyB
    rw [htB] at this
    simpa [npeCell, preparedCellV, Cell.setSlot, Cell.withEntry, Array.getElem?_setIfInBounds, bC, bS, bP, bX, bC.symm, bS.symm, bP.symm, bX.symm, defaultValue] using this
  have tkC := Takes.of_laid (v := .ref W.heap.size) hk hordN tyC (by rw [Y.causeType]; rfl)
  have tkS := Takes.of_laid (v := u0.v) hk hordN tyS (by rw [Y.stackType]; exact fits_refV_array _ u0)
  have tkP := Takes.of_laid (v := sen.v) hk hordN tyP (by rw [Y.suppType]; exact fits_refV_object _ sen)
  have tkX := Takes.of_laid (v := .int 1) hk hordN tyX (by rw [htX]; rfl)
  have hskip : SkipFacts T e.platform s (fun u => u) u0 ((npeCell N.toNpeT (preparedCellV T.toThrowableT (freshCell P1.m.cls N.kN) W.heap.size u0 sen) W.cur).withEntry W.cur) := ⟨{ ci198 := ci198, i198 := i198, fBack := fB }, ⟨hk198, hg198, ha198, hsB⟩, hbk, fun _ _ => rfl⟩
  obtain ⟨vm', X3, st, -⟩ := X.throwsNpeColdBareVAt hexec hg hsize T L Z LZ N LN P1 L1 [PR, PE] hLs hlink1 ⟨hlinkR, hlinkE, trivial⟩ hfound hk hinit hordN hctor hsel0 hselF hcellS hknownS hvU hvSen
    hv0 xC xS xP tkC tkS tkP tkX Y.objLocals hskip (fun _ _ hA hW _ hroom _ hrest => L.nativeOff p htr hA hW hroom hrest) (by simpa using hRframes) hRlocals (by simp) hRcells (by rw [hn]; exact hRslots)
  have hlt : W.heap.size < ((W.pushCell (freshCell P1.m.cls N.kN)).setVm vm').heap.size := by
    show W.heap.size < (W.pushCell (freshCell P1.m.cls N.kN)).heap.size
    rw [State.heap_size_pushCell]; omega
  rw [hfsz] at X3
  obtain ⟨g₁, hfrM⟩ := X3.frames_eq
  have hU : ((((W.pushCell (freshCell P1.m.cls N.kN)).setVm vm').setCell W.heap.size (npeBareV T.toThrowableT N.toNpeT (freshCell P1.m.cls N.kN) W.heap.size u0 sen)).setTop g).pushFrame (.throwing W.heap.size) = (((W.pushCell (freshCell P1.m.cls N.kN)).setVm vm').setCell W.heap.size (npeBareV T.toThrowableT N.toNpeT (freshCell P1.m.cls N.kN) W.heap.size u0 sen)).setFrames (.throwing W.heap.size :: .java g :: below) := by
    rw [State.pushFrame, State.frames_setTop _ hfrM, State.setTop_of_frames _ hfrM, State.setFrames_setFrames]
  refine ⟨_, W.heap.size, _, fun target ht => st.trans (by rw [← hU]; exact ht), X3.forget (fun y hy => ?_), heapAt_setCell_self _ hlt, hfound, rfl⟩
  simp only [List.mem_cons, List.not_mem_nil, or_false] at hy
  have hge : s.heap.size ≤ W.heap.size := X.same.2.1
  rcases hy with rfl | rfl | rfl | rfl | rfl <;> exact hge
/-- the words of a machine's NullPointerException, but the four that speak of the heap -/
def vx_atN (n : Nat) : List Cond := (Bundle.npeArmAtoms n).filter vx_no
/-- the words of a machine's throw with a message, but the four that speak of the heap -/
def vx_atM (X : String) (names : List String) : List Cond := (Bundle.messageArmAtoms X names).filter vx_no
section
variable {p : Program} {l : Launch} {e : Env} {R : Room} {s : State} {m : MethodId} {args : Array Value} {below : List Frame} {meth : Method} {c : Code} {H : Heap} {locs : List Loc} {cells slots : Nat}
/-- a frame seen from a rebased start, seen from the first start again -/
theorem vx_back9 {T S : State} {R' : Room} {k n : Nat} (X : Stand p l e R s m args below meth c T locs cells slots) (Y : Stand p l e R' ((T.setVm s.vm).setFrames (.invoking m args :: below)) m args below meth c T [] 0 0) (Z : Stand p l e R' ((T.setVm s.vm).setFrames (.invoking m args :: below)) m args below meth c S [] k n) :
    Stand p l e R s m args below meth c S locs (cells + k) (slots + n) := by
  have hW0 : s.WarmedH ((T.setVm s.vm).setFrames (.invoking m args :: below)).vm := State.WarmedH.refl s
  refine { admits := X.admits, cas := X.cas, clock := X.clock, frames := X.frames, room := X.room, hears := X.hears, method := X.method, code := X.code, here := Z.here, tail := Z.tail, warmed := State.WarmedH.trans hW0 Z.warmed, limits := Z.limits.trans (Y.limits.symm.trans X.limits), bytes := Z.bytes.trans (Y.bytes.symm.trans X.bytes), same := ?_ }
  obtain ⟨e1, e2⟩ := Z.same
  rw [State.setFrames_setFrames] at e1
  have h2 : (T.setVm s.vm).sameButNew (S.setVm s.vm) [] k n := ⟨e1, e2⟩
  have h3 := X.same.trans h2
  rw [List.append_nil] at h3
  exact h3
/-- from the machine's note that E is thrown here with this text -/
def vx_Note (p : Program) (l : Launch) (e : Env) (R : Room) (s : State) (m : MethodId) (args : Array Value) (below : List Frame) (meth : Method) (c : Code) (H : Heap) (locs : List Loc) (cells slots : Nat) (Q : State → Prop) (g : JFrame) (E text : String) : Prop :=
  ∀ T : State, T.heap = H → Stand p l e R s m args below meth c T locs cells slots → ∃ t, Steps p.tables e below ((T.setTop g).pushFrame (.throwNew E (some text) none)) t ∧ Q t
theorem vx_vm {pc : Nat} {ls : Array Slot} {rest : List Value} {Q : State → Prop} (hexec : p.tables.exec = Jvm.exec) (hl : l.stackTraces = false) {cls text : String} {names : List String} {nb : Nat} {A : Nat → Prop}
    (hcls : Bundle.fit cls = true) (hnames : ∀ n ∈ names, Bundle.fit n = true) (hsoe : (cls == "java/lang/StackOverflowError") = false) (hoom : (cls == "java/lang/OutOfMemoryError") = false)
    (hat : ∀ w ∈ vx_atM cls names, w.before args s = true) (hgood : ∀ w ∈ vx_atM cls names, vx_ot w = true)
    (hU : vx_Zq Bundle.tN "UNASSIGNED_STACK" Bundle.steD A s s.heap) (hN : vx_Zq Bundle.tN "SUPPRESSED_SENTINEL" Bundle.listD A s s.heap) (hS : va_S A s.heap H locs) (hsize : ls.size = c.maxLocals)
    (htext : (text == notModelled) = false) (hnb : (stringBytes (stringToUtf16 text)).size ≤ nb) (hnb1 : nb ≤ 1000)
    (hRframes : names.length + 4 < R.frames) (hRlocals : (rest.map fun v => v.category).sum + 10240 ≤ R.locals) (hshort : 13 * names.length + 55 ≤ 10240) (hRcells : cells + 3 ≤ R.cells) (hRslots : slots + (nb + 10) ≤ R.slots) (hlocks : meth.locks = false)
    (k : ∀ (H1 : Heap) (q9 : Addr) (ce : Cell), H.size ≤ H1.size → (∀ q : Nat, q < H.size → H1[q]? = H[q]?) → va_S A s.heap H1 locs → H1[q9]? = some ce → ce.vm = .none → s.vm.findClass cls = some ce.cls → vx_W p l e R s m args below meth c H1 locs (cells + 3) (slots + (nb + 10)) Q (F0 m pc ls rest) q9) :
    vx_Note p l e R s m args below meth c H locs cells slots Q (F0 m pc ls rest) cls text := by
  intro T hT X
  have htr : e.platform.stackTraces = false := (show e.platform.stackTraces = l.stackTraces by rw [X.admits.platform]).trans hl
  have Y := vx_rebase X (R' := { frames := R.frames, locals := R.locals, cells := 3, slots := nb + 10 }) (Nat.le_refl _) (Nat.le_refl _) hRcells hRslots
  have hhp : ((T.setVm s.vm).setFrames (.invoking m args :: below)).heap = H := hT
  have hW0 : s.WarmedH ((T.setVm s.vm).setFrames (.invoking m args :: below)).vm := State.WarmedH.refl s
  have hat' : ∀ w ∈ vx_atM cls names, w.before args ((T.setVm s.vm).setFrames (.invoking m args :: below)) = true := fun w hw => vx_ot_at hW0 rfl (hgood w hw) (hat w hw)
  have hU' : vx_Zq Bundle.tN "UNASSIGNED_STACK" Bundle.steD A ((T.setVm s.vm).setFrames (.invoking m args :: below)) ((T.setVm s.vm).setFrames (.invoking m args :: below)).heap := by rw [hhp]; exact vx_Zq.moved hW0.alike (hU.kept hS.2.1)
  have hN' : vx_Zq Bundle.tN "SUPPRESSED_SENTINEL" Bundle.listD A ((T.setVm s.vm).setFrames (.invoking m args :: below)) ((T.setVm s.vm).setFrames (.invoking m args :: below)).heap := by rw [hhp]; exact vx_Zq.moved hW0.alike (hN.kept hS.2.1)
  obtain ⟨S, q, ce, st, Z, hce, hcl', hv⟩ := vx_vmAt Y hexec htr (cls := cls) (names := names) (text := text) hcls hnames hsoe hoom (vx_own hat' (vx_isRefq hU'.1) (vx_isRefq hN'.1) hU'.2.word hN'.2.word) (fun x hx => nomatch hx) htext
    (by rw [Launch.admits_arrayLengthLimit X.admits]; omega) (by rw [Launch.admits_maxHeapBytes X.admits]; simp only [componentBytes]; omega)
    (g := F0 m pc ls rest) rfl hsize hRframes (by show 2 * 0 + (rest.map fun v => v.category).sum + 10240 ≤ R.locals; omega) hshort (by show 0 + 3 ≤ 3; omega) (by show 0 + (_ + 4 + 6) ≤ nb + 10; omega) hlocks
  obtain ⟨f1, f2⟩ := vx_frame Z.same
  have f1' : H.size ≤ S.heap.size := by rw [← hT]; exact f1
  have f2' : ∀ q : Nat, q < H.size → S.heap[q]? = H[q]? := fun q hq => by
    rw [← hT]
    exact f2 q (by rw [← hT] at hq; exact hq) (fun z hz => nomatch hz)
  have X5 := vx_back9 X Y Z
  have X6 : Stand p l e R s m args below meth c S locs (cells + 3) (slots + (nb + 10)) := { X5 with same := X5.same.mono (by omega) (by omega) }
  obtain ⟨t, a1, b1⟩ := k S.heap q ce f1' f2' ⟨Nat.le_trans hS.1 f1', fun q h1 h2 => (f2' q (Nat.lt_of_lt_of_le h1 hS.1)).trans (hS.2.1 q h1 h2), hS.2.2⟩ hce hv hcl' S rfl X6
  exact ⟨t, st t a1, b1⟩
/-- from the machine's note that NullPointerException is thrown here -/
def vx_NoteN (p : Program) (l : Launch) (e : Env) (R : Room) (s : State) (m : MethodId) (args : Array Value) (below : List Frame) (meth : Method) (c : Code) (H : Heap) (locs : List Loc) (cells slots : Nat) (Q : State → Prop) (g : JFrame) : Prop :=
  ∀ T : State, T.heap = H → Stand p l e R s m args below meth c T locs cells slots → ∃ t, Steps p.tables e below ((T.setTop g).pushFrame (.throwNew "java/lang/NullPointerException" none none)) t ∧ Q t
theorem vx_npe {pc : Nat} {ls : Array Slot} {rest : List Value} {Q : State → Prop} (hexec : p.tables.exec = Jvm.exec) (hl : l.stackTraces = false) {nb : Nat} {A : Nat → Prop}
    (hat : ∀ w ∈ vx_atN nb, w.before args s = true) (hgood : ∀ w ∈ vx_atN nb, vx_ot w = true)
    (hU : vx_Zq Bundle.tN "UNASSIGNED_STACK" Bundle.steD A s s.heap) (hN : vx_Zq Bundle.tN "SUPPRESSED_SENTINEL" Bundle.listD A s s.heap) (hS : va_S A s.heap H locs) (hsize : ls.size = c.maxLocals)
    (hRframes : 7 < R.frames) (hRlocals : (rest.map fun v => v.category).sum + 10240 ≤ R.locals) (hRcells : cells + 1 ≤ R.cells) (hRslots : slots + nb ≤ R.slots) (hlocks : meth.locks = false)
    (k : ∀ (H1 : Heap) (q9 : Addr) (ce : Cell), H.size ≤ H1.size → (∀ q : Nat, q < H.size → H1[q]? = H[q]?) → va_S A s.heap H1 locs → H1[q9]? = some ce → ce.vm = .none → s.vm.findClass "java/lang/NullPointerException" = some ce.cls → vx_W p l e R s m args below meth c H1 locs (cells + 1) (slots + nb) Q (F0 m pc ls rest) q9) :
    vx_NoteN p l e R s m args below meth c H locs cells slots Q (F0 m pc ls rest) := by
  intro T hT X
  have htr : e.platform.stackTraces = false := (show e.platform.stackTraces = l.stackTraces by rw [X.admits.platform]).trans hl
  have Y := vx_rebase X (R' := { frames := R.frames, locals := R.locals, cells := 1, slots := nb }) (Nat.le_refl _) (Nat.le_refl _) hRcells hRslots
  have hhp : ((T.setVm s.vm).setFrames (.invoking m args :: below)).heap = H := hT
  have hW0 : s.WarmedH ((T.setVm s.vm).setFrames (.invoking m args :: below)).vm := State.WarmedH.refl s
  have hat' : ∀ w ∈ vx_atN nb, w.before args ((T.setVm s.vm).setFrames (.invoking m args :: below)) = true := fun w hw => vx_ot_at hW0 rfl (hgood w hw) (hat w hw)
  have hU' : vx_Zq Bundle.tN "UNASSIGNED_STACK" Bundle.steD A ((T.setVm s.vm).setFrames (.invoking m args :: below)) ((T.setVm s.vm).setFrames (.invoking m args :: below)).heap := by rw [hhp]; exact vx_Zq.moved hW0.alike (hU.kept hS.2.1)
  have hN' : vx_Zq Bundle.tN "SUPPRESSED_SENTINEL" Bundle.listD A ((T.setVm s.vm).setFrames (.invoking m args :: below)) ((T.setVm s.vm).setFrames (.invoking m args :: below)).heap := by rw [hhp]; exact vx_Zq.moved hW0.alike (hN.kept hS.2.1)
  obtain ⟨S, q, ce, st, Z, hce, hcl', hv⟩ := vx_npeAt Y hexec htr (n := nb) (vx_own hat' (vx_isRefq hU'.1) (vx_isRefq hN'.1) hU'.2.word hN'.2.word) (fun x hx => nomatch hx)
    (g := F0 m pc ls rest) rfl hsize hRframes (by show 2 * 0 + (rest.map fun v => v.category).sum + 10240 ≤ R.locals; omega) (by show 0 + 1 ≤ 1; omega) (by show 0 + nb ≤ nb; omega) hlocks
  obtain ⟨f1, f2⟩ := vx_frame Z.same
  have f1' : H.size ≤ S.heap.size := by rw [← hT]; exact f1
  have f2' : ∀ q : Nat, q < H.size → S.heap[q]? = H[q]? := fun q hq => by
    rw [← hT]
    exact f2 q (by rw [← hT] at hq; exact hq) (fun z hz => nomatch hz)
  have X5 := vx_back9 X Y Z
  have X6 : Stand p l e R s m args below meth c S locs (cells + 1) (slots + nb) := { X5 with same := X5.same.mono (by omega) (by omega) }
  obtain ⟨t, a1, b1⟩ := k S.heap q ce f1' f2' ⟨Nat.le_trans hS.1 f1', fun q h1 h2 => (f2' q (Nat.lt_of_lt_of_le h1 hS.1)).trans (hS.2.1 q h1 h2), hS.2.2⟩ hce hv hcl' S rfl X6
  exact ⟨t, st t a1, b1⟩
variable {Q : State → Prop} {cc : ByteArray} {pc : Nat} {ls : Array Slot} {rest : List Value}
theorem vx_idivZ (hexec : p.tables.exec = Jvm.exec) (hb : c.code = cc) {a b : Int32} (h0 : b = 0) (d : decode cc pc = .ok (.idiv, 1)) (k : vx_Note p l e R s m args below meth c H locs cells slots Q (F0 m pc ls rest) "java/lang/ArithmeticException" "/ by zero") :
    W p l e R s m args below meth c H locs cells slots Q (F0 m pc ls (.int b :: .int a :: rest)) := by
  intro T hT X
  obtain ⟨t, st, q⟩ := k T hT X
  exact ⟨t, X.idivZero hexec (g := F0 m pc ls (.int b :: .int a :: rest)) rfl (a := a) (rest := rest) (by rw [h0]) (by rw [hb]; exact d) t st, q⟩
theorem vx_iremZ (hexec : p.tables.exec = Jvm.exec) (hb : c.code = cc) {a b : Int32} (h0 : b = 0) (d : decode cc pc = .ok (.irem, 1)) (k : vx_Note p l e R s m args below meth c H locs cells slots Q (F0 m pc ls rest) "java/lang/ArithmeticException" "/ by zero") :
    W p l e R s m args below meth c H locs cells slots Q (F0 m pc ls (.int b :: .int a :: rest)) := by
  intro T hT X
  obtain ⟨t, st, q⟩ := k T hT X
  exact ⟨t, X.iremZero hexec (g := F0 m pc ls (.int b :: .int a :: rest)) rfl (a := a) (rest := rest) (by rw [h0]) (by rw [hb]; exact d) t st, q⟩
theorem vx_ldivZ (hexec : p.tables.exec = Jvm.exec) (hb : c.code = cc) {a b : Int64} (h0 : b = 0) (d : decode cc pc = .ok (.ldiv, 1)) (k : vx_Note p l e R s m args below meth c H locs cells slots Q (F0 m pc ls rest) "java/lang/ArithmeticException" "/ by zero") :
    W p l e R s m args below meth c H locs cells slots Q (F0 m pc ls (.long b :: .long a :: rest)) := by
  intro T hT X
  obtain ⟨t, st, q⟩ := k T hT X
  exact ⟨t, X.ldivZero hexec (g := F0 m pc ls (.long b :: .long a :: rest)) rfl (a := a) (rest := rest) (by rw [h0]) (by rw [hb]; exact d) t st, q⟩
theorem vx_lremZ (hexec : p.tables.exec = Jvm.exec) (hb : c.code = cc) {a b : Int64} (h0 : b = 0) (d : decode cc pc = .ok (.lrem, 1)) (k : vx_Note p l e R s m args below meth c H locs cells slots Q (F0 m pc ls rest) "java/lang/ArithmeticException" "/ by zero") :
    W p l e R s m args below meth c H locs cells slots Q (F0 m pc ls (.long b :: .long a :: rest)) := by
  intro T hT X
  obtain ⟨t, st, q⟩ := k T hT X
  exact ⟨t, X.lremZero hexec (g := F0 m pc ls (.long b :: .long a :: rest)) rfl (a := a) (rest := rest) (by rw [h0]) (by rw [hb]; exact d) t st, q⟩
theorem vx_ialdZ {D : va_G} {cl : List vw_C} {ws : va_W} {tys : List (ClassId × FieldType)} {a : Nat} (hexec : p.tables.exec = Jvm.exec) (hb : c.code = cc) (hK : va_K D cl tys s) (hP : va_P D cl ws H) (q0 t0 : Nat) {cA : ClassId} {n : Nat} {f : Nat → Int32} (ha : ws[q0]? = some (a, .inl (cA, n, .inl f))) (ht : tys[t0]? = some (cA, .int)) {i : Int32} (hout : ¬ vp_in i n) (hdg : decode cc pc = .ok (.iaload, 1))
    (k : ∀ tx : String, tx = (toString "Index " ++ toString i ++ toString " out of bounds for length " ++ toString n : String) → vx_Note p l e R s m args below meth c H locs cells slots Q (F0 m pc ls rest) "java/lang/ArrayIndexOutOfBoundsException" tx) : W p l e R s m args below meth c H locs cells slots Q (F0 m pc ls (.int i :: .ref a :: rest)) := by
  intro T hT X
  obtain ⟨t, st, q⟩ := k _ rfl T hT X
  refine ⟨t, ?_, q⟩
  have h1 := X.ialoadOut hexec (by rw [hT]; exact hP q0 _ ha) ((hK.2 t0 _ ht).1 n (fun j => .int (f j))) (j := i) (by show (i < 0 ∨ (arrV _ _ _).slots.size ≤ _); rw [arrV_size]; exact Classical.byContradiction hout) (g := F0 m pc ls (.int i :: .ref a :: rest)) rfl (rest := rest) rfl (by rw [hb]; exact hdg) t
  simp only [arrV_size] at h1
  exact h1 st
theorem vx_iastZ {D : va_G} {cl : List vw_C} {ws : va_W} {tys : List (ClassId × FieldType)} {a : Nat} (hexec : p.tables.exec = Jvm.exec) (hb : c.code = cc) (hK : va_K D cl tys s) (hP : va_P D cl ws H) (q0 t0 : Nat) {cA : ClassId} {n : Nat} {f : Nat → Int32} (ha : ws[q0]? = some (a, .inl (cA, n, .inl f))) (ht : tys[t0]? = some (cA, .int)) {i : Int32} {x : Int32} (hout : ¬ vp_in i n) (hdg : decode cc pc = .ok (.iastore, 1))
    (k : ∀ tx : String, tx = (toString "Index " ++ toString i ++ toString " out of bounds for length " ++ toString n : String) → vx_Note p l e R s m args below meth c H locs cells slots Q (F0 m pc ls rest) "java/lang/ArrayIndexOutOfBoundsException" tx) : W p l e R s m args below meth c H locs cells slots Q (F0 m pc ls (.int x :: .int i :: .ref a :: rest)) := by
  intro T hT X
  obtain ⟨t, st, q⟩ := k _ rfl T hT X
  refine ⟨t, ?_, q⟩
  have h1 := X.iastoreOut hexec (by rw [hT]; exact hP q0 _ ha) ((hK.2 t0 _ ht).1 n (fun j => .int (f j))) (j := i) (by show (i < 0 ∨ (arrV _ _ _).slots.size ≤ _); rw [arrV_size]; exact Classical.byContradiction hout) (g := F0 m pc ls (.int x :: .int i :: .ref a :: rest)) rfl (rest := rest) rfl (by rw [hb]; exact hdg) t
  simp only [arrV_size] at h1
  exact h1 st
theorem vx_baldZ {D : va_G} {cl : List vw_C} {ws : va_W} {tys : List (ClassId × FieldType)} {a : Nat} (hexec : p.tables.exec = Jvm.exec) (hb : c.code = cc) (hK : va_K D cl tys s) (hP : va_P D cl ws H) (q0 t0 : Nat) {cA : ClassId} {n : Nat} {f : Nat → Int32} (ha : ws[q0]? = some (a, .inl (cA, n, .inl f))) (ht : tys[t0]? = some (cA, .byte)) {i : Int32} (hout : ¬ vp_in i n) (hdg : decode cc pc = .ok (.baload, 1))
    (k : ∀ tx : String, tx = (toString "Index " ++ toString i ++ toString " out of bounds for length " ++ toString n : String) → vx_Note p l e R s m args below meth c H locs cells slots Q (F0 m pc ls rest) "java/lang/ArrayIndexOutOfBoundsException" tx) : W p l e R s m args below meth c H locs cells slots Q (F0 m pc ls (.int i :: .ref a :: rest)) := by
  intro T hT X
  obtain ⟨t, st, q⟩ := k _ rfl T hT X
  refine ⟨t, ?_, q⟩
  have h1 := X.baloadOut hexec (by rw [hT]; exact hP q0 _ ha) ((hK.2 t0 _ ht).1 n (fun j => .int (f j))) (j := i) (by show (i < 0 ∨ (arrV _ _ _).slots.size ≤ _); rw [arrV_size]; exact Classical.byContradiction hout) (g := F0 m pc ls (.int i :: .ref a :: rest)) rfl (rest := rest) rfl (by rw [hb]; exact hdg) t
  simp only [arrV_size] at h1
  exact h1 st
theorem vx_bastZ {D : va_G} {cl : List vw_C} {ws : va_W} {tys : List (ClassId × FieldType)} {a : Nat} (hexec : p.tables.exec = Jvm.exec) (hb : c.code = cc) (hK : va_K D cl tys s) (hP : va_P D cl ws H) (q0 t0 : Nat) {cA : ClassId} {n : Nat} {f : Nat → Int32} (ha : ws[q0]? = some (a, .inl (cA, n, .inl f))) (ht : tys[t0]? = some (cA, .byte)) {i : Int32} {x : Int32} (hout : ¬ vp_in i n) (hdg : decode cc pc = .ok (.bastore, 1))
    (k : ∀ tx : String, tx = (toString "Index " ++ toString i ++ toString " out of bounds for length " ++ toString n : String) → vx_Note p l e R s m args below meth c H locs cells slots Q (F0 m pc ls rest) "java/lang/ArrayIndexOutOfBoundsException" tx) : W p l e R s m args below meth c H locs cells slots Q (F0 m pc ls (.int x :: .int i :: .ref a :: rest)) := by
  intro T hT X
  obtain ⟨t, st, q⟩ := k _ rfl T hT X
  refine ⟨t, ?_, q⟩
  have h1 := X.bastoreOut hexec (by rw [hT]; exact hP q0 _ ha) ((hK.2 t0 _ ht).1 n (fun j => .int (f j))) (j := i) (by show (i < 0 ∨ (arrV _ _ _).slots.size ≤ _); rw [arrV_size]; exact Classical.byContradiction hout) (g := F0 m pc ls (.int x :: .int i :: .ref a :: rest)) rfl (rest := rest) rfl (by rw [hb]; exact hdg) t
  simp only [arrV_size] at h1
  exact h1 st
theorem vx_zaldZ {D : va_G} {cl : List vw_C} {ws : va_W} {tys : List (ClassId × FieldType)} {a : Nat} (hexec : p.tables.exec = Jvm.exec) (hb : c.code = cc) (hK : va_K D cl tys s) (hP : va_P D cl ws H) (q0 t0 : Nat) {cA : ClassId} {n : Nat} {f : Nat → Int32} (ha : ws[q0]? = some (a, .inl (cA, n, .inl f))) (ht : tys[t0]? = some (cA, .boolean)) {i : Int32} (hout : ¬ vp_in i n) (hdg : decode cc pc = .ok (.baload, 1))
    (k : ∀ tx : String, tx = (toString "Index " ++ toString i ++ toString " out of bounds for length " ++ toString n : String) → vx_Note p l e R s m args below meth c H locs cells slots Q (F0 m pc ls rest) "java/lang/ArrayIndexOutOfBoundsException" tx) : W p l e R s m args below meth c H locs cells slots Q (F0 m pc ls (.int i :: .ref a :: rest)) := by
  intro T hT X
  obtain ⟨t, st, q⟩ := k _ rfl T hT X
  refine ⟨t, ?_, q⟩
  have h1 := X.baloadOut hexec (by rw [hT]; exact hP q0 _ ha) ((hK.2 t0 _ ht).1 n (fun j => .int (f j))) (j := i) (by show (i < 0 ∨ (arrV _ _ _).slots.size ≤ _); rw [arrV_size]; exact Classical.byContradiction hout) (g := F0 m pc ls (.int i :: .ref a :: rest)) rfl (rest := rest) rfl (by rw [hb]; exact hdg) t
  simp only [arrV_size] at h1
  exact h1 st
theorem vx_zastZ {D : va_G} {cl : List vw_C} {ws : va_W} {tys : List (ClassId × FieldType)} {a : Nat} (hexec : p.tables.exec = Jvm.exec) (hb : c.code = cc) (hK : va_K D cl tys s) (hP : va_P D cl ws H) (q0 t0 : Nat) {cA : ClassId} {n : Nat} {f : Nat → Int32} (ha : ws[q0]? = some (a, .inl (cA, n, .inl f))) (ht : tys[t0]? = some (cA, .boolean)) {i : Int32} {x : Int32} (hout : ¬ vp_in i n) (hdg : decode cc pc = .ok (.bastore, 1))
    (k : ∀ tx : String, tx = (toString "Index " ++ toString i ++ toString " out of bounds for length " ++ toString n : String) → vx_Note p l e R s m args below meth c H locs cells slots Q (F0 m pc ls rest) "java/lang/ArrayIndexOutOfBoundsException" tx) : W p l e R s m args below meth c H locs cells slots Q (F0 m pc ls (.int x :: .int i :: .ref a :: rest)) := by
  intro T hT X
  obtain ⟨t, st, q⟩ := k _ rfl T hT X
  refine ⟨t, ?_, q⟩
  have h1 := X.bastoreOut hexec (by rw [hT]; exact hP q0 _ ha) ((hK.2 t0 _ ht).1 n (fun j => .int (f j))) (j := i) (by show (i < 0 ∨ (arrV _ _ _).slots.size ≤ _); rw [arrV_size]; exact Classical.byContradiction hout) (g := F0 m pc ls (.int x :: .int i :: .ref a :: rest)) rfl (rest := rest) rfl (by rw [hb]; exact hdg) t
  simp only [arrV_size] at h1
  exact h1 st
theorem vx_caldZ {D : va_G} {cl : List vw_C} {ws : va_W} {tys : List (ClassId × FieldType)} {a : Nat} (hexec : p.tables.exec = Jvm.exec) (hb : c.code = cc) (hK : va_K D cl tys s) (hP : va_P D cl ws H) (q0 t0 : Nat) {cA : ClassId} {n : Nat} {f : Nat → Int32} (ha : ws[q0]? = some (a, .inl (cA, n, .inl f))) (ht : tys[t0]? = some (cA, .char)) {i : Int32} (hout : ¬ vp_in i n) (hdg : decode cc pc = .ok (.caload, 1))
    (k : ∀ tx : String, tx = (toString "Index " ++ toString i ++ toString " out of bounds for length " ++ toString n : String) → vx_Note p l e R s m args below meth c H locs cells slots Q (F0 m pc ls rest) "java/lang/ArrayIndexOutOfBoundsException" tx) : W p l e R s m args below meth c H locs cells slots Q (F0 m pc ls (.int i :: .ref a :: rest)) := by
  intro T hT X
  obtain ⟨t, st, q⟩ := k _ rfl T hT X
  refine ⟨t, ?_, q⟩
  have h1 := X.caloadOut hexec (by rw [hT]; exact hP q0 _ ha) ((hK.2 t0 _ ht).1 n (fun j => .int (f j))) (j := i) (by show (i < 0 ∨ (arrV _ _ _).slots.size ≤ _); rw [arrV_size]; exact Classical.byContradiction hout) (g := F0 m pc ls (.int i :: .ref a :: rest)) rfl (rest := rest) rfl (by rw [hb]; exact hdg) t
  simp only [arrV_size] at h1
  exact h1 st
theorem vx_castZ {D : va_G} {cl : List vw_C} {ws : va_W} {tys : List (ClassId × FieldType)} {a : Nat} (hexec : p.tables.exec = Jvm.exec) (hb : c.code = cc) (hK : va_K D cl tys s) (hP : va_P D cl ws H) (q0 t0 : Nat) {cA : ClassId} {n : Nat} {f : Nat → Int32} (ha : ws[q0]? = some (a, .inl (cA, n, .inl f))) (ht : tys[t0]? = some (cA, .char)) {i : Int32} {x : Int32} (hout : ¬ vp_in i n) (hdg : decode cc pc = .ok (.castore, 1))
    (k : ∀ tx : String, tx = (toString "Index " ++ toString i ++ toString " out of bounds for length " ++ toString n : String) → vx_Note p l e R s m args below meth c H locs cells slots Q (F0 m pc ls rest) "java/lang/ArrayIndexOutOfBoundsException" tx) : W p l e R s m args below meth c H locs cells slots Q (F0 m pc ls (.int x :: .int i :: .ref a :: rest)) := by
  intro T hT X
  obtain ⟨t, st, q⟩ := k _ rfl T hT X
  refine ⟨t, ?_, q⟩
  have h1 := X.castoreOut hexec (by rw [hT]; exact hP q0 _ ha) ((hK.2 t0 _ ht).1 n (fun j => .int (f j))) (j := i) (by show (i < 0 ∨ (arrV _ _ _).slots.size ≤ _); rw [arrV_size]; exact Classical.byContradiction hout) (g := F0 m pc ls (.int x :: .int i :: .ref a :: rest)) rfl (rest := rest) rfl (by rw [hb]; exact hdg) t
  simp only [arrV_size] at h1
  exact h1 st
theorem vx_saldZ {D : va_G} {cl : List vw_C} {ws : va_W} {tys : List (ClassId × FieldType)} {a : Nat} (hexec : p.tables.exec = Jvm.exec) (hb : c.code = cc) (hK : va_K D cl tys s) (hP : va_P D cl ws H) (q0 t0 : Nat) {cA : ClassId} {n : Nat} {f : Nat → Int32} (ha : ws[q0]? = some (a, .inl (cA, n, .inl f))) (ht : tys[t0]? = some (cA, .short)) {i : Int32} (hout : ¬ vp_in i n) (hdg : decode cc pc = .ok (.saload, 1))
    (k : ∀ tx : String, tx = (toString "Index " ++ toString i ++ toString " out of bounds for length " ++ toString n : String) → vx_Note p l e R s m args below meth c H locs cells slots Q (F0 m pc ls rest) "java/lang/ArrayIndexOutOfBoundsException" tx) : W p l e R s m args below meth c H locs cells slots Q (F0 m pc ls (.int i :: .ref a :: rest)) := by
  intro T hT X
  obtain ⟨t, st, q⟩ := k _ rfl T hT X
  refine ⟨t, ?_, q⟩
  have h1 := X.saloadOut hexec (by rw [hT]; exact hP q0 _ ha) ((hK.2 t0 _ ht).1 n (fun j => .int (f j))) (j := i) (by show (i < 0 ∨ (arrV _ _ _).slots.size ≤ _); rw [arrV_size]; exact Classical.byContradiction hout) (g := F0 m pc ls (.int i :: .ref a :: rest)) rfl (rest := rest) rfl (by rw [hb]; exact hdg) t
  simp only [arrV_size] at h1
  exact h1 st
theorem vx_sastZ {D : va_G} {cl : List vw_C} {ws : va_W} {tys : List (ClassId × FieldType)} {a : Nat} (hexec : p.tables.exec = Jvm.exec) (hb : c.code = cc) (hK : va_K D cl tys s) (hP : va_P D cl ws H) (q0 t0 : Nat) {cA : ClassId} {n : Nat} {f : Nat → Int32} (ha : ws[q0]? = some (a, .inl (cA, n, .inl f))) (ht : tys[t0]? = some (cA, .short)) {i : Int32} {x : Int32} (hout : ¬ vp_in i n) (hdg : decode cc pc = .ok (.sastore, 1))
    (k : ∀ tx : String, tx = (toString "Index " ++ toString i ++ toString " out of bounds for length " ++ toString n : String) → vx_Note p l e R s m args below meth c H locs cells slots Q (F0 m pc ls rest) "java/lang/ArrayIndexOutOfBoundsException" tx) : W p l e R s m args below meth c H locs cells slots Q (F0 m pc ls (.int x :: .int i :: .ref a :: rest)) := by
  intro T hT X
  obtain ⟨t, st, q⟩ := k _ rfl T hT X
  refine ⟨t, ?_, q⟩
  have h1 := X.sastoreOut hexec (by rw [hT]; exact hP q0 _ ha) ((hK.2 t0 _ ht).1 n (fun j => .int (f j))) (j := i) (by show (i < 0 ∨ (arrV _ _ _).slots.size ≤ _); rw [arrV_size]; exact Classical.byContradiction hout) (g := F0 m pc ls (.int x :: .int i :: .ref a :: rest)) rfl (rest := rest) rfl (by rw [hb]; exact hdg) t
  simp only [arrV_size] at h1
  exact h1 st
theorem vx_laldZ {D : va_G} {cl : List vw_C} {ws : va_W} {tys : List (ClassId × FieldType)} {a : Nat} (hexec : p.tables.exec = Jvm.exec) (hb : c.code = cc) (hK : va_K D cl tys s) (hP : va_P D cl ws H) (q0 t0 : Nat) {cA : ClassId} {n : Nat} {f : Nat → Int64} (ha : ws[q0]? = some (a, .inl (cA, n, .inr (.inl f)))) (ht : tys[t0]? = some (cA, .long)) {i : Int32} (hout : ¬ vp_in i n) (hdg : decode cc pc = .ok (.laload, 1))
    (k : ∀ tx : String, tx = (toString "Index " ++ toString i ++ toString " out of bounds for length " ++ toString n : String) → vx_Note p l e R s m args below meth c H locs cells slots Q (F0 m pc ls rest) "java/lang/ArrayIndexOutOfBoundsException" tx) : W p l e R s m args below meth c H locs cells slots Q (F0 m pc ls (.int i :: .ref a :: rest)) := by
  intro T hT X
  obtain ⟨t, st, q⟩ := k _ rfl T hT X
  refine ⟨t, ?_, q⟩
  have h1 := X.laloadOut hexec (by rw [hT]; exact hP q0 _ ha) ((hK.2 t0 _ ht).1 n (fun j => .long (f j))) (j := i) (by show (i < 0 ∨ (arrV _ _ _).slots.size ≤ _); rw [arrV_size]; exact Classical.byContradiction hout) (g := F0 m pc ls (.int i :: .ref a :: rest)) rfl (rest := rest) rfl (by rw [hb]; exact hdg) t
  simp only [arrV_size] at h1
  exact h1 st
theorem vx_lastZ {D : va_G} {cl : List vw_C} {ws : va_W} {tys : List (ClassId × FieldType)} {a : Nat} (hexec : p.tables.exec = Jvm.exec) (hb : c.code = cc) (hK : va_K D cl tys s) (hP : va_P D cl ws H) (q0 t0 : Nat) {cA : ClassId} {n : Nat} {f : Nat → Int64} (ha : ws[q0]? = some (a, .inl (cA, n, .inr (.inl f)))) (ht : tys[t0]? = some (cA, .long)) {i : Int32} {x : Int64} (hout : ¬ vp_in i n) (hdg : decode cc pc = .ok (.lastore, 1))
    (k : ∀ tx : String, tx = (toString "Index " ++ toString i ++ toString " out of bounds for length " ++ toString n : String) → vx_Note p l e R s m args below meth c H locs cells slots Q (F0 m pc ls rest) "java/lang/ArrayIndexOutOfBoundsException" tx) : W p l e R s m args below meth c H locs cells slots Q (F0 m pc ls (.long x :: .int i :: .ref a :: rest)) := by
  intro T hT X
  obtain ⟨t, st, q⟩ := k _ rfl T hT X
  refine ⟨t, ?_, q⟩
  have h1 := X.lastoreOut hexec (by rw [hT]; exact hP q0 _ ha) ((hK.2 t0 _ ht).1 n (fun j => .long (f j))) (j := i) (by show (i < 0 ∨ (arrV _ _ _).slots.size ≤ _); rw [arrV_size]; exact Classical.byContradiction hout) (g := F0 m pc ls (.long x :: .int i :: .ref a :: rest)) rfl (rest := rest) rfl (by rw [hb]; exact hdg) t
  simp only [arrV_size] at h1
  exact h1 st
theorem vx_faldZ {D : va_G} {cl : List vw_C} {ws : va_W} {tys : List (ClassId × FieldType)} {a : Nat} (hexec : p.tables.exec = Jvm.exec) (hb : c.code = cc) (hK : va_K D cl tys s) (hP : va_P D cl ws H) (q0 t0 : Nat) {cA : ClassId} {n : Nat} {f : Nat → UInt32} (ha : ws[q0]? = some (a, .inl (cA, n, .inr (.inr (.inl f))))) (ht : tys[t0]? = some (cA, .float)) {i : Int32} (hout : ¬ vp_in i n) (hdg : decode cc pc = .ok (.faload, 1))
    (k : ∀ tx : String, tx = (toString "Index " ++ toString i ++ toString " out of bounds for length " ++ toString n : String) → vx_Note p l e R s m args below meth c H locs cells slots Q (F0 m pc ls rest) "java/lang/ArrayIndexOutOfBoundsException" tx) : W p l e R s m args below meth c H locs cells slots Q (F0 m pc ls (.int i :: .ref a :: rest)) := by
  intro T hT X
  obtain ⟨t, st, q⟩ := k _ rfl T hT X
  refine ⟨t, ?_, q⟩
  have h1 := X.faloadOut hexec (by rw [hT]; exact hP q0 _ ha) ((hK.2 t0 _ ht).1 n (fun j => .float (f j))) (j := i) (by show (i < 0 ∨ (arrV _ _ _).slots.size ≤ _); rw [arrV_size]; exact Classical.byContradiction hout) (g := F0 m pc ls (.int i :: .ref a :: rest)) rfl (rest := rest) rfl (by rw [hb]; exact hdg) t
  simp only [arrV_size] at h1
  exact h1 st
theorem vx_fastZ {D : va_G} {cl : List vw_C} {ws : va_W} {tys : List (ClassId × FieldType)} {a : Nat} (hexec : p.tables.exec = Jvm.exec) (hb : c.code = cc) (hK : va_K D cl tys s) (hP : va_P D cl ws H) (q0 t0 : Nat) {cA : ClassId} {n : Nat} {f : Nat → UInt32} (ha : ws[q0]? = some (a, .inl (cA, n, .inr (.inr (.inl f))))) (ht : tys[t0]? = some (cA, .float)) {i : Int32} {x : UInt32} (hout : ¬ vp_in i n) (hdg : decode cc pc = .ok (.fastore, 1))
    (k : ∀ tx : String, tx = (toString "Index " ++ toString i ++ toString " out of bounds for length " ++ toString n : String) → vx_Note p l e R s m args below meth c H locs cells slots Q (F0 m pc ls rest) "java/lang/ArrayIndexOutOfBoundsException" tx) : W p l e R s m args below meth c H locs cells slots Q (F0 m pc ls (.float x :: .int i :: .ref a :: rest)) := by
  intro T hT X
  obtain ⟨t, st, q⟩ := k _ rfl T hT X
  refine ⟨t, ?_, q⟩
  have h1 := X.fastoreOut hexec (by rw [hT]; exact hP q0 _ ha) ((hK.2 t0 _ ht).1 n (fun j => .float (f j))) (j := i) (by show (i < 0 ∨ (arrV _ _ _).slots.size ≤ _); rw [arrV_size]; exact Classical.byContradiction hout) (g := F0 m pc ls (.float x :: .int i :: .ref a :: rest)) rfl (rest := rest) rfl (by rw [hb]; exact hdg) t
  simp only [arrV_size] at h1
  exact h1 st
theorem vx_daldZ {D : va_G} {cl : List vw_C} {ws : va_W} {tys : List (ClassId × FieldType)} {a : Nat} (hexec : p.tables.exec = Jvm.exec) (hb : c.code = cc) (hK : va_K D cl tys s) (hP : va_P D cl ws H) (q0 t0 : Nat) {cA : ClassId} {n : Nat} {f : Nat → UInt64} (ha : ws[q0]? = some (a, .inl (cA, n, .inr (.inr (.inr (.inl f)))))) (ht : tys[t0]? = some (cA, .double)) {i : Int32} (hout : ¬ vp_in i n) (hdg : decode cc pc = .ok (.daload, 1))
    (k : ∀ tx : String, tx = (toString "Index " ++ toString i ++ toString " out of bounds for length " ++ toString n : String) → vx_Note p l e R s m args below meth c H locs cells slots Q (F0 m pc ls rest) "java/lang/ArrayIndexOutOfBoundsException" tx) : W p l e R s m args below meth c H locs cells slots Q (F0 m pc ls (.int i :: .ref a :: rest)) := by
  intro T hT X
  obtain ⟨t, st, q⟩ := k _ rfl T hT X
  refine ⟨t, ?_, q⟩
  have h1 := X.daloadOut hexec (by rw [hT]; exact hP q0 _ ha) ((hK.2 t0 _ ht).1 n (fun j => .double (f j))) (j := i) (by show (i < 0 ∨ (arrV _ _ _).slots.size ≤ _); rw [arrV_size]; exact Classical.byContradiction hout) (g := F0 m pc ls (.int i :: .ref a :: rest)) rfl (rest := rest) rfl (by rw [hb]; exact hdg) t
  simp only [arrV_size] at h1
  exact h1 st
theorem vx_dastZ {D : va_G} {cl : List vw_C} {ws : va_W} {tys : List (ClassId × FieldType)} {a : Nat} (hexec : p.tables.exec = Jvm.exec) (hb : c.code = cc) (hK : va_K D cl tys s) (hP : va_P D cl ws H) (q0 t0 : Nat) {cA : ClassId} {n : Nat} {f : Nat → UInt64} (ha : ws[q0]? = some (a, .inl (cA, n, .inr (.inr (.inr (.inl f)))))) (ht : tys[t0]? = some (cA, .double)) {i : Int32} {x : UInt64} (hout : ¬ vp_in i n) (hdg : decode cc pc = .ok (.dastore, 1))
    (k : ∀ tx : String, tx = (toString "Index " ++ toString i ++ toString " out of bounds for length " ++ toString n : String) → vx_Note p l e R s m args below meth c H locs cells slots Q (F0 m pc ls rest) "java/lang/ArrayIndexOutOfBoundsException" tx) : W p l e R s m args below meth c H locs cells slots Q (F0 m pc ls (.double x :: .int i :: .ref a :: rest)) := by
  intro T hT X
  obtain ⟨t, st, q⟩ := k _ rfl T hT X
  refine ⟨t, ?_, q⟩
  have h1 := X.dastoreOut hexec (by rw [hT]; exact hP q0 _ ha) ((hK.2 t0 _ ht).1 n (fun j => .double (f j))) (j := i) (by show (i < 0 ∨ (arrV _ _ _).slots.size ≤ _); rw [arrV_size]; exact Classical.byContradiction hout) (g := F0 m pc ls (.double x :: .int i :: .ref a :: rest)) rfl (rest := rest) rfl (by rw [hb]; exact hdg) t
  simp only [arrV_size] at h1
  exact h1 st
theorem vx_arraylengthN (hexec : p.tables.exec = Jvm.exec) (hb : c.code = cc) (hdg : decode cc pc = .ok (.arraylength, 1)) (k : vx_NoteN p l e R s m args below meth c H locs cells slots Q (F0 m pc ls rest)) : W p l e R s m args below meth c H locs cells slots Q (F0 m pc ls (.null :: rest)) := by
  intro T hT X
  obtain ⟨t, st, q⟩ := k T hT X
  exact ⟨t, X.arraylengthNull hexec (g := F0 m pc ls (.null :: rest)) rfl (rest := rest) rfl (by rw [hb]; exact hdg) t st, q⟩
theorem vx_ialoadN (hexec : p.tables.exec = Jvm.exec) (hb : c.code = cc) {i : Int32} (hdg : decode cc pc = .ok (.iaload, 1)) (k : vx_NoteN p l e R s m args below meth c H locs cells slots Q (F0 m pc ls rest)) : W p l e R s m args below meth c H locs cells slots Q (F0 m pc ls (.int i :: .null :: rest)) := by
  intro T hT X
  obtain ⟨t, st, q⟩ := k T hT X
  exact ⟨t, X.ialoadNull hexec (g := F0 m pc ls (.int i :: .null :: rest)) rfl (rest := rest) rfl (by rw [hb]; exact hdg) t st, q⟩
theorem vx_laloadN (hexec : p.tables.exec = Jvm.exec) (hb : c.code = cc) {i : Int32} (hdg : decode cc pc = .ok (.laload, 1)) (k : vx_NoteN p l e R s m args below meth c H locs cells slots Q (F0 m pc ls rest)) : W p l e R s m args below meth c H locs cells slots Q (F0 m pc ls (.int i :: .null :: rest)) := by
  intro T hT X
  obtain ⟨t, st, q⟩ := k T hT X
  exact ⟨t, X.laloadNull hexec (g := F0 m pc ls (.int i :: .null :: rest)) rfl (rest := rest) rfl (by rw [hb]; exact hdg) t st, q⟩
theorem vx_faloadN (hexec : p.tables.exec = Jvm.exec) (hb : c.code = cc) {i : Int32} (hdg : decode cc pc = .ok (.faload, 1)) (k : vx_NoteN p l e R s m args below meth c H locs cells slots Q (F0 m pc ls rest)) : W p l e R s m args below meth c H locs cells slots Q (F0 m pc ls (.int i :: .null :: rest)) := by
  intro T hT X
  obtain ⟨t, st, q⟩ := k T hT X
  exact ⟨t, X.faloadNull hexec (g := F0 m pc ls (.int i :: .null :: rest)) rfl (rest := rest) rfl (by rw [hb]; exact hdg) t st, q⟩
theorem vx_daloadN (hexec : p.tables.exec = Jvm.exec) (hb : c.code = cc) {i : Int32} (hdg : decode cc pc = .ok (.daload, 1)) (k : vx_NoteN p l e R s m args below meth c H locs cells slots Q (F0 m pc ls rest)) : W p l e R s m args below meth c H locs cells slots Q (F0 m pc ls (.int i :: .null :: rest)) := by
  intro T hT X
  obtain ⟨t, st, q⟩ := k T hT X
  exact ⟨t, X.daloadNull hexec (g := F0 m pc ls (.int i :: .null :: rest)) rfl (rest := rest) rfl (by rw [hb]; exact hdg) t st, q⟩
theorem vx_aaloadN (hexec : p.tables.exec = Jvm.exec) (hb : c.code = cc) {i : Int32} (hdg : decode cc pc = .ok (.aaload, 1)) (k : vx_NoteN p l e R s m args below meth c H locs cells slots Q (F0 m pc ls rest)) : W p l e R s m args below meth c H locs cells slots Q (F0 m pc ls (.int i :: .null :: rest)) := by
  intro T hT X
  obtain ⟨t, st, q⟩ := k T hT X
  exact ⟨t, X.aaloadNull hexec (g := F0 m pc ls (.int i :: .null :: rest)) rfl (rest := rest) rfl (by rw [hb]; exact hdg) t st, q⟩
theorem vx_baloadN (hexec : p.tables.exec = Jvm.exec) (hb : c.code = cc) {i : Int32} (hdg : decode cc pc = .ok (.baload, 1)) (k : vx_NoteN p l e R s m args below meth c H locs cells slots Q (F0 m pc ls rest)) : W p l e R s m args below meth c H locs cells slots Q (F0 m pc ls (.int i :: .null :: rest)) := by
  intro T hT X
  obtain ⟨t, st, q⟩ := k T hT X
  exact ⟨t, X.baloadNull hexec (g := F0 m pc ls (.int i :: .null :: rest)) rfl (rest := rest) rfl (by rw [hb]; exact hdg) t st, q⟩
theorem vx_caloadN (hexec : p.tables.exec = Jvm.exec) (hb : c.code = cc) {i : Int32} (hdg : decode cc pc = .ok (.caload, 1)) (k : vx_NoteN p l e R s m args below meth c H locs cells slots Q (F0 m pc ls rest)) : W p l e R s m args below meth c H locs cells slots Q (F0 m pc ls (.int i :: .null :: rest)) := by
  intro T hT X
  obtain ⟨t, st, q⟩ := k T hT X
  exact ⟨t, X.caloadNull hexec (g := F0 m pc ls (.int i :: .null :: rest)) rfl (rest := rest) rfl (by rw [hb]; exact hdg) t st, q⟩
theorem vx_saloadN (hexec : p.tables.exec = Jvm.exec) (hb : c.code = cc) {i : Int32} (hdg : decode cc pc = .ok (.saload, 1)) (k : vx_NoteN p l e R s m args below meth c H locs cells slots Q (F0 m pc ls rest)) : W p l e R s m args below meth c H locs cells slots Q (F0 m pc ls (.int i :: .null :: rest)) := by
  intro T hT X
  obtain ⟨t, st, q⟩ := k T hT X
  exact ⟨t, X.saloadNull hexec (g := F0 m pc ls (.int i :: .null :: rest)) rfl (rest := rest) rfl (by rw [hb]; exact hdg) t st, q⟩
theorem vx_iastoreN (hexec : p.tables.exec = Jvm.exec) (hb : c.code = cc) {x : Int32} {i : Int32} (hdg : decode cc pc = .ok (.iastore, 1)) (k : vx_NoteN p l e R s m args below meth c H locs cells slots Q (F0 m pc ls rest)) : W p l e R s m args below meth c H locs cells slots Q (F0 m pc ls (.int x :: .int i :: .null :: rest)) := by
  intro T hT X
  obtain ⟨t, st, q⟩ := k T hT X
  exact ⟨t, X.iastoreNull hexec (g := F0 m pc ls (.int x :: .int i :: .null :: rest)) rfl (rest := rest) rfl (by rw [hb]; exact hdg) t st, q⟩
theorem vx_lastoreN (hexec : p.tables.exec = Jvm.exec) (hb : c.code = cc) {x : Int64} {i : Int32} (hdg : decode cc pc = .ok (.lastore, 1)) (k : vx_NoteN p l e R s m args below meth c H locs cells slots Q (F0 m pc ls rest)) : W p l e R s m args below meth c H locs cells slots Q (F0 m pc ls (.long x :: .int i :: .null :: rest)) := by
  intro T hT X
  obtain ⟨t, st, q⟩ := k T hT X
  exact ⟨t, X.lastoreNull hexec (g := F0 m pc ls (.long x :: .int i :: .null :: rest)) rfl (rest := rest) rfl (by rw [hb]; exact hdg) t st, q⟩
theorem vx_fastoreN (hexec : p.tables.exec = Jvm.exec) (hb : c.code = cc) {x : UInt32} {i : Int32} (hdg : decode cc pc = .ok (.fastore, 1)) (k : vx_NoteN p l e R s m args below meth c H locs cells slots Q (F0 m pc ls rest)) : W p l e R s m args below meth c H locs cells slots Q (F0 m pc ls (.float x :: .int i :: .null :: rest)) := by
  intro T hT X
  obtain ⟨t, st, q⟩ := k T hT X
  exact ⟨t, X.fastoreNull hexec (g := F0 m pc ls (.float x :: .int i :: .null :: rest)) rfl (rest := rest) rfl (by rw [hb]; exact hdg) t st, q⟩
theorem vx_dastoreN (hexec : p.tables.exec = Jvm.exec) (hb : c.code = cc) {x : UInt64} {i : Int32} (hdg : decode cc pc = .ok (.dastore, 1)) (k : vx_NoteN p l e R s m args below meth c H locs cells slots Q (F0 m pc ls rest)) : W p l e R s m args below meth c H locs cells slots Q (F0 m pc ls (.double x :: .int i :: .null :: rest)) := by
  intro T hT X
  obtain ⟨t, st, q⟩ := k T hT X
  exact ⟨t, X.dastoreNull hexec (g := F0 m pc ls (.double x :: .int i :: .null :: rest)) rfl (rest := rest) rfl (by rw [hb]; exact hdg) t st, q⟩
theorem vx_bastoreN (hexec : p.tables.exec = Jvm.exec) (hb : c.code = cc) {x : Int32} {i : Int32} (hdg : decode cc pc = .ok (.bastore, 1)) (k : vx_NoteN p l e R s m args below meth c H locs cells slots Q (F0 m pc ls rest)) : W p l e R s m args below meth c H locs cells slots Q (F0 m pc ls (.int x :: .int i :: .null :: rest)) := by
  intro T hT X
  obtain ⟨t, st, q⟩ := k T hT X
  exact ⟨t, X.bastoreNull hexec (g := F0 m pc ls (.int x :: .int i :: .null :: rest)) rfl (rest := rest) rfl (by rw [hb]; exact hdg) t st, q⟩
theorem vx_castoreN (hexec : p.tables.exec = Jvm.exec) (hb : c.code = cc) {x : Int32} {i : Int32} (hdg : decode cc pc = .ok (.castore, 1)) (k : vx_NoteN p l e R s m args below meth c H locs cells slots Q (F0 m pc ls rest)) : W p l e R s m args below meth c H locs cells slots Q (F0 m pc ls (.int x :: .int i :: .null :: rest)) := by
  intro T hT X
  obtain ⟨t, st, q⟩ := k T hT X
  exact ⟨t, X.castoreNull hexec (g := F0 m pc ls (.int x :: .int i :: .null :: rest)) rfl (rest := rest) rfl (by rw [hb]; exact hdg) t st, q⟩
theorem vx_sastoreN (hexec : p.tables.exec = Jvm.exec) (hb : c.code = cc) {x : Int32} {i : Int32} (hdg : decode cc pc = .ok (.sastore, 1)) (k : vx_NoteN p l e R s m args below meth c H locs cells slots Q (F0 m pc ls rest)) : W p l e R s m args below meth c H locs cells slots Q (F0 m pc ls (.int x :: .int i :: .null :: rest)) := by
  intro T hT X
  obtain ⟨t, st, q⟩ := k T hT X
  exact ⟨t, X.sastoreNull hexec (g := F0 m pc ls (.int x :: .int i :: .null :: rest)) rfl (rest := rest) rfl (by rw [hb]; exact hdg) t st, q⟩
theorem vx_invokeN {own C : String} {index maxL : Nat} {y : MethodName} {bytes : ByteArray} {ret : Option FieldType} (hexec : p.tables.exec = Jvm.exec) (hb : c.code = cc) (hown : s.vm.findClass own = some m.cls) (hlink : (Cond.methodLink own index y).before args s = true) (hinst : (Cond.instanceMethod y).before args s = true) (hcode : (Cond.code y bytes maxL ret).before args s = true) (hsel : (Cond.selects C y y).before args s = true)
    (hx : y.cls ≠ "java/lang/invoke/MethodHandle" ∧ y.cls ≠ "java/lang/invoke/VarHandle") {As : List Value} (hlen : (parseMethodDescriptor y.desc).map (fun d => d.parameters.length) = some As.length) (hdg : decode cc pc = .ok (.invokevirtual index, 3))
    (k : vx_NoteN p l e R s m args below meth c H locs cells slots Q (F0 m pc ls rest)) {st0 : List Value} (hst : st0 = As.reverse ++ .null :: rest) : W p l e R s m args below meth c H locs cells slots Q (F0 m pc ls st0) := by
  intro T hT X
  obtain ⟨r0, r, hn, hrm, hstR, hsigR⟩ := va_Decl.of hinst hcode
  obtain ⟨c2, r2, m2, q1, q2, q3, q4, kP, hkP, hkPi⟩ := Cond.selects_spec hsel
  cases hn.symm.trans q3
  have hl9 : As.length = r.sig.parameters.length := by
    rw [hsigR] at hlen
    exact (Option.some.inj hlen).symm
  obtain ⟨vm', X1, st1⟩ := X.invokevirtualNull hexec hown hlink hn hrm hstR hkP hkPi hx (g := F0 m pc ls st0) rfl (argsL := As) (rest := rest) hl9 hst (by rw [hb]; exact hdg)
  obtain ⟨t, st, q⟩ := k (T.setVm vm') hT X1
  exact ⟨t, st1 t st, q⟩
theorem vx_newarrayZ {atype : ArrayType} (hexec : p.tables.exec = Jvm.exec) (hb : c.code = cc) {n : Int32} (h0 : n < 0) (hdg : decode cc pc = .ok (.newarray atype, 2)) (k : ∀ tx : String, tx = toString n → vx_Note p l e R s m args below meth c H locs cells slots Q (F0 m pc ls rest) "java/lang/NegativeArraySizeException" tx) : W p l e R s m args below meth c H locs cells slots Q (F0 m pc ls (.int n :: rest)) := by
  intro T hT X
  obtain ⟨t, st, q⟩ := k _ rfl T hT X
  exact ⟨t, X.newarrayNegative hexec (g := F0 m pc ls (.int n :: rest)) rfl h0 (rest := rest) rfl (by rw [hb]; exact hdg) t st, q⟩
end
end VXM
/-! ===== END ===== -/
/-! ===== BEGIN an exception as an object: made, kept, thrown later (no traces kept) ===== -/
section VXK
variable {p : Program} {l : Launch} {e : Env} {R : Room} {s : State} {m₀ : MethodId} {args : Array Value} {below : List Frame} {meth : Method} {c : Code} {W : State} {locs : List Loc} {cells slots : Nat}
set_option maxHeartbeats 1000000 in
theorem vx_ctorMadeS (X : Stand p l e R s m₀ args below meth c W locs cells slots) (hexec : p.tables.exec = Jvm.exec) (htr : e.platform.stackTraces = false) {own cls : String} {names : List String} {ic : Nat}
    (hown : s.vm.findClass own = some m₀.cls) (hcls : Bundle.fit cls = true) (hnames : ∀ n ∈ names, Bundle.fit n = true)
    (h : ∀ a ∈ Bundle.ownAtoms own ic cls names, a.before args s = true)
    (hlocs : ∀ x ∈ locs, ∀ cell, s.heap[x.base]? = some cell → cell.vm.isStatics = false)
    {a : Addr} {cX : ClassId} {kX : Class} (hfoundX : s.vm.findClass cls = some cX) (hkX : s.vm.classes[cX]? = some kX) (hcell : W.heap[a]? = some (freshCell cX kX)) (hnew : s.heap.size ≤ a)
    {msg : Value} (hmsg : msg.isRef = true)
    {g : JFrame} (hg : g.method = m₀) (hsize : g.locals.size = c.maxLocals) {rest : List Value} (hstack : g.stack = msg :: .ref a :: .ref a :: rest)
    (hd6 : decode c.code g.pc = .ok (.invokespecial ic, 3))
    (hRframes : names.length + 3 < R.frames) (hRlocals : 2 * g.monitorRoom + ((Value.ref a :: rest).map fun v => v.category).sum + (13 * (names.length + 1) + 42) ≤ R.locals) :
    ∃ (V : State) (ce : Cell) (L : List Loc), Stand p l e R s m₀ args below meth c (V.setCell a ce) (locs ++ L) cells slots ∧ (∀ y ∈ L, y.base = a) ∧ a < V.heap.size ∧ ce.cls = cX ∧ ce.vm = .none ∧
      ∀ target, Steps p.tables e below ((V.setCell a ce).setTop { g with stack := .ref a :: rest, pc := g.pc + 3 }) target → Steps p.tables e below (W.setTop g) target := by
  have howns : e.platform.frameOwnsMonitors = true := by rw [X.admits.platform]
  have hfin : e.platform.finalization = false := by rw [X.admits.platform]
  have hpl : e.platform.magicAccessors = ({} : Platform).magicAccessors := by rw [X.admits.platform]
  have a' : ∀ x, x ∈ Bundle.ownAtoms own ic cls names → x.holds args s none s [] = true := fun x hx => h x hx
  obtain ⟨T, Z0, L, -, Y⟩ := ThrowableC.of_atoms (args := args) howns hfin hpl (fun x hx => h x (by simp [Bundle.ownAtoms, hx]))
  obtain ⟨Z, M, LZ, LM, hnZ⟩ := Init0T.ofS_atoms (args := args) hpl L Y (fun x hx => h x (by simp [Bundle.ownAtoms, hx]))
  obtain ⟨P1, Ps, hlen, L1, hL, hP1m, hlink1, hlink⟩ := Bundle.chainS (args := args) hpl hnZ names cls hcls hnames (fun x hx => h x (by simp [Bundle.ownAtoms, hx]))
  have hfound : s.vm.findClass cls = some P1.m.cls := findClass_of_methodNamed hP1m
  cases Option.some.inj (hfoundX.symm.trans hfound)
  obtain ⟨c1, kX', hc1, hk, hord, -, -, hn6⟩ := Cond.instantiable_spec (a' (.instantiable cls 6) (by simp [Bundle.ownAtoms]))
  cases Option.some.inj (hc1.symm.trans hfound)
  cases Option.some.inj (hkX.symm.trans hk)
  have hsel0 : selectMethod e.platform s.vm P1.m.cls T.fill0 = .method T.fill0 := by
    obtain ⟨c2, r2, m2, q1, q2, q3, q4, -⟩ := Cond.selects_spec (a' (.selects cls Bundle.tFill0 Bundle.tFill0) (by simp [Bundle.ownAtoms]))
    cases Option.some.inj (q1.symm.trans hfound)
    cases Option.some.inj (q2.symm.trans (State.methodFound?_of_named Y.fill0 (by decide)))
    cases Option.some.inj (q3.symm.trans Y.fill0)
    rw [Launch.admits_selectMethod X.admits]; exact q4
  have hselF : selectMethod e.platform s.vm P1.m.cls T.fill = .method T.fill := by
    obtain ⟨c2, r2, m2, q1, q2, q3, q4, -⟩ := Cond.selects_spec (a' (.selects cls Bundle.tFill Bundle.tFill) (by simp [Bundle.ownAtoms]))
    cases Option.some.inj (q1.symm.trans hfound)
    cases Option.some.inj (q2.symm.trans (State.methodFound?_of_named Y.fill (by decide)))
    cases Option.some.inj (q3.symm.trans Y.fill)
    rw [Launch.admits_selectMethod X.admits]; exact q4
  obtain ⟨cellS0, hcS0, hiss⟩ := Y.statics
  obtain ⟨u0, hu0⟩ := Cond.staticRefV Y.unassigned L.unassignedStatic L.statics hcS0 hiss (a' (.isRef (.static Bundle.tN "UNASSIGNED_STACK" Bundle.steD)) (by simp [Bundle.ownAtoms]))
  obtain ⟨sen, hsen⟩ := Cond.staticRefV Y.sentinel L.sentinelStatic L.statics hcS0 hiss (a' (.isRef (.static Bundle.tN "SUPPRESSED_SENTINEL" Bundle.listD)) (by simp [Bundle.ownAtoms]))
  obtain ⟨ci198, i198, fB, hk198, hg198, ha198, hsB, -, hnB, htB, hffB⟩ := Cond.ownField (t := .object "java/lang/Object") Y.found L.cls (by decide +kernel) (a' (.fieldLink Bundle.tN 198 Bundle.tN "backtrace" "Ljava/lang/Object;") (by simp [Bundle.ownAtoms])) (a' (.lays Bundle.tN Bundle.tN "backtrace" "Ljava/lang/Object;") (by simp [Bundle.ownAtoms])) e.platform hpl
  obtain ⟨cellS, hcS', heS, -, hkeep⟩ := X.same.2.2.2.2.2 T.aS cellS0 hcS0
  have hcellS : W.heap[T.aS]? = some cellS := hcS'
  have hout' : ∀ i, (⟨T.aS, i⟩ : Loc) ∉ locs := fun i hmem => by
    have := hlocs _ hmem cellS0 hcS0
    rw [hiss] at this; cases this
  have hknownS : cellS.vm ≠ .unknown := by
    rw [heS]; intro hu
    rw [show cellS0.vm = .unknown from hu] at hiss
    cases hiss
  have hneS : T.aS ≠ a := Nat.ne_of_lt (Nat.lt_of_lt_of_le (Array.getElem?_eq_some_iff.mp hcS0).1 hnew)
  obtain ⟨iM, hffM⟩ := Y.msg
  obtain ⟨tyC, dC, hdC, hdnC⟩ := Cond.laysAt hfound hk Y.cause (a' (.lays cls Bundle.tN "cause" "Ljava/lang/Throwable;") (by simp [Bundle.ownAtoms]))
  obtain ⟨tyS, dS, hdS, hdnS⟩ := Cond.laysAt hfound hk Y.stack (a' (.lays cls Bundle.tN "stackTrace" Bundle.steD) (by simp [Bundle.ownAtoms]))
  obtain ⟨tyP, dP, hdP, hdnP⟩ := Cond.laysAt hfound hk Y.supp (a' (.lays cls Bundle.tN "suppressedExceptions" Bundle.listD) (by simp [Bundle.ownAtoms]))
  obtain ⟨tyM, dM, hdM, hdnM⟩ := Cond.laysAt hfound hk hffM (a' (.lays cls Bundle.tN "detailMessage" "Ljava/lang/String;") (by simp [Bundle.ownAtoms]))
  obtain ⟨tyB, dB, hdB, hdnB⟩ := Cond.laysAt hfound hk hffB (a' (.lays cls Bundle.tN "backtrace" "Ljava/lang/Object;") (by simp [Bundle.ownAtoms]))
  have bC := Cond.laysApart hdB hdC hdnB hdnC (by rw [hnB, Y.causeName]; decide)
  have bS := Cond.laysApart hdB hdS hdnB hdnS (by rw [hnB, Y.stackName]; decide)
  have bP := Cond.laysApart hdB hdP hdnB hdnP (by rw [hnB, Y.suppName]; decide)
  have hskip : SkipFacts T e.platform s (fun u => u) u0 ((preparedCellV T.toThrowableT (freshCell P1.m.cls kX) a u0 sen).withEntry W.cur) :=
    ⟨{ ci198 := ci198, i198 := i198, fBack := fB }, ⟨hk198, hg198, ha198, hsB⟩, by
      have := fresh_default (c := P1.m.cls) tyB
      rw [htB] at this
      simpa [preparedCellV, Cell.setSlot, Cell.withEntry, Array.getElem?_setIfInBounds, bC, bS, bP, bC.symm, bS.symm, bP.symm, defaultValue] using this, fun _ _ => rfl⟩
  obtain ⟨tm, methC, cdC, kC, vm₁, hnC, -, -, -, -, -, -, -, hW₁, st1⟩ := Steps.initColdS (tb := p.tables) (e := e) (below := below) (s := s) (U := W) X.here hexec X.warmed hpl hown (t := Bundle.initS cls) rfl rfl (Bundle.fit_spec hcls).2
    (a' (.methodLink own ic (Bundle.initS cls)) (by simp [Bundle.ownAtoms])) (h (.instanceMethod (Bundle.initS cls)) (by cases names <;> simp [Bundle.ownAtoms, Bundle.chainSAtoms, Bundle.passSAtoms])) (bytes := Bundle.six) (maxL := 2) (h (.code (Bundle.initS cls) Bundle.six 2 none) (by cases names <;> simp [Bundle.ownAtoms, Bundle.chainSAtoms, Bundle.passSAtoms]))
    (f := g) hg (a := a) (msg := msg) (rest := .ref a :: rest) hstack hd6
  cases Option.some.inj (hnC.symm.trans hP1m)
  have X₁ := X.noted hW₁
  obtain ⟨vm₂, X₂, st2⟩ := X₁.ctorMessageOffV hexec (g := { g with stack := .ref a :: rest }) hg hsize T L Z LZ M LM (P1 :: Ps)
    (fun P hP => by rcases List.mem_cons.mp hP with rfl | hP; exact L1; exact hL P hP) ⟨hlink1, hlink⟩ (u0 := u0) (sen := sen) (self := a) hmsg (cell := freshCell P1.m.cls kX) (cellS := cellS)
    hcell (fun _ => by simp) (by simp) rfl rfl hsel0 hselF hcellS hneS hknownS (by rw [hkeep _ (hout' _)]; exact hu0) (by rw [hkeep _ (hout' _)]; exact hsen)
    (Takes.of_laid hk hord tyC (by rw [Y.causeType]; rfl)) (Takes.of_laid hk hord tyS (by rw [Y.stackType]; exact fits_refV_array _ u0)) (Takes.of_laid hk hord tyP (by rw [Y.suppType]; exact fits_refV_object _ sen))
    (Takes.of_laid hk hord tyM (by rw [Y.msgType]; exact fits_refV_object _ ⟨msg, hmsg⟩)) Y.objLocals hskip htr [] hd6
    (by simp only [List.length_cons, hlen]; omega) (by simp only [List.length_cons, hlen]; exact hRlocals)
  have hlt : a < ((W.setVm vm₁).setVm vm₂).heap.size := (Array.getElem?_eq_some_iff.mp hcell).1
  refine ⟨(W.setVm vm₁).setVm vm₂, _, _, X₂, fun y hy => ?_, hlt, rfl, rfl, fun target hwalk => st1 _ (fun acts => ?_)⟩
  · simp only [List.mem_cons, List.not_mem_nil, or_false] at hy
    rcases hy with rfl | rfl | rfl | rfl | rfl <;> rfl
  · rw [doInvoke_state]
    exact st2 _ hwalk
set_option maxHeartbeats 1000000 in
theorem vx_ctorMade0 (X : Stand p l e R s m₀ args below meth c W locs cells slots) (hexec : p.tables.exec = Jvm.exec) (htr : e.platform.stackTraces = false) {own cls : String} {names : List String} {ic : Nat}
    (hown : s.vm.findClass own = some m₀.cls) (hcls : Bundle.fit cls = true) (hnames : ∀ n ∈ names, Bundle.fit n = true)
    (h : ∀ a ∈ Bundle.ownAtoms0 own ic cls names, a.before args s = true)
    (hlocs : ∀ x ∈ locs, ∀ cell, s.heap[x.base]? = some cell → cell.vm.isStatics = false)
    {a : Addr} {cX : ClassId} {kX : Class} (hfoundX : s.vm.findClass cls = some cX) (hkX : s.vm.classes[cX]? = some kX) (hcell : W.heap[a]? = some (freshCell cX kX)) (hnew : s.heap.size ≤ a)
    {g : JFrame} (hg : g.method = m₀) (hsize : g.locals.size = c.maxLocals) {rest : List Value} (hstack : g.stack = .ref a :: .ref a :: rest)
    (hd6 : decode c.code g.pc = .ok (.invokespecial ic, 3))
    (hRframes : names.length + 3 < R.frames) (hRlocals : 2 * g.monitorRoom + ((Value.ref a :: rest).map fun v => v.category).sum + (13 * (names.length + 1) + 41) ≤ R.locals) :
    ∃ (V : State) (ce : Cell) (L : List Loc), Stand p l e R s m₀ args below meth c (V.setCell a ce) (locs ++ L) cells slots ∧ (∀ y ∈ L, y.base = a) ∧ a < V.heap.size ∧ ce.cls = cX ∧ ce.vm = .none ∧
      ∀ target, Steps p.tables e below ((V.setCell a ce).setTop { g with stack := .ref a :: rest, pc := g.pc + 3 }) target → Steps p.tables e below (W.setTop g) target := by
  have howns : e.platform.frameOwnsMonitors = true := by rw [X.admits.platform]
  have hfin : e.platform.finalization = false := by rw [X.admits.platform]
  have hpl : e.platform.magicAccessors = ({} : Platform).magicAccessors := by rw [X.admits.platform]
  have a' : ∀ x, x ∈ Bundle.ownAtoms0 own ic cls names → x.holds args s none s [] = true := fun x hx => h x hx
  obtain ⟨T, Z, L, LZ, Y⟩ := ThrowableC.of_atoms (args := args) howns hfin hpl (fun x hx => h x (by simp [Bundle.ownAtoms0, hx]))
  obtain ⟨P1, Ps, hlen, L1, hL, hP1m, hlink1, hlink⟩ := Bundle.chain0 (args := args) hpl Y.init0 names cls hcls hnames (fun x hx => h x (by simp [Bundle.ownAtoms0, hx]))
  have hfound : s.vm.findClass cls = some P1.m.cls := findClass_of_methodNamed hP1m
  cases Option.some.inj (hfoundX.symm.trans hfound)
  obtain ⟨c1, kX', hc1, hk, hord, -, -, hn6⟩ := Cond.instantiable_spec (a' (.instantiable cls 6) (by simp [Bundle.ownAtoms0]))
  cases Option.some.inj (hc1.symm.trans hfound)
  cases Option.some.inj (hkX.symm.trans hk)
  have hsel0 : selectMethod e.platform s.vm P1.m.cls T.fill0 = .method T.fill0 := by
    obtain ⟨c2, r2, m2, q1, q2, q3, q4, -⟩ := Cond.selects_spec (a' (.selects cls Bundle.tFill0 Bundle.tFill0) (by simp [Bundle.ownAtoms0]))
    cases Option.some.inj (q1.symm.trans hfound)
    cases Option.some.inj (q2.symm.trans (State.methodFound?_of_named Y.fill0 (by decide)))
    cases Option.some.inj (q3.symm.trans Y.fill0)
    rw [Launch.admits_selectMethod X.admits]; exact q4
  have hselF : selectMethod e.platform s.vm P1.m.cls T.fill = .method T.fill := by
    obtain ⟨c2, r2, m2, q1, q2, q3, q4, -⟩ := Cond.selects_spec (a' (.selects cls Bundle.tFill Bundle.tFill) (by simp [Bundle.ownAtoms0]))
    cases Option.some.inj (q1.symm.trans hfound)
    cases Option.some.inj (q2.symm.trans (State.methodFound?_of_named Y.fill (by decide)))
    cases Option.some.inj (q3.symm.trans Y.fill)
    rw [Launch.admits_selectMethod X.admits]; exact q4
  obtain ⟨cellS0, hcS0, hiss⟩ := Y.statics
  obtain ⟨u0, hu0⟩ := Cond.staticRefV Y.unassigned L.unassignedStatic L.statics hcS0 hiss (a' (.isRef (.static Bundle.tN "UNASSIGNED_STACK" Bundle.steD)) (by simp [Bundle.ownAtoms0]))
  obtain ⟨sen, hsen⟩ := Cond.staticRefV Y.sentinel L.sentinelStatic L.statics hcS0 hiss (a' (.isRef (.static Bundle.tN "SUPPRESSED_SENTINEL" Bundle.listD)) (by simp [Bundle.ownAtoms0]))
  obtain ⟨ci198, i198, fB, hk198, hg198, ha198, hsB, -, hnB, htB, hffB⟩ := Cond.ownField (t := .object "java/lang/Object") Y.found L.cls (by decide +kernel) (a' (.fieldLink Bundle.tN 198 Bundle.tN "backtrace" "Ljava/lang/Object;") (by simp [Bundle.ownAtoms0])) (a' (.lays Bundle.tN Bundle.tN "backtrace" "Ljava/lang/Object;") (by simp [Bundle.ownAtoms0])) e.platform hpl
  obtain ⟨cellS, hcS', heS, -, hkeep⟩ := X.same.2.2.2.2.2 T.aS cellS0 hcS0
  have hcellS : W.heap[T.aS]? = some cellS := hcS'
  have hout' : ∀ i, (⟨T.aS, i⟩ : Loc) ∉ locs := fun i hmem => by
    have := hlocs _ hmem cellS0 hcS0
    rw [hiss] at this; cases this
  have hknownS : cellS.vm ≠ .unknown := by
    rw [heS]; intro hu
    rw [show cellS0.vm = .unknown from hu] at hiss
    cases hiss
  have hneS : T.aS ≠ a := Nat.ne_of_lt (Nat.lt_of_lt_of_le (Array.getElem?_eq_some_iff.mp hcS0).1 hnew)
  obtain ⟨iM, hffM⟩ := Y.msg
  obtain ⟨tyC, dC, hdC, hdnC⟩ := Cond.laysAt hfound hk Y.cause (a' (.lays cls Bundle.tN "cause" "Ljava/lang/Throwable;") (by simp [Bundle.ownAtoms0]))
  obtain ⟨tyS, dS, hdS, hdnS⟩ := Cond.laysAt hfound hk Y.stack (a' (.lays cls Bundle.tN "stackTrace" Bundle.steD) (by simp [Bundle.ownAtoms0]))
  obtain ⟨tyP, dP, hdP, hdnP⟩ := Cond.laysAt hfound hk Y.supp (a' (.lays cls Bundle.tN "suppressedExceptions" Bundle.listD) (by simp [Bundle.ownAtoms0]))
  obtain ⟨tyM, dM, hdM, hdnM⟩ := Cond.laysAt hfound hk hffM (a' (.lays cls Bundle.tN "detailMessage" "Ljava/lang/String;") (by simp [Bundle.ownAtoms0]))
  obtain ⟨tyB, dB, hdB, hdnB⟩ := Cond.laysAt hfound hk hffB (a' (.lays cls Bundle.tN "backtrace" "Ljava/lang/Object;") (by simp [Bundle.ownAtoms0]))
  have bC := Cond.laysApart hdB hdC hdnB hdnC (by rw [hnB, Y.causeName]; decide)
  have bS := Cond.laysApart hdB hdS hdnB hdnS (by rw [hnB, Y.stackName]; decide)
  have bP := Cond.laysApart hdB hdP hdnB hdnP (by rw [hnB, Y.suppName]; decide)
  have hskip : SkipFacts T e.platform s (fun u => u) u0 ((preparedCellV T.toThrowableT (freshCell P1.m.cls kX) a u0 sen).withEntry W.cur) :=
    ⟨{ ci198 := ci198, i198 := i198, fBack := fB }, ⟨hk198, hg198, ha198, hsB⟩, by
      have := fresh_default (c := P1.m.cls) tyB
      rw [htB] at this
      simpa [preparedCellV, Cell.setSlot, Cell.withEntry, Array.getElem?_setIfInBounds, bC, bS, bP, bC.symm, bS.symm, bP.symm, defaultValue] using this, fun _ _ => rfl⟩
  obtain ⟨tm, methC, cdC, kC, vm₁, hnC, -, -, -, -, -, -, -, hW₁, st1⟩ := Steps.initCold (tb := p.tables) (e := e) (below := below) (s := s) (U := W) X.here hexec X.warmed hpl hown (t := Bundle.init0 cls) rfl rfl (Bundle.fit_spec hcls).2
    (a' (.methodLink own ic (Bundle.init0 cls)) (by simp [Bundle.ownAtoms0])) (h (.instanceMethod (Bundle.init0 cls)) (by cases names <;> simp [Bundle.ownAtoms0, Bundle.chain0Atoms, Bundle.passAtoms])) (bytes := Bundle.five) (maxL := 1) (h (.code (Bundle.init0 cls) Bundle.five 1 none) (by cases names <;> simp [Bundle.ownAtoms0, Bundle.chain0Atoms, Bundle.passAtoms]))
    (f := g) hg (a := a) (rest := .ref a :: rest) hstack hd6
  cases Option.some.inj (hnC.symm.trans hP1m)
  have X₁ := X.noted hW₁
  obtain ⟨vm₂, X₂, st2⟩ := X₁.ctorPlainOffV hexec (g := { g with stack := .ref a :: rest }) hg hsize T L Z LZ (P1 :: Ps)
    (fun P hP => by rcases List.mem_cons.mp hP with rfl | hP; exact L1; exact hL P hP) ⟨hlink1, hlink⟩ (u0 := u0) (sen := sen) (self := a) (cell := freshCell P1.m.cls kX) (cellS := cellS)
    hcell (fun _ => by simp) (by simp) rfl rfl hsel0 hselF hcellS hneS hknownS (by rw [hkeep _ (hout' _)]; exact hu0) (by rw [hkeep _ (hout' _)]; exact hsen)
    (Takes.of_laid hk hord tyC (by rw [Y.causeType]; rfl)) (Takes.of_laid hk hord tyS (by rw [Y.stackType]; exact fits_refV_array _ u0)) (Takes.of_laid hk hord tyP (by rw [Y.suppType]; exact fits_refV_object _ sen)) Y.objLocals hskip htr [] hd6
    (by simp only [List.length_cons, hlen]; omega) (by simp only [List.length_cons, hlen]; exact hRlocals)
  have hlt : a < ((W.setVm vm₁).setVm vm₂).heap.size := (Array.getElem?_eq_some_iff.mp hcell).1
  refine ⟨(W.setVm vm₁).setVm vm₂, _, _, X₂, fun y hy => ?_, hlt, rfl, rfl, fun target hwalk => st1 _ (fun acts => ?_)⟩
  · simp only [List.mem_cons, List.not_mem_nil, or_false] at hy
    rcases hy with rfl | rfl | rfl | rfl <;> rfl
  · rw [doInvoke_state]
    exact st2 _ hwalk
end VXK
section VXK2
variable {p : Program} {l : Launch} {e : Env} {R : Room} {s : State} {m : MethodId} {args : Array Value} {below : List Frame} {meth : Method} {c : Code} {H : Heap} {locs : List Loc} {cells slots : Nat} {Q : State → Prop}
variable {ls : Array Slot} {rest : List Value} {D : va_G} {cl : List vw_C} {tys : List (ClassId × FieldType)} {ws : va_W}
/-- 'new E("text")' that isn't thrown at once: the object goes on the stack -/
theorem vx_makeS {cc : ByteArray} {pc : Nat} (hexec : p.tables.exec = Jvm.exec) (hb : c.code = cc) (hl : l.stackTraces = false) {own cls text : String} {names : List String} {ik is ic sa ci : Nat} {A : Nat → Prop} {T0 : u_T}
    (hown : s.vm.findClass own = some m.cls) (hcls : Bundle.fit cls = true) (hnames : ∀ n ∈ names, Bundle.fit n = true)
    (hk : (Cond.classLink own ik cls).before args s = true) (hini : (Cond.initialized cls).before args s = true) (hstr : vk_R own is text sa s) (hat : ∀ w ∈ vx_atS own ic cls names, w.before args s = true)
    (hgood : ∀ w ∈ Cond.classLink own ik cls :: Cond.initialized cls :: vx_atS own ic cls names, vx_ot w = true)
    (hU : vx_Zq Bundle.tN "UNASSIGNED_STACK" Bundle.steD A s s.heap) (hN : vx_Zq Bundle.tN "SUPPRESSED_SENTINEL" Bundle.listD A s s.heap) (hS : va_S A s.heap H locs) (hsize : ls.size = c.maxLocals)
    (d0 : decode cc pc = .ok (.new ik, 3)) (d3 : decode cc (pc + 3) = .ok (.dup, 1)) (d4 : decode cc (pc + 4) = .ok (.ldc is, 2)) (d6 : decode cc (pc + 6) = .ok (.invokespecial ic, 3))
    (hK : va_K D cl tys s) (hP : va_P D cl ws H) (hD : va_D A ws) (hA : ∀ q, s.heap.size ≤ q → A q) (hc : cl[ci]? = some (cls, T0, 0))
    (hRframes : names.length + 3 < R.frames) (hRlocals : (rest.map fun v => v.category).sum + (13 * (names.length + 1) + 43) ≤ R.locals) (hRcells : cells + 1 ≤ R.cells) (hRslots : slots + 6 ≤ R.slots)
    (kk : ∀ (q : Nat) (H1 : Heap), va_P D cl (ws ++ [(q, .inr (ci, []))]) H1 → va_D A (ws ++ [(q, .inr (ci, []))]) → va_S A s.heap H1 locs → W p l e R s m args below meth c H1 locs (cells + 1) (slots + 6) Q (F0 m (pc + 9) ls (.ref q :: rest))) :
    W p l e R s m args below meth c H locs cells slots Q (F0 m pc ls rest) := by
  intro T hT X
  subst hT
  have htr : e.platform.stackTraces = false := (show e.platform.stackTraces = l.stackTraces by rw [X.admits.platform]).trans hl
  have Y := vx_rebase X (R' := { frames := R.frames, locals := R.locals, cells := 1, slots := 6 }) (Nat.le_refl _) (Nat.le_refl _) hRcells hRslots
  obtain ⟨s', hA'⟩ : ∃ z, z = (T.setVm s.vm).setFrames (.invoking m args :: below) := ⟨_, rfl⟩
  rw [← hA'] at Y
  have hvm : s'.vm = s.vm := by rw [hA']; rfl
  have hhp : s'.heap = T.heap := by rw [hA']; rfl
  have hW0 : s.WarmedH s'.vm := by rw [hvm]; exact State.WarmedH.refl s
  have hat' : ∀ w ∈ vx_atS own ic cls names, w.before args s' = true := fun w hw => vx_ot_at hW0 hvm.symm (hgood w (List.mem_cons_of_mem _ (List.mem_cons_of_mem _ hw))) (hat w hw)
  have hk' : (Cond.classLink own ik cls).before args s' = true := vx_ot_at hW0 hvm.symm (hgood _ List.mem_cons_self) hk
  have hini' : (Cond.initialized cls).before args s' = true := vx_ot_at hW0 hvm.symm (hgood _ (List.mem_cons_of_mem _ List.mem_cons_self)) hini
  have hU' : vx_Zq Bundle.tN "UNASSIGNED_STACK" Bundle.steD A s' s'.heap := by rw [hhp]; exact vx_Zq.moved hW0.alike (hU.kept hS.2.1)
  have hN' : vx_Zq Bundle.tN "SUPPRESSED_SENTINEL" Bundle.listD A s' s'.heap := by rw [hhp]; exact vx_Zq.moved hW0.alike (hN.kept hS.2.1)
  have h : ∀ w ∈ Bundle.ownAtoms own ic cls names, w.before args s' = true := vx_own hat' (vx_isRefq hU'.1) (vx_isRefq hN'.1) hU'.2.word hN'.2.word
  have hown' : s'.vm.findClass own = some m.cls := by rw [hvm]; exact hown
  have hins : (Cond.instantiable cls 6).before args s' = true := h _ (by simp [Bundle.ownAtoms])
  obtain ⟨vm₁, cX, kX, hfX, hkX, -, -, X₁, st1⟩ := Y.newCold hexec (own := own) (C := cls) (index := ik) (n := 6) hown' hk' hins hini'
    (g := F0 m pc ls rest) rfl (by rw [hb]; exact d0) (Nat.le_refl _) (Nat.le_refl _)
  generalize hT1 : (T.setVm vm₁).pushCell { cls := cX, slots := kX.instanceTypes.map defaultValue, vm := .none } = T1 at X₁ st1
  have hcat : (Value.ref T.heap.size).category = 1 := rfl
  have hcellA : T1.heap[T.heap.size]? = some (freshCell cX kX) := by rw [← hT1]; exact State.heap_pushCell_size _ _
  have d3' : decode c.code (pc + 3) = .ok (.dup, 1) := by rw [hb]; exact d3
  have d4' : decode c.code (pc + 4) = .ok (.ldc is, 2) := by rw [hb]; exact d4
  have hstr' : vk_R own is text sa s' := vk_R.warm hW0 hstr
  obtain ⟨V, ce, L, Z, hL, hlt, hcl9, hvm9, st⟩ := vx_ctorMadeS X₁ hexec htr (own := own) (cls := cls) (names := names) (ic := ic) hown' hcls hnames h (fun x hx => nomatch hx) hfX hkX hcellA (by rw [hhp]; exact Nat.le_refl _) (msg := .ref sa) rfl
    (g := { method := m, pc := pc + 6, locals := ls, stack := .ref sa :: .ref T.heap.size :: .ref T.heap.size :: rest, locked := none }) rfl hsize (rest := rest) rfl
    (by rw [hb]; exact d6) hRframes (by simp only [List.map_cons, List.sum_cons, hcat]; omega)
  have Z0 := Stand.forget (locs := []) Z (fun y hy => by rw [hL y hy, hhp]; exact Nat.le_refl _)
  obtain ⟨f1, f2⟩ := vx_frame Z0.same
  rw [hhp] at f1 f2
  have hcid : ce.cls = D.1 ci := by
    rw [hcl9]
    have h1 := (hK.1 ci _ hc).2.1
    rw [hvm] at hfX
    exact Option.some.inj (hfX.symm.trans h1)
  have hh : (V.setCell T.heap.size ce).heap[T.heap.size]? = some ce := heapAt_setCell_self (s := V) ce hlt
  subst hA'
  have X5 := vx_back9 X Y Z0
  have X6 : Stand p l e R s m args below meth c (V.setCell T.heap.size ce) locs (cells + 1) (slots + 6) := { X5 with same := X5.same.mono (by omega) (by omega) }
  have hk9 : ∀ (k : Nat) (x : Nat × va_E), ws[k]? = some x → (V.setCell T.heap.size ce).heap[x.1]? = T.heap[x.1]? := fun k x hx => f2 x.1 ((hP k x hx).lt) (fun z hz => nomatch hz)
  obtain ⟨t, a1, b1⟩ := kk T.heap.size (V.setCell T.heap.size ce).heap ((hP.kept hk9).app (fun k x hx => by
      have hz : k < 1 := (List.getElem?_eq_some_iff.mp hx).1
      rw [show k = 0 by omega] at hx
      cases hx
      exact ⟨_, hc, ce, hh, hcid, hvm9, fun k hk => absurd hk (Nat.not_lt_zero k)⟩)) (hD.push hP rfl (hA _ hS.1)) ⟨Nat.le_trans hS.1 f1, fun q h1 h2 => (f2 q (Nat.lt_of_lt_of_le h1 hS.1) (fun z hz => nomatch hz)).trans (hS.2.1 q h1 h2), hS.2.2⟩ _ rfl X6
  refine ⟨t, st1 _ ?_, b1⟩
  show Steps p.tables e below (T1.setTop { method := m, pc := pc + 3, locals := ls, stack := .ref T.heap.size :: rest, locked := none }) _
  jvm_step X₁.here [X₁.here.top, hexec, d3', Value.category]
  exact X₁.ldcString hexec (own := own) (text := text) (index := is) (a := sa) hown' hstr'.1 hstr'.2
    (g := { method := m, pc := pc + 4, locals := ls, stack := .ref T.heap.size :: .ref T.heap.size :: rest, locked := none }) rfl d4' _ (st _ a1)
/-- 'new E()' that isn't thrown at once: the object goes on the stack -/
theorem vx_make0 {cc : ByteArray} {pc : Nat} (hexec : p.tables.exec = Jvm.exec) (hb : c.code = cc) (hl : l.stackTraces = false) {own cls : String} {names : List String} {ik ic ci : Nat} {A : Nat → Prop} {T0 : u_T}
    (hown : s.vm.findClass own = some m.cls) (hcls : Bundle.fit cls = true) (hnames : ∀ n ∈ names, Bundle.fit n = true)
    (hk : (Cond.classLink own ik cls).before args s = true) (hini : (Cond.initialized cls).before args s = true) (hat : ∀ w ∈ vx_at0 own ic cls names, w.before args s = true)
    (hgood : ∀ w ∈ Cond.classLink own ik cls :: Cond.initialized cls :: vx_at0 own ic cls names, vx_ot w = true)
    (hU : vx_Zq Bundle.tN "UNASSIGNED_STACK" Bundle.steD A s s.heap) (hN : vx_Zq Bundle.tN "SUPPRESSED_SENTINEL" Bundle.listD A s s.heap) (hS : va_S A s.heap H locs) (hsize : ls.size = c.maxLocals)
    (d0 : decode cc pc = .ok (.new ik, 3)) (d3 : decode cc (pc + 3) = .ok (.dup, 1)) (d4 : decode cc (pc + 4) = .ok (.invokespecial ic, 3))
    (hK : va_K D cl tys s) (hP : va_P D cl ws H) (hD : va_D A ws) (hA : ∀ q, s.heap.size ≤ q → A q) (hc : cl[ci]? = some (cls, T0, 0))
    (hRframes : names.length + 3 < R.frames) (hRlocals : (rest.map fun v => v.category).sum + (13 * (names.length + 1) + 42) ≤ R.locals) (hRcells : cells + 1 ≤ R.cells) (hRslots : slots + 6 ≤ R.slots)
    (kk : ∀ (q : Nat) (H1 : Heap), va_P D cl (ws ++ [(q, .inr (ci, []))]) H1 → va_D A (ws ++ [(q, .inr (ci, []))]) → va_S A s.heap H1 locs → W p l e R s m args below meth c H1 locs (cells + 1) (slots + 6) Q (F0 m (pc + 7) ls (.ref q :: rest))) :
    W p l e R s m args below meth c H locs cells slots Q (F0 m pc ls rest) := by
  intro T hT X
  subst hT
  have htr : e.platform.stackTraces = false := (show e.platform.stackTraces = l.stackTraces by rw [X.admits.platform]).trans hl
  have Y := vx_rebase X (R' := { frames := R.frames, locals := R.locals, cells := 1, slots := 6 }) (Nat.le_refl _) (Nat.le_refl _) hRcells hRslots
  obtain ⟨s', hA'⟩ : ∃ z, z = (T.setVm s.vm).setFrames (.invoking m args :: below) := ⟨_, rfl⟩
  rw [← hA'] at Y
  have hvm : s'.vm = s.vm := by rw [hA']; rfl
  have hhp : s'.heap = T.heap := by rw [hA']; rfl
  have hW0 : s.WarmedH s'.vm := by rw [hvm]; exact State.WarmedH.refl s
  have hat' : ∀ w ∈ vx_at0 own ic cls names, w.before args s' = true := fun w hw => vx_ot_at hW0 hvm.symm (hgood w (List.mem_cons_of_mem _ (List.mem_cons_of_mem _ hw))) (hat w hw)
  have hk' : (Cond.classLink own ik cls).before args s' = true := vx_ot_at hW0 hvm.symm (hgood _ List.mem_cons_self) hk
  have hini' : (Cond.initialized cls).before args s' = true := vx_ot_at hW0 hvm.symm (hgood _ (List.mem_cons_of_mem _ List.mem_cons_self)) hini
  have hU' : vx_Zq Bundle.tN "UNASSIGNED_STACK" Bundle.steD A s' s'.heap := by rw [hhp]; exact vx_Zq.moved hW0.alike (hU.kept hS.2.1)
  have hN' : vx_Zq Bundle.tN "SUPPRESSED_SENTINEL" Bundle.listD A s' s'.heap := by rw [hhp]; exact vx_Zq.moved hW0.alike (hN.kept hS.2.1)
  have h : ∀ w ∈ Bundle.ownAtoms0 own ic cls names, w.before args s' = true := vx_own hat' (vx_isRefq hU'.1) (vx_isRefq hN'.1) hU'.2.word hN'.2.word
  have hown' : s'.vm.findClass own = some m.cls := by rw [hvm]; exact hown
  have hins : (Cond.instantiable cls 6).before args s' = true := h _ (by simp [Bundle.ownAtoms0])
  obtain ⟨vm₁, cX, kX, hfX, hkX, -, -, X₁, st1⟩ := Y.newCold hexec (own := own) (C := cls) (index := ik) (n := 6) hown' hk' hins hini'
    (g := F0 m pc ls rest) rfl (by rw [hb]; exact d0) (Nat.le_refl _) (Nat.le_refl _)
  generalize hT1 : (T.setVm vm₁).pushCell { cls := cX, slots := kX.instanceTypes.map defaultValue, vm := .none } = T1 at X₁ st1
  have hcat : (Value.ref T.heap.size).category = 1 := rfl
  have hcellA : T1.heap[T.heap.size]? = some (freshCell cX kX) := by rw [← hT1]; exact State.heap_pushCell_size _ _
  have d3' : decode c.code (pc + 3) = .ok (.dup, 1) := by rw [hb]; exact d3
  obtain ⟨V, ce, L, Z, hL, hlt, hcl9, hvm9, st⟩ := vx_ctorMade0 X₁ hexec htr (own := own) (cls := cls) (names := names) (ic := ic) hown' hcls hnames h (fun x hx => nomatch hx) hfX hkX hcellA (by rw [hhp]; exact Nat.le_refl _)
    (g := { method := m, pc := pc + 4, locals := ls, stack := .ref T.heap.size :: .ref T.heap.size :: rest, locked := none }) rfl hsize (rest := rest) rfl
    (by rw [hb]; exact d4) hRframes (by simp only [List.map_cons, List.sum_cons, hcat]; omega)
  have Z0 := Stand.forget (locs := []) Z (fun y hy => by rw [hL y hy, hhp]; exact Nat.le_refl _)
  obtain ⟨f1, f2⟩ := vx_frame Z0.same
  rw [hhp] at f1 f2
  have hcid : ce.cls = D.1 ci := by
    rw [hcl9]
    have h1 := (hK.1 ci _ hc).2.1
    rw [hvm] at hfX
    exact Option.some.inj (hfX.symm.trans h1)
  have hh : (V.setCell T.heap.size ce).heap[T.heap.size]? = some ce := heapAt_setCell_self (s := V) ce hlt
  subst hA'
  have X5 := vx_back9 X Y Z0
  have X6 : Stand p l e R s m args below meth c (V.setCell T.heap.size ce) locs (cells + 1) (slots + 6) := { X5 with same := X5.same.mono (by omega) (by omega) }
  have hk9 : ∀ (k : Nat) (x : Nat × va_E), ws[k]? = some x → (V.setCell T.heap.size ce).heap[x.1]? = T.heap[x.1]? := fun k x hx => f2 x.1 ((hP k x hx).lt) (fun z hz => nomatch hz)
  obtain ⟨t, a1, b1⟩ := kk T.heap.size (V.setCell T.heap.size ce).heap ((hP.kept hk9).app (fun k x hx => by
      have hz : k < 1 := (List.getElem?_eq_some_iff.mp hx).1
      rw [show k = 0 by omega] at hx
      cases hx
      exact ⟨_, hc, ce, hh, hcid, hvm9, fun k hk => absurd hk (Nat.not_lt_zero k)⟩)) (hD.push hP rfl (hA _ hS.1)) ⟨Nat.le_trans hS.1 f1, fun q h1 h2 => (f2 q (Nat.lt_of_lt_of_le h1 hS.1) (fun z hz => nomatch hz)).trans (hS.2.1 q h1 h2), hS.2.2⟩ _ rfl X6
  refine ⟨t, st1 _ ?_, b1⟩
  show Steps p.tables e below (T1.setTop { method := m, pc := pc + 3, locals := ls, stack := .ref T.heap.size :: rest, locked := none }) _
  jvm_step X₁.here [X₁.here.top, hexec, d3', Value.category]
  exact st _ a1
/-- 'throw x' of an object that was made before -/
theorem vx_athrow {cc : ByteArray} {pc : Nat} (hexec : p.tables.exec = Jvm.exec) (hb : c.code = cc) {q : Addr} (hdg : decode cc pc = .ok (.athrow, 1)) (k : vx_W p l e R s m args below meth c H locs cells slots Q (F0 m pc ls rest) q) : W p l e R s m args below meth c H locs cells slots Q (F0 m pc ls (.ref q :: rest)) := by
  intro T hT X
  obtain ⟨t, st, hq⟩ := k T hT X
  refine ⟨t, ?_, hq⟩
  have hdg' : decode c.code pc = .ok (.athrow, 1) := by rw [hb]; exact hdg
  jvm_step X.here [X.here.top, hexec, hdg', athrow.wp_sem]
  exact st
end VXK2
/-! ===== END ===== -/
/-! ===== BEGIN a constructor that throws (launches without stack traces) ===== -/
section VXIA
variable {p : Program} {l : Launch} {e : Env} {R : Room} {s : State} {m : MethodId} {args : Array Value} {below : List Frame} {meth : Method} {c : Code} {T : State} {locs : List Loc} {cells slots : Nat}
theorem vx_callI (X : Stand p l e R s m args below meth c T locs cells slots) (hexec : p.tables.exec = Jvm.exec) {own : String} {index : Nat} {y : MethodName} {bytes : ByteArray} {maxL : Nat}
    (hown : s.vm.findClass own = some m.cls) (hy1 : y.name = "<init>") (hlink : (Cond.methodLink own index y).before args s = true) (hinst : (Cond.instanceMethod y).before args s = true)
    (hcode : (Cond.code y bytes maxL none).before args s = true) (hy : y.cls ≠ "java/lang/invoke/MethodHandle" ∧ y.cls ≠ "java/lang/invoke/VarHandle")
    {W9 : Nat} {Pre : Pt → Array Value → Prop} {Post : Pt → Array Value → Option Value → Pt → Prop} {PostX : Pt → Array Value → Addr → Pt → Prop} (hK : vx_Back l R p e below s args y 3 W9 Pre Post PostX)
    {g : JFrame} (hg : g.method = m) (hsize : g.locals.size = c.maxLocals) {a : Addr} {argsL rest : List Value} (hlen : ∀ sig, parseMethodDescriptor y.desc = some sig → argsL.length = sig.parameters.length)
    (hstack : g.stack = argsL.reverse ++ .ref a :: rest) (hW : 2 * g.monitorRoom + (rest.map fun v => v.category).sum ≤ W9) (hdg : decode c.code g.pc = .ok (.invokespecial index, 3))
    (hpre : ∀ vm₁, s.WarmedH vm₁ → Pre ⟨T.setVm vm₁, locs, cells, slots⟩ (Value.ref a :: argsL).toArray) :
    (∃ (v : Option Value) (vm₁ : Vm) (B : Pt), s.WarmedH vm₁ ∧ Stand p l e R s m args below meth c B.U B.locs B.cells B.slots ∧ Post ⟨T.setVm vm₁, locs, cells, slots⟩ (Value.ref a :: argsL).toArray v B ∧
      ∀ target, Steps p.tables e below (B.U.setTop { g with pc := g.pc + 3, stack := v.toList ++ rest }) target → Steps p.tables e below (T.setTop g) target) ∨
    (∃ (q : Addr) (vm₁ : Vm) (B : Pt), s.WarmedH vm₁ ∧ Stand p l e R s m args below meth c B.U B.locs B.cells B.slots ∧ PostX ⟨T.setVm vm₁, locs, cells, slots⟩ (Value.ref a :: argsL).toArray q B ∧
      Steps p.tables e below (T.setTop g) ((B.U.setTop { g with stack := rest }).pushFrame (.throwing q))) := by
  subst hg
  have hpl : e.platform.magicAccessors = ({} : Platform).magicAccessors := by rw [X.admits.platform]
  obtain ⟨mk, methM, cM, kP, vm₁, hnamed, hmethM, hcodeM, -, hlocalsM, -, hkP, -, hW₁, hstep₁⟩ := Steps.initColdArgs (e := e) X.here hexec X.warmed hpl hown hy1 hy hlink hinst hcode (f := g) rfl hlen hstack hdg
  have X₁ := X.noted hW₁
  rcases hK g.method meth c ⟨T.setVm vm₁, locs, cells, slots⟩ { g with stack := rest } (.invokespecial index) mk (Value.ref a :: argsL).toArray X₁ rfl hsize hdg hW (X₁.named hnamed) (hpre vm₁ X₁.warmed) with ⟨v, B, X', hpost, hsteps⟩ | ⟨q, B, X', hpost, hsteps⟩
  · exact Or.inl ⟨v, vm₁, B, X₁.warmed, X', hpost, fun target h => hstep₁ _ fun acts => by rw [doInvoke_state]; exact hsteps.trans h⟩
  · exact Or.inr ⟨q, vm₁, B, X₁.warmed, X', hpost, hstep₁ _ fun acts => by rw [doInvoke_state]; exact hsteps⟩
end VXIA
section VXIB
variable {p : Program} {l : Launch} {e : Env} {R : Room} {s : State} {m : MethodId} {args : Array Value} {below : List Frame} {meth : Method} {c : Code} {H : Heap} {locs : List Loc} {cells slots : Nat}
variable {y : MethodName} {bytes cc : ByteArray} {maxL nL mc ms n index : Nat} {ret : Option FieldType} {ws : List Cond} {rm : Room} {Pc : Array Value → State → Prop} {Qc : Array Value → State → Outcome → State → Prop} {XC : String → State → State → Prop} {free : Addr → Prop} {Ts : List Cond} {own C : String} {b : Addr} {As rest : List Value} {g : JFrame}
theorem vx_runI (S : CallFix p m c cc nL s args Ts own) (hM : vx_Met l y ws rm Pc Qc XC mc ms free) (cw : CallB R s args own index y bytes maxL none ws rm mc ms n ∧ y.name = "<init>" ∧ (Cond.instanceMethod y).before args s = true) (hp : PreS s H Pc (.ref b :: As))
    (hg : g.method = m) (hn : As.length = n) (hsize : g.locals.size = nL) (hstack : g.stack = As.reverse ++ .ref b :: rest) (hW : 2 * g.monitorRoom + (rest.map fun v => v.category).sum ≤ 8) (hdg : decode cc g.pc = .ok (.invokespecial index, 3)) (hf : cells + mc ≤ R.cells ∧ slots + ms ≤ R.slots) :
    vx_Run p l e R s m args below meth c H locs cells slots mc ms g rest (Qc (Value.ref b :: As).toArray) XC free := by
  have hK : vx_Back l R p e below s args y 3 8 (PreOf R mc ms Pc) (PostOf Qc mc ms free) (vx_Post XC mc ms free) := vx_callBack cw.1 hM hp.1
  obtain ⟨⟨-, -, -, -, -, -, hcode, -, hy, hlen, hl⟩, hy1, hin⟩ := cw
  obtain ⟨hx, hb, hml, ho, -⟩ := S
  have hPc := hp.2
  intro T hT X
  rcases vx_callI X hx (bytes := bytes) (maxL := maxL) ho hy1 hl hin hcode hy hK hg (hsize.trans hml.symm) (a := b) (argsL := As) (rest := rest) (fun sig h => hn.trans (hlen sig h)) hstack hW (by rw [hb]; exact hdg)
    (fun vm₁ hW₁ => ⟨hf.1, hf.2, hPc (T.setVm vm₁) hT hW₁⟩) with ⟨v, vm₁, ⟨U', l2, c2, s2⟩, hW₁, X', ⟨g', mk, t, L, e1, e2, hq, h1, hL, h2, h3⟩, st⟩ | ⟨q, vm₁, ⟨U', l2, c2, s2⟩, hW₁, X', ⟨g', mk, t, L, E, ce, e1, e2, hq, hce, hcv, hcl, h1, hL, h2, h3⟩, st⟩
  · dsimp only [Pt.U, Pt.locs, Pt.cells, Pt.slots] at X' e1 e2 h1 h2 h3 st
    subst h1; subst h2; subst h3
    exact Or.inl ⟨v, (T.setVm vm₁).calling g' mk (Value.ref b :: As).toArray, t, U', L, hT, X', hL, e1, e2, hq, st⟩
  · dsimp only [Pt.U, Pt.locs, Pt.cells, Pt.slots] at X' e1 e2 h1 h2 h3 st hcl
    subst h1; subst h2; subst h3
    exact Or.inr ⟨q, (T.setVm vm₁).calling g' mk (Value.ref b :: As).toArray, t, U', L, E, ce, hT, X', hL, e1, e2, hq, hce, hcv, vx_cls hW₁ hcl, st⟩
end VXIB
/-! ===== END ===== -/
/-! ===== BEGIN a private constructor of a nest mate that throws ===== -/
section VXIC
variable {p : Program} {l : Launch} {e : Env} {R : Room} {s : State} {m : MethodId} {args : Array Value} {below : List Frame} {meth : Method} {c : Code} {T : State} {locs : List Loc} {cells slots : Nat}
theorem vx_callIN (X : Stand p l e R s m args below meth c T locs cells slots) (hexec : p.tables.exec = Jvm.exec) {own : String} {index : Nat} {host : String} {y : MethodName} {bytes : ByteArray} {maxL : Nat}
    (hown : s.vm.findClass own = some m.cls) (hy1 : y.name = "<init>") (hlink : (Cond.methodLinkNest own index y host).before args s = true) (hinst : (Cond.instanceMethod y).before args s = true)
    (hcode : (Cond.code y bytes maxL none).before args s = true) (hy : y.cls ≠ "java/lang/invoke/MethodHandle" ∧ y.cls ≠ "java/lang/invoke/VarHandle")
    {W9 : Nat} {Pre : Pt → Array Value → Prop} {Post : Pt → Array Value → Option Value → Pt → Prop} {PostX : Pt → Array Value → Addr → Pt → Prop} (hK : vx_Back l R p e below s args y 3 W9 Pre Post PostX)
    {g : JFrame} (hg : g.method = m) (hsize : g.locals.size = c.maxLocals) {a : Addr} {argsL rest : List Value} (hlen : ∀ sig, parseMethodDescriptor y.desc = some sig → argsL.length = sig.parameters.length)
    (hstack : g.stack = argsL.reverse ++ .ref a :: rest) (hW : 2 * g.monitorRoom + (rest.map fun v => v.category).sum ≤ W9) (hdg : decode c.code g.pc = .ok (.invokespecial index, 3))
    (hpre : ∀ vm₁, s.WarmedH vm₁ → Pre ⟨T.setVm vm₁, locs, cells, slots⟩ (Value.ref a :: argsL).toArray) :
    (∃ (v : Option Value) (vm₁ : Vm) (B : Pt), s.WarmedH vm₁ ∧ Stand p l e R s m args below meth c B.U B.locs B.cells B.slots ∧ Post ⟨T.setVm vm₁, locs, cells, slots⟩ (Value.ref a :: argsL).toArray v B ∧
      ∀ target, Steps p.tables e below (B.U.setTop { g with pc := g.pc + 3, stack := v.toList ++ rest }) target → Steps p.tables e below (T.setTop g) target) ∨
    (∃ (q : Addr) (vm₁ : Vm) (B : Pt), s.WarmedH vm₁ ∧ Stand p l e R s m args below meth c B.U B.locs B.cells B.slots ∧ PostX ⟨T.setVm vm₁, locs, cells, slots⟩ (Value.ref a :: argsL).toArray q B ∧
      Steps p.tables e below (T.setTop g) ((B.U.setTop { g with stack := rest }).pushFrame (.throwing q))) := by
  subst hg
  have hpl : e.platform.magicAccessors = ({} : Platform).magicAccessors := by rw [X.admits.platform]
  obtain ⟨mk, methM, cM, kP, vm₁, hnamed, hmethM, hcodeM, -, hlocalsM, -, hkP, -, hW₁, hstep₁⟩ := Steps.initColdArgsNest (e := e) X.here hexec X.warmed hpl hown hy1 hy hlink hinst hcode (f := g) rfl hlen hstack hdg
  have X₁ := X.noted hW₁
  rcases hK g.method meth c ⟨T.setVm vm₁, locs, cells, slots⟩ { g with stack := rest } (.invokespecial index) mk (Value.ref a :: argsL).toArray X₁ rfl hsize hdg hW (X₁.named hnamed) (hpre vm₁ X₁.warmed) with ⟨v, B, X', hpost, hsteps⟩ | ⟨q, B, X', hpost, hsteps⟩
  · exact Or.inl ⟨v, vm₁, B, X₁.warmed, X', hpost, fun target h => hstep₁ _ fun acts => by rw [doInvoke_state]; exact hsteps.trans h⟩
  · exact Or.inr ⟨q, vm₁, B, X₁.warmed, X', hpost, hstep₁ _ fun acts => by rw [doInvoke_state]; exact hsteps⟩
end VXIC
section VXID
variable {p : Program} {l : Launch} {e : Env} {R : Room} {s : State} {m : MethodId} {args : Array Value} {below : List Frame} {meth : Method} {c : Code} {H : Heap} {locs : List Loc} {cells slots : Nat}
theorem vx_runIN {y : MethodName} {bytes cc : ByteArray} {maxL nL mc ms n index : Nat} {ws : List Cond} {rm : Room} {Pc : Array Value → State → Prop} {Qc : Array Value → State → Outcome → State → Prop} {XC : String → State → State → Prop} {free : Addr → Prop} {Ts : List Cond} {own host : String} {b : Addr} {As rest : List Value} {g : JFrame}
    (S : CallFix p m c cc nL s args Ts own) (hM : vx_Met l y ws rm Pc Qc XC mc ms free) (cw : va_CN R s args own index y host bytes maxL none ws rm mc ms n ∧ y.name = "<init>" ∧ (Cond.instanceMethod y).before args s = true) (hp : PreS s H Pc (.ref b :: As))
    (hg : g.method = m) (hn : As.length = n) (hsize : g.locals.size = nL) (hstack : g.stack = As.reverse ++ .ref b :: rest) (hW : 2 * g.monitorRoom + (rest.map fun v => v.category).sum ≤ 8) (hdg : decode cc g.pc = .ok (.invokespecial index, 3)) (hf : cells + mc ≤ R.cells ∧ slots + ms ≤ R.slots) :
    vx_Run p l e R s m args below meth c H locs cells slots mc ms g rest (Qc (Value.ref b :: As).toArray) XC free := by
  obtain ⟨⟨⟨hrc, hrs, hfr, hlo, hws, hcw⟩, hcode, hini, hy, hlen, hl⟩, hx1, hx2⟩ := cw
  have hK : vx_Back l R p e below s args y 3 8 (PreOf R mc ms Pc) (PostOf Qc mc ms free) (vx_Post XC mc ms free) := vx_back (bytes := bytes) (maxL := maxL) (ret := none) hM hp.1 hrc hrs hfr hlo hws hcw (fun a' U hW => word_at hW (Or.inl (by first | rfl | simp [Cond.onTables, Cond.keeps, Cond.steady])) hini)
  obtain ⟨hx, hb, hml, ho, -⟩ := S
  have hPc := hp.2
  intro T hT X
  rcases vx_callIN X hx (bytes := bytes) (maxL := maxL) ho hx1 hl hx2 hcode hy hK hg (hsize.trans hml.symm) (a := b) (argsL := As) (rest := rest) (fun sig h => hn.trans (hlen sig h)) hstack hW (by rw [hb]; exact hdg)
    (fun vm₁ hW₁ => ⟨hf.1, hf.2, hPc (T.setVm vm₁) hT hW₁⟩) with ⟨v, vm₁, ⟨U', l2, c2, s2⟩, hW₁, X', ⟨g', mk, t, L, e1, e2, hq, h1, hL, h2, h3⟩, st⟩ | ⟨q, vm₁, ⟨U', l2, c2, s2⟩, hW₁, X', ⟨g', mk, t, L, E, ce, e1, e2, hq, hce, hcv, hcl, h1, hL, h2, h3⟩, st⟩
  · dsimp only [Pt.U, Pt.locs, Pt.cells, Pt.slots] at X' e1 e2 h1 h2 h3 st
    subst h1; subst h2; subst h3
    exact Or.inl ⟨v, (T.setVm vm₁).calling g' mk (Value.ref b :: As).toArray, t, U', L, hT, X', hL, e1, e2, hq, st⟩
  · dsimp only [Pt.U, Pt.locs, Pt.cells, Pt.slots] at X' e1 e2 h1 h2 h3 st hcl
    subst h1; subst h2; subst h3
    exact Or.inr ⟨q, (T.setVm vm₁).calling g' mk (Value.ref b :: As).toArray, t, U', L, E, ce, hT, X', hL, e1, e2, hq, hce, hcv, vx_cls hW₁ hcl, st⟩
end VXID
/-! ===== END ===== -/
/-! ===== BEGIN a method of a class above, found by the receiver, that may throw (follows va_callVU, va_runU of this kit) ===== -/
section
variable {p : Program} {l : Launch} {e : Env} {R : Room} {s : State} {m : MethodId} {args : Array Value} {below : List Frame} {meth : Method} {c : Code} {H : Heap} {locs : List Loc} {cells slots : Nat}
theorem vx_callVU {T : State} {locs : List Loc} {cells slots : Nat} (X : Stand p l e R s m args below meth c T locs cells slots) (hexec : p.tables.exec = Jvm.exec) {own C owner : String} {index : Nat} {x y : MethodName} {bytes : ByteArray} {maxL : Nat} {ret : Option FieldType}
    (hown : s.vm.findClass own = some m.cls) (hlink : (Cond.methodLink own index x).before args s = true) (hsame : (Cond.sameMethod x.cls owner x.name x.desc).before args s = true)
    (hd0 : va_Decl s ⟨owner, x.name, x.desc⟩) (howner : owner ≠ "java/lang/invoke/MethodHandle" ∧ owner ≠ "java/lang/invoke/VarHandle")
    (hsel : (Cond.selects C x y).before args s = true) (hinst : (Cond.instanceMethod y).before args s = true) (hcode : (Cond.code y bytes maxL ret).before args s = true)
    {W : Nat} {Pre : Pt → Array Value → Prop} {Post : Pt → Array Value → Option Value → Pt → Prop} {PostX : Pt → Array Value → Addr → Pt → Prop} (hK : vx_Back l R p e below s args y 3 W Pre Post PostX)
    {b : Addr} {cellB : Cell} (hcell : T.heap[b]? = some cellB) (hobj : cellB.vm.isStatics = false) (hcls : s.vm.findClass C = some cellB.cls)
    {g : JFrame} (hg : g.method = m) (hsize : g.locals.size = c.maxLocals) {argsL rest : List Value} (hlen : ∀ sig, parseMethodDescriptor x.desc = some sig → argsL.length = sig.parameters.length)
    (hstack : g.stack = argsL.reverse ++ .ref b :: rest) (hW : 2 * g.monitorRoom + (rest.map fun v => v.category).sum ≤ W) (hdg : decode c.code g.pc = .ok (.invokevirtual index, 3))
    (hpre : ∀ vm₁, s.WarmedH vm₁ → Pre ⟨T.setVm vm₁, locs, cells, slots⟩ (Value.ref b :: argsL).toArray) :
    (∃ (v : Option Value) (vm₁ : Vm) (B : Pt), s.WarmedH vm₁ ∧ Stand p l e R s m args below meth c B.U B.locs B.cells B.slots ∧ Post ⟨T.setVm vm₁, locs, cells, slots⟩ (Value.ref b :: argsL).toArray v B ∧
      ∀ target, Steps p.tables e below (B.U.setTop { g with pc := g.pc + 3, stack := v.toList ++ rest }) target → Steps p.tables e below (T.setTop g) target) ∨
    (∃ (q : Addr) (vm₁ : Vm) (B : Pt), s.WarmedH vm₁ ∧ Stand p l e R s m args below meth c B.U B.locs B.cells B.slots ∧ PostX ⟨T.setVm vm₁, locs, cells, slots⟩ (Value.ref b :: argsL).toArray q B ∧
      Steps p.tables e below (T.setTop g) ((B.U.setTop { g with stack := rest }).pushFrame (.throwing q))) := by
  obtain ⟨r0, r, hn, hrm, hstR, hsigR⟩ := hd0
  obtain ⟨cn, ck, r1, hcn, hck, hni, hf, hn1⟩ := Cond.sameMethod_found hsame
  cases hn.symm.trans hn1
  obtain ⟨mk, methM, hnamed, hmethM, -, habM⟩ := Cond.instanceMethod_spec hinst
  obtain ⟨c2, r2, m2, q1, q2, q3, q4, kP, hkP, hkPi⟩ := Cond.selects_spec hsel
  cases hcls.symm.trans q1
  cases hf.symm.trans q2
  cases hnamed.symm.trans q3
  have hselP : selectMethod e.platform s.vm cellB.cls r0 = .method mk := by rw [Launch.admits_selectMethod X.admits]; exact q4
  obtain ⟨vm₁, X₁, hstep₁⟩ := X.invokevirtualUp hexec hown hlink hsame howner hn hrm hstR (a := b) (cell := cellB) hcell
    (fun z h => by rw [h] at hobj; cases hobj) hselP hmethM habM hkP hkPi (g := g) hg (argsL := argsL) (rest := rest) (hlen _ hsigR) hstack hdg
  rcases hK m meth c ⟨T.setVm vm₁, locs, cells, slots⟩ { g with stack := rest } (.invokevirtual index) mk (Value.ref b :: argsL).toArray X₁ hg hsize hdg hW (X₁.named hnamed) (hpre vm₁ X₁.warmed) with ⟨v, B, X', hpost, hsteps⟩ | ⟨q, B, X', hpost, hsteps⟩
  · exact Or.inl ⟨v, vm₁, B, X₁.warmed, X', hpost, fun target h => hstep₁ _ fun acts => by rw [doInvoke_state]; exact hsteps.trans h⟩
  · exact Or.inr ⟨q, vm₁, B, X₁.warmed, X', hpost, hstep₁ _ fun acts => by rw [doInvoke_state]; exact hsteps⟩
theorem vx_runU {x y : MethodName} {bytes cc : ByteArray} {maxL nL mc ms n index : Nat} {ret : Option FieldType} {ws : List Cond} {rm : Room} {Pc : Array Value → State → Prop} {Qc : Array Value → State → Outcome → State → Prop} {XC : String → State → State → Prop} {free : Addr → Prop} {Ts : List Cond} {own C owner : String} {b : Addr} {As rest : List Value} {g : JFrame}
    (S : CallFix p m c cc nL s args Ts own) (hM : vx_Met l y ws rm Pc Qc XC mc ms free) (cw : va_CU R s args own C owner index x y bytes maxL ret ws rm mc ms n) (hp : PreV s H C b Pc As)
    (hg : g.method = m) (hn : As.length = n) (hsize : g.locals.size = nL) (hstack : g.stack = As.reverse ++ .ref b :: rest) (hW : 2 * g.monitorRoom + (rest.map fun v => v.category).sum ≤ 8) (hdg : decode cc g.pc = .ok (.invokevirtual index, 3)) (hf : cells + mc ≤ R.cells ∧ slots + ms ≤ R.slots) :
    vx_Run p l e R s m args below meth c H locs cells slots mc ms g rest (Qc (Value.ref b :: As).toArray) XC free := by
  obtain ⟨hrc, hrs, hfr, hlo, hws, hcw⟩ := cw.back
  have hini := cw.init
  have hK : vx_Back l R p e below s args y 3 8 (PreOf R mc ms Pc) (PostOf Qc mc ms free) (vx_Post XC mc ms free) := vx_back (bytes := bytes) (maxL := maxL) (ret := ret) hM hp.1 hrc hrs hfr hlo hws hcw (fun a' U hW => word_at hW (Or.inl (by first | rfl | simp [Cond.onTables, Cond.keeps, Cond.steady])) hini)
  obtain ⟨hx, hb, hml, ho, -⟩ := S
  obtain ⟨-, ⟨cellB, hcB, hoB, hclB⟩, hPc⟩ := hp
  intro T hT X
  rcases vx_callVU X hx (C := C) (owner := owner) (bytes := bytes) (maxL := maxL) (ret := ret) ho cw.link cw.same cw.decl cw.notMH cw.sel cw.inst cw.code hK (by rw [hT]; exact hcB) hoB hclB hg (hsize.trans hml.symm) (argsL := As) (rest := rest) (fun sig h => hn.trans (cw.len sig h)) hstack hW (by rw [hb]; exact hdg)
    (fun vm₁ hW₁ => ⟨hf.1, hf.2, hPc (T.setVm vm₁) hT hW₁⟩) with ⟨v, vm₁, ⟨U', l2, c2, s2⟩, hW₁, X', ⟨g', mk, t, L, e1, e2, hq, h1, hL, h2, h3⟩, st⟩ | ⟨q, vm₁, ⟨U', l2, c2, s2⟩, hW₁, X', ⟨g', mk, t, L, E, ce, e1, e2, hq, hce, hcv, hcl, h1, hL, h2, h3⟩, st⟩
  · dsimp only [Pt.U, Pt.locs, Pt.cells, Pt.slots] at X' e1 e2 h1 h2 h3 st
    subst h1; subst h2; subst h3
    exact Or.inl ⟨v, (T.setVm vm₁).calling g' mk (Value.ref b :: As).toArray, t, U', L, hT, X', hL, e1, e2, hq, st⟩
  · dsimp only [Pt.U, Pt.locs, Pt.cells, Pt.slots] at X' e1 e2 h1 h2 h3 st hcl
    subst h1; subst h2; subst h3
    exact Or.inr ⟨q, (T.setVm vm₁).calling g' mk (Value.ref b :: As).toArray, t, U', L, E, ce, hT, X', hL, e1, e2, hq, hce, hcv, vx_cls hW₁ hcl, st⟩
end
/-! ===== END ===== -/
/-! ===== BEGIN super.m(..) that may throw (follows va_callSU, va_runSU) ===== -/
section
variable {p : Program} {l : Launch} {e : Env} {R : Room} {s : State} {m : MethodId} {args : Array Value} {below : List Frame} {meth : Method} {c : Code} {H : Heap} {locs : List Loc} {cells slots : Nat}
theorem vx_callSU {T : State} {locs : List Loc} {cells slots : Nat} (X : Stand p l e R s m args below meth c T locs cells slots) (hexec : p.tables.exec = Jvm.exec) {own : String} {index : Nat} {y : MethodName} {bytes : ByteArray} {maxL : Nat} {ret : Option FieldType}
    (hown : s.vm.findClass own = some m.cls) (hlink : (Cond.methodLink own index y).before args s = true) (hsame : (Cond.sameMethod y.cls y.cls y.name y.desc).before args s = true) (hsup : (Cond.superclass own y.cls).before args s = true)
    (hinst : (Cond.instanceMethod y).before args s = true) (hcode : (Cond.code y bytes maxL ret).before args s = true) (hno : y.name ≠ "<init>")
    {W : Nat} {Pre : Pt → Array Value → Prop} {Post : Pt → Array Value → Option Value → Pt → Prop} {PostX : Pt → Array Value → Addr → Pt → Prop} (hK : vx_Back l R p e below s args y 3 W Pre Post PostX)
    {b : Addr} {cellB : Cell} {kB : Class} (hcell : T.heap[b]? = some cellB) (hobj : cellB.vm.isStatics = false) (hkB : s.vm.classes[cellB.cls]? = some kB)
    {g : JFrame} (hg : g.method = m) (hsize : g.locals.size = c.maxLocals) {argsL rest : List Value} (hlen : ∀ sig, parseMethodDescriptor y.desc = some sig → argsL.length = sig.parameters.length)
    (hstack : g.stack = argsL.reverse ++ .ref b :: rest) (hW : 2 * g.monitorRoom + (rest.map fun v => v.category).sum ≤ W) (hdg : decode c.code g.pc = .ok (.invokespecial index, 3))
    (hpre : ∀ vm₁, s.WarmedH vm₁ → Pre ⟨T.setVm vm₁, locs, cells, slots⟩ (Value.ref b :: argsL).toArray) :
    (∃ (v : Option Value) (vm₁ : Vm) (B : Pt), s.WarmedH vm₁ ∧ Stand p l e R s m args below meth c B.U B.locs B.cells B.slots ∧ Post ⟨T.setVm vm₁, locs, cells, slots⟩ (Value.ref b :: argsL).toArray v B ∧
      ∀ target, Steps p.tables e below (B.U.setTop { g with pc := g.pc + 3, stack := v.toList ++ rest }) target → Steps p.tables e below (T.setTop g) target) ∨
    (∃ (q : Addr) (vm₁ : Vm) (B : Pt), s.WarmedH vm₁ ∧ Stand p l e R s m args below meth c B.U B.locs B.cells B.slots ∧ PostX ⟨T.setVm vm₁, locs, cells, slots⟩ (Value.ref b :: argsL).toArray q B ∧
      Steps p.tables e below (T.setTop g) ((B.U.setTop { g with stack := rest }).pushFrame (.throwing q))) := by
  obtain ⟨mk, methM, hnamed, hmethM, hstM, habM⟩ := Cond.instanceMethod_spec hinst
  obtain ⟨methM', cM, hmethM', -, -, -, -, -, -, hsigM⟩ := Cond.code_spec hnamed hcode
  cases hmethM.symm.trans hmethM'
  obtain ⟨ps, dk, kp, hps, hdk, hkp, hsuper, -, -, hnid⟩ := Cond.superclass_spec hown hsup
  have hn : s.methodNamed? ⟨y.cls, y.name, y.desc⟩ = some mk := hnamed
  have hpm : ps = mk.cls := Option.some.inj (hps.symm.trans (findClass_of_methodNamed hnamed))
  have hsub : s.vm.isSubclass ps mk.cls = true := by rw [hpm]; simp [Vm.isSubclass, Vm.isSubclassAux]
  obtain ⟨vm₁, X₁, hstep₁⟩ := X.invokespecialUp hexec hown hlink hsame hn hmethM hstM habM hno hdk hnid hps hsuper hsub (a := b) (cell := cellB) hcell
    (fun z h => by rw [h] at hobj; cases hobj) hkB (g := g) hg (argsL := argsL) (rest := rest) (hlen _ hsigM) hstack hdg
  rcases hK m meth c ⟨T.setVm vm₁, locs, cells, slots⟩ { g with stack := rest } (.invokespecial index) mk (Value.ref b :: argsL).toArray X₁ hg hsize hdg hW (X₁.named hnamed) (hpre vm₁ X₁.warmed) with ⟨v, B, X', hpost, hsteps⟩ | ⟨q, B, X', hpost, hsteps⟩
  · exact Or.inl ⟨v, vm₁, B, X₁.warmed, X', hpost, fun target h => hstep₁ _ (by rw [doInvoke_state]; exact hsteps.trans h)⟩
  · exact Or.inr ⟨q, vm₁, B, X₁.warmed, X', hpost, hstep₁ _ (by rw [doInvoke_state]; exact hsteps)⟩
theorem vx_runSU {y : MethodName} {bytes cc : ByteArray} {maxL nL mc ms n index : Nat} {ret : Option FieldType} {ws : List Cond} {rm : Room} {Pc : Array Value → State → Prop} {Qc : Array Value → State → Outcome → State → Prop} {XC : String → State → State → Prop} {free : Addr → Prop} {Ts : List Cond} {own C : String} {cC : ClassId} {b : Addr} {As rest : List Value} {g : JFrame}
    (hat : ClassAt s C cC) (S : CallFix p m c cc nL s args Ts own) (hM : vx_Met l y ws rm Pc Qc XC mc ms free) (cw : va_CS R s args own index y bytes maxL ret ws rm mc ms n) (hp : PreV s H C b Pc As)
    (hg : g.method = m) (hn : As.length = n) (hsize : g.locals.size = nL) (hstack : g.stack = As.reverse ++ .ref b :: rest) (hW : 2 * g.monitorRoom + (rest.map fun v => v.category).sum ≤ 8) (hdg : decode cc g.pc = .ok (.invokespecial index, 3)) (hf : cells + mc ≤ R.cells ∧ slots + ms ≤ R.slots) :
    vx_Run p l e R s m args below meth c H locs cells slots mc ms g rest (Qc (Value.ref b :: As).toArray) XC free := by
  obtain ⟨⟨hrc, hrs, hfr, hlo, hws, hcw⟩, hl1, hl2, hl3, hl4, hini, hcode, hno, hlen⟩ := cw
  have hK : vx_Back l R p e below s args y 3 8 (PreOf R mc ms Pc) (PostOf Qc mc ms free) (vx_Post XC mc ms free) := vx_back (bytes := bytes) (maxL := maxL) (ret := ret) hM hp.1 hrc hrs hfr hlo hws hcw (fun a' U hW => word_at hW (Or.inl (by first | rfl | simp [Cond.onTables, Cond.keeps, Cond.steady])) hini)
  obtain ⟨hx, hb, hml, ho, -⟩ := S
  obtain ⟨-, ⟨cellB, hcB, hoB, hclB⟩, hPc⟩ := hp
  obtain ⟨hfc, kB, hkB, -⟩ := hat
  cases hfc.symm.trans hclB
  intro T hT X
  rcases vx_callSU X hx (bytes := bytes) (maxL := maxL) (ret := ret) ho hl1 hl2 hl3 hl4 hcode hno hK (by rw [hT]; exact hcB) hoB hkB hg (hsize.trans hml.symm) (argsL := As) (rest := rest) (fun sig h => hn.trans (hlen sig h)) hstack hW (by rw [hb]; exact hdg)
    (fun vm₁ hW₁ => ⟨hf.1, hf.2, hPc (T.setVm vm₁) hT hW₁⟩) with ⟨v, vm₁, ⟨U', l2, c2, s2⟩, hW₁, X', ⟨g', mk, t, L, e1, e2, hq, h1, hL, h2, h3⟩, st⟩ | ⟨q, vm₁, ⟨U', l2, c2, s2⟩, hW₁, X', ⟨g', mk, t, L, E, ce, e1, e2, hq, hce, hcv, hcl, h1, hL, h2, h3⟩, st⟩
  · dsimp only [Pt.U, Pt.locs, Pt.cells, Pt.slots] at X' e1 e2 h1 h2 h3 st
    subst h1; subst h2; subst h3
    exact Or.inl ⟨v, (T.setVm vm₁).calling g' mk (Value.ref b :: As).toArray, t, U', L, hT, X', hL, e1, e2, hq, st⟩
  · dsimp only [Pt.U, Pt.locs, Pt.cells, Pt.slots] at X' e1 e2 h1 h2 h3 st hcl
    subst h1; subst h2; subst h3
    exact Or.inr ⟨q, (T.setVm vm₁).calling g' mk (Value.ref b :: As).toArray, t, U', L, E, ce, hT, X', hL, e1, e2, hq, hce, hcv, vx_cls hW₁ hcl, st⟩
end
/-! ===== END ===== -/
/-! ===== BEGIN a private method of a nest mate that may throw (follows va_callVN, va_callSN, va_runVN, va_runSN) ===== -/
section
variable {p : Program} {l : Launch} {e : Env} {R : Room} {s : State} {m : MethodId} {args : Array Value} {below : List Frame} {meth : Method} {c : Code} {H : Heap} {locs : List Loc} {cells slots : Nat}
variable {T : State}
theorem vx_callVN (X : Stand p l e R s m args below meth c T locs cells slots) (hexec : p.tables.exec = Jvm.exec) {own C : String} {index : Nat} {host : String} {y : MethodName} {bytes : ByteArray} {maxL : Nat} {ret : Option FieldType}
    (hown : s.vm.findClass own = some m.cls) (hlink : (Cond.methodLinkNest own index y host).before args s = true) (hinst : (Cond.instanceMethod y).before args s = true) (hsel : (Cond.selects C y y).before args s = true)
    (hcode : (Cond.code y bytes maxL ret).before args s = true) (hy : y.cls ≠ "java/lang/invoke/MethodHandle" ∧ y.cls ≠ "java/lang/invoke/VarHandle")
    {W : Nat} {Pre : Pt → Array Value → Prop} {Post : Pt → Array Value → Option Value → Pt → Prop} {PostX : Pt → Array Value → Addr → Pt → Prop} (hK : vx_Back l R p e below s args y 3 W Pre Post PostX)
    {b : Addr} {cellB : Cell} (hcell : T.heap[b]? = some cellB) (hobj : cellB.vm.isStatics = false) (hcls : s.vm.findClass C = some cellB.cls)
    {g : JFrame} (hg : g.method = m) (hsize : g.locals.size = c.maxLocals) {argsL rest : List Value} (hlen : ∀ sig, parseMethodDescriptor y.desc = some sig → argsL.length = sig.parameters.length)
    (hstack : g.stack = argsL.reverse ++ .ref b :: rest) (hW : 2 * g.monitorRoom + (rest.map fun v => v.category).sum ≤ W) (hdg : decode c.code g.pc = .ok (.invokevirtual index, 3))
    (hpre : ∀ vm₁, s.WarmedH vm₁ → Pre ⟨T.setVm vm₁, locs, cells, slots⟩ (Value.ref b :: argsL).toArray) :
    (∃ (v : Option Value) (vm₁ : Vm) (B : Pt), s.WarmedH vm₁ ∧ Stand p l e R s m args below meth c B.U B.locs B.cells B.slots ∧ Post ⟨T.setVm vm₁, locs, cells, slots⟩ (Value.ref b :: argsL).toArray v B ∧
      ∀ target, Steps p.tables e below (B.U.setTop { g with pc := g.pc + 3, stack := v.toList ++ rest }) target → Steps p.tables e below (T.setTop g) target) ∨
    (∃ (q : Addr) (vm₁ : Vm) (B : Pt), s.WarmedH vm₁ ∧ Stand p l e R s m args below meth c B.U B.locs B.cells B.slots ∧ PostX ⟨T.setVm vm₁, locs, cells, slots⟩ (Value.ref b :: argsL).toArray q B ∧
      Steps p.tables e below (T.setTop g) ((B.U.setTop { g with stack := rest }).pushFrame (.throwing q))) := by
  obtain ⟨mk, methM, hnamed, hmethM, hstM, habM⟩ := Cond.instanceMethod_spec hinst
  obtain ⟨methM', cM, hmethM', -, -, -, -, -, -, hsigM⟩ := Cond.code_spec hnamed hcode
  cases hmethM.symm.trans hmethM'
  obtain ⟨c2, r2, m2, q1, q2, q3, q4, kP, hkP, hkPi⟩ := Cond.selects_spec hsel
  cases hcls.symm.trans q1
  cases (State.methodFound?_of_named hnamed hy).symm.trans q2
  cases hnamed.symm.trans q3
  have hselP : selectMethod e.platform s.vm cellB.cls mk = .method mk := by rw [Launch.admits_selectMethod X.admits]; exact q4
  obtain ⟨vm₁, X₁, hstep₁⟩ := X.invokevirtualNest hexec hown hlink hnamed hmethM hstM hkP hkPi hy (a := b) (cell := cellB) hcell
    (fun z h => by rw [h] at hobj; cases hobj) hselP hmethM habM hkP hkPi (g := g) hg (argsL := argsL) (rest := rest) (hlen _ hsigM) hstack hdg
  rcases hK m meth c ⟨T.setVm vm₁, locs, cells, slots⟩ { g with stack := rest } (.invokevirtual index) mk (Value.ref b :: argsL).toArray X₁ hg hsize hdg hW (X₁.named hnamed) (hpre vm₁ X₁.warmed) with ⟨v, B, X', hpost, hsteps⟩ | ⟨q, B, X', hpost, hsteps⟩
  · exact Or.inl ⟨v, vm₁, B, X₁.warmed, X', hpost, fun target h => hstep₁ _ fun acts => by rw [doInvoke_state]; exact hsteps.trans h⟩
  · exact Or.inr ⟨q, vm₁, B, X₁.warmed, X', hpost, hstep₁ _ fun acts => by rw [doInvoke_state]; exact hsteps⟩
theorem vx_callSN (X : Stand p l e R s m args below meth c T locs cells slots) (hexec : p.tables.exec = Jvm.exec) {own : String} {index : Nat} {host : String} {y : MethodName} {bytes : ByteArray} {maxL : Nat} {ret : Option FieldType}
    (hown : s.vm.findClass own = some m.cls) (hlink : (Cond.methodLinkNest own index y host).before args s = true) (hstat : (Cond.static y).before args s = true) (hinit : (Cond.initialized y.cls).before args s = true)
    (hcode : (Cond.code y bytes maxL ret).before args s = true) (hy : y.cls ≠ "java/lang/invoke/MethodHandle" ∧ y.cls ≠ "java/lang/invoke/VarHandle")
    {W : Nat} {Pre : Pt → Array Value → Prop} {Post : Pt → Array Value → Option Value → Pt → Prop} {PostX : Pt → Array Value → Addr → Pt → Prop} (hK : vx_Back l R p e below s args y 3 W Pre Post PostX)
    {g : JFrame} (hg : g.method = m) (hsize : g.locals.size = c.maxLocals) {argsL rest : List Value} (hlen : ∀ sig, parseMethodDescriptor y.desc = some sig → argsL.length = sig.parameters.length)
    (hstack : g.stack = argsL.reverse ++ rest) (hW : 2 * g.monitorRoom + (rest.map fun v => v.category).sum ≤ W) (hdg : decode c.code g.pc = .ok (.invokestatic index, 3))
    (hpre : ∀ vm₁, s.WarmedH vm₁ → Pre ⟨T.setVm vm₁, locs, cells, slots⟩ argsL.toArray) :
    (∃ (v : Option Value) (vm₁ : Vm) (B : Pt), s.WarmedH vm₁ ∧ Stand p l e R s m args below meth c B.U B.locs B.cells B.slots ∧ Post ⟨T.setVm vm₁, locs, cells, slots⟩ argsL.toArray v B ∧
      ∀ target, Steps p.tables e below (B.U.setTop { g with pc := g.pc + 3, stack := v.toList ++ rest }) target → Steps p.tables e below (T.setTop g) target) ∨
    (∃ (q : Addr) (vm₁ : Vm) (B : Pt), s.WarmedH vm₁ ∧ Stand p l e R s m args below meth c B.U B.locs B.cells B.slots ∧ PostX ⟨T.setVm vm₁, locs, cells, slots⟩ argsL.toArray q B ∧
      Steps p.tables e below (T.setTop g) ((B.U.setTop { g with stack := rest }).pushFrame (.throwing q))) := by
  obtain ⟨mk, hnamed⟩ := Cond.code_named hcode
  obtain ⟨methM, cM, hmethM, -, -, -, -, -, -, hsigM⟩ := Cond.code_spec hnamed hcode
  have hstatic : methM.isStatic = true := Cond.static_spec hnamed hmethM hstat
  obtain ⟨kP, hkP, -⟩ := className_of_methodNamed hnamed
  have hinitP : kP.init = .initialized := Cond.initialized_spec (findClass_of_methodNamed hnamed) hkP hinit
  obtain ⟨vm₁, X₁, hstep₁⟩ := X.invokestaticNest hexec hown hlink hnamed hmethM hstatic hkP hinitP hy (g := g) hg (argsL := argsL) (rest := rest) (hlen _ hsigM) hstack hdg
  rcases hK m meth c ⟨T.setVm vm₁, locs, cells, slots⟩ { g with stack := rest } (.invokestatic index) mk argsL.toArray X₁ hg hsize hdg hW (X₁.named hnamed) (hpre vm₁ X₁.warmed) with ⟨v, B, X', hpost, hsteps⟩ | ⟨q, B, X', hpost, hsteps⟩
  · exact Or.inl ⟨v, vm₁, B, X₁.warmed, X', hpost, fun target h => hstep₁ _ fun acts => by rw [doInvoke_state]; exact hsteps.trans h⟩
  · exact Or.inr ⟨q, vm₁, B, X₁.warmed, X', hpost, hstep₁ _ fun acts => by rw [doInvoke_state]; exact hsteps⟩
theorem vx_runVN {y : MethodName} {bytes cc : ByteArray} {maxL nL mc ms n index : Nat} {ret : Option FieldType} {ws : List Cond} {rm : Room} {Pc : Array Value → State → Prop} {Qc : Array Value → State → Outcome → State → Prop} {XC : String → State → State → Prop} {free : Addr → Prop} {Ts : List Cond} {own C host : String} {b : Addr} {As rest : List Value} {g : JFrame}
    (S : CallFix p m c cc nL s args Ts own) (hM : vx_Met l y ws rm Pc Qc XC mc ms free) (cw : va_CN R s args own index y host bytes maxL ret ws rm mc ms n ∧ (Cond.instanceMethod y).before args s = true ∧ (Cond.selects C y y).before args s = true) (hp : PreV s H C b Pc As)
    (hg : g.method = m) (hn : As.length = n) (hsize : g.locals.size = nL) (hstack : g.stack = As.reverse ++ .ref b :: rest) (hW : 2 * g.monitorRoom + (rest.map fun v => v.category).sum ≤ 8) (hdg : decode cc g.pc = .ok (.invokevirtual index, 3)) (hf : cells + mc ≤ R.cells ∧ slots + ms ≤ R.slots) :
    vx_Run p l e R s m args below meth c H locs cells slots mc ms g rest (Qc (Value.ref b :: As).toArray) XC free := by
  obtain ⟨⟨⟨hrc, hrs, hfr, hlo, hws, hcw⟩, hcode, hini, hy, hlen, hl⟩, hx1, hx2⟩ := cw
  have hK : vx_Back l R p e below s args y 3 8 (PreOf R mc ms Pc) (PostOf Qc mc ms free) (vx_Post XC mc ms free) := vx_back (bytes := bytes) (maxL := maxL) (ret := ret) hM hp.1 hrc hrs hfr hlo hws hcw (fun a' U hW => word_at hW (Or.inl (by first | rfl | simp [Cond.onTables, Cond.keeps, Cond.steady])) hini)
  obtain ⟨hx, hb, hml, ho, -⟩ := S
  obtain ⟨-, ⟨cellB, hcB, hoB, hclB⟩, hPc⟩ := hp
  intro T hT X
  rcases vx_callVN X hx (C := C) (bytes := bytes) (maxL := maxL) (ret := ret) ho hl hx1 hx2 hcode hy hK (by rw [hT]; exact hcB) hoB hclB hg (hsize.trans hml.symm) (argsL := As) (rest := rest) (fun sig h => hn.trans (hlen sig h)) hstack hW (by rw [hb]; exact hdg)
    (fun vm₁ hW₁ => ⟨hf.1, hf.2, hPc (T.setVm vm₁) hT hW₁⟩) with ⟨v, vm₁, ⟨U', l2, c2, s2⟩, hW₁, X', ⟨g', mk, t, L, e1, e2, hq, h1, hL, h2, h3⟩, st⟩ | ⟨q, vm₁, ⟨U', l2, c2, s2⟩, hW₁, X', ⟨g', mk, t, L, E, ce, e1, e2, hq, hce, hcv, hcl, h1, hL, h2, h3⟩, st⟩
  · dsimp only [Pt.U, Pt.locs, Pt.cells, Pt.slots] at X' e1 e2 h1 h2 h3 st
    subst h1; subst h2; subst h3
    exact Or.inl ⟨v, (T.setVm vm₁).calling g' mk (Value.ref b :: As).toArray, t, U', L, hT, X', hL, e1, e2, hq, st⟩
  · dsimp only [Pt.U, Pt.locs, Pt.cells, Pt.slots] at X' e1 e2 h1 h2 h3 st hcl
    subst h1; subst h2; subst h3
    exact Or.inr ⟨q, (T.setVm vm₁).calling g' mk (Value.ref b :: As).toArray, t, U', L, E, ce, hT, X', hL, e1, e2, hq, hce, hcv, vx_cls hW₁ hcl, st⟩
theorem vx_runSN {y : MethodName} {bytes cc : ByteArray} {maxL nL mc ms n index : Nat} {ret : Option FieldType} {ws : List Cond} {rm : Room} {Pc : Array Value → State → Prop} {Qc : Array Value → State → Outcome → State → Prop} {XC : String → State → State → Prop} {free : Addr → Prop} {Ts : List Cond} {own host : String} {As rest : List Value} {g : JFrame}
    (S : CallFix p m c cc nL s args Ts own) (hM : vx_Met l y ws rm Pc Qc XC mc ms free) (cw : va_CN R s args own index y host bytes maxL ret ws rm mc ms n ∧ (Cond.static y).before args s = true ∧ True) (hp : PreS s H Pc As)
    (hg : g.method = m) (hn : As.length = n) (hsize : g.locals.size = nL) (hstack : g.stack = As.reverse ++ rest) (hW : 2 * g.monitorRoom + (rest.map fun v => v.category).sum ≤ 8) (hdg : decode cc g.pc = .ok (.invokestatic index, 3)) (hf : cells + mc ≤ R.cells ∧ slots + ms ≤ R.slots) :
    vx_Run p l e R s m args below meth c H locs cells slots mc ms g rest (Qc As.toArray) XC free := by
  obtain ⟨⟨⟨hrc, hrs, hfr, hlo, hws, hcw⟩, hcode, hini, hy, hlen, hl⟩, hx1, hx2⟩ := cw
  have hK : vx_Back l R p e below s args y 3 8 (PreOf R mc ms Pc) (PostOf Qc mc ms free) (vx_Post XC mc ms free) := vx_back (bytes := bytes) (maxL := maxL) (ret := ret) hM hp.1 hrc hrs hfr hlo hws hcw (fun a' U hW => word_at hW (Or.inl (by first | rfl | simp [Cond.onTables, Cond.keeps, Cond.steady])) hini)
  obtain ⟨hx, hb, hml, ho, -⟩ := S
  have hPc := hp.2
  intro T hT X
  rcases vx_callSN X hx (bytes := bytes) (maxL := maxL) (ret := ret) ho hl hx1 hini hcode hy hK hg (hsize.trans hml.symm) (argsL := As) (rest := rest) (fun sig h => hn.trans (hlen sig h)) hstack hW (by rw [hb]; exact hdg)
    (fun vm₁ hW₁ => ⟨hf.1, hf.2, hPc (T.setVm vm₁) hT hW₁⟩) with ⟨v, vm₁, ⟨U', l2, c2, s2⟩, hW₁, X', ⟨g', mk, t, L, e1, e2, hq, h1, hL, h2, h3⟩, st⟩ | ⟨q, vm₁, ⟨U', l2, c2, s2⟩, hW₁, X', ⟨g', mk, t, L, E, ce, e1, e2, hq, hce, hcv, hcl, h1, hL, h2, h3⟩, st⟩
  · dsimp only [Pt.U, Pt.locs, Pt.cells, Pt.slots] at X' e1 e2 h1 h2 h3 st
    subst h1; subst h2; subst h3
    exact Or.inl ⟨v, (T.setVm vm₁).calling g' mk As.toArray, t, U', L, hT, X', hL, e1, e2, hq, st⟩
  · dsimp only [Pt.U, Pt.locs, Pt.cells, Pt.slots] at X' e1 e2 h1 h2 h3 st hcl
    subst h1; subst h2; subst h3
    exact Or.inr ⟨q, (T.setVm vm₁).calling g' mk As.toArray, t, U', L, E, ce, hT, X', hL, e1, e2, hq, hce, hcv, vx_cls hW₁ hcl, st⟩
end
/-! ===== END ===== -/
/-! ===== BEGIN calls by an interface of methods that may throw (vx_callIF, vx_runF follow va_callIF, va_runF of this kit) ===== -/
section
variable {p : Program} {l : Launch} {e : Env} {R : Room} {s : State} {m : MethodId} {args : Array Value} {below : List Frame} {meth : Method} {c : Code} {H : Heap} {locs : List Loc} {cells slots : Nat} {Q : State → Prop}
variable {mc ms : Nat} {free : Addr → Prop} {A0 A1 : Nat → Prop} {H0 : Heap} {a : Array Value} {pc : Nat} {ls : Array Slot} {st0 rest : List Value}
def vx_Run5 (p : Program) (l : Launch) (e : Env) (R : Room) (s : State) (m : MethodId) (args : Array Value) (below : List Frame) (meth : Method) (c : Code) (H : Heap) (locs : List Loc) (cells slots mc ms : Nat) (g : JFrame) (rest : List Value) (Qa : State → Outcome → State → Prop) (XC : String → State → State → Prop) (free : Addr → Prop) : Prop :=
  ∀ T : State, T.heap = H → Stand p l e R s m args below meth c T locs cells slots →
    (∃ (v : Option Value) (st₀ t T' : State) (L : List Loc), st₀.heap = H ∧ Stand p l e R s m args below meth c T' (locs ++ L) (cells + mc) (slots + ms) ∧ (∀ q ∈ L, free q.base) ∧ T'.heap = t.heap ∧ T'.vm = t.vm ∧ Qa st₀ (.returned v) t ∧
      Goes p e below T g T' { g with pc := g.pc + 5, stack := v.toList ++ rest }) ∨
    (∃ (q : Addr) (st₀ t T' : State) (L : List Loc) (E : String) (ce : Cell), st₀.heap = H ∧ Stand p l e R s m args below meth c T' (locs ++ L) (cells + mc) (slots + ms) ∧ (∀ z ∈ L, free z.base) ∧ T'.heap = t.heap ∧ T'.vm = t.vm ∧ XC E st₀ t ∧ t.heap[q]? = some ce ∧ ce.vm = .none ∧ s.vm.findClass E = some ce.cls ∧
      Steps p.tables e below (T.setTop g) ((T'.setTop { g with stack := rest }).pushFrame (.throwing q)))
theorem vx_callIF {T : State} (X : Stand p l e R s m args below meth c T locs cells slots) (hexec : p.tables.exec = Jvm.exec) {own C : String} {index count : Nat} {x y : MethodName} {bytes : ByteArray} {maxL : Nat} {ret : Option FieldType}
    (hown : s.vm.findClass own = some m.cls) (hlink : (Cond.methodLink own index x).before args s = true) (hdecl : (Cond.declares x).before args s = true) (hface : (Cond.interfaceMethod x.cls x.cls x.name x.desc).before args s = true)
    (hsel : (Cond.selects C x y).before args s = true) (hinst : (Cond.instanceMethod y).before args s = true) (hpub : (Cond.publicMethod y).before args s = true) (hunh : (Cond.unhidden C x.name x.desc).before args s = true)
    (hcast : (Cond.castable C x.cls).before args s = true) (hcode : (Cond.code y bytes maxL ret).before args s = true) (hx : x.cls ≠ "java/lang/invoke/MethodHandle" ∧ x.cls ≠ "java/lang/invoke/VarHandle")
    {W9 : Nat} {Pre : Pt → Array Value → Prop} {Post : Pt → Array Value → Option Value → Pt → Prop} {PostX : Pt → Array Value → Addr → Pt → Prop} (hK : vx_Back l R p e below s args y 5 W9 Pre Post PostX)
    {b : Addr} {cellB : Cell} {kB : Class} (hcell : T.heap[b]? = some cellB) (hobj : cellB.vm.isStatics = false) (hcls : s.vm.findClass C = some cellB.cls) (hkB : s.vm.classes[cellB.cls]? = some kB)
    {g : JFrame} (hg : g.method = m) (hsize : g.locals.size = c.maxLocals) {argsL rest : List Value} (hlen : ∀ sig, parseMethodDescriptor x.desc = some sig → argsL.length = sig.parameters.length)
    (hstack : g.stack = argsL.reverse ++ .ref b :: rest) (hW : 2 * g.monitorRoom + (rest.map fun v => v.category).sum ≤ W9) (hdg : decode c.code g.pc = .ok (.invokeinterface index count, 5))
    (hpre : ∀ vm₁, s.WarmedH vm₁ → Pre ⟨T.setVm vm₁, locs, cells, slots⟩ (Value.ref b :: argsL).toArray) :
    (∃ (v : Option Value) (vm₁ : Vm) (B : Pt), s.WarmedH vm₁ ∧ Stand p l e R s m args below meth c B.U B.locs B.cells B.slots ∧ Post ⟨T.setVm vm₁, locs, cells, slots⟩ (Value.ref b :: argsL).toArray v B ∧
      ∀ target, Steps p.tables e below (B.U.setTop { g with pc := g.pc + 5, stack := v.toList ++ rest }) target → Steps p.tables e below (T.setTop g) target) ∨
    (∃ (q : Addr) (vm₁ : Vm) (B : Pt), s.WarmedH vm₁ ∧ Stand p l e R s m args below meth c B.U B.locs B.cells B.slots ∧ PostX ⟨T.setVm vm₁, locs, cells, slots⟩ (Value.ref b :: argsL).toArray q B ∧
      Steps p.tables e below (T.setTop g) ((B.U.setTop { g with stack := rest }).pushFrame (.throwing q))) := by
  obtain ⟨r0, r, hn, hrm, hstR, hsigR⟩ := Cond.declares_spec hdecl
  obtain ⟨cL, kL, r1, hcL, hkL, hiL, hfoundL, hn1⟩ := Cond.interfaceMethod_spec hface
  cases hn.symm.trans hn1
  have hr0cls : r0.cls = cL := Option.some.inj ((findClass_of_methodNamed hn).symm.trans hcL)
  obtain ⟨hnameR, hdescR⟩ := name_of_methodNamed hn hrm
  obtain ⟨mk, methM, hnamed, hmethM, -, habM⟩ := Cond.instanceMethod_spec hinst
  obtain ⟨c2, r2, m2, q1, q2, q3, q4, -⟩ := Cond.selects_spec hsel
  cases hcls.symm.trans q1
  cases hfoundL.symm.trans q2
  cases hnamed.symm.trans q3
  have hselP : selectMethod e.platform s.vm cellB.cls r0 = .method mk := by rw [Launch.admits_selectMethod X.admits]; exact q4
  have hpubM : hasFlag methM.accessFlags Acc.public_ = true := Cond.publicMethod_spec hnamed hmethM hpub
  have hway : ((cellB.cls :: s.vm.superclasses cellB.cls).any fun k => (declaredIn s.vm r.name r.desc k).any fun (_, z) => z.isPrivate || z.isStatic) = false := by
    rw [hnameR, hdescR]; exact Cond.unhidden_spec hcls hunh
  obtain ⟨c3, t3, w1, w2, w3⟩ := Cond.castable_spec hcast
  cases hcls.symm.trans w1
  cases hcL.symm.trans w2
  obtain ⟨vm₁, X₁, hstep₁⟩ := X.invokeinterface hexec hown hlink hn hrm hstR (by rw [hr0cls]; exact hkL) hiL hx (a := b) (cell := cellB) (kcell := kB) hcell
    (fun z h => by rw [h] at hobj; cases hobj) hkB (by rw [hr0cls]; exact w3) hselP hmethM hway hpubM habM (g := g) hg (argsL := argsL) (rest := rest) (hlen _ hsigR) hstack hdg
  rcases hK m meth c ⟨T.setVm vm₁, locs, cells, slots⟩ { g with stack := rest } (.invokeinterface index count) mk (Value.ref b :: argsL).toArray X₁ hg hsize hdg hW (X₁.named hnamed) (hpre vm₁ X₁.warmed) with ⟨v, B, X', hpost, hsteps⟩ | ⟨q, B, X', hpost, hsteps⟩
  · exact Or.inl ⟨v, vm₁, B, X₁.warmed, X', hpost, fun target h => hstep₁ _ fun acts => by rw [doInvoke_state]; exact hsteps.trans h⟩
  · exact Or.inr ⟨q, vm₁, B, X₁.warmed, X', hpost, hstep₁ _ fun acts => by rw [doInvoke_state]; exact hsteps⟩
theorem vx_runF {x y : MethodName} {bytes cc : ByteArray} {maxL nL mc ms n index count : Nat} {ret : Option FieldType} {ws : List Cond} {rm : Room} {Pc : Array Value → State → Prop} {Qc : Array Value → State → Outcome → State → Prop} {XC : String → State → State → Prop} {free : Addr → Prop} {Ts : List Cond} {own C : String} {cC : ClassId} {b : Addr} {As rest : List Value} {g : JFrame}
    (hat : ClassAt s C cC) (S : CallFix p m c cc nL s args Ts own) (hM : vx_Met l y ws rm Pc Qc XC mc ms free) (cw : va_CI R s args own C index x y bytes maxL ret ws rm mc ms n) (hp : PreV s H C b Pc As)
    (hg : g.method = m) (hn : As.length = n) (hsize : g.locals.size = nL) (hstack : g.stack = As.reverse ++ .ref b :: rest) (hW : 2 * g.monitorRoom + (rest.map fun v => v.category).sum ≤ 8) (hdg : decode cc g.pc = .ok (.invokeinterface index count, 5)) (hf : cells + mc ≤ R.cells ∧ slots + ms ≤ R.slots) :
    vx_Run5 p l e R s m args below meth c H locs cells slots mc ms g rest (Qc (Value.ref b :: As).toArray) XC free := by
  obtain ⟨hrc, hrs, hfr, hlo, hws, hcw⟩ := cw.back
  have hini := cw.init
  have hK : vx_Back l R p e below s args y 5 8 (PreOf R mc ms Pc) (PostOf Qc mc ms free) (vx_Post XC mc ms free) := vx_back (bytes := bytes) (maxL := maxL) (ret := ret) hM hp.1 hrc hrs hfr hlo hws hcw (fun a' U hW => word_at hW (Or.inl (by first | rfl | simp [Cond.onTables, Cond.keeps, Cond.steady])) hini)
  obtain ⟨hx, hb, hml, ho, -⟩ := S
  obtain ⟨-, ⟨cellB, hcB, hoB, hclB⟩, hPc⟩ := hp
  obtain ⟨hfc, kB, hkB, -⟩ := hat
  cases hfc.symm.trans hclB
  intro T hT X
  rcases vx_callIF X hx (C := C) (bytes := bytes) (maxL := maxL) (ret := ret) ho cw.link cw.decl cw.face cw.sel cw.inst cw.pub cw.unh cw.cast cw.code cw.notMH hK (by rw [hT]; exact hcB) hoB hclB hkB hg (hsize.trans hml.symm) (argsL := As) (rest := rest) (fun sig h => hn.trans (cw.len sig h)) hstack hW (by rw [hb]; exact hdg)
    (fun vm₁ hW₁ => ⟨hf.1, hf.2, hPc (T.setVm vm₁) hT hW₁⟩) with ⟨v, vm₁, ⟨U', l2, c2, s2⟩, hW₁, X', ⟨g', mk, t, L, e1, e2, hq, h1, hL, h2, h3⟩, st⟩ | ⟨q, vm₁, ⟨U', l2, c2, s2⟩, hW₁, X', ⟨g', mk, t, L, E, ce, e1, e2, hq, hce, hcv, hcl, h1, hL, h2, h3⟩, st⟩
  · dsimp only [Pt.U, Pt.locs, Pt.cells, Pt.slots] at X' e1 e2 h1 h2 h3 st
    subst h1; subst h2; subst h3
    exact Or.inl ⟨v, (T.setVm vm₁).calling g' mk (Value.ref b :: As).toArray, t, U', L, hT, X', hL, e1, e2, hq, st⟩
  · dsimp only [Pt.U, Pt.locs, Pt.cells, Pt.slots] at X' e1 e2 h1 h2 h3 st hcl
    subst h1; subst h2; subst h3
    exact Or.inr ⟨q, (T.setVm vm₁).calling g' mk (Value.ref b :: As).toArray, t, U', L, E, ce, hT, X', hL, e1, e2, hq, hce, hcv, vx_cls hW₁ hcl, st⟩
theorem vx_callFv {S SX : Type} {post : S → Prop} {px : SX → Prop} {B : S → State → Prop} {BX : String → SX → State → Prop} {AX : Nat → Prop} (hr : vx_Run5 p l e R s m args below meth c H locs cells slots mc ms (F0 m pc ls st0) rest (va_Qv post B A1 a) (vx_X px BX AX) free) (hS : va_S A0 H0 H locs) (hA : ∀ q, q < H.size → A1 q → A0 q) (hf : ∀ q, free q → A0 q) (hAX : ∀ q, q < H.size → AX q → A0 q)
    (kx : ∀ (E : String) (ce : Cell) (q9 : Addr) (u : SX) (t : State) (H1 : Heap) (locs1 : List Loc), t.heap = H1 → s.vm.Alike t.vm → px u → BX E u t → H.size ≤ H1.size → (∀ q : Nat, q < H.size → ¬ AX q → H1[q]? = H[q]?) → va_S A0 H0 H1 locs1 → H1[q9]? = some ce → ce.vm = .none → s.vm.findClass E = some ce.cls → vx_W p l e R s m args below meth c H1 locs1 (cells + mc) (slots + ms) Q (F0 m pc ls rest) q9)
    (kk : ∀ (u : S) (t : State) (H1 : Heap) (locs1 : List Loc), t.heap = H1 → s.vm.Alike t.vm → post u → B u t → H.size ≤ H1.size → (∀ q : Nat, q < H.size → ¬ A1 q → H1[q]? = H[q]?) → va_S A0 H0 H1 locs1 → W p l e R s m args below meth c H1 locs1 (cells + mc) (slots + ms) Q (F0 m (pc + 5) ls (rest))) : W p l e R s m args below meth c H locs cells slots Q (F0 m pc ls st0) := by
  intro T hT X
  rcases hr T hT X with ⟨v, st₀, t, T', L, h0, X', hL, e1, e2, ⟨⟨u, hv, hp, hb⟩, hF⟩, st⟩ | ⟨q, st₀, t, T', L, E, ce, h0, X', hL, e1, e2, ⟨u, hp, hb, hF⟩, hce, hcv, hcl, st⟩
  · cases hv
    obtain ⟨k1, k2, k3⟩ := vx_keep h0 e1 hS hA hf hL hF
    obtain ⟨t2, a1, b1⟩ := kk u t T'.heap (locs ++ L) e1.symm (by rw [← e2]; exact X'.warmed.alike) hp hb k1 k2 k3 T' rfl X'
    exact ⟨t2, st t2 a1, b1⟩
  · obtain ⟨k1, k2, k3⟩ := vx_keep h0 e1 hS hAX hf hL hF
    obtain ⟨t2, a1, b1⟩ := kx E ce q u t T'.heap (locs ++ L) e1.symm (by rw [← e2]; exact X'.warmed.alike) hp hb k1 k2 k3 (by rw [e1]; exact hce) hcv hcl T' rfl X'
    exact ⟨t2, st.trans a1, b1⟩
theorem vx_callFi {S SX : Type} {post : Int32 → S → Prop} {px : SX → Prop} {B : S → State → Prop} {BX : String → SX → State → Prop} {AX : Nat → Prop} (hr : vx_Run5 p l e R s m args below meth c H locs cells slots mc ms (F0 m pc ls st0) rest (va_Qi post B A1 a) (vx_X px BX AX) free) (hS : va_S A0 H0 H locs) (hA : ∀ q, q < H.size → A1 q → A0 q) (hf : ∀ q, free q → A0 q) (hAX : ∀ q, q < H.size → AX q → A0 q)
    (kx : ∀ (E : String) (ce : Cell) (q9 : Addr) (u : SX) (t : State) (H1 : Heap) (locs1 : List Loc), t.heap = H1 → s.vm.Alike t.vm → px u → BX E u t → H.size ≤ H1.size → (∀ q : Nat, q < H.size → ¬ AX q → H1[q]? = H[q]?) → va_S A0 H0 H1 locs1 → H1[q9]? = some ce → ce.vm = .none → s.vm.findClass E = some ce.cls → vx_W p l e R s m args below meth c H1 locs1 (cells + mc) (slots + ms) Q (F0 m pc ls rest) q9)
    (kk : ∀ (r : Int32) (u : S) (t : State) (H1 : Heap) (locs1 : List Loc), t.heap = H1 → s.vm.Alike t.vm → post r u → B u t → H.size ≤ H1.size → (∀ q : Nat, q < H.size → ¬ A1 q → H1[q]? = H[q]?) → va_S A0 H0 H1 locs1 → W p l e R s m args below meth c H1 locs1 (cells + mc) (slots + ms) Q (F0 m (pc + 5) ls (.int r :: rest))) : W p l e R s m args below meth c H locs cells slots Q (F0 m pc ls st0) := by
  intro T hT X
  rcases hr T hT X with ⟨v, st₀, t, T', L, h0, X', hL, e1, e2, ⟨⟨r, u, hv, hp, hb⟩, hF⟩, st⟩ | ⟨q, st₀, t, T', L, E, ce, h0, X', hL, e1, e2, ⟨u, hp, hb, hF⟩, hce, hcv, hcl, st⟩
  · cases hv
    obtain ⟨k1, k2, k3⟩ := vx_keep h0 e1 hS hA hf hL hF
    obtain ⟨t2, a1, b1⟩ := kk r u t T'.heap (locs ++ L) e1.symm (by rw [← e2]; exact X'.warmed.alike) hp hb k1 k2 k3 T' rfl X'
    exact ⟨t2, st t2 a1, b1⟩
  · obtain ⟨k1, k2, k3⟩ := vx_keep h0 e1 hS hAX hf hL hF
    obtain ⟨t2, a1, b1⟩ := kx E ce q u t T'.heap (locs ++ L) e1.symm (by rw [← e2]; exact X'.warmed.alike) hp hb k1 k2 k3 (by rw [e1]; exact hce) hcv hcl T' rfl X'
    exact ⟨t2, st.trans a1, b1⟩
theorem vx_callFl {S SX : Type} {post : Int64 → S → Prop} {px : SX → Prop} {B : S → State → Prop} {BX : String → SX → State → Prop} {AX : Nat → Prop} (hr : vx_Run5 p l e R s m args below meth c H locs cells slots mc ms (F0 m pc ls st0) rest (va_Ql post B A1 a) (vx_X px BX AX) free) (hS : va_S A0 H0 H locs) (hA : ∀ q, q < H.size → A1 q → A0 q) (hf : ∀ q, free q → A0 q) (hAX : ∀ q, q < H.size → AX q → A0 q)
    (kx : ∀ (E : String) (ce : Cell) (q9 : Addr) (u : SX) (t : State) (H1 : Heap) (locs1 : List Loc), t.heap = H1 → s.vm.Alike t.vm → px u → BX E u t → H.size ≤ H1.size → (∀ q : Nat, q < H.size → ¬ AX q → H1[q]? = H[q]?) → va_S A0 H0 H1 locs1 → H1[q9]? = some ce → ce.vm = .none → s.vm.findClass E = some ce.cls → vx_W p l e R s m args below meth c H1 locs1 (cells + mc) (slots + ms) Q (F0 m pc ls rest) q9)
    (kk : ∀ (r : Int64) (u : S) (t : State) (H1 : Heap) (locs1 : List Loc), t.heap = H1 → s.vm.Alike t.vm → post r u → B u t → H.size ≤ H1.size → (∀ q : Nat, q < H.size → ¬ A1 q → H1[q]? = H[q]?) → va_S A0 H0 H1 locs1 → W p l e R s m args below meth c H1 locs1 (cells + mc) (slots + ms) Q (F0 m (pc + 5) ls (.long r :: rest))) : W p l e R s m args below meth c H locs cells slots Q (F0 m pc ls st0) := by
  intro T hT X
  rcases hr T hT X with ⟨v, st₀, t, T', L, h0, X', hL, e1, e2, ⟨⟨r, u, hv, hp, hb⟩, hF⟩, st⟩ | ⟨q, st₀, t, T', L, E, ce, h0, X', hL, e1, e2, ⟨u, hp, hb, hF⟩, hce, hcv, hcl, st⟩
  · cases hv
    obtain ⟨k1, k2, k3⟩ := vx_keep h0 e1 hS hA hf hL hF
    obtain ⟨t2, a1, b1⟩ := kk r u t T'.heap (locs ++ L) e1.symm (by rw [← e2]; exact X'.warmed.alike) hp hb k1 k2 k3 T' rfl X'
    exact ⟨t2, st t2 a1, b1⟩
  · obtain ⟨k1, k2, k3⟩ := vx_keep h0 e1 hS hAX hf hL hF
    obtain ⟨t2, a1, b1⟩ := kx E ce q u t T'.heap (locs ++ L) e1.symm (by rw [← e2]; exact X'.warmed.alike) hp hb k1 k2 k3 (by rw [e1]; exact hce) hcv hcl T' rfl X'
    exact ⟨t2, st.trans a1, b1⟩
theorem vx_callFf {S SX : Type} {post : UInt32 → S → Prop} {px : SX → Prop} {B : S → State → Prop} {BX : String → SX → State → Prop} {AX : Nat → Prop} (hr : vx_Run5 p l e R s m args below meth c H locs cells slots mc ms (F0 m pc ls st0) rest (va_Qf post B A1 a) (vx_X px BX AX) free) (hS : va_S A0 H0 H locs) (hA : ∀ q, q < H.size → A1 q → A0 q) (hf : ∀ q, free q → A0 q) (hAX : ∀ q, q < H.size → AX q → A0 q)
    (kx : ∀ (E : String) (ce : Cell) (q9 : Addr) (u : SX) (t : State) (H1 : Heap) (locs1 : List Loc), t.heap = H1 → s.vm.Alike t.vm → px u → BX E u t → H.size ≤ H1.size → (∀ q : Nat, q < H.size → ¬ AX q → H1[q]? = H[q]?) → va_S A0 H0 H1 locs1 → H1[q9]? = some ce → ce.vm = .none → s.vm.findClass E = some ce.cls → vx_W p l e R s m args below meth c H1 locs1 (cells + mc) (slots + ms) Q (F0 m pc ls rest) q9)
    (kk : ∀ (r : UInt32) (u : S) (t : State) (H1 : Heap) (locs1 : List Loc), t.heap = H1 → s.vm.Alike t.vm → post r u → B u t → H.size ≤ H1.size → (∀ q : Nat, q < H.size → ¬ A1 q → H1[q]? = H[q]?) → va_S A0 H0 H1 locs1 → W p l e R s m args below meth c H1 locs1 (cells + mc) (slots + ms) Q (F0 m (pc + 5) ls (.float r :: rest))) : W p l e R s m args below meth c H locs cells slots Q (F0 m pc ls st0) := by
  intro T hT X
  rcases hr T hT X with ⟨v, st₀, t, T', L, h0, X', hL, e1, e2, ⟨⟨r, u, hv, hp, hb⟩, hF⟩, st⟩ | ⟨q, st₀, t, T', L, E, ce, h0, X', hL, e1, e2, ⟨u, hp, hb, hF⟩, hce, hcv, hcl, st⟩
  · cases hv
    obtain ⟨k1, k2, k3⟩ := vx_keep h0 e1 hS hA hf hL hF
    obtain ⟨t2, a1, b1⟩ := kk r u t T'.heap (locs ++ L) e1.symm (by rw [← e2]; exact X'.warmed.alike) hp hb k1 k2 k3 T' rfl X'
    exact ⟨t2, st t2 a1, b1⟩
  · obtain ⟨k1, k2, k3⟩ := vx_keep h0 e1 hS hAX hf hL hF
    obtain ⟨t2, a1, b1⟩ := kx E ce q u t T'.heap (locs ++ L) e1.symm (by rw [← e2]; exact X'.warmed.alike) hp hb k1 k2 k3 (by rw [e1]; exact hce) hcv hcl T' rfl X'
    exact ⟨t2, st.trans a1, b1⟩
theorem vx_callFd {S SX : Type} {post : UInt64 → S → Prop} {px : SX → Prop} {B : S → State → Prop} {BX : String → SX → State → Prop} {AX : Nat → Prop} (hr : vx_Run5 p l e R s m args below meth c H locs cells slots mc ms (F0 m pc ls st0) rest (va_Qd post B A1 a) (vx_X px BX AX) free) (hS : va_S A0 H0 H locs) (hA : ∀ q, q < H.size → A1 q → A0 q) (hf : ∀ q, free q → A0 q) (hAX : ∀ q, q < H.size → AX q → A0 q)
    (kx : ∀ (E : String) (ce : Cell) (q9 : Addr) (u : SX) (t : State) (H1 : Heap) (locs1 : List Loc), t.heap = H1 → s.vm.Alike t.vm → px u → BX E u t → H.size ≤ H1.size → (∀ q : Nat, q < H.size → ¬ AX q → H1[q]? = H[q]?) → va_S A0 H0 H1 locs1 → H1[q9]? = some ce → ce.vm = .none → s.vm.findClass E = some ce.cls → vx_W p l e R s m args below meth c H1 locs1 (cells + mc) (slots + ms) Q (F0 m pc ls rest) q9)
    (kk : ∀ (r : UInt64) (u : S) (t : State) (H1 : Heap) (locs1 : List Loc), t.heap = H1 → s.vm.Alike t.vm → post r u → B u t → H.size ≤ H1.size → (∀ q : Nat, q < H.size → ¬ A1 q → H1[q]? = H[q]?) → va_S A0 H0 H1 locs1 → W p l e R s m args below meth c H1 locs1 (cells + mc) (slots + ms) Q (F0 m (pc + 5) ls (.double r :: rest))) : W p l e R s m args below meth c H locs cells slots Q (F0 m pc ls st0) := by
  intro T hT X
  rcases hr T hT X with ⟨v, st₀, t, T', L, h0, X', hL, e1, e2, ⟨⟨r, u, hv, hp, hb⟩, hF⟩, st⟩ | ⟨q, st₀, t, T', L, E, ce, h0, X', hL, e1, e2, ⟨u, hp, hb, hF⟩, hce, hcv, hcl, st⟩
  · cases hv
    obtain ⟨k1, k2, k3⟩ := vx_keep h0 e1 hS hA hf hL hF
    obtain ⟨t2, a1, b1⟩ := kk r u t T'.heap (locs ++ L) e1.symm (by rw [← e2]; exact X'.warmed.alike) hp hb k1 k2 k3 T' rfl X'
    exact ⟨t2, st t2 a1, b1⟩
  · obtain ⟨k1, k2, k3⟩ := vx_keep h0 e1 hS hAX hf hL hF
    obtain ⟨t2, a1, b1⟩ := kx E ce q u t T'.heap (locs ++ L) e1.symm (by rw [← e2]; exact X'.warmed.alike) hp hb k1 k2 k3 (by rw [e1]; exact hce) hcv hcl T' rfl X'
    exact ⟨t2, st.trans a1, b1⟩
end
/-! ===== END ===== -/
/-! ===== BEGIN by an interface, a method with a table of its own that may throw (follows va_callIFW, va_runFW) ===== -/
section
variable {p : Program} {l : Launch} {e : Env} {R : Room} {s : State} {m : MethodId} {args : Array Value} {below : List Frame} {meth : Method} {c : Code} {H : Heap} {locs : List Loc} {cells slots : Nat}
theorem vx_callIFW {T : State} (X : Stand p l e R s m args below meth c T locs cells slots) (hexec : p.tables.exec = Jvm.exec) {own C : String} {index count : Nat} {x y : MethodName} {bytes : ByteArray} {maxL : Nat} {ret : Option FieldType} {hh : List (Nat × Nat × Nat × Nat)}
    (hown : s.vm.findClass own = some m.cls) (hlink : (Cond.methodLink own index x).before args s = true) (hdecl : (Cond.declares x).before args s = true) (hface : (Cond.interfaceMethod x.cls x.cls x.name x.desc).before args s = true)
    (hsel : (Cond.selects C x y).before args s = true) (hinst : (Cond.instanceMethod y).before args s = true) (hpub : (Cond.publicMethod y).before args s = true) (hunh : (Cond.unhidden C x.name x.desc).before args s = true)
    (hcast : (Cond.castable C x.cls).before args s = true) (hcode : (Cond.codeWith y bytes maxL ret hh).before args s = true) (hx : x.cls ≠ "java/lang/invoke/MethodHandle" ∧ x.cls ≠ "java/lang/invoke/VarHandle")
    {W : Nat} {Pre : Pt → Array Value → Prop} {Post : Pt → Array Value → Option Value → Pt → Prop} {PostX : Pt → Array Value → Addr → Pt → Prop} (hK : vx_Back l R p e below s args y 5 W Pre Post PostX)
    {b : Addr} {cellB : Cell} {kB : Class} (hcell : T.heap[b]? = some cellB) (hobj : cellB.vm.isStatics = false) (hcls : s.vm.findClass C = some cellB.cls) (hkB : s.vm.classes[cellB.cls]? = some kB)
    {g : JFrame} (hg : g.method = m) (hsize : g.locals.size = c.maxLocals) {argsL rest : List Value} (hlen : ∀ sig, parseMethodDescriptor x.desc = some sig → argsL.length = sig.parameters.length)
    (hstack : g.stack = argsL.reverse ++ .ref b :: rest) (hW : 2 * g.monitorRoom + (rest.map fun v => v.category).sum ≤ W) (hdg : decode c.code g.pc = .ok (.invokeinterface index count, 5))
    (hpre : ∀ vm₁, s.WarmedH vm₁ → Pre ⟨T.setVm vm₁, locs, cells, slots⟩ (Value.ref b :: argsL).toArray) :
    (∃ (v : Option Value) (vm₁ : Vm) (B : Pt), s.WarmedH vm₁ ∧ Stand p l e R s m args below meth c B.U B.locs B.cells B.slots ∧ Post ⟨T.setVm vm₁, locs, cells, slots⟩ (Value.ref b :: argsL).toArray v B ∧
      ∀ target, Steps p.tables e below (B.U.setTop { g with pc := g.pc + 5, stack := v.toList ++ rest }) target → Steps p.tables e below (T.setTop g) target) ∨
    (∃ (q : Addr) (vm₁ : Vm) (B : Pt), s.WarmedH vm₁ ∧ Stand p l e R s m args below meth c B.U B.locs B.cells B.slots ∧ PostX ⟨T.setVm vm₁, locs, cells, slots⟩ (Value.ref b :: argsL).toArray q B ∧
      Steps p.tables e below (T.setTop g) ((B.U.setTop { g with stack := rest }).pushFrame (.throwing q))) := by
  obtain ⟨r0, r, hn, hrm, hstR, hsigR⟩ := Cond.declares_spec hdecl
  obtain ⟨cL, kL, r1, hcL, hkL, hiL, hfoundL, hn1⟩ := Cond.interfaceMethod_spec hface
  cases hn.symm.trans hn1
  have hr0cls : r0.cls = cL := Option.some.inj ((findClass_of_methodNamed hn).symm.trans hcL)
  obtain ⟨hnameR, hdescR⟩ := name_of_methodNamed hn hrm
  obtain ⟨mk, methM, hnamed, hmethM, -, habM⟩ := Cond.instanceMethod_spec hinst
  obtain ⟨c2, r2, m2, q1, q2, q3, q4, -⟩ := Cond.selects_spec hsel
  cases hcls.symm.trans q1
  cases hfoundL.symm.trans q2
  cases hnamed.symm.trans q3
  have hselP : selectMethod e.platform s.vm cellB.cls r0 = .method mk := by rw [Launch.admits_selectMethod X.admits]; exact q4
  have hpubM : hasFlag methM.accessFlags Acc.public_ = true := Cond.publicMethod_spec hnamed hmethM hpub
  have hway : ((cellB.cls :: s.vm.superclasses cellB.cls).any fun k => (declaredIn s.vm r.name r.desc k).any fun (_, z) => z.isPrivate || z.isStatic) = false := by
    rw [hnameR, hdescR]; exact Cond.unhidden_spec hcls hunh
  obtain ⟨c3, t3, w1, w2, w3⟩ := Cond.castable_spec hcast
  cases hcls.symm.trans w1
  cases hcL.symm.trans w2
  obtain ⟨vm₁, X₁, hstep₁⟩ := X.invokeinterface hexec hown hlink hn hrm hstR (by rw [hr0cls]; exact hkL) hiL hx (a := b) (cell := cellB) (kcell := kB) hcell
    (fun z h => by rw [h] at hobj; cases hobj) hkB (by rw [hr0cls]; exact w3) hselP hmethM hway hpubM habM (g := g) hg (argsL := argsL) (rest := rest) (hlen _ hsigR) hstack hdg
  rcases hK m meth c ⟨T.setVm vm₁, locs, cells, slots⟩ { g with stack := rest } (.invokeinterface index count) mk (Value.ref b :: argsL).toArray X₁ hg hsize hdg hW (X₁.named hnamed) (hpre vm₁ X₁.warmed) with ⟨v, B, X', hpost, hsteps⟩ | ⟨q, B, X', hpost, hsteps⟩
  · exact Or.inl ⟨v, vm₁, B, X₁.warmed, X', hpost, fun target h => hstep₁ _ fun acts => by rw [doInvoke_state]; exact hsteps.trans h⟩
  · exact Or.inr ⟨q, vm₁, B, X₁.warmed, X', hpost, hstep₁ _ fun acts => by rw [doInvoke_state]; exact hsteps⟩
theorem vx_runFW {x y : MethodName} {bytes cc : ByteArray} {maxL nL mc ms n index count : Nat} {ret : Option FieldType} {hh : List (Nat × Nat × Nat × Nat)} {ws : List Cond} {rm : Room} {Pc : Array Value → State → Prop} {Qc : Array Value → State → Outcome → State → Prop} {XC : String → State → State → Prop} {free : Addr → Prop} {Ts : List Cond} {own C : String} {cC : ClassId} {b : Addr} {As rest : List Value} {g : JFrame}
    (hat : ClassAt s C cC) (S : CallFix p m c cc nL s args Ts own) (hM : vx_Met l y ws rm Pc Qc XC mc ms free) (cw : va_CIW R s args own C index x y bytes maxL ret hh ws rm mc ms n) (hp : PreV s H C b Pc As)
    (hg : g.method = m) (hn : As.length = n) (hsize : g.locals.size = nL) (hstack : g.stack = As.reverse ++ .ref b :: rest) (hW : 2 * g.monitorRoom + (rest.map fun v => v.category).sum ≤ 8) (hdg : decode cc g.pc = .ok (.invokeinterface index count, 5)) (hf : cells + mc ≤ R.cells ∧ slots + ms ≤ R.slots) :
    vx_Run5 p l e R s m args below meth c H locs cells slots mc ms g rest (Qc (Value.ref b :: As).toArray) XC free := by
  obtain ⟨hrc, hrs, hfr, hlo, hws, hcw⟩ := cw.back
  have hini := cw.init
  have hK : vx_Back l R p e below s args y 5 8 (PreOf R mc ms Pc) (PostOf Qc mc ms free) (vx_Post XC mc ms free) := vx_backW (hh := hh) (bytes := bytes) (maxL := maxL) (ret := ret) hM hp.1 hrc hrs hfr hlo hws hcw (fun a' U hW => word_at hW (Or.inl (by first | rfl | simp [Cond.onTables, Cond.keeps, Cond.steady])) hini)
  obtain ⟨hx, hb, hml, ho, -⟩ := S
  obtain ⟨-, ⟨cellB, hcB, hoB, hclB⟩, hPc⟩ := hp
  obtain ⟨hfc, kB, hkB, -⟩ := hat
  cases hfc.symm.trans hclB
  intro T hT X
  rcases vx_callIFW X hx (C := C) (hh := hh) (bytes := bytes) (maxL := maxL) (ret := ret) ho cw.link cw.decl cw.face cw.sel cw.inst cw.pub cw.unh cw.cast cw.code cw.notMH hK (by rw [hT]; exact hcB) hoB hclB hkB hg (hsize.trans hml.symm) (argsL := As) (rest := rest) (fun sig h => hn.trans (cw.len sig h)) hstack hW (by rw [hb]; exact hdg)
    (fun vm₁ hW₁ => ⟨hf.1, hf.2, hPc (T.setVm vm₁) hT hW₁⟩) with ⟨v, vm₁, ⟨U', l2, c2, s2⟩, hW₁, X', ⟨g', mk, t, L, e1, e2, hq, h1, hL, h2, h3⟩, st⟩ | ⟨q, vm₁, ⟨U', l2, c2, s2⟩, hW₁, X', ⟨g', mk, t, L, E, ce, e1, e2, hq, hce, hcv, hcl, h1, hL, h2, h3⟩, st⟩
  · dsimp only [Pt.U, Pt.locs, Pt.cells, Pt.slots] at X' e1 e2 h1 h2 h3 st
    subst h1; subst h2; subst h3
    exact Or.inl ⟨v, (T.setVm vm₁).calling g' mk (Value.ref b :: As).toArray, t, U', L, hT, X', hL, e1, e2, hq, st⟩
  · dsimp only [Pt.U, Pt.locs, Pt.cells, Pt.slots] at X' e1 e2 h1 h2 h3 st hcl
    subst h1; subst h2; subst h3
    exact Or.inr ⟨q, (T.setVm vm₁).calling g' mk (Value.ref b :: As).toArray, t, U', L, E, ce, hT, X', hL, e1, e2, hq, hce, hcv, vx_cls hW₁ hcl, st⟩
end
/-! ===== END ===== -/
/-! ===== BEGIN .. of methods that hand back an object of the pool ===== -/
section
variable {p : Program} {l : Launch} {e : Env} {R : Room} {s : State} {m : MethodId} {args : Array Value} {below : List Frame} {meth : Method} {c : Code} {H : Heap} {locs : List Loc} {cells slots : Nat} {Q : State → Prop}
variable {mc ms : Nat} {free : Addr → Prop} {A0 A1 : Nat → Prop} {H0 : Heap} {a : Array Value} {pc : Nat} {ls : Array Slot} {st0 rest : List Value}
theorem vx_callq {S SX : Type} {post : Option Nat → S → Prop} {px : SX → Prop} {B : S → State → Prop} {BX : String → SX → State → Prop} {AX : Nat → Prop} (hr : vx_Run p l e R s m args below meth c H locs cells slots mc ms (F0 m pc ls st0) rest (va_Qq post B A1 a) (vx_X px BX AX) free) (hS : va_S A0 H0 H locs) (hA : ∀ q, q < H.size → A1 q → A0 q) (hf : ∀ q, free q → A0 q) (hAX : ∀ q, q < H.size → AX q → A0 q)
    (kx : ∀ (E : String) (ce : Cell) (q9 : Addr) (u : SX) (t : State) (H1 : Heap) (locs1 : List Loc), t.heap = H1 → s.vm.Alike t.vm → px u → BX E u t → H.size ≤ H1.size → (∀ q : Nat, q < H.size → ¬ AX q → H1[q]? = H[q]?) → va_S A0 H0 H1 locs1 → H1[q9]? = some ce → ce.vm = .none → s.vm.findClass E = some ce.cls → vx_W p l e R s m args below meth c H1 locs1 (cells + mc) (slots + ms) Q (F0 m pc ls rest) q9)
    (kk : ∀ (r : Option Nat) (u : S) (t : State) (H1 : Heap) (locs1 : List Loc), t.heap = H1 → s.vm.Alike t.vm → post r u → B u t → H.size ≤ H1.size → (∀ q : Nat, q < H.size → ¬ A1 q → H1[q]? = H[q]?) → va_S A0 H0 H1 locs1 → W p l e R s m args below meth c H1 locs1 (cells + mc) (slots + ms) Q (F0 m (pc + 3) ls (va_rf r :: rest))) : W p l e R s m args below meth c H locs cells slots Q (F0 m pc ls st0) := by
  intro T hT X
  rcases hr T hT X with ⟨v, st₀, t, T', L, h0, X', hL, e1, e2, ⟨⟨r, u, hv, hp, hb⟩, hF⟩, st⟩ | ⟨q, st₀, t, T', L, E, ce, h0, X', hL, e1, e2, ⟨u, hp, hb, hF⟩, hce, hcv, hcl, st⟩
  · cases hv
    obtain ⟨k1, k2, k3⟩ := vx_keep h0 e1 hS hA hf hL hF
    obtain ⟨t2, a1, b1⟩ := kk r u t T'.heap (locs ++ L) e1.symm (by rw [← e2]; exact X'.warmed.alike) hp hb k1 k2 k3 T' rfl X'
    exact ⟨t2, st t2 a1, b1⟩
  · obtain ⟨k1, k2, k3⟩ := vx_keep h0 e1 hS hAX hf hL hF
    obtain ⟨t2, a1, b1⟩ := kx E ce q u t T'.heap (locs ++ L) e1.symm (by rw [← e2]; exact X'.warmed.alike) hp hb k1 k2 k3 (by rw [e1]; exact hce) hcv hcl T' rfl X'
    exact ⟨t2, st.trans a1, b1⟩
end
/-! ===== END ===== -/
/-! ===== BEGIN .. a constant ===== -/
section
variable {p : Program} {l : Launch} {e : Env} {R : Room} {s : State} {m : MethodId} {args : Array Value} {below : List Frame} {meth : Method} {c : Code} {H : Heap} {locs : List Loc} {cells slots : Nat} {Q : State → Prop}
variable {mc ms : Nat} {free : Addr → Prop} {A0 A1 : Nat → Prop} {H0 : Heap} {a : Array Value} {pc : Nat} {ls : Array Slot} {st0 rest : List Value}
theorem vx_calle {ad : Nat → Nat} {S SX : Type} {post : Option Nat → S → Prop} {px : SX → Prop} {B : S → State → Prop} {BX : String → SX → State → Prop} {AX : Nat → Prop} (hr : vx_Run p l e R s m args below meth c H locs cells slots mc ms (F0 m pc ls st0) rest (va_Qe ad post B A1 a) (vx_X px BX AX) free) (hS : va_S A0 H0 H locs) (hA : ∀ q, q < H.size → A1 q → A0 q) (hf : ∀ q, free q → A0 q) (hAX : ∀ q, q < H.size → AX q → A0 q)
    (kx : ∀ (E : String) (ce : Cell) (q9 : Addr) (u : SX) (t : State) (H1 : Heap) (locs1 : List Loc), t.heap = H1 → s.vm.Alike t.vm → px u → BX E u t → H.size ≤ H1.size → (∀ q : Nat, q < H.size → ¬ AX q → H1[q]? = H[q]?) → va_S A0 H0 H1 locs1 → H1[q9]? = some ce → ce.vm = .none → s.vm.findClass E = some ce.cls → vx_W p l e R s m args below meth c H1 locs1 (cells + mc) (slots + ms) Q (F0 m pc ls rest) q9)
    (kk : ∀ (r : Option Nat) (u : S) (t : State) (H1 : Heap) (locs1 : List Loc), t.heap = H1 → s.vm.Alike t.vm → post r u → B u t → H.size ≤ H1.size → (∀ q : Nat, q < H.size → ¬ A1 q → H1[q]? = H[q]?) → va_S A0 H0 H1 locs1 → W p l e R s m args below meth c H1 locs1 (cells + mc) (slots + ms) Q (F0 m (pc + 3) ls (va_re ad r :: rest))) : W p l e R s m args below meth c H locs cells slots Q (F0 m pc ls st0) := by
  intro T hT X
  rcases hr T hT X with ⟨v, st₀, t, T', L, h0, X', hL, e1, e2, ⟨⟨r, u, hv, hp, hb⟩, hF⟩, st⟩ | ⟨q, st₀, t, T', L, E, ce, h0, X', hL, e1, e2, ⟨u, hp, hb, hF⟩, hce, hcv, hcl, st⟩
  · cases hv
    obtain ⟨k1, k2, k3⟩ := vx_keep h0 e1 hS hA hf hL hF
    obtain ⟨t2, a1, b1⟩ := kk r u t T'.heap (locs ++ L) e1.symm (by rw [← e2]; exact X'.warmed.alike) hp hb k1 k2 k3 T' rfl X'
    exact ⟨t2, st t2 a1, b1⟩
  · obtain ⟨k1, k2, k3⟩ := vx_keep h0 e1 hS hAX hf hL hF
    obtain ⟨t2, a1, b1⟩ := kx E ce q u t T'.heap (locs ++ L) e1.symm (by rw [← e2]; exact X'.warmed.alike) hp hb k1 k2 k3 (by rw [e1]; exact hce) hcv hcl T' rfl X'
    exact ⟨t2, st.trans a1, b1⟩
end
/-! ===== END ===== -/
/-! ===== BEGIN .. by an interface, an object ===== -/
section
variable {p : Program} {l : Launch} {e : Env} {R : Room} {s : State} {m : MethodId} {args : Array Value} {below : List Frame} {meth : Method} {c : Code} {H : Heap} {locs : List Loc} {cells slots : Nat} {Q : State → Prop}
variable {mc ms : Nat} {free : Addr → Prop} {A0 A1 : Nat → Prop} {H0 : Heap} {a : Array Value} {pc : Nat} {ls : Array Slot} {st0 rest : List Value}
theorem vx_callFq {S SX : Type} {post : Option Nat → S → Prop} {px : SX → Prop} {B : S → State → Prop} {BX : String → SX → State → Prop} {AX : Nat → Prop} (hr : vx_Run5 p l e R s m args below meth c H locs cells slots mc ms (F0 m pc ls st0) rest (va_Qq post B A1 a) (vx_X px BX AX) free) (hS : va_S A0 H0 H locs) (hA : ∀ q, q < H.size → A1 q → A0 q) (hf : ∀ q, free q → A0 q) (hAX : ∀ q, q < H.size → AX q → A0 q)
    (kx : ∀ (E : String) (ce : Cell) (q9 : Addr) (u : SX) (t : State) (H1 : Heap) (locs1 : List Loc), t.heap = H1 → s.vm.Alike t.vm → px u → BX E u t → H.size ≤ H1.size → (∀ q : Nat, q < H.size → ¬ AX q → H1[q]? = H[q]?) → va_S A0 H0 H1 locs1 → H1[q9]? = some ce → ce.vm = .none → s.vm.findClass E = some ce.cls → vx_W p l e R s m args below meth c H1 locs1 (cells + mc) (slots + ms) Q (F0 m pc ls rest) q9)
    (kk : ∀ (r : Option Nat) (u : S) (t : State) (H1 : Heap) (locs1 : List Loc), t.heap = H1 → s.vm.Alike t.vm → post r u → B u t → H.size ≤ H1.size → (∀ q : Nat, q < H.size → ¬ A1 q → H1[q]? = H[q]?) → va_S A0 H0 H1 locs1 → W p l e R s m args below meth c H1 locs1 (cells + mc) (slots + ms) Q (F0 m (pc + 5) ls (va_rf r :: rest))) : W p l e R s m args below meth c H locs cells slots Q (F0 m pc ls st0) := by
  intro T hT X
  rcases hr T hT X with ⟨v, st₀, t, T', L, h0, X', hL, e1, e2, ⟨⟨r, u, hv, hp, hb⟩, hF⟩, st⟩ | ⟨q, st₀, t, T', L, E, ce, h0, X', hL, e1, e2, ⟨u, hp, hb, hF⟩, hce, hcv, hcl, st⟩
  · cases hv
    obtain ⟨k1, k2, k3⟩ := vx_keep h0 e1 hS hA hf hL hF
    obtain ⟨t2, a1, b1⟩ := kk r u t T'.heap (locs ++ L) e1.symm (by rw [← e2]; exact X'.warmed.alike) hp hb k1 k2 k3 T' rfl X'
    exact ⟨t2, st t2 a1, b1⟩
  · obtain ⟨k1, k2, k3⟩ := vx_keep h0 e1 hS hAX hf hL hF
    obtain ⟨t2, a1, b1⟩ := kx E ce q u t T'.heap (locs ++ L) e1.symm (by rw [← e2]; exact X'.warmed.alike) hp hb k1 k2 k3 (by rw [e1]; exact hce) hcv hcl T' rfl X'
    exact ⟨t2, st.trans a1, b1⟩
end
/-! ===== END ===== -/
/-! ===== BEGIN .. by an interface, a constant ===== -/
section
variable {p : Program} {l : Launch} {e : Env} {R : Room} {s : State} {m : MethodId} {args : Array Value} {below : List Frame} {meth : Method} {c : Code} {H : Heap} {locs : List Loc} {cells slots : Nat} {Q : State → Prop}
variable {mc ms : Nat} {free : Addr → Prop} {A0 A1 : Nat → Prop} {H0 : Heap} {a : Array Value} {pc : Nat} {ls : Array Slot} {st0 rest : List Value}
theorem vx_callFe {ad : Nat → Nat} {S SX : Type} {post : Option Nat → S → Prop} {px : SX → Prop} {B : S → State → Prop} {BX : String → SX → State → Prop} {AX : Nat → Prop} (hr : vx_Run5 p l e R s m args below meth c H locs cells slots mc ms (F0 m pc ls st0) rest (va_Qe ad post B A1 a) (vx_X px BX AX) free) (hS : va_S A0 H0 H locs) (hA : ∀ q, q < H.size → A1 q → A0 q) (hf : ∀ q, free q → A0 q) (hAX : ∀ q, q < H.size → AX q → A0 q)
    (kx : ∀ (E : String) (ce : Cell) (q9 : Addr) (u : SX) (t : State) (H1 : Heap) (locs1 : List Loc), t.heap = H1 → s.vm.Alike t.vm → px u → BX E u t → H.size ≤ H1.size → (∀ q : Nat, q < H.size → ¬ AX q → H1[q]? = H[q]?) → va_S A0 H0 H1 locs1 → H1[q9]? = some ce → ce.vm = .none → s.vm.findClass E = some ce.cls → vx_W p l e R s m args below meth c H1 locs1 (cells + mc) (slots + ms) Q (F0 m pc ls rest) q9)
    (kk : ∀ (r : Option Nat) (u : S) (t : State) (H1 : Heap) (locs1 : List Loc), t.heap = H1 → s.vm.Alike t.vm → post r u → B u t → H.size ≤ H1.size → (∀ q : Nat, q < H.size → ¬ A1 q → H1[q]? = H[q]?) → va_S A0 H0 H1 locs1 → W p l e R s m args below meth c H1 locs1 (cells + mc) (slots + ms) Q (F0 m (pc + 5) ls (va_re ad r :: rest))) : W p l e R s m args below meth c H locs cells slots Q (F0 m pc ls st0) := by
  intro T hT X
  rcases hr T hT X with ⟨v, st₀, t, T', L, h0, X', hL, e1, e2, ⟨⟨r, u, hv, hp, hb⟩, hF⟩, st⟩ | ⟨q, st₀, t, T', L, E, ce, h0, X', hL, e1, e2, ⟨u, hp, hb, hF⟩, hce, hcv, hcl, st⟩
  · cases hv
    obtain ⟨k1, k2, k3⟩ := vx_keep h0 e1 hS hA hf hL hF
    obtain ⟨t2, a1, b1⟩ := kk r u t T'.heap (locs ++ L) e1.symm (by rw [← e2]; exact X'.warmed.alike) hp hb k1 k2 k3 T' rfl X'
    exact ⟨t2, st t2 a1, b1⟩
  · obtain ⟨k1, k2, k3⟩ := vx_keep h0 e1 hS hAX hf hL hF
    obtain ⟨t2, a1, b1⟩ := kx E ce q u t T'.heap (locs ++ L) e1.symm (by rw [← e2]; exact X'.warmed.alike) hp hb k1 k2 k3 (by rw [e1]; exact hce) hcv hcl T' rfl X'
    exact ⟨t2, st.trans a1, b1⟩
end
/-! ===== END ===== -/
/-! ===== BEGIN what the machine throws by itself: null at a field, at athrow ===== -/
section VXM2
variable {p : Program} {l : Launch} {e : Env} {R : Room} {s : State} {m : MethodId} {args : Array Value} {below : List Frame} {meth : Method} {c : Code} {H : Heap} {locs : List Loc} {cells slots : Nat}
variable {Q : State → Prop} {cc : ByteArray} {pc : Nat} {ls : Array Slot} {rest : List Value}
theorem vx_getfN {D cl tys} {own ref C : String} {T : u_T} {N ci index : Nat} {Ts : List Cond} (hexec : p.tables.exec = Jvm.exec) (hb : c.code = cc) (hts : ∀ w ∈ Ts, w.before args s = true) (hin : ∀ w ∈ u_ws C T N, w ∈ Ts) (hown : s.vm.findClass own = some m.cls) (hK : va_K D cl tys s) (hc : cl[ci]? = some (C, T, N)) (k : Nat) (hk : k < N) (hlink : (Cond.fieldLink own index ref (T k).2.1 (T k).2.2.1).before args s = true) (hsame : ∀ x, s.fieldFound? (T k).1 (T k).2.1 (T k).2.2.1 = some x → s.fieldFound? ref (T k).2.1 (T k).2.2.1 = some x) (hdg : decode cc pc = .ok (.getfield index, 3)) (kk : vx_NoteN p l e R s m args below meth c H locs cells slots Q (F0 m pc ls rest)) : W p l e R s m args below meth c H locs cells slots Q (F0 m pc ls (.null :: rest)) := by
  obtain ⟨hS, hfc, kC, hkC, -⟩ := hK.1 ci _ hc
  obtain ⟨cf, kf, fi, f, hi, -⟩ := hS k hk
  intro U hU X
  obtain ⟨vm', X1, st1⟩ := X.getfieldNull hexec hown hlink (hsame _ hi) (u_facts hfc hkC (u_lays hts hin hk) hi).1 (g := F0 m pc ls (.null :: rest)) rfl (rest := rest) rfl (by rw [hb]; exact hdg)
  obtain ⟨t, st, q⟩ := kk (U.setVm vm') hU X1
  exact ⟨t, st1 t st, q⟩
theorem vx_getfNN {D cl tys} {own ref C host : String} {T : u_T} {N ci index : Nat} {Ts : List Cond} (hexec : p.tables.exec = Jvm.exec) (hb : c.code = cc) (hts : ∀ w ∈ Ts, w.before args s = true) (hin : ∀ w ∈ u_ws C T N, w ∈ Ts) (hown : s.vm.findClass own = some m.cls) (hK : va_K D cl tys s) (hc : cl[ci]? = some (C, T, N)) (k : Nat) (hk : k < N) (hlink : (Cond.fieldLinkNest own index ref (T k).2.1 (T k).2.2.1 host).before args s = true) (hsame : ∀ x, s.fieldFound? (T k).1 (T k).2.1 (T k).2.2.1 = some x → s.fieldFound? ref (T k).2.1 (T k).2.2.1 = some x) (hdg : decode cc pc = .ok (.getfield index, 3)) (kk : vx_NoteN p l e R s m args below meth c H locs cells slots Q (F0 m pc ls rest)) : W p l e R s m args below meth c H locs cells slots Q (F0 m pc ls (.null :: rest)) := by
  obtain ⟨hS, hfc, kC, hkC, -⟩ := hK.1 ci _ hc
  obtain ⟨cf, kf, fi, f, hi, -⟩ := hS k hk
  intro U hU X
  obtain ⟨vm', X1, st1⟩ := X.getfieldNullNest hexec hown hlink (hsame _ hi) (u_facts hfc hkC (u_lays hts hin hk) hi).1 (g := F0 m pc ls (.null :: rest)) rfl (rest := rest) rfl (by rw [hb]; exact hdg)
  obtain ⟨t, st, q⟩ := kk (U.setVm vm') hU X1
  exact ⟨t, st1 t st, q⟩
theorem vx_putfN {D cl tys} {own ref C : String} {T : u_T} {N ci index : Nat} {Ts : List Cond} (hexec : p.tables.exec = Jvm.exec) (hb : c.code = cc) (hts : ∀ w ∈ Ts, w.before args s = true) (hin : ∀ w ∈ u_ws C T N, w ∈ Ts) (hown : s.vm.findClass own = some m.cls) (hK : va_K D cl tys s) (hc : cl[ci]? = some (C, T, N)) (k : Nat) (hk : k < N) (hlink : (Cond.fieldLink own index ref (T k).2.1 (T k).2.2.1).before args s = true) (hsame : ∀ x, s.fieldFound? (T k).1 (T k).2.1 (T k).2.2.1 = some x → s.fieldFound? ref (T k).2.1 (T k).2.2.1 = some x) (hfin : (T k).2.2.2 = false) {v : Value} (hdg : decode cc pc = .ok (.putfield index, 3)) (kk : vx_NoteN p l e R s m args below meth c H locs cells slots Q (F0 m pc ls rest)) : W p l e R s m args below meth c H locs cells slots Q (F0 m pc ls (v :: .null :: rest)) := by
  obtain ⟨hS, hfc, kC, hkC, -⟩ := hK.1 ci _ hc
  obtain ⟨cf, kf, fi, f, hi, -⟩ := hS k hk
  have hlay := hts _ (hin _ (u_in_lay hk))
  unfold u_lay at hlay
  rw [if_neg (by rw [hfin]; decide)] at hlay
  obtain ⟨c9, k9, cf9, kf9, fi9, f9, -, -, hi9, hst9, hnf9, -⟩ := Cond.lays_spec hlay
  cases hi.symm.trans hi9
  intro U hU X
  obtain ⟨vm', X1, st1⟩ := X.putfieldNull hexec hown hlink (hsame _ hi) hst9 hnf9 (g := F0 m pc ls (v :: .null :: rest)) rfl (v := v) (rest := rest) rfl (by rw [hb]; exact hdg)
  obtain ⟨t, st, q⟩ := kk (U.setVm vm') hU X1
  exact ⟨t, st1 t st, q⟩
theorem vx_putfNN {D cl tys} {own ref C host : String} {T : u_T} {N ci index : Nat} {Ts : List Cond} (hexec : p.tables.exec = Jvm.exec) (hb : c.code = cc) (hts : ∀ w ∈ Ts, w.before args s = true) (hin : ∀ w ∈ u_ws C T N, w ∈ Ts) (hown : s.vm.findClass own = some m.cls) (hK : va_K D cl tys s) (hc : cl[ci]? = some (C, T, N)) (k : Nat) (hk : k < N) (hlink : (Cond.fieldLinkNest own index ref (T k).2.1 (T k).2.2.1 host).before args s = true) (hsame : ∀ x, s.fieldFound? (T k).1 (T k).2.1 (T k).2.2.1 = some x → s.fieldFound? ref (T k).2.1 (T k).2.2.1 = some x) (hfin : (T k).2.2.2 = false) {v : Value} (hdg : decode cc pc = .ok (.putfield index, 3)) (kk : vx_NoteN p l e R s m args below meth c H locs cells slots Q (F0 m pc ls rest)) : W p l e R s m args below meth c H locs cells slots Q (F0 m pc ls (v :: .null :: rest)) := by
  obtain ⟨hS, hfc, kC, hkC, -⟩ := hK.1 ci _ hc
  obtain ⟨cf, kf, fi, f, hi, -⟩ := hS k hk
  have hlay := hts _ (hin _ (u_in_lay hk))
  unfold u_lay at hlay
  rw [if_neg (by rw [hfin]; decide)] at hlay
  obtain ⟨c9, k9, cf9, kf9, fi9, f9, -, -, hi9, hst9, hnf9, -⟩ := Cond.lays_spec hlay
  cases hi.symm.trans hi9
  intro U hU X
  obtain ⟨vm', X1, st1⟩ := X.putfieldNullNest hexec hown hlink (hsame _ hi) hst9 hnf9 (g := F0 m pc ls (v :: .null :: rest)) rfl (v := v) (rest := rest) rfl (by rw [hb]; exact hdg)
  obtain ⟨t, st, q⟩ := kk (U.setVm vm') hU X1
  exact ⟨t, st1 t st, q⟩
theorem vx_athrowN (hexec : p.tables.exec = Jvm.exec) (hb : c.code = cc) (hdg : decode cc pc = .ok (.athrow, 1)) (k : vx_NoteN p l e R s m args below meth c H locs cells slots Q (F0 m pc ls rest)) : W p l e R s m args below meth c H locs cells slots Q (F0 m pc ls (.null :: rest)) := by
  intro T hT X
  obtain ⟨t, st, q⟩ := k T hT X
  exact ⟨t, X.athrowNull hexec (g := F0 m pc ls (.null :: rest)) rfl (rest := rest) rfl (by rw [hb]; exact hdg) t st, q⟩
end VXM2
/-! ===== END ===== -/
end
section
def RX0 : String := "MapHall$1"
def TX0 : u_T := fun k => match k with
  | _ => ("", "", "", false)
def tyX0 : Nat → FieldType := fun k => match k with
  | _ => .int
abbrev wsX00 : List Cond := u_ws RX0 TX0 0
theorem nmX0 : ∀ a, a < 0 → ∀ b, b < 0 → a ≠ b → (TX0 a).2.1 ≠ (TX0 b).2.1 := by decide +kernel
theorem tyX0_ok : ∀ k, k < 0 → parseFieldDescriptor (TX0 k).2.2.1 = some (tyX0 k) := by decide +kernel
def RX1 : String := "MapHall$Form"
def TX1 : u_T := fun k => match k with
  | _ => ("", "", "", false)
def tyX1 : Nat → FieldType := fun k => match k with
  | _ => .int
abbrev wsX10 : List Cond := u_ws RX1 TX1 0
theorem nmX1 : ∀ a, a < 0 → ∀ b, b < 0 → a ≠ b → (TX1 a).2.1 ≠ (TX1 b).2.1 := by decide +kernel
theorem tyX1_ok : ∀ k, k < 0 → parseFieldDescriptor (TX1 k).2.2.1 = some (tyX1 k) := by decide +kernel
abbrev cX1_size : ByteArray := prog_3_method_4_code
def yX1_size : MethodName := ⟨RX1, "size", "()I"⟩
abbrev cX1_accepts : ByteArray := prog_3_method_5_code
def yX1_accepts : MethodName := ⟨RX1, "accepts", "(CI)Z"⟩
abbrev cX1_placeOfValue : ByteArray := prog_3_method_6_code
def yX1_placeOfValue : MethodName := ⟨RX1, "placeOfValue", "(I)I"⟩
abbrev cX1_isValue : ByteArray := prog_3_method_7_code
def yX1_isValue : MethodName := ⟨RX1, "isValue", "(C)Z"⟩
def RX2 : String := "MapHall$Groups"
def TX2 : u_T := fun k => match k with
  | _ => ("MapHall$Groups", "leaderOf", "[I", true)
def tyX2 : Nat → FieldType := fun k => match k with
  | _ => .array .int
abbrev wsX20 : List Cond := u_ws RX2 TX2 1
theorem nmX2 : ∀ a, a < 1 → ∀ b, b < 1 → a ≠ b → (TX2 a).2.1 ≠ (TX2 b).2.1 := by decide +kernel
theorem tyX2_ok : ∀ k, k < 1 → parseFieldDescriptor (TX2 k).2.2.1 = some (tyX2 k) := by decide +kernel
abbrev cX2_init : ByteArray := prog_4_method_1_code
def yX2_init : MethodName := ⟨RX2, "<init>", "()V"⟩
abbrev cX2_cellsConnectedTo : ByteArray := prog_4_method_2_code
def yX2_cellsConnectedTo : MethodName := ⟨RX2, "cellsConnectedTo", "(LMapHall$State;I)I"⟩
abbrev cX2_withNeighbours : ByteArray := prog_4_method_3_code
def yX2_withNeighbours : MethodName := ⟨RX2, "withNeighbours", "(LMapHall$State;I)I"⟩
abbrev cX2_contains : ByteArray := prog_4_method_4_code
def yX2_contains : MethodName := ⟨RX2, "contains", "(II)Z"⟩
abbrev cX2_countByFilling : ByteArray := prog_4_method_5_code
def yX2_countByFilling : MethodName := ⟨RX2, "countByFilling", "(LMapHall$State;)I"⟩
def RX3 : String := "MapHall$History"
def TX3 : u_T := fun k => match k with
  | 0 => ("MapHall$History", "slots", "[LMapHall$State;", true)
  | 1 => ("MapHall$History", "next", "I", false)
  | _ => ("MapHall$History", "kept", "I", false)
def tyX3 : Nat → FieldType := fun k => match k with
  | 0 => .array (.object "MapHall$State")
  | 1 => .int
  | _ => .int
abbrev wsX30 : List Cond := u_ws RX3 TX3 3
theorem nmX3 : ∀ a, a < 3 → ∀ b, b < 3 → a ≠ b → (TX3 a).2.1 ≠ (TX3 b).2.1 := by decide +kernel
theorem tyX3_ok : ∀ k, k < 3 → parseFieldDescriptor (TX3 k).2.2.1 = some (tyX3 k) := by decide +kernel
abbrev cX3_init : ByteArray := prog_5_method_1_code
def yX3_init : MethodName := ⟨RX3, "<init>", "()V"⟩
abbrev cX3_prepare : ByteArray := prog_5_method_2_code
def yX3_prepare : MethodName := ⟨RX3, "prepare", "(LMapHall$State;)V"⟩
abbrev cX3_keepPrepared : ByteArray := prog_5_method_3_code
def yX3_keepPrepared : MethodName := ⟨RX3, "keepPrepared", "()V"⟩
abbrev cX3_returnToPrepared : ByteArray := prog_5_method_4_code
def yX3_returnToPrepared : MethodName := ⟨RX3, "returnToPrepared", "(LMapHall$State;)V"⟩
abbrev cX3_stepBack : ByteArray := prog_5_method_5_code
def yX3_stepBack : MethodName := ⟨RX3, "stepBack", "(LMapHall$State;)V"⟩
abbrev cX3_forget : ByteArray := prog_5_method_6_code
def yX3_forget : MethodName := ⟨RX3, "forget", "()V"⟩
def RX4 : String := "MapHall$Output"
def TX4 : u_T := fun k => match k with
  | 0 => ("MapHall$Output", "signs", "[C", true)
  | _ => ("MapHall$Output", "length", "I", false)
def tyX4 : Nat → FieldType := fun k => match k with
  | 0 => .array .char
  | _ => .int
abbrev wsX40 : List Cond := u_ws RX4 TX4 2
theorem nmX4 : ∀ a, a < 2 → ∀ b, b < 2 → a ≠ b → (TX4 a).2.1 ≠ (TX4 b).2.1 := by decide +kernel
theorem tyX4_ok : ∀ k, k < 2 → parseFieldDescriptor (TX4 k).2.2.1 = some (tyX4 k) := by decide +kernel
abbrev cX4_init : ByteArray := prog_6_method_1_code
def yX4_init : MethodName := ⟨RX4, "<init>", "()V"⟩
abbrev cX4_describeTable : ByteArray := prog_6_method_2_code
def yX4_describeTable : MethodName := ⟨RX4, "describeTable", "(LMapHall$State;)V"⟩
abbrev cX4_describeSheet : ByteArray := prog_6_method_3_code
def yX4_describeSheet : MethodName := ⟨RX4, "describeSheet", "(LMapHall$Sheet;)V"⟩
abbrev cX4_writeDigit : ByteArray := prog_6_method_4_code
def yX4_writeDigit : MethodName := ⟨RX4, "writeDigit", "(I)V"⟩
abbrev cX4_writeTimes : ByteArray := prog_6_method_5_code
def yX4_writeTimes : MethodName := ⟨RX4, "writeTimes", "(CI)V"⟩
abbrev cX4_write : ByteArray := prog_6_method_6_code
def yX4_write : MethodName := ⟨RX4, "write", "(C)V"⟩
def RX5 : String := "MapHall$Points"
def TX5 : u_T := fun k => match k with
  | _ => ("", "", "", false)
def tyX5 : Nat → FieldType := fun k => match k with
  | _ => .int
abbrev wsX50 : List Cond := u_ws RX5 TX5 0
theorem nmX5 : ∀ a, a < 0 → ∀ b, b < 0 → a ≠ b → (TX5 a).2.1 ≠ (TX5 b).2.1 := by decide +kernel
theorem tyX5_ok : ∀ k, k < 0 → parseFieldDescriptor (TX5 k).2.2.1 = some (tyX5 k) := by decide +kernel
abbrev cX5_inCell : ByteArray := prog_7_method_2_code
def yX5_inCell : MethodName := ⟨RX5, "inCell", "(LMapHall$State;I)I"⟩
abbrev cX5_sheetBySheet : ByteArray := prog_7_method_3_code
def yX5_sheetBySheet : MethodName := ⟨RX5, "sheetBySheet", "(LMapHall$State;)I"⟩
abbrev cX5_ofCity : ByteArray := prog_7_method_5_code
def yX5_ofCity : MethodName := ⟨RX5, "ofCity", "(LMapHall$State;I)I"⟩
def RX6 : String := "MapHall$Script"
def TX6 : u_T := fun k => match k with
  | 0 => ("MapHall$Script", "text", "[C", true)
  | 1 => ("MapHall$Script", "startOf", "[I", true)
  | 2 => ("MapHall$Script", "formOf", "[I", true)
  | 3 => ("MapHall$Script", "length", "I", false)
  | _ => ("MapHall$Script", "commandTotal", "I", false)
def tyX6 : Nat → FieldType := fun k => match k with
  | 0 => .array .char
  | 1 => .array .int
  | 2 => .array .int
  | 3 => .int
  | _ => .int
abbrev wsX60 : List Cond := u_ws RX6 TX6 5
theorem nmX6 : ∀ a, a < 5 → ∀ b, b < 5 → a ≠ b → (TX6 a).2.1 ≠ (TX6 b).2.1 := by decide +kernel
theorem tyX6_ok : ∀ k, k < 5 → parseFieldDescriptor (TX6 k).2.2.1 = some (tyX6 k) := by decide +kernel
abbrev cX6_init : ByteArray := prog_8_method_1_code
def yX6_init : MethodName := ⟨RX6, "<init>", "()V"⟩
abbrev cX6_isFull : ByteArray := prog_8_method_2_code
def yX6_isFull : MethodName := ⟨RX6, "isFull", "()Z"⟩
abbrev cX6_append : ByteArray := prog_8_method_3_code
def yX6_append : MethodName := ⟨RX6, "append", "(C)V"⟩
abbrev cX6_empty : ByteArray := prog_8_method_4_code
def yX6_empty : MethodName := ⟨RX6, "empty", "()V"⟩
abbrev cX6_read : ByteArray := prog_8_method_5_code
def yX6_read : MethodName := ⟨RX6, "read", "()I"⟩
abbrev cX6_allForms : ByteArray := prog_8_method_6_code
def yX6_allForms : MethodName := ⟨RX6, "allForms", "()I"⟩
abbrev cX6_stillAlive : ByteArray := prog_8_method_7_code
def yX6_stillAlive : MethodName := ⟨RX6, "stillAlive", "(ICI)I"⟩
abbrev cX6_noteCommand : ByteArray := prog_8_method_8_code
def yX6_noteCommand : MethodName := ⟨RX6, "noteCommand", "(III)Z"⟩
abbrev cX6_signIn : ByteArray := prog_8_method_9_code
def yX6_signIn : MethodName := ⟨RX6, "signIn", "(II)C"⟩
abbrev cX6_numberIn : ByteArray := prog_8_method_10_code
def yX6_numberIn : MethodName := ⟨RX6, "numberIn", "(II)I"⟩
def RX7 : String := "MapHall$Sheet"
def TX7 : u_T := fun k => match k with
  | 0 => ("MapHall$Sheet", "borders", "[I", true)
  | 1 => ("MapHall$Sheet", "creases", "[C", true)
  | 2 => ("MapHall$Sheet", "type", "C", false)
  | 3 => ("MapHall$Sheet", "creaseTotal", "I", false)
  | 4 => ("MapHall$Sheet", "worn", "I", false)
  | 5 => ("MapHall$Sheet", "folded", "Z", false)
  | 6 => ("MapHall$Sheet", "cell", "I", false)
  | _ => ("MapHall$Sheet", "turns", "I", false)
def tyX7 : Nat → FieldType := fun k => match k with
  | 0 => .array .int
  | 1 => .array .char
  | 2 => .char
  | 3 => .int
  | 4 => .int
  | 5 => .boolean
  | 6 => .int
  | _ => .int
abbrev wsX70 : List Cond := u_ws RX7 TX7 8
theorem nmX7 : ∀ a, a < 8 → ∀ b, b < 8 → a ≠ b → (TX7 a).2.1 ≠ (TX7 b).2.1 := by decide +kernel
theorem tyX7_ok : ∀ k, k < 8 → parseFieldDescriptor (TX7 k).2.2.1 = some (tyX7 k) := by decide +kernel
abbrev cX7_init : ByteArray := prog_9_method_1_code
def yX7_init : MethodName := ⟨RX7, "<init>", "()V"⟩
abbrev cX7_begin : ByteArray := prog_9_method_2_code
def yX7_begin : MethodName := ⟨RX7, "begin", "(IIIIC)V"⟩
abbrev cX7_copyFrom : ByteArray := prog_9_method_3_code
def yX7_copyFrom : MethodName := ⟨RX7, "copyFrom", "(LMapHall$Sheet;)V"⟩
abbrev cX7_torn : ByteArray := prog_9_method_4_code
def yX7_torn : MethodName := ⟨RX7, "torn", "()Z"⟩
abbrev cX7_onTable : ByteArray := prog_9_method_5_code
def yX7_onTable : MethodName := ⟨RX7, "onTable", "()Z"⟩
abbrev cX7_canBeLaid : ByteArray := prog_9_method_6_code
def yX7_canBeLaid : MethodName := ⟨RX7, "canBeLaid", "()Z"⟩
abbrev cX7_borderWhenTurned : ByteArray := prog_9_method_7_code
def yX7_borderWhenTurned : MethodName := ⟨RX7, "borderWhenTurned", "(II)I"⟩
abbrev cX7_borderAsLaid : ByteArray := prog_9_method_8_code
def yX7_borderAsLaid : MethodName := ⟨RX7, "borderAsLaid", "(I)I"⟩
def RX8 : String := "MapHall$Stacks"
def TX8 : u_T := fun k => match k with
  | _ => ("MapHall$Stacks", "places", "[I", true)
def tyX8 : Nat → FieldType := fun k => match k with
  | _ => .array .int
abbrev wsX80 : List Cond := u_ws RX8 TX8 1
theorem nmX8 : ∀ a, a < 1 → ∀ b, b < 1 → a ≠ b → (TX8 a).2.1 ≠ (TX8 b).2.1 := by decide +kernel
theorem tyX8_ok : ∀ k, k < 1 → parseFieldDescriptor (TX8 k).2.2.1 = some (tyX8 k) := by decide +kernel
abbrev cX8_init : ByteArray := prog_10_method_1_code
def yX8_init : MethodName := ⟨RX8, "<init>", "()V"⟩
abbrev cX8_countByAdding : ByteArray := prog_10_method_2_code
def yX8_countByAdding : MethodName := ⟨RX8, "countByAdding", "(LMapHall$Sheet;I)I"⟩
abbrev cX8_countByPermutations : ByteArray := prog_10_method_3_code
def yX8_countByPermutations : MethodName := ⟨RX8, "countByPermutations", "(LMapHall$Sheet;)I"⟩
abbrev cX8_countFrom : ByteArray := prog_10_method_4_code
def yX8_countFrom : MethodName := ⟨RX8, "countFrom", "(LMapHall$Sheet;[III)I"⟩
abbrev cX8_slideIn : ByteArray := prog_10_method_5_code
def yX8_slideIn : MethodName := ⟨RX8, "slideIn", "([III)V"⟩
abbrev cX8_pullOut : ByteArray := prog_10_method_6_code
def yX8_pullOut : MethodName := ⟨RX8, "pullOut", "([II)V"⟩
abbrev cX8_countPermutations : ByteArray := prog_10_method_7_code
def yX8_countPermutations : MethodName := ⟨RX8, "countPermutations", "(LMapHall$Sheet;[II)I"⟩
abbrev cX8_swap : ByteArray := prog_10_method_8_code
def yX8_swap : MethodName := ⟨RX8, "swap", "([III)V"⟩
abbrev cX8_isPossible : ByteArray := prog_10_method_9_code
def yX8_isPossible : MethodName := ⟨RX8, "isPossible", "(LMapHall$Sheet;[I)Z"⟩
abbrev cX8_isCreasePossible : ByteArray := prog_10_method_10_code
def yX8_isCreasePossible : MethodName := ⟨RX8, "isCreasePossible", "(LMapHall$Sheet;[II)Z"⟩
abbrev cX8_cross : ByteArray := prog_10_method_11_code
def yX8_cross : MethodName := ⟨RX8, "cross", "([III)Z"⟩
abbrev cX8_isBetween : ByteArray := prog_10_method_12_code
def yX8_isBetween : MethodName := ⟨RX8, "isBetween", "(III)Z"⟩
def RX9 : String := "MapHall$State"
def TX9 : u_T := fun k => match k with
  | 0 => ("MapHall$State", "sheets", "[LMapHall$Sheet;", true)
  | 1 => ("MapHall$State", "occupant", "[I", true)
  | 2 => ("MapHall$State", "sheetTotal", "I", false)
  | 3 => ("MapHall$State", "pasteLeft", "I", false)
  | 4 => ("MapHall$State", "pasteSpent", "I", false)
  | _ => ("MapHall$State", "foldTotal", "I", false)
def tyX9 : Nat → FieldType := fun k => match k with
  | 0 => .array (.object "MapHall$Sheet")
  | 1 => .array .int
  | 2 => .int
  | 3 => .int
  | 4 => .int
  | _ => .int
abbrev wsX90 : List Cond := u_ws RX9 TX9 6
theorem nmX9 : ∀ a, a < 6 → ∀ b, b < 6 → a ≠ b → (TX9 a).2.1 ≠ (TX9 b).2.1 := by decide +kernel
theorem tyX9_ok : ∀ k, k < 6 → parseFieldDescriptor (TX9 k).2.2.1 = some (tyX9 k) := by decide +kernel
abbrev cX9_init : ByteArray := prog_11_method_1_code
def yX9_init : MethodName := ⟨RX9, "<init>", "()V"⟩
abbrev cX9_copyFrom : ByteArray := prog_11_method_2_code
def yX9_copyFrom : MethodName := ⟨RX9, "copyFrom", "(LMapHall$State;)V"⟩
abbrev cX9_tryAddSheet : ByteArray := prog_11_method_3_code
def yX9_tryAddSheet : MethodName := ⟨RX9, "tryAddSheet", "(IIIIC)I"⟩
abbrev cX9_tryAddCrease : ByteArray := prog_11_method_4_code
def yX9_tryAddCrease : MethodName := ⟨RX9, "tryAddCrease", "(IC)I"⟩
abbrev cX9_tryFold : ByteArray := prog_11_method_5_code
def yX9_tryFold : MethodName := ⟨RX9, "tryFold", "(I)I"⟩
abbrev cX9_tryUnfold : ByteArray := prog_11_method_6_code
def yX9_tryUnfold : MethodName := ⟨RX9, "tryUnfold", "(I)I"⟩
abbrev cX9_tryMend : ByteArray := prog_11_method_7_code
def yX9_tryMend : MethodName := ⟨RX9, "tryMend", "(I)I"⟩
abbrev cX9_tryPut : ByteArray := prog_11_method_8_code
def yX9_tryPut : MethodName := ⟨RX9, "tryPut", "(III)I"⟩
abbrev cX9_tryTake : ByteArray := prog_11_method_9_code
def yX9_tryTake : MethodName := ⟨RX9, "tryTake", "(I)I"⟩
abbrev cX9_tryAddPaste : ByteArray := prog_11_method_10_code
def yX9_tryAddPaste : MethodName := ⟨RX9, "tryAddPaste", "(I)I"⟩
abbrev cX9_hasSheet : ByteArray := prog_11_method_11_code
def yX9_hasSheet : MethodName := ⟨RX9, "hasSheet", "(I)Z"⟩
abbrev cX9_isOccupied : ByteArray := prog_11_method_12_code
def yX9_isOccupied : MethodName := ⟨RX9, "isOccupied", "(I)Z"⟩
abbrev cX9_sheetLaidIn : ByteArray := prog_11_method_13_code
def yX9_sheetLaidIn : MethodName := ⟨RX9, "sheetLaidIn", "(I)LMapHall$Sheet;"⟩
abbrev cX9_lay : ByteArray := prog_11_method_14_code
def yX9_lay : MethodName := ⟨RX9, "lay", "(III)V"⟩
abbrev cX9_lift : ByteArray := prog_11_method_15_code
def yX9_lift : MethodName := ⟨RX9, "lift", "(I)V"⟩
abbrev cX9_isOccupiedBeside : ByteArray := prog_11_method_16_code
def yX9_isOccupiedBeside : MethodName := ⟨RX9, "isOccupiedBeside", "(II)Z"⟩
abbrev cX9_countBeside : ByteArray := prog_11_method_17_code
def yX9_countBeside : MethodName := ⟨RX9, "countBeside", "(I)I"⟩
abbrev cX9_countKindBeside : ByteArray := prog_11_method_18_code
def yX9_countKindBeside : MethodName := ⟨RX9, "countKindBeside", "(IC)I"⟩
abbrev cX9_fits : ByteArray := prog_11_method_19_code
def yX9_fits : MethodName := ⟨RX9, "fits", "(LMapHall$Sheet;II)Z"⟩
abbrev cX9_countPlaces : ByteArray := prog_11_method_20_code
def yX9_countPlaces : MethodName := ⟨RX9, "countPlaces", "(LMapHall$Sheet;)I"⟩
abbrev cX9_countEmpty : ByteArray := prog_11_method_21_code
def yX9_countEmpty : MethodName := ⟨RX9, "countEmpty", "()I"⟩
abbrev cX9_countFlat : ByteArray := prog_11_method_22_code
def yX9_countFlat : MethodName := ⟨RX9, "countFlat", "()I"⟩
abbrev cX9_countNeighbourPairs : ByteArray := prog_11_method_23_code
def yX9_countNeighbourPairs : MethodName := ⟨RX9, "countNeighbourPairs", "()I"⟩
abbrev cX9_sumOfWear : ByteArray := prog_11_method_25_code
def yX9_sumOfWear : MethodName := ⟨RX9, "sumOfWear", "()I"⟩
abbrev cX9_sheetAtRank : ByteArray := prog_11_method_26_code
def yX9_sheetAtRank : MethodName := ⟨RX9, "sheetAtRank", "(I)I"⟩
abbrev cX9_countBefore : ByteArray := prog_11_method_27_code
def yX9_countBefore : MethodName := ⟨RX9, "countBefore", "(I)I"⟩
abbrev cX9_comesBefore : ByteArray := prog_11_method_28_code
def yX9_comesBefore : MethodName := ⟨RX9, "comesBefore", "(II)Z"⟩
def RX10 : String := "MapHall"
def TX10 : u_T := fun k => match k with
  | 0 => ("MapHall", "state", "LMapHall$State;", true)
  | 1 => ("MapHall", "saved", "LMapHall$State;", true)
  | 2 => ("MapHall", "hasSaved", "Z", false)
  | 3 => ("MapHall", "history", "LMapHall$History;", true)
  | 4 => ("MapHall", "tableGroups", "LMapHall$Groups;", true)
  | 5 => ("MapHall", "stacks", "LMapHall$Stacks;", true)
  | 6 => ("MapHall", "script", "LMapHall$Script;", true)
  | 7 => ("MapHall", "output", "LMapHall$Output;", true)
  | 8 => ("MapHall", "malformedAt", "I", false)
  | _ => ("MapHall", "failedAt", "I", false)
def tyX10 : Nat → FieldType := fun k => match k with
  | 0 => .object "MapHall$State"
  | 1 => .object "MapHall$State"
  | 2 => .boolean
  | 3 => .object "MapHall$History"
  | 4 => .object "MapHall$Groups"
  | 5 => .object "MapHall$Stacks"
  | 6 => .object "MapHall$Script"
  | 7 => .object "MapHall$Output"
  | 8 => .int
  | _ => .int
abbrev wsX100 : List Cond := u_ws RX10 TX10 10
theorem nmX10 : ∀ a, a < 10 → ∀ b, b < 10 → a ≠ b → (TX10 a).2.1 ≠ (TX10 b).2.1 := by decide +kernel
theorem tyX10_ok : ∀ k, k < 10 → parseFieldDescriptor (TX10 k).2.2.1 = some (tyX10 k) := by decide +kernel
abbrev cX10_init : ByteArray := prog_1_method_1_code
def yX10_init : MethodName := ⟨RX10, "<init>", "()V"⟩
abbrev cX10_addSheet : ByteArray := prog_1_method_2_code
def yX10_addSheet : MethodName := ⟨RX10, "addSheet", "(IIIIC)I"⟩
abbrev cX10_addCrease : ByteArray := prog_1_method_3_code
def yX10_addCrease : MethodName := ⟨RX10, "addCrease", "(IC)I"⟩
abbrev cX10_fold : ByteArray := prog_1_method_4_code
def yX10_fold : MethodName := ⟨RX10, "fold", "(I)I"⟩
abbrev cX10_unfold : ByteArray := prog_1_method_5_code
def yX10_unfold : MethodName := ⟨RX10, "unfold", "(I)I"⟩
abbrev cX10_mend : ByteArray := prog_1_method_6_code
def yX10_mend : MethodName := ⟨RX10, "mend", "(I)I"⟩
abbrev cX10_put : ByteArray := prog_1_method_7_code
def yX10_put : MethodName := ⟨RX10, "put", "(III)I"⟩
abbrev cX10_take : ByteArray := prog_1_method_8_code
def yX10_take : MethodName := ⟨RX10, "take", "(I)I"⟩
abbrev cX10_addPaste : ByteArray := prog_1_method_9_code
def yX10_addPaste : MethodName := ⟨RX10, "addPaste", "(I)I"⟩
abbrev cX10_sheetCount : ByteArray := prog_1_method_10_code
def yX10_sheetCount : MethodName := ⟨RX10, "sheetCount", "()I"⟩
abbrev cX10_kind : ByteArray := prog_1_method_11_code
def yX10_kind : MethodName := ⟨RX10, "kind", "(I)C"⟩
abbrev cX10_border : ByteArray := prog_1_method_12_code
def yX10_border : MethodName := ⟨RX10, "border", "(II)I"⟩
abbrev cX10_wear : ByteArray := prog_1_method_13_code
def yX10_wear : MethodName := ⟨RX10, "wear", "(I)I"⟩
abbrev cX10_isTorn : ByteArray := prog_1_method_14_code
def yX10_isTorn : MethodName := ⟨RX10, "isTorn", "(I)Z"⟩
abbrev cX10_isFolded : ByteArray := prog_1_method_15_code
def yX10_isFolded : MethodName := ⟨RX10, "isFolded", "(I)Z"⟩
abbrev cX10_creaseCount : ByteArray := prog_1_method_16_code
def yX10_creaseCount : MethodName := ⟨RX10, "creaseCount", "(I)I"⟩
abbrev cX10_crease : ByteArray := prog_1_method_17_code
def yX10_crease : MethodName := ⟨RX10, "crease", "(II)C"⟩
abbrev cX10_cellOf : ByteArray := prog_1_method_18_code
def yX10_cellOf : MethodName := ⟨RX10, "cellOf", "(I)I"⟩
abbrev cX10_sheetIn : ByteArray := prog_1_method_19_code
def yX10_sheetIn : MethodName := ⟨RX10, "sheetIn", "(I)I"⟩
abbrev cX10_turnsIn : ByteArray := prog_1_method_20_code
def yX10_turnsIn : MethodName := ⟨RX10, "turnsIn", "(I)I"⟩
abbrev cX10_borderIn : ByteArray := prog_1_method_21_code
def yX10_borderIn : MethodName := ⟨RX10, "borderIn", "(II)I"⟩
abbrev cX10_emptyCells : ByteArray := prog_1_method_22_code
def yX10_emptyCells : MethodName := ⟨RX10, "emptyCells", "()I"⟩
abbrev cX10_paste : ByteArray := prog_1_method_23_code
def yX10_paste : MethodName := ⟨RX10, "paste", "()I"⟩
abbrev cX10_matches : ByteArray := prog_1_method_24_code
def yX10_matches : MethodName := ⟨RX10, "matches", "(III)Z"⟩
abbrev cX10_waysToPut : ByteArray := prog_1_method_25_code
def yX10_waysToPut : MethodName := ⟨RX10, "waysToPut", "(I)I"⟩
abbrev cX10_completions : ByteArray := prog_1_method_26_code
def yX10_completions : MethodName := ⟨RX10, "completions", "()I"⟩
abbrev cX10_completionsBackwards : ByteArray := prog_1_method_27_code
def yX10_completionsBackwards : MethodName := ⟨RX10, "completionsBackwards", "()I"⟩
abbrev cX10_foldings : ByteArray := prog_1_method_28_code
def yX10_foldings : MethodName := ⟨RX10, "foldings", "(I)I"⟩
abbrev cX10_foldingsByPermutations : ByteArray := prog_1_method_29_code
def yX10_foldingsByPermutations : MethodName := ⟨RX10, "foldingsByPermutations", "(I)I"⟩
abbrev cX10_canBeOnTop : ByteArray := prog_1_method_30_code
def yX10_canBeOnTop : MethodName := ⟨RX10, "canBeOnTop", "(II)Z"⟩
abbrev cX10_pointsOf : ByteArray := prog_1_method_31_code
def yX10_pointsOf : MethodName := ⟨RX10, "pointsOf", "(I)I"⟩
abbrev cX10_points : ByteArray := prog_1_method_32_code
def yX10_points : MethodName := ⟨RX10, "points", "()I"⟩
abbrev cX10_groupSize : ByteArray := prog_1_method_34_code
def yX10_groupSize : MethodName := ⟨RX10, "groupSize", "(I)I"⟩
abbrev cX10_groups : ByteArray := prog_1_method_35_code
def yX10_groups : MethodName := ⟨RX10, "groups", "()I"⟩
abbrev cX10_matchedBorders : ByteArray := prog_1_method_37_code
def yX10_matchedBorders : MethodName := ⟨RX10, "matchedBorders", "()I"⟩
abbrev cX10_sheetByWear : ByteArray := prog_1_method_38_code
def yX10_sheetByWear : MethodName := ⟨RX10, "sheetByWear", "(I)I"⟩
abbrev cX10_foldCount : ByteArray := prog_1_method_39_code
def yX10_foldCount : MethodName := ⟨RX10, "foldCount", "()I"⟩
abbrev cX10_usedPaste : ByteArray := prog_1_method_40_code
def yX10_usedPaste : MethodName := ⟨RX10, "usedPaste", "()I"⟩
abbrev cX10_meanWear : ByteArray := prog_1_method_41_code
def yX10_meanWear : MethodName := ⟨RX10, "meanWear", "()D"⟩
abbrev cX10_coveredShare : ByteArray := prog_1_method_42_code
def yX10_coveredShare : MethodName := ⟨RX10, "coveredShare", "()F"⟩
abbrev cX10_feed : ByteArray := prog_1_method_44_code
def yX10_feed : MethodName := ⟨RX10, "feed", "(C)I"⟩
abbrev cX10_runCommands : ByteArray := prog_1_method_45_code
def yX10_runCommands : MethodName := ⟨RX10, "runCommands", "()I"⟩
abbrev cX10_errorPosition : ByteArray := prog_1_method_46_code
def yX10_errorPosition : MethodName := ⟨RX10, "errorPosition", "()I"⟩
abbrev cX10_failedCommand : ByteArray := prog_1_method_47_code
def yX10_failedCommand : MethodName := ⟨RX10, "failedCommand", "()I"⟩
abbrev cX10_writeTable : ByteArray := prog_1_method_48_code
def yX10_writeTable : MethodName := ⟨RX10, "writeTable", "()I"⟩
abbrev cX10_writeSheet : ByteArray := prog_1_method_49_code
def yX10_writeSheet : MethodName := ⟨RX10, "writeSheet", "(I)I"⟩
abbrev cX10_outputChar : ByteArray := prog_1_method_50_code
def yX10_outputChar : MethodName := ⟨RX10, "outputChar", "(I)C"⟩
abbrev cX10_undoCount : ByteArray := prog_1_method_51_code
def yX10_undoCount : MethodName := ⟨RX10, "undoCount", "()I"⟩
abbrev cX10_undo : ByteArray := prog_1_method_52_code
def yX10_undo : MethodName := ⟨RX10, "undo", "()I"⟩
abbrev cX10_save : ByteArray := prog_1_method_53_code
def yX10_save : MethodName := ⟨RX10, "save", "()I"⟩
abbrev cX10_restore : ByteArray := prog_1_method_54_code
def yX10_restore : MethodName := ⟨RX10, "restore", "()I"⟩
abbrev cX10_recorded : ByteArray := prog_1_method_55_code
def yX10_recorded : MethodName := ⟨RX10, "recorded", "(I)I"⟩
abbrev cX10_throwRefusal : ByteArray := prog_1_method_56_code
def yX10_throwRefusal : MethodName := ⟨RX10, "throwRefusal", "(I)V"⟩
abbrev cX10_demandedSheet : ByteArray := prog_1_method_57_code
def yX10_demandedSheet : MethodName := ⟨RX10, "demandedSheet", "(I)LMapHall$Sheet;"⟩
abbrev cX10_demandCell : ByteArray := prog_1_method_58_code
def yX10_demandCell : MethodName := ⟨RX10, "demandCell", "(I)V"⟩
abbrev cX10_demandSide : ByteArray := prog_1_method_59_code
def yX10_demandSide : MethodName := ⟨RX10, "demandSide", "(I)V"⟩
abbrev cX10_demandOccupied : ByteArray := prog_1_method_60_code
def yX10_demandOccupied : MethodName := ⟨RX10, "demandOccupied", "(I)V"⟩
abbrev cX10_demandFewEmptyCells : ByteArray := prog_1_method_61_code
def yX10_demandFewEmptyCells : MethodName := ⟨RX10, "demandFewEmptyCells", "()V"⟩
abbrev cX10_carryOutAll : ByteArray := prog_1_method_63_code
def yX10_carryOutAll : MethodName := ⟨RX10, "carryOutAll", "()I"⟩
abbrev cX10_answerOfCommand : ByteArray := prog_1_method_64_code
def yX10_answerOfCommand : MethodName := ⟨RX10, "answerOfCommand", "(I)I"⟩
abbrev cX10_waysFrom : ByteArray := prog_1_method_65_code
def yX10_waysFrom : MethodName := ⟨RX10, "waysFrom", "(LMapHall$State;IZ)I"⟩
abbrev cX10_isCell : ByteArray := prog_1_method_66_code
def yX10_isCell : MethodName := ⟨RX10, "isCell", "(I)Z"⟩
abbrev cX10_isTurns : ByteArray := prog_1_method_67_code
def yX10_isTurns : MethodName := ⟨RX10, "isTurns", "(I)Z"⟩
abbrev cX10_isCode : ByteArray := prog_1_method_68_code
def yX10_isCode : MethodName := ⟨RX10, "isCode", "(I)Z"⟩
abbrev cX10_isKind : ByteArray := prog_1_method_69_code
def yX10_isKind : MethodName := ⟨RX10, "isKind", "(C)Z"⟩
abbrev cX10_isCrease : ByteArray := prog_1_method_70_code
def yX10_isCrease : MethodName := ⟨RX10, "isCrease", "(C)Z"⟩
abbrev cX10_neighbour : ByteArray := prog_1_method_71_code
def yX10_neighbour : MethodName := ⟨RX10, "neighbour", "(II)I"⟩
abbrev cX10_opposite : ByteArray := prog_1_method_72_code
def yX10_opposite : MethodName := ⟨RX10, "opposite", "(I)I"⟩
def RX11 : String := "MapHallModel"
def TX11 : u_T := fun k => match k with
  | _ => ("", "", "", false)
def tyX11 : Nat → FieldType := fun k => match k with
  | _ => .int
abbrev wsX110 : List Cond := u_ws RX11 TX11 0
theorem nmX11 : ∀ a, a < 0 → ∀ b, b < 0 → a ≠ b → (TX11 a).2.1 ≠ (TX11 b).2.1 := by decide +kernel
theorem tyX11_ok : ∀ k, k < 0 → parseFieldDescriptor (TX11 k).2.2.1 = some (tyX11 k) := by decide +kernel
def RJx145de : String := "java/io/Serializable"
def TJx145de : u_T := fun k => match k with
  | _ => ("", "", "", false)
def tyJx145de : Nat → FieldType := fun k => match k with
  | _ => .int
abbrev wsJx145de0 : List Cond := u_ws RJx145de TJx145de 0
theorem nmJx145de : ∀ a, a < 0 → ∀ b, b < 0 → a ≠ b → (TJx145de a).2.1 ≠ (TJx145de b).2.1 := by decide +kernel
theorem tyJx145de_ok : ∀ k, k < 0 → parseFieldDescriptor (TJx145de k).2.2.1 = some (tyJx145de k) := by decide +kernel
def RJ5 : String := "java/lang/AbstractStringBuilder"
def TJ5 : u_T := fun k => match k with
  | _ => ("", "", "", false)
def tyJ5 : Nat → FieldType := fun k => match k with
  | _ => .int
abbrev wsJ50 : List Cond := u_ws RJ5 TJ5 0
theorem nmJ5 : ∀ a, a < 0 → ∀ b, b < 0 → a ≠ b → (TJ5 a).2.1 ≠ (TJ5 b).2.1 := by decide +kernel
theorem tyJ5_ok : ∀ k, k < 0 → parseFieldDescriptor (TJ5 k).2.2.1 = some (tyJ5 k) := by decide +kernel
abbrev cJ5_init_d00df : ByteArray := prog_15_method_2_code
def yJ5_init_d00df : MethodName := ⟨RJ5, "<init>", "(I)V"⟩
abbrev cJ5_length_8abf5 : ByteArray := prog_15_method_6_code
def yJ5_length_8abf5 : MethodName := ⟨RJ5, "length", "()I"⟩
abbrev cJ5_ensureCapacityInternal_d00df : ByteArray := prog_15_method_9_code
def yJ5_ensureCapacityInternal_d00df : MethodName := ⟨RJ5, "ensureCapacityInternal", "(I)V"⟩
abbrev cJ5_newCapacity_0f7a4 : ByteArray := prog_15_method_10_code
def yJ5_newCapacity_0f7a4 : MethodName := ⟨RJ5, "newCapacity", "(I)I"⟩
abbrev cJ5_inflate_da8c8 : ByteArray := prog_15_method_11_code
def yJ5_inflate_da8c8 : MethodName := ⟨RJ5, "inflate", "()V"⟩
abbrev cJ5_append_cf1ce : ByteArray := prog_15_method_22_code
def yJ5_append_cf1ce : MethodName := ⟨RJ5, "append", "(Ljava/lang/String;)Ljava/lang/AbstractStringBuilder;"⟩
abbrev cJ5_appendNull_278bc : ByteArray := prog_15_method_26_code
def yJ5_appendNull_278bc : MethodName := ⟨RJ5, "appendNull", "()Ljava/lang/AbstractStringBuilder;"⟩
abbrev cJ5_append_c97b9 : ByteArray := prog_15_method_32_code
def yJ5_append_c97b9 : MethodName := ⟨RJ5, "append", "(I)Ljava/lang/AbstractStringBuilder;"⟩
abbrev cJ5_getValue_6d5f1 : ByteArray := prog_15_method_64_code
def yJ5_getValue_6d5f1 : MethodName := ⟨RJ5, "getValue", "()[B"⟩
abbrev cJ5_isLatin1_aae02 : ByteArray := prog_15_method_68_code
def yJ5_isLatin1_aae02 : MethodName := ⟨RJ5, "isLatin1", "()Z"⟩
abbrev cJ5_inflateIfNeededFor_a7421 : ByteArray := prog_15_method_71_code
def yJ5_inflateIfNeededFor_a7421 : MethodName := ⟨RJ5, "inflateIfNeededFor", "(Ljava/lang/String;)V"⟩
abbrev cJ5_putStringAt_47b60 : ByteArray := prog_15_method_73_code
def yJ5_putStringAt_47b60 : MethodName := ⟨RJ5, "putStringAt", "(ILjava/lang/String;)V"⟩
def RJx2cfe8 : String := "java/lang/Appendable"
def TJx2cfe8 : u_T := fun k => match k with
  | _ => ("", "", "", false)
def tyJx2cfe8 : Nat → FieldType := fun k => match k with
  | _ => .int
abbrev wsJx2cfe80 : List Cond := u_ws RJx2cfe8 TJx2cfe8 0
theorem nmJx2cfe8 : ∀ a, a < 0 → ∀ b, b < 0 → a ≠ b → (TJx2cfe8 a).2.1 ≠ (TJx2cfe8 b).2.1 := by decide +kernel
theorem tyJx2cfe8_ok : ∀ k, k < 0 → parseFieldDescriptor (TJx2cfe8 k).2.2.1 = some (tyJx2cfe8 k) := by decide +kernel
def RJx00060 : String := "java/lang/ArrayIndexOutOfBoundsException"
def TJx00060 : u_T := fun k => match k with
  | 0 => ("java/lang/Throwable", "backtrace", "Ljava/lang/Object;", false)
  | 1 => ("java/lang/Throwable", "detailMessage", "Ljava/lang/String;", false)
  | 2 => ("java/lang/Throwable", "cause", "Ljava/lang/Throwable;", false)
  | 3 => ("java/lang/Throwable", "stackTrace", "[Ljava/lang/StackTraceElement;", false)
  | 4 => ("java/lang/Throwable", "depth", "I", false)
  | _ => ("java/lang/Throwable", "suppressedExceptions", "Ljava/util/List;", false)
def tyJx00060 : Nat → FieldType := fun k => match k with
  | 0 => .object "java/lang/Object"
  | 1 => .object "java/lang/String"
  | 2 => .object "java/lang/Throwable"
  | 3 => .array (.object "java/lang/StackTraceElement")
  | 4 => .int
  | _ => .object "java/util/List"
abbrev wsJx000600 : List Cond := u_ws RJx00060 TJx00060 6
theorem nmJx00060 : ∀ a, a < 6 → ∀ b, b < 6 → a ≠ b → (TJx00060 a).2.1 ≠ (TJx00060 b).2.1 := by decide +kernel
theorem tyJx00060_ok : ∀ k, k < 6 → parseFieldDescriptor (TJx00060 k).2.2.1 = some (tyJx00060 k) := by decide +kernel
abbrev cJx00060_init_a7421 : ByteArray := prog_18_method_2_code
def yJx00060_init_a7421 : MethodName := ⟨RJx00060, "<init>", "(Ljava/lang/String;)V"⟩
def RJx9f9b0 : String := "java/lang/CharSequence"
def TJx9f9b0 : u_T := fun k => match k with
  | _ => ("", "", "", false)
def tyJx9f9b0 : Nat → FieldType := fun k => match k with
  | _ => .int
abbrev wsJx9f9b00 : List Cond := u_ws RJx9f9b0 TJx9f9b0 0
theorem nmJx9f9b0 : ∀ a, a < 0 → ∀ b, b < 0 → a ≠ b → (TJx9f9b0 a).2.1 ≠ (TJx9f9b0 b).2.1 := by decide +kernel
theorem tyJx9f9b0_ok : ∀ k, k < 0 → parseFieldDescriptor (TJx9f9b0 k).2.2.1 = some (tyJx9f9b0 k) := by decide +kernel
def RJx8e188 : String := "java/lang/Cloneable"
def TJx8e188 : u_T := fun k => match k with
  | _ => ("", "", "", false)
def tyJx8e188 : Nat → FieldType := fun k => match k with
  | _ => .int
abbrev wsJx8e1880 : List Cond := u_ws RJx8e188 TJx8e188 0
theorem nmJx8e188 : ∀ a, a < 0 → ∀ b, b < 0 → a ≠ b → (TJx8e188 a).2.1 ≠ (TJx8e188 b).2.1 := by decide +kernel
theorem tyJx8e188_ok : ∀ k, k < 0 → parseFieldDescriptor (TJx8e188 k).2.2.1 = some (tyJx8e188 k) := by decide +kernel
def RJxb160c : String := "java/lang/Comparable"
def TJxb160c : u_T := fun k => match k with
  | _ => ("", "", "", false)
def tyJxb160c : Nat → FieldType := fun k => match k with
  | _ => .int
abbrev wsJxb160c0 : List Cond := u_ws RJxb160c TJxb160c 0
theorem nmJxb160c : ∀ a, a < 0 → ∀ b, b < 0 → a ≠ b → (TJxb160c a).2.1 ≠ (TJxb160c b).2.1 := by decide +kernel
theorem tyJxb160c_ok : ∀ k, k < 0 → parseFieldDescriptor (TJxb160c k).2.2.1 = some (tyJxb160c k) := by decide +kernel
def RJxe99ae : String := "java/lang/Double"
def TJxe99ae : u_T := fun k => match k with
  | _ => ("", "", "", false)
def tyJxe99ae : Nat → FieldType := fun k => match k with
  | _ => .int
abbrev wsJxe99ae0 : List Cond := u_ws RJxe99ae TJxe99ae 0
theorem nmJxe99ae : ∀ a, a < 0 → ∀ b, b < 0 → a ≠ b → (TJxe99ae a).2.1 ≠ (TJxe99ae b).2.1 := by decide +kernel
theorem tyJxe99ae_ok : ∀ k, k < 0 → parseFieldDescriptor (TJxe99ae k).2.2.1 = some (tyJxe99ae k) := by decide +kernel
abbrev cJxe99ae_isNaN_b9ae7 : ByteArray := prog_22_method_6_code
def yJxe99ae_isNaN_b9ae7 : MethodName := ⟨RJxe99ae, "isNaN", "(D)Z"⟩
abbrev cJxe99ae_doubleToLongBits_ccdee : ByteArray := prog_22_method_23_code
def yJxe99ae_doubleToLongBits_ccdee : MethodName := ⟨RJxe99ae, "doubleToLongBits", "(D)J"⟩
def RJx29ce0 : String := "java/lang/Enum"
def TJx29ce0 : u_T := fun k => match k with
  | _ => ("", "", "", false)
def tyJx29ce0 : Nat → FieldType := fun k => match k with
  | _ => .int
abbrev wsJx29ce00 : List Cond := u_ws RJx29ce0 TJx29ce0 0
theorem nmJx29ce0 : ∀ a, a < 0 → ∀ b, b < 0 → a ≠ b → (TJx29ce0 a).2.1 ≠ (TJx29ce0 b).2.1 := by decide +kernel
theorem tyJx29ce0_ok : ∀ k, k < 0 → parseFieldDescriptor (TJx29ce0 k).2.2.1 = some (tyJx29ce0 k) := by decide +kernel
abbrev cJx29ce0_ordinal_8abf5 : ByteArray := prog_23_method_2_code
def yJx29ce0_ordinal_8abf5 : MethodName := ⟨RJx29ce0, "ordinal", "()I"⟩
def RJxf58ca : String := "java/lang/Float"
def TJxf58ca : u_T := fun k => match k with
  | _ => ("", "", "", false)
def tyJxf58ca : Nat → FieldType := fun k => match k with
  | _ => .int
abbrev wsJxf58ca0 : List Cond := u_ws RJxf58ca TJxf58ca 0
theorem nmJxf58ca : ∀ a, a < 0 → ∀ b, b < 0 → a ≠ b → (TJxf58ca a).2.1 ≠ (TJxf58ca b).2.1 := by decide +kernel
theorem tyJxf58ca_ok : ∀ k, k < 0 → parseFieldDescriptor (TJxf58ca k).2.2.1 = some (tyJxf58ca k) := by decide +kernel
abbrev cJxf58ca_isNaN_12338 : ByteArray := prog_25_method_6_code
def yJxf58ca_isNaN_12338 : MethodName := ⟨RJxf58ca, "isNaN", "(F)Z"⟩
abbrev cJxf58ca_floatToIntBits_5c35a : ByteArray := prog_25_method_24_code
def yJxf58ca_floatToIntBits_5c35a : MethodName := ⟨RJxf58ca, "floatToIntBits", "(F)I"⟩
def RJ6 : String := "java/lang/Integer"
def TJ6 : u_T := fun k => match k with
  | _ => ("", "", "", false)
def tyJ6 : Nat → FieldType := fun k => match k with
  | _ => .int
abbrev wsJ60 : List Cond := u_ws RJ6 TJ6 0
theorem nmJ6 : ∀ a, a < 0 → ∀ b, b < 0 → a ≠ b → (TJ6 a).2.1 ≠ (TJ6 b).2.1 := by decide +kernel
theorem tyJ6_ok : ∀ k, k < 0 → parseFieldDescriptor (TJ6 k).2.2.1 = some (tyJ6 k) := by decide +kernel
abbrev cJ6_getChars_ba4f3 : ByteArray := prog_29_method_12_code
def yJ6_getChars_ba4f3 : MethodName := ⟨RJ6, "getChars", "(II[B)I"⟩
abbrev cJ6_stringSize_0f7a4 : ByteArray := prog_29_method_13_code
def yJ6_stringSize_0f7a4 : MethodName := ⟨RJ6, "stringSize", "(I)I"⟩
abbrev cJ6_bitCount_0f7a4 : ByteArray := prog_29_method_49_code
def yJ6_bitCount_0f7a4 : MethodName := ⟨RJ6, "bitCount", "(I)I"⟩
def RJ9 : String := "java/lang/Math"
def TJ9 : u_T := fun k => match k with
  | _ => ("", "", "", false)
def tyJ9 : Nat → FieldType := fun k => match k with
  | _ => .int
abbrev wsJ90 : List Cond := u_ws RJ9 TJ9 0
theorem nmJ9 : ∀ a, a < 0 → ∀ b, b < 0 → a ≠ b → (TJ9 a).2.1 ≠ (TJ9 b).2.1 := by decide +kernel
theorem tyJ9_ok : ∀ k, k < 0 → parseFieldDescriptor (TJ9 k).2.2.1 = some (tyJ9 k) := by decide +kernel
abbrev cJ9_floorMod_7cf53 : ByteArray := prog_30_method_50_code
def yJ9_floorMod_7cf53 : MethodName := ⟨RJ9, "floorMod", "(II)I"⟩
abbrev cJ9_max_7cf53 : ByteArray := prog_30_method_65_code
def yJ9_max_7cf53 : MethodName := ⟨RJ9, "max", "(II)I"⟩
abbrev cJ9_min_7cf53 : ByteArray := prog_30_method_69_code
def yJ9_min_7cf53 : MethodName := ⟨RJ9, "min", "(II)I"⟩
def RJxd2413 : String := "java/lang/Number"
def TJxd2413 : u_T := fun k => match k with
  | _ => ("", "", "", false)
def tyJxd2413 : Nat → FieldType := fun k => match k with
  | _ => .int
abbrev wsJxd24130 : List Cond := u_ws RJxd2413 TJxd2413 0
theorem nmJxd2413 : ∀ a, a < 0 → ∀ b, b < 0 → a ≠ b → (TJxd2413 a).2.1 ≠ (TJxd2413 b).2.1 := by decide +kernel
theorem tyJxd2413_ok : ∀ k, k < 0 → parseFieldDescriptor (TJxd2413 k).2.2.1 = some (tyJxd2413 k) := by decide +kernel
def RJ0 : String := "java/lang/String"
def TJ0 : u_T := fun k => match k with
  | 0 => ("java/lang/String", "value", "[B", true)
  | 1 => ("java/lang/String", "coder", "B", true)
  | 2 => ("java/lang/String", "hash", "I", false)
  | _ => ("java/lang/String", "hashIsZero", "Z", false)
def tyJ0 : Nat → FieldType := fun k => match k with
  | 0 => .array .byte
  | 1 => .byte
  | 2 => .int
  | _ => .boolean
abbrev wsJ00 : List Cond := u_ws RJ0 TJ0 4
theorem nmJ0 : ∀ a, a < 4 → ∀ b, b < 4 → a ≠ b → (TJ0 a).2.1 ≠ (TJ0 b).2.1 := by decide +kernel
theorem tyJ0_ok : ∀ k, k < 4 → parseFieldDescriptor (TJ0 k).2.2.1 = some (tyJ0 k) := by decide +kernel
abbrev cJ0_init_81219 : ByteArray := prog_33_method_53_code
def yJ0_init_81219 : MethodName := ⟨RJ0, "<init>", "(Ljava/lang/StringBuilder;)V"⟩
abbrev cJ0_length_8abf5 : ByteArray := prog_33_method_54_code
def yJ0_length_8abf5 : MethodName := ⟨RJ0, "length", "()I"⟩
abbrev cJ0_charAt_5068e : ByteArray := prog_33_method_56_code
def yJ0_charAt_5068e : MethodName := ⟨RJ0, "charAt", "(I)C"⟩
abbrev cJ0_getBytes_840e7 : ByteArray := prog_33_method_147_code
def yJ0_getBytes_840e7 : MethodName := ⟨RJ0, "getBytes", "([BIB)V"⟩
abbrev cJ0_init_db425 : ByteArray := prog_33_method_150_code
def yJ0_init_db425 : MethodName := ⟨RJ0, "<init>", "(Ljava/lang/AbstractStringBuilder;Ljava/lang/Void;)V"⟩
abbrev cJ0_coder_7d493 : ByteArray := prog_33_method_152_code
def yJ0_coder_7d493 : MethodName := ⟨RJ0, "coder", "()B"⟩
abbrev cJ0_isLatin1_aae02 : ByteArray := prog_33_method_154_code
def yJ0_isLatin1_aae02 : MethodName := ⟨RJ0, "isLatin1", "()Z"⟩
abbrev cJ0_checkIndex_df160 : ByteArray := prog_33_method_155_code
def yJ0_checkIndex_df160 : MethodName := ⟨RJ0, "checkIndex", "(II)V"⟩
abbrev cJ0_checkBoundsOffCount_cabcc : ByteArray := prog_33_method_157_code
def yJ0_checkBoundsOffCount_cabcc : MethodName := ⟨RJ0, "checkBoundsOffCount", "(III)I"⟩
abbrev cJ0_checkBoundsBeginEnd_23922 : ByteArray := prog_33_method_158_code
def yJ0_checkBoundsBeginEnd_23922 : MethodName := ⟨RJ0, "checkBoundsBeginEnd", "(III)V"⟩
def RJ4 : String := "java/lang/StringBuilder"
def TJ4 : u_T := fun k => match k with
  | 0 => ("java/lang/AbstractStringBuilder", "value", "[B", false)
  | 1 => ("java/lang/AbstractStringBuilder", "coder", "B", false)
  | 2 => ("java/lang/AbstractStringBuilder", "maybeLatin1", "Z", false)
  | _ => ("java/lang/AbstractStringBuilder", "count", "I", false)
def tyJ4 : Nat → FieldType := fun k => match k with
  | 0 => .array .byte
  | 1 => .byte
  | 2 => .boolean
  | _ => .int
abbrev wsJ40 : List Cond := u_ws RJ4 TJ4 4
theorem nmJ4 : ∀ a, a < 4 → ∀ b, b < 4 → a ≠ b → (TJ4 a).2.1 ≠ (TJ4 b).2.1 := by decide +kernel
theorem tyJ4_ok : ∀ k, k < 4 → parseFieldDescriptor (TJ4 k).2.2.1 = some (tyJ4 k) := by decide +kernel
abbrev cJ4_init_da8c8 : ByteArray := prog_34_method_1_code
def yJ4_init_da8c8 : MethodName := ⟨RJ4, "<init>", "()V"⟩
abbrev cJ4_append_15ec4 : ByteArray := prog_34_method_7_code
def yJ4_append_15ec4 : MethodName := ⟨RJ4, "append", "(Ljava/lang/String;)Ljava/lang/StringBuilder;"⟩
abbrev cJ4_append_bf812 : ByteArray := prog_34_method_15_code
def yJ4_append_bf812 : MethodName := ⟨RJ4, "append", "(I)Ljava/lang/StringBuilder;"⟩
abbrev cJ4_toString_0e30d : ByteArray := prog_34_method_42_code
def yJ4_toString_0e30d : MethodName := ⟨RJ4, "toString", "()Ljava/lang/String;"⟩
abbrev cJ4_length_8abf5 : ByteArray := prog_34_method_93_code
def yJ4_length_8abf5 : MethodName := ⟨RJ4, "length", "()I"⟩
def RJ1 : String := "java/lang/StringLatin1"
def TJ1 : u_T := fun k => match k with
  | _ => ("", "", "", false)
def tyJ1 : Nat → FieldType := fun k => match k with
  | _ => .int
abbrev wsJ10 : List Cond := u_ws RJ1 TJ1 0
theorem nmJ1 : ∀ a, a < 0 → ∀ b, b < 0 → a ≠ b → (TJ1 a).2.1 ≠ (TJ1 b).2.1 := by decide +kernel
theorem tyJ1_ok : ∀ k, k < 0 → parseFieldDescriptor (TJ1 k).2.2.1 = some (tyJ1 k) := by decide +kernel
abbrev cJ1_charAt_3b067 : ByteArray := prog_35_method_2_code
def yJ1_charAt_3b067 : MethodName := ⟨RJ1, "charAt", "([BI)C"⟩
abbrev cJ1_inflate_0e8fd : ByteArray := prog_35_method_50_code
def yJ1_inflate_0e8fd : MethodName := ⟨RJ1, "inflate", "([BI[BII)V"⟩
def RJ2 : String := "java/lang/StringUTF16"
def TJ2 : u_T := fun k => match k with
  | _ => ("", "", "", false)
def tyJ2 : Nat → FieldType := fun k => match k with
  | _ => .int
abbrev wsJ20 : List Cond := u_ws RJ2 TJ2 0
theorem nmJ2 : ∀ a, a < 0 → ∀ b, b < 0 → a ≠ b → (TJ2 a).2.1 ≠ (TJ2 b).2.1 := by decide +kernel
theorem tyJ2_ok : ∀ k, k < 0 → parseFieldDescriptor (TJ2 k).2.2.1 = some (tyJ2 k) := by decide +kernel
abbrev cJ2_newBytesFor_77867 : ByteArray := prog_36_method_2_code
def yJ2_newBytesFor_77867 : MethodName := ⟨RJ2, "newBytesFor", "(I)[B"⟩
abbrev cJ2_newBytesLength_0f7a4 : ByteArray := prog_36_method_3_code
def yJ2_newBytesLength_0f7a4 : MethodName := ⟨RJ2, "newBytesLength", "(I)I"⟩
abbrev cJ2_putChar_b72d1 : ByteArray := prog_36_method_4_code
def yJ2_putChar_b72d1 : MethodName := ⟨RJ2, "putChar", "([BII)V"⟩
abbrev cJ2_getChar_3b067 : ByteArray := prog_36_method_5_code
def yJ2_getChar_3b067 : MethodName := ⟨RJ2, "getChar", "([BI)C"⟩
abbrev cJ2_length_9d52b : ByteArray := prog_36_method_6_code
def yJ2_length_9d52b : MethodName := ⟨RJ2, "length", "([B)I"⟩
abbrev cJ2_coderFromArrayLen_85cad : ByteArray := prog_36_method_15_code
def yJ2_coderFromArrayLen_85cad : MethodName := ⟨RJ2, "coderFromArrayLen", "([BI)B"⟩
abbrev cJ2_compress_39247 : ByteArray := prog_36_method_17_code
def yJ2_compress_39247 : MethodName := ⟨RJ2, "compress", "([BII)[B"⟩
abbrev cJ2_compress_5af95 : ByteArray := prog_36_method_22_code
def yJ2_compress_5af95 : MethodName := ⟨RJ2, "compress", "([BI[BII)I"⟩
abbrev cJ2_getChars_46870 : ByteArray := prog_36_method_77_code
def yJ2_getChars_46870 : MethodName := ⟨RJ2, "getChars", "(III[B)I"⟩
abbrev cJ2_putCharsAt_cd4e5 : ByteArray := prog_36_method_81_code
def yJ2_putCharsAt_cd4e5 : MethodName := ⟨RJ2, "putCharsAt", "([BICCCC)I"⟩
abbrev cJ2_charAt_3b067 : ByteArray := prog_36_method_83_code
def yJ2_charAt_3b067 : MethodName := ⟨RJ2, "charAt", "([BI)C"⟩
abbrev cJ2_inflate_0e8fd : ByteArray := prog_36_method_86_code
def yJ2_inflate_0e8fd : MethodName := ⟨RJ2, "inflate", "([BI[BII)V"⟩
abbrev cJ2_getChars_ba4f3 : ByteArray := prog_36_method_89_code
def yJ2_getChars_ba4f3 : MethodName := ⟨RJ2, "getChars", "(II[B)I"⟩
abbrev cJ2_checkIndex_2214a : ByteArray := prog_36_method_91_code
def yJ2_checkIndex_2214a : MethodName := ⟨RJ2, "checkIndex", "(I[B)V"⟩
abbrev cJ2_checkBoundsBeginEnd_d044e : ByteArray := prog_36_method_93_code
def yJ2_checkBoundsBeginEnd_d044e : MethodName := ⟨RJ2, "checkBoundsBeginEnd", "(II[B)V"⟩
abbrev cJ2_checkBoundsOffCount_d044e : ByteArray := prog_36_method_94_code
def yJ2_checkBoundsOffCount_d044e : MethodName := ⟨RJ2, "checkBoundsOffCount", "(II[B)V"⟩
def RJ10 : String := "java/lang/System"
def TJ10 : u_T := fun k => match k with
  | _ => ("", "", "", false)
def tyJ10 : Nat → FieldType := fun k => match k with
  | _ => .int
abbrev wsJ100 : List Cond := u_ws RJ10 TJ10 0
theorem nmJ10 : ∀ a, a < 0 → ∀ b, b < 0 → a ≠ b → (TJ10 a).2.1 ≠ (TJ10 b).2.1 := by decide +kernel
theorem tyJ10_ok : ∀ k, k < 0 → parseFieldDescriptor (TJ10 k).2.2.1 = some (tyJ10 k) := by decide +kernel
def RJxfd54e : String := "java/lang/constant/Constable"
def TJxfd54e : u_T := fun k => match k with
  | _ => ("", "", "", false)
def tyJxfd54e : Nat → FieldType := fun k => match k with
  | _ => .int
abbrev wsJxfd54e0 : List Cond := u_ws RJxfd54e TJxfd54e 0
theorem nmJxfd54e : ∀ a, a < 0 → ∀ b, b < 0 → a ≠ b → (TJxfd54e a).2.1 ≠ (TJxfd54e b).2.1 := by decide +kernel
theorem tyJxfd54e_ok : ∀ k, k < 0 → parseFieldDescriptor (TJxfd54e k).2.2.1 = some (tyJxfd54e k) := by decide +kernel
def RJx3cf43 : String := "java/lang/constant/ConstantDesc"
def TJx3cf43 : u_T := fun k => match k with
  | _ => ("", "", "", false)
def tyJx3cf43 : Nat → FieldType := fun k => match k with
  | _ => .int
abbrev wsJx3cf430 : List Cond := u_ws RJx3cf43 TJx3cf43 0
theorem nmJx3cf43 : ∀ a, a < 0 → ∀ b, b < 0 → a ≠ b → (TJx3cf43 a).2.1 ≠ (TJx3cf43 b).2.1 := by decide +kernel
theorem tyJx3cf43_ok : ∀ k, k < 0 → parseFieldDescriptor (TJx3cf43 k).2.2.1 = some (tyJx3cf43 k) := by decide +kernel
def RJ7 : String := "java/util/Arrays"
def TJ7 : u_T := fun k => match k with
  | _ => ("", "", "", false)
def tyJ7 : Nat → FieldType := fun k => match k with
  | _ => .int
abbrev wsJ70 : List Cond := u_ws RJ7 TJ7 0
theorem nmJ7 : ∀ a, a < 0 → ∀ b, b < 0 → a ≠ b → (TJ7 a).2.1 ≠ (TJ7 b).2.1 := by decide +kernel
theorem tyJ7_ok : ∀ k, k < 0 → parseFieldDescriptor (TJ7 k).2.2.1 = some (tyJ7 k) := by decide +kernel
abbrev cJ7_copyOf_9075b : ByteArray := prog_42_method_121_code
def yJ7_copyOf_9075b : MethodName := ⟨RJ7, "copyOf", "([BI)[B"⟩
abbrev cJ7_checkLength_df160 : ByteArray := prog_42_method_131_code
def yJ7_checkLength_df160 : MethodName := ⟨RJ7, "checkLength", "(II)V"⟩
abbrev cJ7_copyOfRange_39247 : ByteArray := prog_42_method_132_code
def yJ7_copyOfRange_39247 : MethodName := ⟨RJ7, "copyOfRange", "([BII)[B"⟩
abbrev cJ7_copyOfRangeByte_39247 : ByteArray := prog_42_method_133_code
def yJ7_copyOfRangeByte_39247 : MethodName := ⟨RJ7, "copyOfRangeByte", "([BII)[B"⟩
def RJ8 : String := "jdk/internal/util/ArraysSupport"
def TJ8 : u_T := fun k => match k with
  | _ => ("", "", "", false)
def tyJ8 : Nat → FieldType := fun k => match k with
  | _ => .int
abbrev wsJ80 : List Cond := u_ws RJ8 TJ8 0
theorem nmJ8 : ∀ a, a < 0 → ∀ b, b < 0 → a ≠ b → (TJ8 a).2.1 ≠ (TJ8 b).2.1 := by decide +kernel
theorem tyJ8_ok : ∀ k, k < 0 → parseFieldDescriptor (TJ8 k).2.2.1 = some (tyJ8 k) := by decide +kernel
abbrev cJ8_newLength_cabcc : ByteArray := prog_44_method_27_code
def yJ8_newLength_cabcc : MethodName := ⟨RJ8, "newLength", "(III)I"⟩
abbrev cJ8_hugeLength_7cf53 : ByteArray := prog_44_method_28_code
def yJ8_hugeLength_7cf53 : MethodName := ⟨RJ8, "hugeLength", "(II)I"⟩
def RJ3 : String := "jdk/internal/util/Preconditions"
def TJ3 : u_T := fun k => match k with
  | _ => ("", "", "", false)
def tyJ3 : Nat → FieldType := fun k => match k with
  | _ => .int
abbrev wsJ30 : List Cond := u_ws RJ3 TJ3 0
theorem nmJ3 : ∀ a, a < 0 → ∀ b, b < 0 → a ≠ b → (TJ3 a).2.1 ≠ (TJ3 b).2.1 := by decide +kernel
theorem tyJ3_ok : ∀ k, k < 0 → parseFieldDescriptor (TJ3 k).2.2.1 = some (tyJ3 k) := by decide +kernel
abbrev cJ3_checkIndex_8e157 : ByteArray := prog_45_method_11_code
def yJ3_checkIndex_8e157 : MethodName := ⟨RJ3, "checkIndex", "(IILjava/util/function/BiFunction;)I"⟩
abbrev cJ3_checkFromToIndex_8c36e : ByteArray := prog_45_method_12_code
def yJ3_checkFromToIndex_8c36e : MethodName := ⟨RJ3, "checkFromToIndex", "(IIILjava/util/function/BiFunction;)I"⟩
abbrev cJ3_checkFromIndexSize_8c36e : ByteArray := prog_45_method_13_code
def yJ3_checkFromIndexSize_8c36e : MethodName := ⟨RJ3, "checkFromIndexSize", "(IIILjava/util/function/BiFunction;)I"⟩
def RL : String := "MapHallLaw"
abbrev cL_at : ByteArray := method_2_code
def yL_at : MethodName := ⟨RL, "at", "([II)I"⟩
abbrev cL_some : ByteArray := method_3_code
def yL_some : MethodName := ⟨RL, "some", "(II)I"⟩
abbrev cL_addSheet : ByteArray := method_4_code
def yL_addSheet : MethodName := ⟨RL, "addSheet", "(LMapHall;IIIIC)I"⟩
abbrev cL_addCrease : ByteArray := method_5_code
def yL_addCrease : MethodName := ⟨RL, "addCrease", "(LMapHall;IC)I"⟩
abbrev cL_fold : ByteArray := method_6_code
def yL_fold : MethodName := ⟨RL, "fold", "(LMapHall;I)I"⟩
abbrev cL_unfold : ByteArray := method_7_code
def yL_unfold : MethodName := ⟨RL, "unfold", "(LMapHall;I)I"⟩
abbrev cL_mend : ByteArray := method_8_code
def yL_mend : MethodName := ⟨RL, "mend", "(LMapHall;I)I"⟩
abbrev cL_put : ByteArray := method_9_code
def yL_put : MethodName := ⟨RL, "put", "(LMapHall;III)I"⟩
abbrev cL_take : ByteArray := method_10_code
def yL_take : MethodName := ⟨RL, "take", "(LMapHall;I)I"⟩
abbrev cL_addPaste : ByteArray := method_11_code
def yL_addPaste : MethodName := ⟨RL, "addPaste", "(LMapHall;I)I"⟩
abbrev cL_kind : ByteArray := method_12_code
def yL_kind : MethodName := ⟨RL, "kind", "(LMapHall;I)I"⟩
abbrev cL_border : ByteArray := method_13_code
def yL_border : MethodName := ⟨RL, "border", "(LMapHall;II)I"⟩
abbrev cL_wear : ByteArray := method_14_code
def yL_wear : MethodName := ⟨RL, "wear", "(LMapHall;I)I"⟩
abbrev cL_isTorn : ByteArray := method_15_code
def yL_isTorn : MethodName := ⟨RL, "isTorn", "(LMapHall;I)I"⟩
abbrev cL_isFolded : ByteArray := method_16_code
def yL_isFolded : MethodName := ⟨RL, "isFolded", "(LMapHall;I)I"⟩
abbrev cL_creaseCount : ByteArray := method_17_code
def yL_creaseCount : MethodName := ⟨RL, "creaseCount", "(LMapHall;I)I"⟩
abbrev cL_crease : ByteArray := method_18_code
def yL_crease : MethodName := ⟨RL, "crease", "(LMapHall;II)I"⟩
abbrev cL_cellOf : ByteArray := method_19_code
def yL_cellOf : MethodName := ⟨RL, "cellOf", "(LMapHall;I)I"⟩
abbrev cL_sheetIn : ByteArray := method_20_code
def yL_sheetIn : MethodName := ⟨RL, "sheetIn", "(LMapHall;I)I"⟩
abbrev cL_turnsIn : ByteArray := method_21_code
def yL_turnsIn : MethodName := ⟨RL, "turnsIn", "(LMapHall;I)I"⟩
abbrev cL_borderIn : ByteArray := method_22_code
def yL_borderIn : MethodName := ⟨RL, "borderIn", "(LMapHall;II)I"⟩
abbrev cL_matches : ByteArray := method_23_code
def yL_matches : MethodName := ⟨RL, "matches", "(LMapHall;III)I"⟩
abbrev cL_waysToPut : ByteArray := method_24_code
def yL_waysToPut : MethodName := ⟨RL, "waysToPut", "(LMapHall;I)I"⟩
abbrev cL_completions : ByteArray := method_25_code
def yL_completions : MethodName := ⟨RL, "completions", "(LMapHall;)I"⟩
abbrev cL_backwards : ByteArray := method_26_code
def yL_backwards : MethodName := ⟨RL, "backwards", "(LMapHall;)I"⟩
abbrev cL_foldings : ByteArray := method_27_code
def yL_foldings : MethodName := ⟨RL, "foldings", "(LMapHall;I)I"⟩
abbrev cL_byPermutations : ByteArray := method_28_code
def yL_byPermutations : MethodName := ⟨RL, "byPermutations", "(LMapHall;I)I"⟩
abbrev cL_onTop : ByteArray := method_29_code
def yL_onTop : MethodName := ⟨RL, "onTop", "(LMapHall;II)I"⟩
abbrev cL_pointsOf : ByteArray := method_30_code
def yL_pointsOf : MethodName := ⟨RL, "pointsOf", "(LMapHall;I)I"⟩
abbrev cL_groupSize : ByteArray := method_31_code
def yL_groupSize : MethodName := ⟨RL, "groupSize", "(LMapHall;I)I"⟩
abbrev cL_byWear : ByteArray := method_32_code
def yL_byWear : MethodName := ⟨RL, "byWear", "(LMapHall;I)I"⟩
abbrev cL_meanWear : ByteArray := method_33_code
def yL_meanWear : MethodName := ⟨RL, "meanWear", "(LMapHall;)D"⟩
abbrev cL_feed : ByteArray := method_34_code
def yL_feed : MethodName := ⟨RL, "feed", "(LMapHall;C)I"⟩
abbrev cL_run : ByteArray := method_35_code
def yL_run : MethodName := ⟨RL, "run", "(LMapHall;)I"⟩
abbrev cL_errorPosition : ByteArray := method_36_code
def yL_errorPosition : MethodName := ⟨RL, "errorPosition", "(LMapHall;)I"⟩
abbrev cL_failedCommand : ByteArray := method_37_code
def yL_failedCommand : MethodName := ⟨RL, "failedCommand", "(LMapHall;)I"⟩
abbrev cL_writeSheet : ByteArray := method_38_code
def yL_writeSheet : MethodName := ⟨RL, "writeSheet", "(LMapHall;I)I"⟩
abbrev cL_outputChar : ByteArray := method_39_code
def yL_outputChar : MethodName := ⟨RL, "outputChar", "(LMapHall;I)I"⟩
abbrev cL_undo : ByteArray := method_40_code
def yL_undo : MethodName := ⟨RL, "undo", "(LMapHall;)I"⟩
abbrev cL_restore : ByteArray := method_41_code
def yL_restore : MethodName := ⟨RL, "restore", "(LMapHall;)I"⟩
abbrev cL_runs : ByteArray := method_42_code
def yL_runs : MethodName := ⟨RL, "runs", "(LMapHall;Ljava/lang/String;)I"⟩
abbrev cL_makes : ByteArray := method_44_code
def yL_makes : MethodName := ⟨RL, "makes", "(LMapHall;[I)Z"⟩
abbrev cL_asks : ByteArray := method_45_code
def yL_asks : MethodName := ⟨RL, "asks", "(LMapHall;)J"⟩
abbrev cL_changes : ByteArray := method_46_code
def yL_changes : MethodName := ⟨RL, "changes", "(LMapHall;I)Z"⟩
abbrev cL_thrown : ByteArray := method_47_code
def yL_thrown : MethodName := ⟨RL, "thrown", "(LMapHall;)Z"⟩
abbrev cL_law : ByteArray := code
def yL_law : MethodName := ⟨RL, "law", "([I)Z"⟩
abbrev vwCl : List vw_C := [(RJ0, TJ0, 4), (RJ4, TJ4, 4), (RJx00060, TJx00060, 6), (RX2, TX2, 1), (RX3, TX3, 3), (RX4, TX4, 2), (RX6, TX6, 5), (RX7, TX7, 8), (RX8, TX8, 1), (RX9, TX9, 6), (RX10, TX10, 10)]
end
section
theorem dX1_size_0 : decode cX1_size 0 = .ok (.aload_n 0, 1) := by decide +kernel
theorem dX1_size_1 : decode cX1_size 1 = .ok (.getfield 52, 3) := by decide +kernel
theorem dX1_size_4 : decode cX1_size 4 = .ok (.invokevirtual 56, 3) := by decide +kernel
theorem dX1_size_7 : decode cX1_size 7 = .ok (.ireturn, 1) := by decide +kernel
theorem dX1_accepts_0 : decode cX1_accepts 0 = .ok (.iload_n 2, 1) := by decide +kernel
theorem dX1_accepts_1 : decode cX1_accepts 1 = .ok (.ifCond .lt 14, 3) := by decide +kernel
theorem dX1_accepts_4 : decode cX1_accepts 4 = .ok (.iload_n 2, 1) := by decide +kernel
theorem dX1_accepts_5 : decode cX1_accepts 5 = .ok (.aload_n 0, 1) := by decide +kernel
theorem dX1_accepts_6 : decode cX1_accepts 6 = .ok (.getfield 52, 3) := by decide +kernel
theorem dX1_accepts_9 : decode cX1_accepts 9 = .ok (.invokevirtual 56, 3) := by decide +kernel
theorem dX1_accepts_12 : decode cX1_accepts 12 = .ok (.if_icmp .lt 5, 3) := by decide +kernel
theorem dX1_accepts_15 : decode cX1_accepts 15 = .ok (.iconst 0, 1) := by decide +kernel
theorem dX1_accepts_16 : decode cX1_accepts 16 = .ok (.ireturn, 1) := by decide +kernel
theorem dX1_accepts_17 : decode cX1_accepts 17 = .ok (.aload_n 0, 1) := by decide +kernel
theorem dX1_accepts_18 : decode cX1_accepts 18 = .ok (.getfield 52, 3) := by decide +kernel
theorem dX1_accepts_21 : decode cX1_accepts 21 = .ok (.iload_n 2, 1) := by decide +kernel
theorem dX1_accepts_22 : decode cX1_accepts 22 = .ok (.invokevirtual 62, 3) := by decide +kernel
theorem dX1_accepts_25 : decode cX1_accepts 25 = .ok (.istore_n 3, 1) := by decide +kernel
theorem dX1_accepts_26 : decode cX1_accepts 26 = .ok (.iload_n 3, 1) := by decide +kernel
theorem dX1_accepts_27 : decode cX1_accepts 27 = .ok (.bipush 78, 2) := by decide +kernel
theorem dX1_accepts_29 : decode cX1_accepts 29 = .ok (.if_icmp .ne 21, 3) := by decide +kernel
theorem dX1_accepts_32 : decode cX1_accepts 32 = .ok (.iload_n 1, 1) := by decide +kernel
theorem dX1_accepts_33 : decode cX1_accepts 33 = .ok (.bipush 48, 2) := by decide +kernel
theorem dX1_accepts_35 : decode cX1_accepts 35 = .ok (.if_icmp .lt 13, 3) := by decide +kernel
theorem dX1_accepts_38 : decode cX1_accepts 38 = .ok (.iload_n 1, 1) := by decide +kernel
theorem dX1_accepts_39 : decode cX1_accepts 39 = .ok (.bipush 57, 2) := by decide +kernel
theorem dX1_accepts_41 : decode cX1_accepts 41 = .ok (.if_icmp .gt 7, 3) := by decide +kernel
theorem dX1_accepts_44 : decode cX1_accepts 44 = .ok (.iconst 1, 1) := by decide +kernel
theorem dX1_accepts_45 : decode cX1_accepts 45 = .ok (.goto 4, 3) := by decide +kernel
theorem dX1_accepts_48 : decode cX1_accepts 48 = .ok (.iconst 0, 1) := by decide +kernel
theorem dX1_accepts_49 : decode cX1_accepts 49 = .ok (.ireturn, 1) := by decide +kernel
theorem dX1_accepts_50 : decode cX1_accepts 50 = .ok (.iload_n 3, 1) := by decide +kernel
theorem dX1_accepts_51 : decode cX1_accepts 51 = .ok (.bipush 75, 2) := by decide +kernel
theorem dX1_accepts_53 : decode cX1_accepts 53 = .ok (.if_icmp .ne 8, 3) := by decide +kernel
theorem dX1_accepts_56 : decode cX1_accepts 56 = .ok (.iload_n 1, 1) := by decide +kernel
theorem dX1_accepts_57 : decode cX1_accepts 57 = .ok (.invokestatic 66, 3) := by decide +kernel
theorem dX1_accepts_60 : decode cX1_accepts 60 = .ok (.ireturn, 1) := by decide +kernel
theorem dX1_accepts_61 : decode cX1_accepts 61 = .ok (.iload_n 3, 1) := by decide +kernel
theorem dX1_accepts_62 : decode cX1_accepts 62 = .ok (.bipush 67, 2) := by decide +kernel
theorem dX1_accepts_64 : decode cX1_accepts 64 = .ok (.if_icmp .ne 8, 3) := by decide +kernel
theorem dX1_accepts_67 : decode cX1_accepts 67 = .ok (.iload_n 1, 1) := by decide +kernel
theorem dX1_accepts_68 : decode cX1_accepts 68 = .ok (.invokestatic 70, 3) := by decide +kernel
theorem dX1_accepts_71 : decode cX1_accepts 71 = .ok (.ireturn, 1) := by decide +kernel
theorem dX1_accepts_72 : decode cX1_accepts 72 = .ok (.iload_n 1, 1) := by decide +kernel
theorem dX1_accepts_73 : decode cX1_accepts 73 = .ok (.iload_n 3, 1) := by decide +kernel
theorem dX1_accepts_74 : decode cX1_accepts 74 = .ok (.if_icmp .ne 7, 3) := by decide +kernel
theorem dX1_accepts_77 : decode cX1_accepts 77 = .ok (.iconst 1, 1) := by decide +kernel
theorem dX1_accepts_78 : decode cX1_accepts 78 = .ok (.goto 4, 3) := by decide +kernel
theorem dX1_accepts_81 : decode cX1_accepts 81 = .ok (.iconst 0, 1) := by decide +kernel
theorem dX1_accepts_82 : decode cX1_accepts 82 = .ok (.ireturn, 1) := by decide +kernel
theorem dX1_placeOfValue_0 : decode cX1_placeOfValue 0 = .ok (.iconst 0, 1) := by decide +kernel
theorem dX1_placeOfValue_1 : decode cX1_placeOfValue 1 = .ok (.istore_n 2, 1) := by decide +kernel
theorem dX1_placeOfValue_2 : decode cX1_placeOfValue 2 = .ok (.iconst 0, 1) := by decide +kernel
theorem dX1_placeOfValue_3 : decode cX1_placeOfValue 3 = .ok (.istore_n 3, 1) := by decide +kernel
theorem dX1_placeOfValue_4 : decode cX1_placeOfValue 4 = .ok (.iload_n 3, 1) := by decide +kernel
theorem dX1_placeOfValue_5 : decode cX1_placeOfValue 5 = .ok (.aload_n 0, 1) := by decide +kernel
theorem dX1_placeOfValue_6 : decode cX1_placeOfValue 6 = .ok (.getfield 52, 3) := by decide +kernel
theorem dX1_placeOfValue_9 : decode cX1_placeOfValue 9 = .ok (.invokevirtual 56, 3) := by decide +kernel
theorem dX1_placeOfValue_12 : decode cX1_placeOfValue 12 = .ok (.if_icmp .ge 33, 3) := by decide +kernel
theorem dX1_placeOfValue_15 : decode cX1_placeOfValue 15 = .ok (.aload_n 0, 1) := by decide +kernel
theorem dX1_placeOfValue_16 : decode cX1_placeOfValue 16 = .ok (.getfield 52, 3) := by decide +kernel
theorem dX1_placeOfValue_19 : decode cX1_placeOfValue 19 = .ok (.iload_n 3, 1) := by decide +kernel
theorem dX1_placeOfValue_20 : decode cX1_placeOfValue 20 = .ok (.invokevirtual 62, 3) := by decide +kernel
theorem dX1_placeOfValue_23 : decode cX1_placeOfValue 23 = .ok (.invokestatic 73, 3) := by decide +kernel
theorem dX1_placeOfValue_26 : decode cX1_placeOfValue 26 = .ok (.ifCond .eq 13, 3) := by decide +kernel
theorem dX1_placeOfValue_29 : decode cX1_placeOfValue 29 = .ok (.iload_n 2, 1) := by decide +kernel
theorem dX1_placeOfValue_30 : decode cX1_placeOfValue 30 = .ok (.iload_n 1, 1) := by decide +kernel
theorem dX1_placeOfValue_31 : decode cX1_placeOfValue 31 = .ok (.if_icmp .ne 5, 3) := by decide +kernel
theorem dX1_placeOfValue_34 : decode cX1_placeOfValue 34 = .ok (.iload_n 3, 1) := by decide +kernel
theorem dX1_placeOfValue_35 : decode cX1_placeOfValue 35 = .ok (.ireturn, 1) := by decide +kernel
theorem dX1_placeOfValue_36 : decode cX1_placeOfValue 36 = .ok (.iinc 2 1, 3) := by decide +kernel
theorem dX1_placeOfValue_39 : decode cX1_placeOfValue 39 = .ok (.iinc 3 1, 3) := by decide +kernel
theorem dX1_placeOfValue_42 : decode cX1_placeOfValue 42 = .ok (.goto (-38), 3) := by decide +kernel
theorem dX1_placeOfValue_45 : decode cX1_placeOfValue 45 = .ok (.iconst (-1), 1) := by decide +kernel
theorem dX1_placeOfValue_46 : decode cX1_placeOfValue 46 = .ok (.ireturn, 1) := by decide +kernel
theorem dX1_isValue_0 : decode cX1_isValue 0 = .ok (.iload_n 0, 1) := by decide +kernel
theorem dX1_isValue_1 : decode cX1_isValue 1 = .ok (.bipush 78, 2) := by decide +kernel
theorem dX1_isValue_3 : decode cX1_isValue 3 = .ok (.if_icmp .eq 15, 3) := by decide +kernel
theorem dX1_isValue_6 : decode cX1_isValue 6 = .ok (.iload_n 0, 1) := by decide +kernel
theorem dX1_isValue_7 : decode cX1_isValue 7 = .ok (.bipush 75, 2) := by decide +kernel
theorem dX1_isValue_9 : decode cX1_isValue 9 = .ok (.if_icmp .eq 9, 3) := by decide +kernel
theorem dX1_isValue_12 : decode cX1_isValue 12 = .ok (.iload_n 0, 1) := by decide +kernel
theorem dX1_isValue_13 : decode cX1_isValue 13 = .ok (.bipush 67, 2) := by decide +kernel
theorem dX1_isValue_15 : decode cX1_isValue 15 = .ok (.if_icmp .ne 7, 3) := by decide +kernel
theorem dX1_isValue_18 : decode cX1_isValue 18 = .ok (.iconst 1, 1) := by decide +kernel
theorem dX1_isValue_19 : decode cX1_isValue 19 = .ok (.goto 4, 3) := by decide +kernel
theorem dX1_isValue_22 : decode cX1_isValue 22 = .ok (.iconst 0, 1) := by decide +kernel
theorem dX1_isValue_23 : decode cX1_isValue 23 = .ok (.ireturn, 1) := by decide +kernel
theorem dX2_init_0 : decode cX2_init 0 = .ok (.aload_n 0, 1) := by decide +kernel
theorem dX2_init_1 : decode cX2_init 1 = .ok (.invokespecial 3, 3) := by decide +kernel
theorem dX2_init_4 : decode cX2_init 4 = .ok (.aload_n 0, 1) := by decide +kernel
theorem dX2_init_5 : decode cX2_init 5 = .ok (.bipush 9, 2) := by decide +kernel
theorem dX2_init_7 : decode cX2_init 7 = .ok (.newarray .int, 2) := by decide +kernel
theorem dX2_init_9 : decode cX2_init 9 = .ok (.putfield 9, 3) := by decide +kernel
theorem dX2_init_12 : decode cX2_init 12 = .ok (.return_, 1) := by decide +kernel
theorem dX2_cellsConnectedTo_0 : decode cX2_cellsConnectedTo 0 = .ok (.iconst 1, 1) := by decide +kernel
theorem dX2_cellsConnectedTo_1 : decode cX2_cellsConnectedTo 1 = .ok (.iload_n 1, 1) := by decide +kernel
theorem dX2_cellsConnectedTo_2 : decode cX2_cellsConnectedTo 2 = .ok (.ishl, 1) := by decide +kernel
theorem dX2_cellsConnectedTo_3 : decode cX2_cellsConnectedTo 3 = .ok (.istore_n 2, 1) := by decide +kernel
theorem dX2_cellsConnectedTo_4 : decode cX2_cellsConnectedTo 4 = .ok (.iconst 1, 1) := by decide +kernel
theorem dX2_cellsConnectedTo_5 : decode cX2_cellsConnectedTo 5 = .ok (.istore_n 3, 1) := by decide +kernel
theorem dX2_cellsConnectedTo_6 : decode cX2_cellsConnectedTo 6 = .ok (.iload_n 3, 1) := by decide +kernel
theorem dX2_cellsConnectedTo_7 : decode cX2_cellsConnectedTo 7 = .ok (.bipush 9, 2) := by decide +kernel
theorem dX2_cellsConnectedTo_9 : decode cX2_cellsConnectedTo 9 = .ok (.if_icmp .ge 15, 3) := by decide +kernel
theorem dX2_cellsConnectedTo_12 : decode cX2_cellsConnectedTo 12 = .ok (.aload_n 0, 1) := by decide +kernel
theorem dX2_cellsConnectedTo_13 : decode cX2_cellsConnectedTo 13 = .ok (.iload_n 2, 1) := by decide +kernel
theorem dX2_cellsConnectedTo_14 : decode cX2_cellsConnectedTo 14 = .ok (.invokestatic 15, 3) := by decide +kernel
theorem dX2_cellsConnectedTo_17 : decode cX2_cellsConnectedTo 17 = .ok (.istore_n 2, 1) := by decide +kernel
theorem dX2_cellsConnectedTo_18 : decode cX2_cellsConnectedTo 18 = .ok (.iinc 3 1, 3) := by decide +kernel
theorem dX2_cellsConnectedTo_21 : decode cX2_cellsConnectedTo 21 = .ok (.goto (-15), 3) := by decide +kernel
theorem dX2_cellsConnectedTo_24 : decode cX2_cellsConnectedTo 24 = .ok (.iload_n 2, 1) := by decide +kernel
theorem dX2_cellsConnectedTo_25 : decode cX2_cellsConnectedTo 25 = .ok (.ireturn, 1) := by decide +kernel
theorem dX2_withNeighbours_0 : decode cX2_withNeighbours 0 = .ok (.iload_n 1, 1) := by decide +kernel
theorem dX2_withNeighbours_1 : decode cX2_withNeighbours 1 = .ok (.istore_n 2, 1) := by decide +kernel
theorem dX2_withNeighbours_2 : decode cX2_withNeighbours 2 = .ok (.iconst 0, 1) := by decide +kernel
theorem dX2_withNeighbours_3 : decode cX2_withNeighbours 3 = .ok (.istore_n 3, 1) := by decide +kernel
theorem dX2_withNeighbours_4 : decode cX2_withNeighbours 4 = .ok (.iload_n 3, 1) := by decide +kernel
theorem dX2_withNeighbours_5 : decode cX2_withNeighbours 5 = .ok (.bipush 9, 2) := by decide +kernel
theorem dX2_withNeighbours_7 : decode cX2_withNeighbours 7 = .ok (.if_icmp .ge 53, 3) := by decide +kernel
theorem dX2_withNeighbours_10 : decode cX2_withNeighbours 10 = .ok (.iconst 0, 1) := by decide +kernel
theorem dX2_withNeighbours_11 : decode cX2_withNeighbours 11 = .ok (.istore 4, 2) := by decide +kernel
theorem dX2_withNeighbours_13 : decode cX2_withNeighbours 13 = .ok (.iload 4, 2) := by decide +kernel
theorem dX2_withNeighbours_15 : decode cX2_withNeighbours 15 = .ok (.iconst 4, 1) := by decide +kernel
theorem dX2_withNeighbours_16 : decode cX2_withNeighbours 16 = .ok (.if_icmp .ge 38, 3) := by decide +kernel
theorem dX2_withNeighbours_19 : decode cX2_withNeighbours 19 = .ok (.iload_n 1, 1) := by decide +kernel
theorem dX2_withNeighbours_20 : decode cX2_withNeighbours 20 = .ok (.iload_n 3, 1) := by decide +kernel
theorem dX2_withNeighbours_21 : decode cX2_withNeighbours 21 = .ok (.invokestatic 19, 3) := by decide +kernel
theorem dX2_withNeighbours_24 : decode cX2_withNeighbours 24 = .ok (.ifCond .eq 24, 3) := by decide +kernel
theorem dX2_withNeighbours_27 : decode cX2_withNeighbours 27 = .ok (.aload_n 0, 1) := by decide +kernel
theorem dX2_withNeighbours_28 : decode cX2_withNeighbours 28 = .ok (.iload_n 3, 1) := by decide +kernel
theorem dX2_withNeighbours_29 : decode cX2_withNeighbours 29 = .ok (.iload 4, 2) := by decide +kernel
theorem dX2_withNeighbours_31 : decode cX2_withNeighbours 31 = .ok (.invokevirtual 23, 3) := by decide +kernel
theorem dX2_withNeighbours_34 : decode cX2_withNeighbours 34 = .ok (.ifCond .eq 14, 3) := by decide +kernel
theorem dX2_withNeighbours_37 : decode cX2_withNeighbours 37 = .ok (.iload_n 2, 1) := by decide +kernel
theorem dX2_withNeighbours_38 : decode cX2_withNeighbours 38 = .ok (.iconst 1, 1) := by decide +kernel
theorem dX2_withNeighbours_39 : decode cX2_withNeighbours 39 = .ok (.iload_n 3, 1) := by decide +kernel
theorem dX2_withNeighbours_40 : decode cX2_withNeighbours 40 = .ok (.iload 4, 2) := by decide +kernel
theorem dX2_withNeighbours_42 : decode cX2_withNeighbours 42 = .ok (.invokestatic 28, 3) := by decide +kernel
theorem dX2_withNeighbours_45 : decode cX2_withNeighbours 45 = .ok (.ishl, 1) := by decide +kernel
theorem dX2_withNeighbours_46 : decode cX2_withNeighbours 46 = .ok (.ior, 1) := by decide +kernel
theorem dX2_withNeighbours_47 : decode cX2_withNeighbours 47 = .ok (.istore_n 2, 1) := by decide +kernel
theorem dX2_withNeighbours_48 : decode cX2_withNeighbours 48 = .ok (.iinc 4 1, 3) := by decide +kernel
theorem dX2_withNeighbours_51 : decode cX2_withNeighbours 51 = .ok (.goto (-38), 3) := by decide +kernel
theorem dX2_withNeighbours_54 : decode cX2_withNeighbours 54 = .ok (.iinc 3 1, 3) := by decide +kernel
theorem dX2_withNeighbours_57 : decode cX2_withNeighbours 57 = .ok (.goto (-53), 3) := by decide +kernel
theorem dX2_withNeighbours_60 : decode cX2_withNeighbours 60 = .ok (.iload_n 2, 1) := by decide +kernel
theorem dX2_withNeighbours_61 : decode cX2_withNeighbours 61 = .ok (.ireturn, 1) := by decide +kernel
theorem dX2_contains_0 : decode cX2_contains 0 = .ok (.iload_n 0, 1) := by decide +kernel
theorem dX2_contains_1 : decode cX2_contains 1 = .ok (.iload_n 1, 1) := by decide +kernel
theorem dX2_contains_2 : decode cX2_contains 2 = .ok (.ishr, 1) := by decide +kernel
theorem dX2_contains_3 : decode cX2_contains 3 = .ok (.iconst 1, 1) := by decide +kernel
theorem dX2_contains_4 : decode cX2_contains 4 = .ok (.iand, 1) := by decide +kernel
theorem dX2_contains_5 : decode cX2_contains 5 = .ok (.iconst 1, 1) := by decide +kernel
theorem dX2_contains_6 : decode cX2_contains 6 = .ok (.if_icmp .ne 7, 3) := by decide +kernel
theorem dX2_contains_9 : decode cX2_contains 9 = .ok (.iconst 1, 1) := by decide +kernel
theorem dX2_contains_10 : decode cX2_contains 10 = .ok (.goto 4, 3) := by decide +kernel
theorem dX2_contains_13 : decode cX2_contains 13 = .ok (.iconst 0, 1) := by decide +kernel
theorem dX2_contains_14 : decode cX2_contains 14 = .ok (.ireturn, 1) := by decide +kernel
theorem dX2_countByFilling_0 : decode cX2_countByFilling 0 = .ok (.iconst 0, 1) := by decide +kernel
theorem dX2_countByFilling_1 : decode cX2_countByFilling 1 = .ok (.istore_n 1, 1) := by decide +kernel
theorem dX2_countByFilling_2 : decode cX2_countByFilling 2 = .ok (.iconst 0, 1) := by decide +kernel
theorem dX2_countByFilling_3 : decode cX2_countByFilling 3 = .ok (.istore_n 2, 1) := by decide +kernel
theorem dX2_countByFilling_4 : decode cX2_countByFilling 4 = .ok (.iconst 0, 1) := by decide +kernel
theorem dX2_countByFilling_5 : decode cX2_countByFilling 5 = .ok (.istore_n 3, 1) := by decide +kernel
theorem dX2_countByFilling_6 : decode cX2_countByFilling 6 = .ok (.iload_n 3, 1) := by decide +kernel
theorem dX2_countByFilling_7 : decode cX2_countByFilling 7 = .ok (.bipush 9, 2) := by decide +kernel
theorem dX2_countByFilling_9 : decode cX2_countByFilling 9 = .ok (.if_icmp .ge 36, 3) := by decide +kernel
theorem dX2_countByFilling_12 : decode cX2_countByFilling 12 = .ok (.aload_n 0, 1) := by decide +kernel
theorem dX2_countByFilling_13 : decode cX2_countByFilling 13 = .ok (.iload_n 3, 1) := by decide +kernel
theorem dX2_countByFilling_14 : decode cX2_countByFilling 14 = .ok (.invokevirtual 32, 3) := by decide +kernel
theorem dX2_countByFilling_17 : decode cX2_countByFilling 17 = .ok (.ifCond .eq 22, 3) := by decide +kernel
theorem dX2_countByFilling_20 : decode cX2_countByFilling 20 = .ok (.iload_n 1, 1) := by decide +kernel
theorem dX2_countByFilling_21 : decode cX2_countByFilling 21 = .ok (.iload_n 3, 1) := by decide +kernel
theorem dX2_countByFilling_22 : decode cX2_countByFilling 22 = .ok (.invokestatic 19, 3) := by decide +kernel
theorem dX2_countByFilling_25 : decode cX2_countByFilling 25 = .ok (.ifCond .ne 14, 3) := by decide +kernel
theorem dX2_countByFilling_28 : decode cX2_countByFilling 28 = .ok (.iload_n 1, 1) := by decide +kernel
theorem dX2_countByFilling_29 : decode cX2_countByFilling 29 = .ok (.aload_n 0, 1) := by decide +kernel
theorem dX2_countByFilling_30 : decode cX2_countByFilling 30 = .ok (.iload_n 3, 1) := by decide +kernel
theorem dX2_countByFilling_31 : decode cX2_countByFilling 31 = .ok (.invokestatic 36, 3) := by decide +kernel
theorem dX2_countByFilling_34 : decode cX2_countByFilling 34 = .ok (.ior, 1) := by decide +kernel
theorem dX2_countByFilling_35 : decode cX2_countByFilling 35 = .ok (.istore_n 1, 1) := by decide +kernel
theorem dX2_countByFilling_36 : decode cX2_countByFilling 36 = .ok (.iinc 2 1, 3) := by decide +kernel
theorem dX2_countByFilling_39 : decode cX2_countByFilling 39 = .ok (.iinc 3 1, 3) := by decide +kernel
theorem dX2_countByFilling_42 : decode cX2_countByFilling 42 = .ok (.goto (-36), 3) := by decide +kernel
theorem dX2_countByFilling_45 : decode cX2_countByFilling 45 = .ok (.iload_n 2, 1) := by decide +kernel
theorem dX2_countByFilling_46 : decode cX2_countByFilling 46 = .ok (.ireturn, 1) := by decide +kernel
theorem dX3_init_0 : decode cX3_init 0 = .ok (.aload_n 0, 1) := by decide +kernel
theorem dX3_init_1 : decode cX3_init 1 = .ok (.invokespecial 3, 3) := by decide +kernel
theorem dX3_init_4 : decode cX3_init 4 = .ok (.aload_n 0, 1) := by decide +kernel
theorem dX3_init_5 : decode cX3_init 5 = .ok (.bipush 9, 2) := by decide +kernel
theorem dX3_init_7 : decode cX3_init 7 = .ok (.anewarray 11, 3) := by decide +kernel
theorem dX3_init_10 : decode cX3_init 10 = .ok (.putfield 13, 3) := by decide +kernel
theorem dX3_init_13 : decode cX3_init 13 = .ok (.iconst 0, 1) := by decide +kernel
theorem dX3_init_14 : decode cX3_init 14 = .ok (.istore_n 1, 1) := by decide +kernel
theorem dX3_init_15 : decode cX3_init 15 = .ok (.iload_n 1, 1) := by decide +kernel
theorem dX3_init_16 : decode cX3_init 16 = .ok (.bipush 9, 2) := by decide +kernel
theorem dX3_init_18 : decode cX3_init 18 = .ok (.if_icmp .ge 22, 3) := by decide +kernel
theorem dX3_init_21 : decode cX3_init 21 = .ok (.aload_n 0, 1) := by decide +kernel
theorem dX3_init_22 : decode cX3_init 22 = .ok (.getfield 13, 3) := by decide +kernel
theorem dX3_init_25 : decode cX3_init 25 = .ok (.iload_n 1, 1) := by decide +kernel
theorem dX3_init_26 : decode cX3_init 26 = .ok (.new 11, 3) := by decide +kernel
theorem dX3_init_29 : decode cX3_init 29 = .ok (.dup, 1) := by decide +kernel
theorem dX3_init_30 : decode cX3_init 30 = .ok (.invokespecial 17, 3) := by decide +kernel
theorem dX3_init_33 : decode cX3_init 33 = .ok (.aastore, 1) := by decide +kernel
theorem dX3_init_34 : decode cX3_init 34 = .ok (.iinc 1 1, 3) := by decide +kernel
theorem dX3_init_37 : decode cX3_init 37 = .ok (.goto (-22), 3) := by decide +kernel
theorem dX3_init_40 : decode cX3_init 40 = .ok (.return_, 1) := by decide +kernel
theorem dX3_prepare_0 : decode cX3_prepare 0 = .ok (.aload_n 0, 1) := by decide +kernel
theorem dX3_prepare_1 : decode cX3_prepare 1 = .ok (.getfield 13, 3) := by decide +kernel
theorem dX3_prepare_4 : decode cX3_prepare 4 = .ok (.aload_n 0, 1) := by decide +kernel
theorem dX3_prepare_5 : decode cX3_prepare 5 = .ok (.getfield 18, 3) := by decide +kernel
theorem dX3_prepare_8 : decode cX3_prepare 8 = .ok (.aaload, 1) := by decide +kernel
theorem dX3_prepare_9 : decode cX3_prepare 9 = .ok (.aload_n 1, 1) := by decide +kernel
theorem dX3_prepare_10 : decode cX3_prepare 10 = .ok (.invokevirtual 22, 3) := by decide +kernel
theorem dX3_prepare_13 : decode cX3_prepare 13 = .ok (.return_, 1) := by decide +kernel
theorem dX3_keepPrepared_0 : decode cX3_keepPrepared 0 = .ok (.aload_n 0, 1) := by decide +kernel
theorem dX3_keepPrepared_1 : decode cX3_keepPrepared 1 = .ok (.aload_n 0, 1) := by decide +kernel
theorem dX3_keepPrepared_2 : decode cX3_keepPrepared 2 = .ok (.getfield 18, 3) := by decide +kernel
theorem dX3_keepPrepared_5 : decode cX3_keepPrepared 5 = .ok (.iconst 1, 1) := by decide +kernel
theorem dX3_keepPrepared_6 : decode cX3_keepPrepared 6 = .ok (.iadd, 1) := by decide +kernel
theorem dX3_keepPrepared_7 : decode cX3_keepPrepared 7 = .ok (.bipush 9, 2) := by decide +kernel
theorem dX3_keepPrepared_9 : decode cX3_keepPrepared 9 = .ok (.irem, 1) := by decide +kernel
theorem dX3_keepPrepared_10 : decode cX3_keepPrepared 10 = .ok (.putfield 18, 3) := by decide +kernel
theorem dX3_keepPrepared_13 : decode cX3_keepPrepared 13 = .ok (.aload_n 0, 1) := by decide +kernel
theorem dX3_keepPrepared_14 : decode cX3_keepPrepared 14 = .ok (.bipush 8, 2) := by decide +kernel
theorem dX3_keepPrepared_16 : decode cX3_keepPrepared 16 = .ok (.aload_n 0, 1) := by decide +kernel
theorem dX3_keepPrepared_17 : decode cX3_keepPrepared 17 = .ok (.getfield 26, 3) := by decide +kernel
theorem dX3_keepPrepared_20 : decode cX3_keepPrepared 20 = .ok (.iconst 1, 1) := by decide +kernel
theorem dX3_keepPrepared_21 : decode cX3_keepPrepared 21 = .ok (.iadd, 1) := by decide +kernel
theorem dX3_keepPrepared_22 : decode cX3_keepPrepared 22 = .ok (.invokestatic 29, 3) := by decide +kernel
theorem dX3_keepPrepared_25 : decode cX3_keepPrepared 25 = .ok (.putfield 26, 3) := by decide +kernel
theorem dX3_keepPrepared_28 : decode cX3_keepPrepared 28 = .ok (.return_, 1) := by decide +kernel
theorem dX3_returnToPrepared_0 : decode cX3_returnToPrepared 0 = .ok (.aload_n 1, 1) := by decide +kernel
theorem dX3_returnToPrepared_1 : decode cX3_returnToPrepared 1 = .ok (.aload_n 0, 1) := by decide +kernel
theorem dX3_returnToPrepared_2 : decode cX3_returnToPrepared 2 = .ok (.getfield 13, 3) := by decide +kernel
theorem dX3_returnToPrepared_5 : decode cX3_returnToPrepared 5 = .ok (.aload_n 0, 1) := by decide +kernel
theorem dX3_returnToPrepared_6 : decode cX3_returnToPrepared 6 = .ok (.getfield 18, 3) := by decide +kernel
theorem dX3_returnToPrepared_9 : decode cX3_returnToPrepared 9 = .ok (.aaload, 1) := by decide +kernel
theorem dX3_returnToPrepared_10 : decode cX3_returnToPrepared 10 = .ok (.invokevirtual 22, 3) := by decide +kernel
theorem dX3_returnToPrepared_13 : decode cX3_returnToPrepared 13 = .ok (.return_, 1) := by decide +kernel
theorem dX3_stepBack_0 : decode cX3_stepBack 0 = .ok (.aload_n 0, 1) := by decide +kernel
theorem dX3_stepBack_1 : decode cX3_stepBack 1 = .ok (.aload_n 0, 1) := by decide +kernel
theorem dX3_stepBack_2 : decode cX3_stepBack 2 = .ok (.getfield 18, 3) := by decide +kernel
theorem dX3_stepBack_5 : decode cX3_stepBack 5 = .ok (.bipush 9, 2) := by decide +kernel
theorem dX3_stepBack_7 : decode cX3_stepBack 7 = .ok (.iadd, 1) := by decide +kernel
theorem dX3_stepBack_8 : decode cX3_stepBack 8 = .ok (.iconst 1, 1) := by decide +kernel
theorem dX3_stepBack_9 : decode cX3_stepBack 9 = .ok (.isub, 1) := by decide +kernel
theorem dX3_stepBack_10 : decode cX3_stepBack 10 = .ok (.bipush 9, 2) := by decide +kernel
theorem dX3_stepBack_12 : decode cX3_stepBack 12 = .ok (.irem, 1) := by decide +kernel
theorem dX3_stepBack_13 : decode cX3_stepBack 13 = .ok (.putfield 18, 3) := by decide +kernel
theorem dX3_stepBack_16 : decode cX3_stepBack 16 = .ok (.aload_n 0, 1) := by decide +kernel
theorem dX3_stepBack_17 : decode cX3_stepBack 17 = .ok (.dup, 1) := by decide +kernel
theorem dX3_stepBack_18 : decode cX3_stepBack 18 = .ok (.getfield 26, 3) := by decide +kernel
theorem dX3_stepBack_21 : decode cX3_stepBack 21 = .ok (.iconst 1, 1) := by decide +kernel
theorem dX3_stepBack_22 : decode cX3_stepBack 22 = .ok (.isub, 1) := by decide +kernel
theorem dX3_stepBack_23 : decode cX3_stepBack 23 = .ok (.putfield 26, 3) := by decide +kernel
theorem dX3_stepBack_26 : decode cX3_stepBack 26 = .ok (.aload_n 1, 1) := by decide +kernel
theorem dX3_stepBack_27 : decode cX3_stepBack 27 = .ok (.aload_n 0, 1) := by decide +kernel
theorem dX3_stepBack_28 : decode cX3_stepBack 28 = .ok (.getfield 13, 3) := by decide +kernel
theorem dX3_stepBack_31 : decode cX3_stepBack 31 = .ok (.aload_n 0, 1) := by decide +kernel
theorem dX3_stepBack_32 : decode cX3_stepBack 32 = .ok (.getfield 18, 3) := by decide +kernel
theorem dX3_stepBack_35 : decode cX3_stepBack 35 = .ok (.aaload, 1) := by decide +kernel
theorem dX3_stepBack_36 : decode cX3_stepBack 36 = .ok (.invokevirtual 22, 3) := by decide +kernel
theorem dX3_stepBack_39 : decode cX3_stepBack 39 = .ok (.return_, 1) := by decide +kernel
theorem dX3_forget_0 : decode cX3_forget 0 = .ok (.aload_n 0, 1) := by decide +kernel
theorem dX3_forget_1 : decode cX3_forget 1 = .ok (.iconst 0, 1) := by decide +kernel
theorem dX3_forget_2 : decode cX3_forget 2 = .ok (.putfield 26, 3) := by decide +kernel
theorem dX3_forget_5 : decode cX3_forget 5 = .ok (.return_, 1) := by decide +kernel
theorem dX4_init_0 : decode cX4_init 0 = .ok (.aload_n 0, 1) := by decide +kernel
theorem dX4_init_1 : decode cX4_init 1 = .ok (.invokespecial 3, 3) := by decide +kernel
theorem dX4_init_4 : decode cX4_init 4 = .ok (.aload_n 0, 1) := by decide +kernel
theorem dX4_init_5 : decode cX4_init 5 = .ok (.bipush 22, 2) := by decide +kernel
theorem dX4_init_7 : decode cX4_init 7 = .ok (.newarray .char, 2) := by decide +kernel
theorem dX4_init_9 : decode cX4_init 9 = .ok (.putfield 9, 3) := by decide +kernel
theorem dX4_init_12 : decode cX4_init 12 = .ok (.return_, 1) := by decide +kernel
theorem dX4_describeTable_0 : decode cX4_describeTable 0 = .ok (.aload_n 0, 1) := by decide +kernel
theorem dX4_describeTable_1 : decode cX4_describeTable 1 = .ok (.iconst 0, 1) := by decide +kernel
theorem dX4_describeTable_2 : decode cX4_describeTable 2 = .ok (.putfield 15, 3) := by decide +kernel
theorem dX4_describeTable_5 : decode cX4_describeTable 5 = .ok (.iconst 0, 1) := by decide +kernel
theorem dX4_describeTable_6 : decode cX4_describeTable 6 = .ok (.istore_n 2, 1) := by decide +kernel
theorem dX4_describeTable_7 : decode cX4_describeTable 7 = .ok (.iload_n 2, 1) := by decide +kernel
theorem dX4_describeTable_8 : decode cX4_describeTable 8 = .ok (.bipush 9, 2) := by decide +kernel
theorem dX4_describeTable_10 : decode cX4_describeTable 10 = .ok (.if_icmp .ge 65, 3) := by decide +kernel
theorem dX4_describeTable_13 : decode cX4_describeTable 13 = .ok (.iload_n 2, 1) := by decide +kernel
theorem dX4_describeTable_14 : decode cX4_describeTable 14 = .ok (.ifCond .le 15, 3) := by decide +kernel
theorem dX4_describeTable_17 : decode cX4_describeTable 17 = .ok (.iload_n 2, 1) := by decide +kernel
theorem dX4_describeTable_18 : decode cX4_describeTable 18 = .ok (.iconst 3, 1) := by decide +kernel
theorem dX4_describeTable_19 : decode cX4_describeTable 19 = .ok (.irem, 1) := by decide +kernel
theorem dX4_describeTable_20 : decode cX4_describeTable 20 = .ok (.ifCond .ne 9, 3) := by decide +kernel
theorem dX4_describeTable_23 : decode cX4_describeTable 23 = .ok (.aload_n 0, 1) := by decide +kernel
theorem dX4_describeTable_24 : decode cX4_describeTable 24 = .ok (.bipush 47, 2) := by decide +kernel
theorem dX4_describeTable_26 : decode cX4_describeTable 26 = .ok (.invokevirtual 19, 3) := by decide +kernel
theorem dX4_describeTable_29 : decode cX4_describeTable 29 = .ok (.aload_n 1, 1) := by decide +kernel
theorem dX4_describeTable_30 : decode cX4_describeTable 30 = .ok (.iload_n 2, 1) := by decide +kernel
theorem dX4_describeTable_31 : decode cX4_describeTable 31 = .ok (.invokevirtual 23, 3) := by decide +kernel
theorem dX4_describeTable_34 : decode cX4_describeTable 34 = .ok (.ifCond .eq 28, 3) := by decide +kernel
theorem dX4_describeTable_37 : decode cX4_describeTable 37 = .ok (.aload_n 0, 1) := by decide +kernel
theorem dX4_describeTable_38 : decode cX4_describeTable 38 = .ok (.aload_n 1, 1) := by decide +kernel
theorem dX4_describeTable_39 : decode cX4_describeTable 39 = .ok (.getfield 29, 3) := by decide +kernel
theorem dX4_describeTable_42 : decode cX4_describeTable 42 = .ok (.iload_n 2, 1) := by decide +kernel
theorem dX4_describeTable_43 : decode cX4_describeTable 43 = .ok (.iaload, 1) := by decide +kernel
theorem dX4_describeTable_44 : decode cX4_describeTable 44 = .ok (.invokevirtual 33, 3) := by decide +kernel
theorem dX4_describeTable_47 : decode cX4_describeTable 47 = .ok (.aload_n 0, 1) := by decide +kernel
theorem dX4_describeTable_48 : decode cX4_describeTable 48 = .ok (.aload_n 1, 1) := by decide +kernel
theorem dX4_describeTable_49 : decode cX4_describeTable 49 = .ok (.iload_n 2, 1) := by decide +kernel
theorem dX4_describeTable_50 : decode cX4_describeTable 50 = .ok (.invokevirtual 37, 3) := by decide +kernel
theorem dX4_describeTable_53 : decode cX4_describeTable 53 = .ok (.getfield 41, 3) := by decide +kernel
theorem dX4_describeTable_56 : decode cX4_describeTable 56 = .ok (.invokevirtual 33, 3) := by decide +kernel
theorem dX4_describeTable_59 : decode cX4_describeTable 59 = .ok (.goto 10, 3) := by decide +kernel
theorem dX4_describeTable_62 : decode cX4_describeTable 62 = .ok (.aload_n 0, 1) := by decide +kernel
theorem dX4_describeTable_63 : decode cX4_describeTable 63 = .ok (.bipush 46, 2) := by decide +kernel
theorem dX4_describeTable_65 : decode cX4_describeTable 65 = .ok (.iconst 2, 1) := by decide +kernel
theorem dX4_describeTable_66 : decode cX4_describeTable 66 = .ok (.invokevirtual 46, 3) := by decide +kernel
theorem dX4_describeTable_69 : decode cX4_describeTable 69 = .ok (.iinc 2 1, 3) := by decide +kernel
theorem dX4_describeTable_72 : decode cX4_describeTable 72 = .ok (.goto (-65), 3) := by decide +kernel
theorem dX4_describeTable_75 : decode cX4_describeTable 75 = .ok (.return_, 1) := by decide +kernel
theorem dX4_describeSheet_0 : decode cX4_describeSheet 0 = .ok (.aload_n 0, 1) := by decide +kernel
theorem dX4_describeSheet_1 : decode cX4_describeSheet 1 = .ok (.iconst 0, 1) := by decide +kernel
theorem dX4_describeSheet_2 : decode cX4_describeSheet 2 = .ok (.putfield 15, 3) := by decide +kernel
theorem dX4_describeSheet_5 : decode cX4_describeSheet 5 = .ok (.aload_n 0, 1) := by decide +kernel
theorem dX4_describeSheet_6 : decode cX4_describeSheet 6 = .ok (.aload_n 1, 1) := by decide +kernel
theorem dX4_describeSheet_7 : decode cX4_describeSheet 7 = .ok (.getfield 50, 3) := by decide +kernel
theorem dX4_describeSheet_10 : decode cX4_describeSheet 10 = .ok (.invokevirtual 19, 3) := by decide +kernel
theorem dX4_describeSheet_13 : decode cX4_describeSheet 13 = .ok (.iconst 0, 1) := by decide +kernel
theorem dX4_describeSheet_14 : decode cX4_describeSheet 14 = .ok (.istore_n 2, 1) := by decide +kernel
theorem dX4_describeSheet_15 : decode cX4_describeSheet 15 = .ok (.iload_n 2, 1) := by decide +kernel
theorem dX4_describeSheet_16 : decode cX4_describeSheet 16 = .ok (.iconst 4, 1) := by decide +kernel
theorem dX4_describeSheet_17 : decode cX4_describeSheet 17 = .ok (.if_icmp .ge 19, 3) := by decide +kernel
theorem dX4_describeSheet_20 : decode cX4_describeSheet 20 = .ok (.aload_n 0, 1) := by decide +kernel
theorem dX4_describeSheet_21 : decode cX4_describeSheet 21 = .ok (.aload_n 1, 1) := by decide +kernel
theorem dX4_describeSheet_22 : decode cX4_describeSheet 22 = .ok (.iload_n 2, 1) := by decide +kernel
theorem dX4_describeSheet_23 : decode cX4_describeSheet 23 = .ok (.iconst 0, 1) := by decide +kernel
theorem dX4_describeSheet_24 : decode cX4_describeSheet 24 = .ok (.invokevirtual 54, 3) := by decide +kernel
theorem dX4_describeSheet_27 : decode cX4_describeSheet 27 = .ok (.invokevirtual 33, 3) := by decide +kernel
theorem dX4_describeSheet_30 : decode cX4_describeSheet 30 = .ok (.iinc 2 1, 3) := by decide +kernel
theorem dX4_describeSheet_33 : decode cX4_describeSheet 33 = .ok (.goto (-18), 3) := by decide +kernel
theorem dX4_describeSheet_36 : decode cX4_describeSheet 36 = .ok (.aload_n 1, 1) := by decide +kernel
theorem dX4_describeSheet_37 : decode cX4_describeSheet 37 = .ok (.getfield 58, 3) := by decide +kernel
theorem dX4_describeSheet_40 : decode cX4_describeSheet 40 = .ok (.ifCond .le 9, 3) := by decide +kernel
theorem dX4_describeSheet_43 : decode cX4_describeSheet 43 = .ok (.aload_n 0, 1) := by decide +kernel
theorem dX4_describeSheet_44 : decode cX4_describeSheet 44 = .ok (.bipush 124, 2) := by decide +kernel
theorem dX4_describeSheet_46 : decode cX4_describeSheet 46 = .ok (.invokevirtual 19, 3) := by decide +kernel
theorem dX4_describeSheet_49 : decode cX4_describeSheet 49 = .ok (.iconst 0, 1) := by decide +kernel
theorem dX4_describeSheet_50 : decode cX4_describeSheet 50 = .ok (.istore_n 2, 1) := by decide +kernel
theorem dX4_describeSheet_51 : decode cX4_describeSheet 51 = .ok (.iload_n 2, 1) := by decide +kernel
theorem dX4_describeSheet_52 : decode cX4_describeSheet 52 = .ok (.aload_n 1, 1) := by decide +kernel
theorem dX4_describeSheet_53 : decode cX4_describeSheet 53 = .ok (.getfield 58, 3) := by decide +kernel
theorem dX4_describeSheet_56 : decode cX4_describeSheet 56 = .ok (.if_icmp .ge 19, 3) := by decide +kernel
theorem dX4_describeSheet_59 : decode cX4_describeSheet 59 = .ok (.aload_n 0, 1) := by decide +kernel
theorem dX4_describeSheet_60 : decode cX4_describeSheet 60 = .ok (.aload_n 1, 1) := by decide +kernel
theorem dX4_describeSheet_61 : decode cX4_describeSheet 61 = .ok (.getfield 61, 3) := by decide +kernel
theorem dX4_describeSheet_64 : decode cX4_describeSheet 64 = .ok (.iload_n 2, 1) := by decide +kernel
theorem dX4_describeSheet_65 : decode cX4_describeSheet 65 = .ok (.caload, 1) := by decide +kernel
theorem dX4_describeSheet_66 : decode cX4_describeSheet 66 = .ok (.invokevirtual 19, 3) := by decide +kernel
theorem dX4_describeSheet_69 : decode cX4_describeSheet 69 = .ok (.iinc 2 1, 3) := by decide +kernel
theorem dX4_describeSheet_72 : decode cX4_describeSheet 72 = .ok (.goto (-21), 3) := by decide +kernel
theorem dX4_describeSheet_75 : decode cX4_describeSheet 75 = .ok (.aload_n 0, 1) := by decide +kernel
theorem dX4_describeSheet_76 : decode cX4_describeSheet 76 = .ok (.bipush 42, 2) := by decide +kernel
theorem dX4_describeSheet_78 : decode cX4_describeSheet 78 = .ok (.aload_n 1, 1) := by decide +kernel
theorem dX4_describeSheet_79 : decode cX4_describeSheet 79 = .ok (.getfield 64, 3) := by decide +kernel
theorem dX4_describeSheet_82 : decode cX4_describeSheet 82 = .ok (.invokevirtual 46, 3) := by decide +kernel
theorem dX4_describeSheet_85 : decode cX4_describeSheet 85 = .ok (.aload_n 0, 1) := by decide +kernel
theorem dX4_describeSheet_86 : decode cX4_describeSheet 86 = .ok (.bipush 35, 2) := by decide +kernel
theorem dX4_describeSheet_88 : decode cX4_describeSheet 88 = .ok (.aload_n 1, 1) := by decide +kernel
theorem dX4_describeSheet_89 : decode cX4_describeSheet 89 = .ok (.getfield 67, 3) := by decide +kernel
theorem dX4_describeSheet_92 : decode cX4_describeSheet 92 = .ok (.ifCond .eq 7, 3) := by decide +kernel
theorem dX4_describeSheet_95 : decode cX4_describeSheet 95 = .ok (.iconst 1, 1) := by decide +kernel
theorem dX4_describeSheet_96 : decode cX4_describeSheet 96 = .ok (.goto 4, 3) := by decide +kernel
theorem dX4_describeSheet_99 : decode cX4_describeSheet 99 = .ok (.iconst 0, 1) := by decide +kernel
theorem dX4_describeSheet_100 : decode cX4_describeSheet 100 = .ok (.invokevirtual 46, 3) := by decide +kernel
theorem dX4_describeSheet_103 : decode cX4_describeSheet 103 = .ok (.return_, 1) := by decide +kernel
theorem dX4_writeDigit_0 : decode cX4_writeDigit 0 = .ok (.aload_n 0, 1) := by decide +kernel
theorem dX4_writeDigit_1 : decode cX4_writeDigit 1 = .ok (.bipush 48, 2) := by decide +kernel
theorem dX4_writeDigit_3 : decode cX4_writeDigit 3 = .ok (.iload_n 1, 1) := by decide +kernel
theorem dX4_writeDigit_4 : decode cX4_writeDigit 4 = .ok (.iadd, 1) := by decide +kernel
theorem dX4_writeDigit_5 : decode cX4_writeDigit 5 = .ok (.i2c, 1) := by decide +kernel
theorem dX4_writeDigit_6 : decode cX4_writeDigit 6 = .ok (.invokevirtual 19, 3) := by decide +kernel
theorem dX4_writeDigit_9 : decode cX4_writeDigit 9 = .ok (.return_, 1) := by decide +kernel
theorem dX4_writeTimes_0 : decode cX4_writeTimes 0 = .ok (.iconst 0, 1) := by decide +kernel
theorem dX4_writeTimes_1 : decode cX4_writeTimes 1 = .ok (.istore_n 3, 1) := by decide +kernel
theorem dX4_writeTimes_2 : decode cX4_writeTimes 2 = .ok (.iload_n 3, 1) := by decide +kernel
theorem dX4_writeTimes_3 : decode cX4_writeTimes 3 = .ok (.iload_n 2, 1) := by decide +kernel
theorem dX4_writeTimes_4 : decode cX4_writeTimes 4 = .ok (.if_icmp .ge 14, 3) := by decide +kernel
theorem dX4_writeTimes_7 : decode cX4_writeTimes 7 = .ok (.aload_n 0, 1) := by decide +kernel
theorem dX4_writeTimes_8 : decode cX4_writeTimes 8 = .ok (.iload_n 1, 1) := by decide +kernel
theorem dX4_writeTimes_9 : decode cX4_writeTimes 9 = .ok (.invokevirtual 19, 3) := by decide +kernel
theorem dX4_writeTimes_12 : decode cX4_writeTimes 12 = .ok (.iinc 3 1, 3) := by decide +kernel
theorem dX4_writeTimes_15 : decode cX4_writeTimes 15 = .ok (.goto (-13), 3) := by decide +kernel
theorem dX4_writeTimes_18 : decode cX4_writeTimes 18 = .ok (.return_, 1) := by decide +kernel
theorem dX4_write_0 : decode cX4_write 0 = .ok (.aload_n 0, 1) := by decide +kernel
theorem dX4_write_1 : decode cX4_write 1 = .ok (.getfield 15, 3) := by decide +kernel
theorem dX4_write_4 : decode cX4_write 4 = .ok (.bipush 22, 2) := by decide +kernel
theorem dX4_write_6 : decode cX4_write 6 = .ok (.if_icmp .ge 23, 3) := by decide +kernel
theorem dX4_write_9 : decode cX4_write 9 = .ok (.aload_n 0, 1) := by decide +kernel
theorem dX4_write_10 : decode cX4_write 10 = .ok (.getfield 9, 3) := by decide +kernel
theorem dX4_write_13 : decode cX4_write 13 = .ok (.aload_n 0, 1) := by decide +kernel
theorem dX4_write_14 : decode cX4_write 14 = .ok (.getfield 15, 3) := by decide +kernel
theorem dX4_write_17 : decode cX4_write 17 = .ok (.iload_n 1, 1) := by decide +kernel
theorem dX4_write_18 : decode cX4_write 18 = .ok (.castore, 1) := by decide +kernel
theorem dX4_write_19 : decode cX4_write 19 = .ok (.aload_n 0, 1) := by decide +kernel
theorem dX4_write_20 : decode cX4_write 20 = .ok (.dup, 1) := by decide +kernel
theorem dX4_write_21 : decode cX4_write 21 = .ok (.getfield 15, 3) := by decide +kernel
theorem dX4_write_24 : decode cX4_write 24 = .ok (.iconst 1, 1) := by decide +kernel
theorem dX4_write_25 : decode cX4_write 25 = .ok (.iadd, 1) := by decide +kernel
theorem dX4_write_26 : decode cX4_write 26 = .ok (.putfield 15, 3) := by decide +kernel
theorem dX4_write_29 : decode cX4_write 29 = .ok (.return_, 1) := by decide +kernel
theorem dX5_inCell_0 : decode cX5_inCell 0 = .ok (.aload_n 0, 1) := by decide +kernel
theorem dX5_inCell_1 : decode cX5_inCell 1 = .ok (.iload_n 1, 1) := by decide +kernel
theorem dX5_inCell_2 : decode cX5_inCell 2 = .ok (.invokevirtual 9, 3) := by decide +kernel
theorem dX5_inCell_5 : decode cX5_inCell 5 = .ok (.getfield 15, 3) := by decide +kernel
theorem dX5_inCell_8 : decode cX5_inCell 8 = .ok (.istore_n 2, 1) := by decide +kernel
theorem dX5_inCell_9 : decode cX5_inCell 9 = .ok (.iload_n 2, 1) := by decide +kernel
theorem dX5_inCell_10 : decode cX5_inCell 10 = .ok (.bipush 115, 2) := by decide +kernel
theorem dX5_inCell_12 : decode cX5_inCell 12 = .ok (.if_icmp .ne 13, 3) := by decide +kernel
theorem dX5_inCell_15 : decode cX5_inCell 15 = .ok (.iconst 1, 1) := by decide +kernel
theorem dX5_inCell_16 : decode cX5_inCell 16 = .ok (.aload_n 0, 1) := by decide +kernel
theorem dX5_inCell_17 : decode cX5_inCell 17 = .ok (.iload_n 1, 1) := by decide +kernel
theorem dX5_inCell_18 : decode cX5_inCell 18 = .ok (.bipush 115, 2) := by decide +kernel
theorem dX5_inCell_20 : decode cX5_inCell 20 = .ok (.invokevirtual 23, 3) := by decide +kernel
theorem dX5_inCell_23 : decode cX5_inCell 23 = .ok (.iadd, 1) := by decide +kernel
theorem dX5_inCell_24 : decode cX5_inCell 24 = .ok (.ireturn, 1) := by decide +kernel
theorem dX5_inCell_25 : decode cX5_inCell 25 = .ok (.iload_n 2, 1) := by decide +kernel
theorem dX5_inCell_26 : decode cX5_inCell 26 = .ok (.bipush 108, 2) := by decide +kernel
theorem dX5_inCell_28 : decode cX5_inCell 28 = .ok (.if_icmp .ne 19, 3) := by decide +kernel
theorem dX5_inCell_31 : decode cX5_inCell 31 = .ok (.iconst 2, 1) := by decide +kernel
theorem dX5_inCell_32 : decode cX5_inCell 32 = .ok (.aload_n 0, 1) := by decide +kernel
theorem dX5_inCell_33 : decode cX5_inCell 33 = .ok (.iload_n 1, 1) := by decide +kernel
theorem dX5_inCell_34 : decode cX5_inCell 34 = .ok (.invokevirtual 27, 3) := by decide +kernel
theorem dX5_inCell_37 : decode cX5_inCell 37 = .ok (.iadd, 1) := by decide +kernel
theorem dX5_inCell_38 : decode cX5_inCell 38 = .ok (.aload_n 0, 1) := by decide +kernel
theorem dX5_inCell_39 : decode cX5_inCell 39 = .ok (.iload_n 1, 1) := by decide +kernel
theorem dX5_inCell_40 : decode cX5_inCell 40 = .ok (.bipush 108, 2) := by decide +kernel
theorem dX5_inCell_42 : decode cX5_inCell 42 = .ok (.invokevirtual 23, 3) := by decide +kernel
theorem dX5_inCell_45 : decode cX5_inCell 45 = .ok (.isub, 1) := by decide +kernel
theorem dX5_inCell_46 : decode cX5_inCell 46 = .ok (.ireturn, 1) := by decide +kernel
theorem dX5_inCell_47 : decode cX5_inCell 47 = .ok (.aload_n 0, 1) := by decide +kernel
theorem dX5_inCell_48 : decode cX5_inCell 48 = .ok (.iload_n 1, 1) := by decide +kernel
theorem dX5_inCell_49 : decode cX5_inCell 49 = .ok (.invokestatic 31, 3) := by decide +kernel
theorem dX5_inCell_52 : decode cX5_inCell 52 = .ok (.ireturn, 1) := by decide +kernel
theorem dX5_sheetBySheet_0 : decode cX5_sheetBySheet 0 = .ok (.iconst 0, 1) := by decide +kernel
theorem dX5_sheetBySheet_1 : decode cX5_sheetBySheet 1 = .ok (.istore_n 1, 1) := by decide +kernel
theorem dX5_sheetBySheet_2 : decode cX5_sheetBySheet 2 = .ok (.iconst 0, 1) := by decide +kernel
theorem dX5_sheetBySheet_3 : decode cX5_sheetBySheet 3 = .ok (.istore_n 2, 1) := by decide +kernel
theorem dX5_sheetBySheet_4 : decode cX5_sheetBySheet 4 = .ok (.iload_n 2, 1) := by decide +kernel
theorem dX5_sheetBySheet_5 : decode cX5_sheetBySheet 5 = .ok (.bipush 9, 2) := by decide +kernel
theorem dX5_sheetBySheet_7 : decode cX5_sheetBySheet 7 = .ok (.if_icmp .ge 25, 3) := by decide +kernel
theorem dX5_sheetBySheet_10 : decode cX5_sheetBySheet 10 = .ok (.aload_n 0, 1) := by decide +kernel
theorem dX5_sheetBySheet_11 : decode cX5_sheetBySheet 11 = .ok (.iload_n 2, 1) := by decide +kernel
theorem dX5_sheetBySheet_12 : decode cX5_sheetBySheet 12 = .ok (.invokevirtual 35, 3) := by decide +kernel
theorem dX5_sheetBySheet_15 : decode cX5_sheetBySheet 15 = .ok (.ifCond .eq 11, 3) := by decide +kernel
theorem dX5_sheetBySheet_18 : decode cX5_sheetBySheet 18 = .ok (.iload_n 1, 1) := by decide +kernel
theorem dX5_sheetBySheet_19 : decode cX5_sheetBySheet 19 = .ok (.aload_n 0, 1) := by decide +kernel
theorem dX5_sheetBySheet_20 : decode cX5_sheetBySheet 20 = .ok (.iload_n 2, 1) := by decide +kernel
theorem dX5_sheetBySheet_21 : decode cX5_sheetBySheet 21 = .ok (.invokestatic 39, 3) := by decide +kernel
theorem dX5_sheetBySheet_24 : decode cX5_sheetBySheet 24 = .ok (.iadd, 1) := by decide +kernel
theorem dX5_sheetBySheet_25 : decode cX5_sheetBySheet 25 = .ok (.istore_n 1, 1) := by decide +kernel
theorem dX5_sheetBySheet_26 : decode cX5_sheetBySheet 26 = .ok (.iinc 2 1, 3) := by decide +kernel
theorem dX5_sheetBySheet_29 : decode cX5_sheetBySheet 29 = .ok (.goto (-25), 3) := by decide +kernel
theorem dX5_sheetBySheet_32 : decode cX5_sheetBySheet 32 = .ok (.iload_n 1, 1) := by decide +kernel
theorem dX5_sheetBySheet_33 : decode cX5_sheetBySheet 33 = .ok (.ireturn, 1) := by decide +kernel
theorem dX5_ofCity_0 : decode cX5_ofCity 0 = .ok (.iconst 0, 1) := by decide +kernel
theorem dX5_ofCity_1 : decode cX5_ofCity 1 = .ok (.bipush 6, 2) := by decide +kernel
theorem dX5_ofCity_3 : decode cX5_ofCity 3 = .ok (.iconst 2, 1) := by decide +kernel
theorem dX5_ofCity_4 : decode cX5_ofCity 4 = .ok (.aload_n 0, 1) := by decide +kernel
theorem dX5_ofCity_5 : decode cX5_ofCity 5 = .ok (.iload_n 1, 1) := by decide +kernel
theorem dX5_ofCity_6 : decode cX5_ofCity 6 = .ok (.bipush 99, 2) := by decide +kernel
theorem dX5_ofCity_8 : decode cX5_ofCity 8 = .ok (.invokevirtual 23, 3) := by decide +kernel
theorem dX5_ofCity_11 : decode cX5_ofCity 11 = .ok (.imul, 1) := by decide +kernel
theorem dX5_ofCity_12 : decode cX5_ofCity 12 = .ok (.isub, 1) := by decide +kernel
theorem dX5_ofCity_13 : decode cX5_ofCity 13 = .ok (.invokestatic 50, 3) := by decide +kernel
theorem dX5_ofCity_16 : decode cX5_ofCity 16 = .ok (.ireturn, 1) := by decide +kernel
theorem dX6_init_0 : decode cX6_init 0 = .ok (.aload_n 0, 1) := by decide +kernel
theorem dX6_init_1 : decode cX6_init 1 = .ok (.invokespecial 3, 3) := by decide +kernel
theorem dX6_init_4 : decode cX6_init 4 = .ok (.aload_n 0, 1) := by decide +kernel
theorem dX6_init_5 : decode cX6_init 5 = .ok (.bipush 60, 2) := by decide +kernel
theorem dX6_init_7 : decode cX6_init 7 = .ok (.newarray .char, 2) := by decide +kernel
theorem dX6_init_9 : decode cX6_init 9 = .ok (.putfield 9, 3) := by decide +kernel
theorem dX6_init_12 : decode cX6_init 12 = .ok (.aload_n 0, 1) := by decide +kernel
theorem dX6_init_13 : decode cX6_init 13 = .ok (.bipush 60, 2) := by decide +kernel
theorem dX6_init_15 : decode cX6_init 15 = .ok (.newarray .int, 2) := by decide +kernel
theorem dX6_init_17 : decode cX6_init 17 = .ok (.putfield 15, 3) := by decide +kernel
theorem dX6_init_20 : decode cX6_init 20 = .ok (.aload_n 0, 1) := by decide +kernel
theorem dX6_init_21 : decode cX6_init 21 = .ok (.bipush 60, 2) := by decide +kernel
theorem dX6_init_23 : decode cX6_init 23 = .ok (.newarray .int, 2) := by decide +kernel
theorem dX6_init_25 : decode cX6_init 25 = .ok (.putfield 19, 3) := by decide +kernel
theorem dX6_init_28 : decode cX6_init 28 = .ok (.return_, 1) := by decide +kernel
theorem dX6_isFull_0 : decode cX6_isFull 0 = .ok (.aload_n 0, 1) := by decide +kernel
theorem dX6_isFull_1 : decode cX6_isFull 1 = .ok (.getfield 22, 3) := by decide +kernel
theorem dX6_isFull_4 : decode cX6_isFull 4 = .ok (.bipush 60, 2) := by decide +kernel
theorem dX6_isFull_6 : decode cX6_isFull 6 = .ok (.if_icmp .lt 7, 3) := by decide +kernel
theorem dX6_isFull_9 : decode cX6_isFull 9 = .ok (.iconst 1, 1) := by decide +kernel
theorem dX6_isFull_10 : decode cX6_isFull 10 = .ok (.goto 4, 3) := by decide +kernel
theorem dX6_isFull_13 : decode cX6_isFull 13 = .ok (.iconst 0, 1) := by decide +kernel
theorem dX6_isFull_14 : decode cX6_isFull 14 = .ok (.ireturn, 1) := by decide +kernel
theorem dX6_append_0 : decode cX6_append 0 = .ok (.aload_n 0, 1) := by decide +kernel
theorem dX6_append_1 : decode cX6_append 1 = .ok (.getfield 9, 3) := by decide +kernel
theorem dX6_append_4 : decode cX6_append 4 = .ok (.aload_n 0, 1) := by decide +kernel
theorem dX6_append_5 : decode cX6_append 5 = .ok (.getfield 22, 3) := by decide +kernel
theorem dX6_append_8 : decode cX6_append 8 = .ok (.iload_n 1, 1) := by decide +kernel
theorem dX6_append_9 : decode cX6_append 9 = .ok (.castore, 1) := by decide +kernel
theorem dX6_append_10 : decode cX6_append 10 = .ok (.aload_n 0, 1) := by decide +kernel
theorem dX6_append_11 : decode cX6_append 11 = .ok (.dup, 1) := by decide +kernel
theorem dX6_append_12 : decode cX6_append 12 = .ok (.getfield 22, 3) := by decide +kernel
theorem dX6_append_15 : decode cX6_append 15 = .ok (.iconst 1, 1) := by decide +kernel
theorem dX6_append_16 : decode cX6_append 16 = .ok (.iadd, 1) := by decide +kernel
theorem dX6_append_17 : decode cX6_append 17 = .ok (.putfield 22, 3) := by decide +kernel
theorem dX6_append_20 : decode cX6_append 20 = .ok (.return_, 1) := by decide +kernel
theorem dX6_empty_0 : decode cX6_empty 0 = .ok (.aload_n 0, 1) := by decide +kernel
theorem dX6_empty_1 : decode cX6_empty 1 = .ok (.iconst 0, 1) := by decide +kernel
theorem dX6_empty_2 : decode cX6_empty 2 = .ok (.putfield 22, 3) := by decide +kernel
theorem dX6_empty_5 : decode cX6_empty 5 = .ok (.return_, 1) := by decide +kernel
theorem dX6_read_0 : decode cX6_read 0 = .ok (.aload_n 0, 1) := by decide +kernel
theorem dX6_read_1 : decode cX6_read 1 = .ok (.iconst 0, 1) := by decide +kernel
theorem dX6_read_2 : decode cX6_read 2 = .ok (.putfield 26, 3) := by decide +kernel
theorem dX6_read_5 : decode cX6_read 5 = .ok (.iconst 0, 1) := by decide +kernel
theorem dX6_read_6 : decode cX6_read 6 = .ok (.istore_n 1, 1) := by decide +kernel
theorem dX6_read_7 : decode cX6_read 7 = .ok (.invokestatic 29, 3) := by decide +kernel
theorem dX6_read_10 : decode cX6_read 10 = .ok (.istore_n 2, 1) := by decide +kernel
theorem dX6_read_11 : decode cX6_read 11 = .ok (.iconst 0, 1) := by decide +kernel
theorem dX6_read_12 : decode cX6_read 12 = .ok (.istore_n 3, 1) := by decide +kernel
theorem dX6_read_13 : decode cX6_read 13 = .ok (.iload_n 3, 1) := by decide +kernel
theorem dX6_read_14 : decode cX6_read 14 = .ok (.aload_n 0, 1) := by decide +kernel
theorem dX6_read_15 : decode cX6_read 15 = .ok (.getfield 22, 3) := by decide +kernel
theorem dX6_read_18 : decode cX6_read 18 = .ok (.if_icmp .ge 63, 3) := by decide +kernel
theorem dX6_read_21 : decode cX6_read 21 = .ok (.aload_n 0, 1) := by decide +kernel
theorem dX6_read_22 : decode cX6_read 22 = .ok (.getfield 9, 3) := by decide +kernel
theorem dX6_read_25 : decode cX6_read 25 = .ok (.iload_n 3, 1) := by decide +kernel
theorem dX6_read_26 : decode cX6_read 26 = .ok (.caload, 1) := by decide +kernel
theorem dX6_read_27 : decode cX6_read 27 = .ok (.bipush 59, 2) := by decide +kernel
theorem dX6_read_29 : decode cX6_read 29 = .ok (.if_icmp .ne 26, 3) := by decide +kernel
theorem dX6_read_32 : decode cX6_read 32 = .ok (.aload_n 0, 1) := by decide +kernel
theorem dX6_read_33 : decode cX6_read 33 = .ok (.iload_n 2, 1) := by decide +kernel
theorem dX6_read_34 : decode cX6_read 34 = .ok (.iload_n 1, 1) := by decide +kernel
theorem dX6_read_35 : decode cX6_read 35 = .ok (.iload_n 3, 1) := by decide +kernel
theorem dX6_read_36 : decode cX6_read 36 = .ok (.invokevirtual 33, 3) := by decide +kernel
theorem dX6_read_39 : decode cX6_read 39 = .ok (.ifCond .ne 5, 3) := by decide +kernel
theorem dX6_read_42 : decode cX6_read 42 = .ok (.iload_n 3, 1) := by decide +kernel
theorem dX6_read_43 : decode cX6_read 43 = .ok (.ireturn, 1) := by decide +kernel
theorem dX6_read_44 : decode cX6_read 44 = .ok (.iload_n 3, 1) := by decide +kernel
theorem dX6_read_45 : decode cX6_read 45 = .ok (.iconst 1, 1) := by decide +kernel
theorem dX6_read_46 : decode cX6_read 46 = .ok (.iadd, 1) := by decide +kernel
theorem dX6_read_47 : decode cX6_read 47 = .ok (.istore_n 1, 1) := by decide +kernel
theorem dX6_read_48 : decode cX6_read 48 = .ok (.invokestatic 29, 3) := by decide +kernel
theorem dX6_read_51 : decode cX6_read 51 = .ok (.istore_n 2, 1) := by decide +kernel
theorem dX6_read_52 : decode cX6_read 52 = .ok (.goto 23, 3) := by decide +kernel
theorem dX6_read_55 : decode cX6_read 55 = .ok (.iload_n 2, 1) := by decide +kernel
theorem dX6_read_56 : decode cX6_read 56 = .ok (.aload_n 0, 1) := by decide +kernel
theorem dX6_read_57 : decode cX6_read 57 = .ok (.getfield 9, 3) := by decide +kernel
theorem dX6_read_60 : decode cX6_read 60 = .ok (.iload_n 3, 1) := by decide +kernel
theorem dX6_read_61 : decode cX6_read 61 = .ok (.caload, 1) := by decide +kernel
theorem dX6_read_62 : decode cX6_read 62 = .ok (.iload_n 3, 1) := by decide +kernel
theorem dX6_read_63 : decode cX6_read 63 = .ok (.iload_n 1, 1) := by decide +kernel
theorem dX6_read_64 : decode cX6_read 64 = .ok (.isub, 1) := by decide +kernel
theorem dX6_read_65 : decode cX6_read 65 = .ok (.invokestatic 37, 3) := by decide +kernel
theorem dX6_read_68 : decode cX6_read 68 = .ok (.istore_n 2, 1) := by decide +kernel
theorem dX6_read_69 : decode cX6_read 69 = .ok (.iload_n 2, 1) := by decide +kernel
theorem dX6_read_70 : decode cX6_read 70 = .ok (.ifCond .ne 5, 3) := by decide +kernel
theorem dX6_read_73 : decode cX6_read 73 = .ok (.iload_n 3, 1) := by decide +kernel
theorem dX6_read_74 : decode cX6_read 74 = .ok (.ireturn, 1) := by decide +kernel
theorem dX6_read_75 : decode cX6_read 75 = .ok (.iinc 3 1, 3) := by decide +kernel
theorem dX6_read_78 : decode cX6_read 78 = .ok (.goto (-65), 3) := by decide +kernel
theorem dX6_read_81 : decode cX6_read 81 = .ok (.aload_n 0, 1) := by decide +kernel
theorem dX6_read_82 : decode cX6_read 82 = .ok (.iload_n 2, 1) := by decide +kernel
theorem dX6_read_83 : decode cX6_read 83 = .ok (.iload_n 1, 1) := by decide +kernel
theorem dX6_read_84 : decode cX6_read 84 = .ok (.aload_n 0, 1) := by decide +kernel
theorem dX6_read_85 : decode cX6_read 85 = .ok (.getfield 22, 3) := by decide +kernel
theorem dX6_read_88 : decode cX6_read 88 = .ok (.invokevirtual 33, 3) := by decide +kernel
theorem dX6_read_91 : decode cX6_read 91 = .ok (.ifCond .eq 7, 3) := by decide +kernel
theorem dX6_read_94 : decode cX6_read 94 = .ok (.iconst (-1), 1) := by decide +kernel
theorem dX6_read_95 : decode cX6_read 95 = .ok (.goto 7, 3) := by decide +kernel
theorem dX6_read_98 : decode cX6_read 98 = .ok (.aload_n 0, 1) := by decide +kernel
theorem dX6_read_99 : decode cX6_read 99 = .ok (.getfield 22, 3) := by decide +kernel
theorem dX6_read_102 : decode cX6_read 102 = .ok (.ireturn, 1) := by decide +kernel
theorem dX6_allForms_0 : decode cX6_allForms 0 = .ok (.iconst 1, 1) := by decide +kernel
theorem dX6_allForms_1 : decode cX6_allForms 1 = .ok (.getstatic 41, 3) := by decide +kernel
theorem dX6_allForms_4 : decode cX6_allForms 4 = .ok (.arraylength, 1) := by decide +kernel
theorem dX6_allForms_5 : decode cX6_allForms 5 = .ok (.ishl, 1) := by decide +kernel
theorem dX6_allForms_6 : decode cX6_allForms 6 = .ok (.iconst 1, 1) := by decide +kernel
theorem dX6_allForms_7 : decode cX6_allForms 7 = .ok (.isub, 1) := by decide +kernel
theorem dX6_allForms_8 : decode cX6_allForms 8 = .ok (.ireturn, 1) := by decide +kernel
theorem dX6_stillAlive_0 : decode cX6_stillAlive 0 = .ok (.iconst 0, 1) := by decide +kernel
theorem dX6_stillAlive_1 : decode cX6_stillAlive 1 = .ok (.istore_n 3, 1) := by decide +kernel
theorem dX6_stillAlive_2 : decode cX6_stillAlive 2 = .ok (.iconst 0, 1) := by decide +kernel
theorem dX6_stillAlive_3 : decode cX6_stillAlive 3 = .ok (.istore 4, 2) := by decide +kernel
theorem dX6_stillAlive_5 : decode cX6_stillAlive 5 = .ok (.iload 4, 2) := by decide +kernel
theorem dX6_stillAlive_7 : decode cX6_stillAlive 7 = .ok (.getstatic 41, 3) := by decide +kernel
theorem dX6_stillAlive_10 : decode cX6_stillAlive 10 = .ok (.arraylength, 1) := by decide +kernel
theorem dX6_stillAlive_11 : decode cX6_stillAlive 11 = .ok (.if_icmp .ge 40, 3) := by decide +kernel
theorem dX6_stillAlive_14 : decode cX6_stillAlive 14 = .ok (.iload_n 0, 1) := by decide +kernel
theorem dX6_stillAlive_15 : decode cX6_stillAlive 15 = .ok (.iload 4, 2) := by decide +kernel
theorem dX6_stillAlive_17 : decode cX6_stillAlive 17 = .ok (.ishr, 1) := by decide +kernel
theorem dX6_stillAlive_18 : decode cX6_stillAlive 18 = .ok (.iconst 1, 1) := by decide +kernel
theorem dX6_stillAlive_19 : decode cX6_stillAlive 19 = .ok (.iand, 1) := by decide +kernel
theorem dX6_stillAlive_20 : decode cX6_stillAlive 20 = .ok (.iconst 1, 1) := by decide +kernel
theorem dX6_stillAlive_21 : decode cX6_stillAlive 21 = .ok (.if_icmp .ne 24, 3) := by decide +kernel
theorem dX6_stillAlive_24 : decode cX6_stillAlive 24 = .ok (.getstatic 41, 3) := by decide +kernel
theorem dX6_stillAlive_27 : decode cX6_stillAlive 27 = .ok (.iload 4, 2) := by decide +kernel
theorem dX6_stillAlive_29 : decode cX6_stillAlive 29 = .ok (.aaload, 1) := by decide +kernel
theorem dX6_stillAlive_30 : decode cX6_stillAlive 30 = .ok (.iload_n 1, 1) := by decide +kernel
theorem dX6_stillAlive_31 : decode cX6_stillAlive 31 = .ok (.iload_n 2, 1) := by decide +kernel
theorem dX6_stillAlive_32 : decode cX6_stillAlive 32 = .ok (.invokevirtual 45, 3) := by decide +kernel
theorem dX6_stillAlive_35 : decode cX6_stillAlive 35 = .ok (.ifCond .eq 10, 3) := by decide +kernel
theorem dX6_stillAlive_38 : decode cX6_stillAlive 38 = .ok (.iload_n 3, 1) := by decide +kernel
theorem dX6_stillAlive_39 : decode cX6_stillAlive 39 = .ok (.iconst 1, 1) := by decide +kernel
theorem dX6_stillAlive_40 : decode cX6_stillAlive 40 = .ok (.iload 4, 2) := by decide +kernel
theorem dX6_stillAlive_42 : decode cX6_stillAlive 42 = .ok (.ishl, 1) := by decide +kernel
theorem dX6_stillAlive_43 : decode cX6_stillAlive 43 = .ok (.ior, 1) := by decide +kernel
theorem dX6_stillAlive_44 : decode cX6_stillAlive 44 = .ok (.istore_n 3, 1) := by decide +kernel
theorem dX6_stillAlive_45 : decode cX6_stillAlive 45 = .ok (.iinc 4 1, 3) := by decide +kernel
theorem dX6_stillAlive_48 : decode cX6_stillAlive 48 = .ok (.goto (-43), 3) := by decide +kernel
theorem dX6_stillAlive_51 : decode cX6_stillAlive 51 = .ok (.iload_n 3, 1) := by decide +kernel
theorem dX6_stillAlive_52 : decode cX6_stillAlive 52 = .ok (.ireturn, 1) := by decide +kernel
theorem dX6_noteCommand_0 : decode cX6_noteCommand 0 = .ok (.iconst 0, 1) := by decide +kernel
theorem dX6_noteCommand_1 : decode cX6_noteCommand 1 = .ok (.istore 4, 2) := by decide +kernel
theorem dX6_noteCommand_3 : decode cX6_noteCommand 3 = .ok (.iload 4, 2) := by decide +kernel
theorem dX6_noteCommand_5 : decode cX6_noteCommand 5 = .ok (.getstatic 41, 3) := by decide +kernel
theorem dX6_noteCommand_8 : decode cX6_noteCommand 8 = .ok (.arraylength, 1) := by decide +kernel
theorem dX6_noteCommand_9 : decode cX6_noteCommand 9 = .ok (.if_icmp .ge 67, 3) := by decide +kernel
theorem dX6_noteCommand_12 : decode cX6_noteCommand 12 = .ok (.iload_n 1, 1) := by decide +kernel
theorem dX6_noteCommand_13 : decode cX6_noteCommand 13 = .ok (.iload 4, 2) := by decide +kernel
theorem dX6_noteCommand_15 : decode cX6_noteCommand 15 = .ok (.ishr, 1) := by decide +kernel
theorem dX6_noteCommand_16 : decode cX6_noteCommand 16 = .ok (.iconst 1, 1) := by decide +kernel
theorem dX6_noteCommand_17 : decode cX6_noteCommand 17 = .ok (.iand, 1) := by decide +kernel
theorem dX6_noteCommand_18 : decode cX6_noteCommand 18 = .ok (.iconst 1, 1) := by decide +kernel
theorem dX6_noteCommand_19 : decode cX6_noteCommand 19 = .ok (.if_icmp .ne 51, 3) := by decide +kernel
theorem dX6_noteCommand_22 : decode cX6_noteCommand 22 = .ok (.getstatic 41, 3) := by decide +kernel
theorem dX6_noteCommand_25 : decode cX6_noteCommand 25 = .ok (.iload 4, 2) := by decide +kernel
theorem dX6_noteCommand_27 : decode cX6_noteCommand 27 = .ok (.aaload, 1) := by decide +kernel
theorem dX6_noteCommand_28 : decode cX6_noteCommand 28 = .ok (.invokevirtual 51, 3) := by decide +kernel
theorem dX6_noteCommand_31 : decode cX6_noteCommand 31 = .ok (.iload_n 3, 1) := by decide +kernel
theorem dX6_noteCommand_32 : decode cX6_noteCommand 32 = .ok (.iload_n 2, 1) := by decide +kernel
theorem dX6_noteCommand_33 : decode cX6_noteCommand 33 = .ok (.isub, 1) := by decide +kernel
theorem dX6_noteCommand_34 : decode cX6_noteCommand 34 = .ok (.if_icmp .ne 36, 3) := by decide +kernel
theorem dX6_noteCommand_37 : decode cX6_noteCommand 37 = .ok (.aload_n 0, 1) := by decide +kernel
theorem dX6_noteCommand_38 : decode cX6_noteCommand 38 = .ok (.getfield 15, 3) := by decide +kernel
theorem dX6_noteCommand_41 : decode cX6_noteCommand 41 = .ok (.aload_n 0, 1) := by decide +kernel
theorem dX6_noteCommand_42 : decode cX6_noteCommand 42 = .ok (.getfield 26, 3) := by decide +kernel
theorem dX6_noteCommand_45 : decode cX6_noteCommand 45 = .ok (.iload_n 2, 1) := by decide +kernel
theorem dX6_noteCommand_46 : decode cX6_noteCommand 46 = .ok (.iastore, 1) := by decide +kernel
theorem dX6_noteCommand_47 : decode cX6_noteCommand 47 = .ok (.aload_n 0, 1) := by decide +kernel
theorem dX6_noteCommand_48 : decode cX6_noteCommand 48 = .ok (.getfield 19, 3) := by decide +kernel
theorem dX6_noteCommand_51 : decode cX6_noteCommand 51 = .ok (.aload_n 0, 1) := by decide +kernel
theorem dX6_noteCommand_52 : decode cX6_noteCommand 52 = .ok (.getfield 26, 3) := by decide +kernel
theorem dX6_noteCommand_55 : decode cX6_noteCommand 55 = .ok (.iload 4, 2) := by decide +kernel
theorem dX6_noteCommand_57 : decode cX6_noteCommand 57 = .ok (.iastore, 1) := by decide +kernel
theorem dX6_noteCommand_58 : decode cX6_noteCommand 58 = .ok (.aload_n 0, 1) := by decide +kernel
theorem dX6_noteCommand_59 : decode cX6_noteCommand 59 = .ok (.dup, 1) := by decide +kernel
theorem dX6_noteCommand_60 : decode cX6_noteCommand 60 = .ok (.getfield 26, 3) := by decide +kernel
theorem dX6_noteCommand_63 : decode cX6_noteCommand 63 = .ok (.iconst 1, 1) := by decide +kernel
theorem dX6_noteCommand_64 : decode cX6_noteCommand 64 = .ok (.iadd, 1) := by decide +kernel
theorem dX6_noteCommand_65 : decode cX6_noteCommand 65 = .ok (.putfield 26, 3) := by decide +kernel
theorem dX6_noteCommand_68 : decode cX6_noteCommand 68 = .ok (.iconst 1, 1) := by decide +kernel
theorem dX6_noteCommand_69 : decode cX6_noteCommand 69 = .ok (.ireturn, 1) := by decide +kernel
theorem dX6_noteCommand_70 : decode cX6_noteCommand 70 = .ok (.iinc 4 1, 3) := by decide +kernel
theorem dX6_noteCommand_73 : decode cX6_noteCommand 73 = .ok (.goto (-70), 3) := by decide +kernel
theorem dX6_noteCommand_76 : decode cX6_noteCommand 76 = .ok (.iconst 0, 1) := by decide +kernel
theorem dX6_noteCommand_77 : decode cX6_noteCommand 77 = .ok (.ireturn, 1) := by decide +kernel
theorem dX6_signIn_0 : decode cX6_signIn 0 = .ok (.getstatic 41, 3) := by decide +kernel
theorem dX6_signIn_3 : decode cX6_signIn 3 = .ok (.aload_n 0, 1) := by decide +kernel
theorem dX6_signIn_4 : decode cX6_signIn 4 = .ok (.getfield 19, 3) := by decide +kernel
theorem dX6_signIn_7 : decode cX6_signIn 7 = .ok (.iload_n 1, 1) := by decide +kernel
theorem dX6_signIn_8 : decode cX6_signIn 8 = .ok (.iaload, 1) := by decide +kernel
theorem dX6_signIn_9 : decode cX6_signIn 9 = .ok (.aaload, 1) := by decide +kernel
theorem dX6_signIn_10 : decode cX6_signIn 10 = .ok (.iload_n 2, 1) := by decide +kernel
theorem dX6_signIn_11 : decode cX6_signIn 11 = .ok (.invokevirtual 54, 3) := by decide +kernel
theorem dX6_signIn_14 : decode cX6_signIn 14 = .ok (.istore_n 3, 1) := by decide +kernel
theorem dX6_signIn_15 : decode cX6_signIn 15 = .ok (.iload_n 3, 1) := by decide +kernel
theorem dX6_signIn_16 : decode cX6_signIn 16 = .ok (.iconst (-1), 1) := by decide +kernel
theorem dX6_signIn_17 : decode cX6_signIn 17 = .ok (.if_icmp .ne 8, 3) := by decide +kernel
theorem dX6_signIn_20 : decode cX6_signIn 20 = .ok (.bipush 32, 2) := by decide +kernel
theorem dX6_signIn_22 : decode cX6_signIn 22 = .ok (.goto 16, 3) := by decide +kernel
theorem dX6_signIn_25 : decode cX6_signIn 25 = .ok (.aload_n 0, 1) := by decide +kernel
theorem dX6_signIn_26 : decode cX6_signIn 26 = .ok (.getfield 9, 3) := by decide +kernel
theorem dX6_signIn_29 : decode cX6_signIn 29 = .ok (.aload_n 0, 1) := by decide +kernel
theorem dX6_signIn_30 : decode cX6_signIn 30 = .ok (.getfield 15, 3) := by decide +kernel
theorem dX6_signIn_33 : decode cX6_signIn 33 = .ok (.iload_n 1, 1) := by decide +kernel
theorem dX6_signIn_34 : decode cX6_signIn 34 = .ok (.iaload, 1) := by decide +kernel
theorem dX6_signIn_35 : decode cX6_signIn 35 = .ok (.iload_n 3, 1) := by decide +kernel
theorem dX6_signIn_36 : decode cX6_signIn 36 = .ok (.iadd, 1) := by decide +kernel
theorem dX6_signIn_37 : decode cX6_signIn 37 = .ok (.caload, 1) := by decide +kernel
theorem dX6_signIn_38 : decode cX6_signIn 38 = .ok (.ireturn, 1) := by decide +kernel
theorem dX6_numberIn_0 : decode cX6_numberIn 0 = .ok (.aload_n 0, 1) := by decide +kernel
theorem dX6_numberIn_1 : decode cX6_numberIn 1 = .ok (.iload_n 1, 1) := by decide +kernel
theorem dX6_numberIn_2 : decode cX6_numberIn 2 = .ok (.iload_n 2, 1) := by decide +kernel
theorem dX6_numberIn_3 : decode cX6_numberIn 3 = .ok (.invokevirtual 58, 3) := by decide +kernel
theorem dX6_numberIn_6 : decode cX6_numberIn 6 = .ok (.bipush 48, 2) := by decide +kernel
theorem dX6_numberIn_8 : decode cX6_numberIn 8 = .ok (.isub, 1) := by decide +kernel
theorem dX6_numberIn_9 : decode cX6_numberIn 9 = .ok (.ireturn, 1) := by decide +kernel
theorem dX7_init_0 : decode cX7_init 0 = .ok (.aload_n 0, 1) := by decide +kernel
theorem dX7_init_1 : decode cX7_init 1 = .ok (.invokespecial 3, 3) := by decide +kernel
theorem dX7_init_4 : decode cX7_init 4 = .ok (.aload_n 0, 1) := by decide +kernel
theorem dX7_init_5 : decode cX7_init 5 = .ok (.iconst 4, 1) := by decide +kernel
theorem dX7_init_6 : decode cX7_init 6 = .ok (.newarray .int, 2) := by decide +kernel
theorem dX7_init_8 : decode cX7_init 8 = .ok (.putfield 9, 3) := by decide +kernel
theorem dX7_init_11 : decode cX7_init 11 = .ok (.aload_n 0, 1) := by decide +kernel
theorem dX7_init_12 : decode cX7_init 12 = .ok (.bipush 6, 2) := by decide +kernel
theorem dX7_init_14 : decode cX7_init 14 = .ok (.newarray .char, 2) := by decide +kernel
theorem dX7_init_16 : decode cX7_init 16 = .ok (.putfield 15, 3) := by decide +kernel
theorem dX7_init_19 : decode cX7_init 19 = .ok (.aload_n 0, 1) := by decide +kernel
theorem dX7_init_20 : decode cX7_init 20 = .ok (.bipush 115, 2) := by decide +kernel
theorem dX7_init_22 : decode cX7_init 22 = .ok (.putfield 19, 3) := by decide +kernel
theorem dX7_init_25 : decode cX7_init 25 = .ok (.aload_n 0, 1) := by decide +kernel
theorem dX7_init_26 : decode cX7_init 26 = .ok (.iconst (-1), 1) := by decide +kernel
theorem dX7_init_27 : decode cX7_init 27 = .ok (.putfield 23, 3) := by decide +kernel
theorem dX7_init_30 : decode cX7_init 30 = .ok (.return_, 1) := by decide +kernel
theorem dX7_begin_0 : decode cX7_begin 0 = .ok (.aload_n 0, 1) := by decide +kernel
theorem dX7_begin_1 : decode cX7_begin 1 = .ok (.getfield 9, 3) := by decide +kernel
theorem dX7_begin_4 : decode cX7_begin 4 = .ok (.iconst 0, 1) := by decide +kernel
theorem dX7_begin_5 : decode cX7_begin 5 = .ok (.iload_n 1, 1) := by decide +kernel
theorem dX7_begin_6 : decode cX7_begin 6 = .ok (.iastore, 1) := by decide +kernel
theorem dX7_begin_7 : decode cX7_begin 7 = .ok (.aload_n 0, 1) := by decide +kernel
theorem dX7_begin_8 : decode cX7_begin 8 = .ok (.getfield 9, 3) := by decide +kernel
theorem dX7_begin_11 : decode cX7_begin 11 = .ok (.iconst 1, 1) := by decide +kernel
theorem dX7_begin_12 : decode cX7_begin 12 = .ok (.iload_n 2, 1) := by decide +kernel
theorem dX7_begin_13 : decode cX7_begin 13 = .ok (.iastore, 1) := by decide +kernel
theorem dX7_begin_14 : decode cX7_begin 14 = .ok (.aload_n 0, 1) := by decide +kernel
theorem dX7_begin_15 : decode cX7_begin 15 = .ok (.getfield 9, 3) := by decide +kernel
theorem dX7_begin_18 : decode cX7_begin 18 = .ok (.iconst 2, 1) := by decide +kernel
theorem dX7_begin_19 : decode cX7_begin 19 = .ok (.iload_n 3, 1) := by decide +kernel
theorem dX7_begin_20 : decode cX7_begin 20 = .ok (.iastore, 1) := by decide +kernel
theorem dX7_begin_21 : decode cX7_begin 21 = .ok (.aload_n 0, 1) := by decide +kernel
theorem dX7_begin_22 : decode cX7_begin 22 = .ok (.getfield 9, 3) := by decide +kernel
theorem dX7_begin_25 : decode cX7_begin 25 = .ok (.iconst 3, 1) := by decide +kernel
theorem dX7_begin_26 : decode cX7_begin 26 = .ok (.iload 4, 2) := by decide +kernel
theorem dX7_begin_28 : decode cX7_begin 28 = .ok (.iastore, 1) := by decide +kernel
theorem dX7_begin_29 : decode cX7_begin 29 = .ok (.aload_n 0, 1) := by decide +kernel
theorem dX7_begin_30 : decode cX7_begin 30 = .ok (.iload 5, 2) := by decide +kernel
theorem dX7_begin_32 : decode cX7_begin 32 = .ok (.putfield 19, 3) := by decide +kernel
theorem dX7_begin_35 : decode cX7_begin 35 = .ok (.return_, 1) := by decide +kernel
theorem dX7_copyFrom_0 : decode cX7_copyFrom 0 = .ok (.aload_n 1, 1) := by decide +kernel
theorem dX7_copyFrom_1 : decode cX7_copyFrom 1 = .ok (.getfield 9, 3) := by decide +kernel
theorem dX7_copyFrom_4 : decode cX7_copyFrom 4 = .ok (.iconst 0, 1) := by decide +kernel
theorem dX7_copyFrom_5 : decode cX7_copyFrom 5 = .ok (.aload_n 0, 1) := by decide +kernel
theorem dX7_copyFrom_6 : decode cX7_copyFrom 6 = .ok (.getfield 9, 3) := by decide +kernel
theorem dX7_copyFrom_9 : decode cX7_copyFrom 9 = .ok (.iconst 0, 1) := by decide +kernel
theorem dX7_copyFrom_10 : decode cX7_copyFrom 10 = .ok (.iconst 4, 1) := by decide +kernel
theorem dX7_copyFrom_11 : decode cX7_copyFrom 11 = .ok (.invokestatic 27, 3) := by decide +kernel
theorem dX7_copyFrom_14 : decode cX7_copyFrom 14 = .ok (.aload_n 1, 1) := by decide +kernel
theorem dX7_copyFrom_15 : decode cX7_copyFrom 15 = .ok (.getfield 15, 3) := by decide +kernel
theorem dX7_copyFrom_18 : decode cX7_copyFrom 18 = .ok (.iconst 0, 1) := by decide +kernel
theorem dX7_copyFrom_19 : decode cX7_copyFrom 19 = .ok (.aload_n 0, 1) := by decide +kernel
theorem dX7_copyFrom_20 : decode cX7_copyFrom 20 = .ok (.getfield 15, 3) := by decide +kernel
theorem dX7_copyFrom_23 : decode cX7_copyFrom 23 = .ok (.iconst 0, 1) := by decide +kernel
theorem dX7_copyFrom_24 : decode cX7_copyFrom 24 = .ok (.bipush 6, 2) := by decide +kernel
theorem dX7_copyFrom_26 : decode cX7_copyFrom 26 = .ok (.invokestatic 27, 3) := by decide +kernel
theorem dX7_copyFrom_29 : decode cX7_copyFrom 29 = .ok (.aload_n 0, 1) := by decide +kernel
theorem dX7_copyFrom_30 : decode cX7_copyFrom 30 = .ok (.aload_n 1, 1) := by decide +kernel
theorem dX7_copyFrom_31 : decode cX7_copyFrom 31 = .ok (.getfield 19, 3) := by decide +kernel
theorem dX7_copyFrom_34 : decode cX7_copyFrom 34 = .ok (.putfield 19, 3) := by decide +kernel
theorem dX7_copyFrom_37 : decode cX7_copyFrom 37 = .ok (.aload_n 0, 1) := by decide +kernel
theorem dX7_copyFrom_38 : decode cX7_copyFrom 38 = .ok (.aload_n 1, 1) := by decide +kernel
theorem dX7_copyFrom_39 : decode cX7_copyFrom 39 = .ok (.getfield 33, 3) := by decide +kernel
theorem dX7_copyFrom_42 : decode cX7_copyFrom 42 = .ok (.putfield 33, 3) := by decide +kernel
theorem dX7_copyFrom_45 : decode cX7_copyFrom 45 = .ok (.aload_n 0, 1) := by decide +kernel
theorem dX7_copyFrom_46 : decode cX7_copyFrom 46 = .ok (.aload_n 1, 1) := by decide +kernel
theorem dX7_copyFrom_47 : decode cX7_copyFrom 47 = .ok (.getfield 36, 3) := by decide +kernel
theorem dX7_copyFrom_50 : decode cX7_copyFrom 50 = .ok (.putfield 36, 3) := by decide +kernel
theorem dX7_copyFrom_53 : decode cX7_copyFrom 53 = .ok (.aload_n 0, 1) := by decide +kernel
theorem dX7_copyFrom_54 : decode cX7_copyFrom 54 = .ok (.aload_n 1, 1) := by decide +kernel
theorem dX7_copyFrom_55 : decode cX7_copyFrom 55 = .ok (.getfield 39, 3) := by decide +kernel
theorem dX7_copyFrom_58 : decode cX7_copyFrom 58 = .ok (.putfield 39, 3) := by decide +kernel
theorem dX7_copyFrom_61 : decode cX7_copyFrom 61 = .ok (.aload_n 0, 1) := by decide +kernel
theorem dX7_copyFrom_62 : decode cX7_copyFrom 62 = .ok (.aload_n 1, 1) := by decide +kernel
theorem dX7_copyFrom_63 : decode cX7_copyFrom 63 = .ok (.getfield 23, 3) := by decide +kernel
theorem dX7_copyFrom_66 : decode cX7_copyFrom 66 = .ok (.putfield 23, 3) := by decide +kernel
theorem dX7_copyFrom_69 : decode cX7_copyFrom 69 = .ok (.aload_n 0, 1) := by decide +kernel
theorem dX7_copyFrom_70 : decode cX7_copyFrom 70 = .ok (.aload_n 1, 1) := by decide +kernel
theorem dX7_copyFrom_71 : decode cX7_copyFrom 71 = .ok (.getfield 43, 3) := by decide +kernel
theorem dX7_copyFrom_74 : decode cX7_copyFrom 74 = .ok (.putfield 43, 3) := by decide +kernel
theorem dX7_copyFrom_77 : decode cX7_copyFrom 77 = .ok (.return_, 1) := by decide +kernel
theorem dX7_torn_0 : decode cX7_torn 0 = .ok (.aload_n 0, 1) := by decide +kernel
theorem dX7_torn_1 : decode cX7_torn 1 = .ok (.getfield 36, 3) := by decide +kernel
theorem dX7_torn_4 : decode cX7_torn 4 = .ok (.iconst 5, 1) := by decide +kernel
theorem dX7_torn_5 : decode cX7_torn 5 = .ok (.if_icmp .lt 7, 3) := by decide +kernel
theorem dX7_torn_8 : decode cX7_torn 8 = .ok (.iconst 1, 1) := by decide +kernel
theorem dX7_torn_9 : decode cX7_torn 9 = .ok (.goto 4, 3) := by decide +kernel
theorem dX7_torn_12 : decode cX7_torn 12 = .ok (.iconst 0, 1) := by decide +kernel
theorem dX7_torn_13 : decode cX7_torn 13 = .ok (.ireturn, 1) := by decide +kernel
theorem dX7_onTable_0 : decode cX7_onTable 0 = .ok (.aload_n 0, 1) := by decide +kernel
theorem dX7_onTable_1 : decode cX7_onTable 1 = .ok (.getfield 23, 3) := by decide +kernel
theorem dX7_onTable_4 : decode cX7_onTable 4 = .ok (.iconst (-1), 1) := by decide +kernel
theorem dX7_onTable_5 : decode cX7_onTable 5 = .ok (.if_icmp .eq 7, 3) := by decide +kernel
theorem dX7_onTable_8 : decode cX7_onTable 8 = .ok (.iconst 1, 1) := by decide +kernel
theorem dX7_onTable_9 : decode cX7_onTable 9 = .ok (.goto 4, 3) := by decide +kernel
theorem dX7_onTable_12 : decode cX7_onTable 12 = .ok (.iconst 0, 1) := by decide +kernel
theorem dX7_onTable_13 : decode cX7_onTable 13 = .ok (.ireturn, 1) := by decide +kernel
theorem dX7_canBeLaid_0 : decode cX7_canBeLaid 0 = .ok (.aload_n 0, 1) := by decide +kernel
theorem dX7_canBeLaid_1 : decode cX7_canBeLaid 1 = .ok (.getfield 39, 3) := by decide +kernel
theorem dX7_canBeLaid_4 : decode cX7_canBeLaid 4 = .ok (.ifCond .ne 21, 3) := by decide +kernel
theorem dX7_canBeLaid_7 : decode cX7_canBeLaid 7 = .ok (.aload_n 0, 1) := by decide +kernel
theorem dX7_canBeLaid_8 : decode cX7_canBeLaid 8 = .ok (.invokevirtual 46, 3) := by decide +kernel
theorem dX7_canBeLaid_11 : decode cX7_canBeLaid 11 = .ok (.ifCond .ne 14, 3) := by decide +kernel
theorem dX7_canBeLaid_14 : decode cX7_canBeLaid 14 = .ok (.aload_n 0, 1) := by decide +kernel
theorem dX7_canBeLaid_15 : decode cX7_canBeLaid 15 = .ok (.invokevirtual 50, 3) := by decide +kernel
theorem dX7_canBeLaid_18 : decode cX7_canBeLaid 18 = .ok (.ifCond .ne 7, 3) := by decide +kernel
theorem dX7_canBeLaid_21 : decode cX7_canBeLaid 21 = .ok (.iconst 1, 1) := by decide +kernel
theorem dX7_canBeLaid_22 : decode cX7_canBeLaid 22 = .ok (.goto 4, 3) := by decide +kernel
theorem dX7_canBeLaid_25 : decode cX7_canBeLaid 25 = .ok (.iconst 0, 1) := by decide +kernel
theorem dX7_canBeLaid_26 : decode cX7_canBeLaid 26 = .ok (.ireturn, 1) := by decide +kernel
theorem dX7_borderWhenTurned_0 : decode cX7_borderWhenTurned 0 = .ok (.aload_n 0, 1) := by decide +kernel
theorem dX7_borderWhenTurned_1 : decode cX7_borderWhenTurned 1 = .ok (.getfield 9, 3) := by decide +kernel
theorem dX7_borderWhenTurned_4 : decode cX7_borderWhenTurned 4 = .ok (.iload_n 1, 1) := by decide +kernel
theorem dX7_borderWhenTurned_5 : decode cX7_borderWhenTurned 5 = .ok (.iload_n 2, 1) := by decide +kernel
theorem dX7_borderWhenTurned_6 : decode cX7_borderWhenTurned 6 = .ok (.isub, 1) := by decide +kernel
theorem dX7_borderWhenTurned_7 : decode cX7_borderWhenTurned 7 = .ok (.iconst 4, 1) := by decide +kernel
theorem dX7_borderWhenTurned_8 : decode cX7_borderWhenTurned 8 = .ok (.invokestatic 53, 3) := by decide +kernel
theorem dX7_borderWhenTurned_11 : decode cX7_borderWhenTurned 11 = .ok (.iaload, 1) := by decide +kernel
theorem dX7_borderWhenTurned_12 : decode cX7_borderWhenTurned 12 = .ok (.ireturn, 1) := by decide +kernel
theorem dX7_borderAsLaid_0 : decode cX7_borderAsLaid 0 = .ok (.aload_n 0, 1) := by decide +kernel
theorem dX7_borderAsLaid_1 : decode cX7_borderAsLaid 1 = .ok (.iload_n 1, 1) := by decide +kernel
theorem dX7_borderAsLaid_2 : decode cX7_borderAsLaid 2 = .ok (.aload_n 0, 1) := by decide +kernel
theorem dX7_borderAsLaid_3 : decode cX7_borderAsLaid 3 = .ok (.getfield 43, 3) := by decide +kernel
theorem dX7_borderAsLaid_6 : decode cX7_borderAsLaid 6 = .ok (.invokevirtual 59, 3) := by decide +kernel
theorem dX7_borderAsLaid_9 : decode cX7_borderAsLaid 9 = .ok (.ireturn, 1) := by decide +kernel
theorem dX8_init_0 : decode cX8_init 0 = .ok (.aload_n 0, 1) := by decide +kernel
theorem dX8_init_1 : decode cX8_init 1 = .ok (.invokespecial 3, 3) := by decide +kernel
theorem dX8_init_4 : decode cX8_init 4 = .ok (.aload_n 0, 1) := by decide +kernel
theorem dX8_init_5 : decode cX8_init 5 = .ok (.bipush 7, 2) := by decide +kernel
theorem dX8_init_7 : decode cX8_init 7 = .ok (.newarray .int, 2) := by decide +kernel
theorem dX8_init_9 : decode cX8_init 9 = .ok (.putfield 9, 3) := by decide +kernel
theorem dX8_init_12 : decode cX8_init 12 = .ok (.return_, 1) := by decide +kernel
theorem dX8_countByAdding_0 : decode cX8_countByAdding 0 = .ok (.aload_n 1, 1) := by decide +kernel
theorem dX8_countByAdding_1 : decode cX8_countByAdding 1 = .ok (.aload_n 0, 1) := by decide +kernel
theorem dX8_countByAdding_2 : decode cX8_countByAdding 2 = .ok (.getfield 9, 3) := by decide +kernel
theorem dX8_countByAdding_5 : decode cX8_countByAdding 5 = .ok (.iconst 0, 1) := by decide +kernel
theorem dX8_countByAdding_6 : decode cX8_countByAdding 6 = .ok (.iload_n 2, 1) := by decide +kernel
theorem dX8_countByAdding_7 : decode cX8_countByAdding 7 = .ok (.invokestatic 15, 3) := by decide +kernel
theorem dX8_countByAdding_10 : decode cX8_countByAdding 10 = .ok (.ireturn, 1) := by decide +kernel
theorem dX8_countByPermutations_0 : decode cX8_countByPermutations 0 = .ok (.iconst 0, 1) := by decide +kernel
theorem dX8_countByPermutations_1 : decode cX8_countByPermutations 1 = .ok (.istore_n 2, 1) := by decide +kernel
theorem dX8_countByPermutations_2 : decode cX8_countByPermutations 2 = .ok (.iload_n 2, 1) := by decide +kernel
theorem dX8_countByPermutations_3 : decode cX8_countByPermutations 3 = .ok (.aload_n 1, 1) := by decide +kernel
theorem dX8_countByPermutations_4 : decode cX8_countByPermutations 4 = .ok (.getfield 19, 3) := by decide +kernel
theorem dX8_countByPermutations_7 : decode cX8_countByPermutations 7 = .ok (.if_icmp .gt 16, 3) := by decide +kernel
theorem dX8_countByPermutations_10 : decode cX8_countByPermutations 10 = .ok (.aload_n 0, 1) := by decide +kernel
theorem dX8_countByPermutations_11 : decode cX8_countByPermutations 11 = .ok (.getfield 9, 3) := by decide +kernel
theorem dX8_countByPermutations_14 : decode cX8_countByPermutations 14 = .ok (.iload_n 2, 1) := by decide +kernel
theorem dX8_countByPermutations_15 : decode cX8_countByPermutations 15 = .ok (.iload_n 2, 1) := by decide +kernel
theorem dX8_countByPermutations_16 : decode cX8_countByPermutations 16 = .ok (.iastore, 1) := by decide +kernel
theorem dX8_countByPermutations_17 : decode cX8_countByPermutations 17 = .ok (.iinc 2 1, 3) := by decide +kernel
theorem dX8_countByPermutations_20 : decode cX8_countByPermutations 20 = .ok (.goto (-18), 3) := by decide +kernel
theorem dX8_countByPermutations_23 : decode cX8_countByPermutations 23 = .ok (.aload_n 1, 1) := by decide +kernel
theorem dX8_countByPermutations_24 : decode cX8_countByPermutations 24 = .ok (.aload_n 0, 1) := by decide +kernel
theorem dX8_countByPermutations_25 : decode cX8_countByPermutations 25 = .ok (.getfield 9, 3) := by decide +kernel
theorem dX8_countByPermutations_28 : decode cX8_countByPermutations 28 = .ok (.iconst 0, 1) := by decide +kernel
theorem dX8_countByPermutations_29 : decode cX8_countByPermutations 29 = .ok (.invokestatic 25, 3) := by decide +kernel
theorem dX8_countByPermutations_32 : decode cX8_countByPermutations 32 = .ok (.ireturn, 1) := by decide +kernel
theorem dX8_countFrom_0 : decode cX8_countFrom 0 = .ok (.iload_n 2, 1) := by decide +kernel
theorem dX8_countFrom_1 : decode cX8_countFrom 1 = .ok (.aload_n 0, 1) := by decide +kernel
theorem dX8_countFrom_2 : decode cX8_countFrom 2 = .ok (.getfield 19, 3) := by decide +kernel
theorem dX8_countFrom_5 : decode cX8_countFrom 5 = .ok (.if_icmp .le 24, 3) := by decide +kernel
theorem dX8_countFrom_8 : decode cX8_countFrom 8 = .ok (.iload_n 3, 1) := by decide +kernel
theorem dX8_countFrom_9 : decode cX8_countFrom 9 = .ok (.iconst (-1), 1) := by decide +kernel
theorem dX8_countFrom_10 : decode cX8_countFrom 10 = .ok (.if_icmp .eq 13, 3) := by decide +kernel
theorem dX8_countFrom_13 : decode cX8_countFrom 13 = .ok (.aload_n 1, 1) := by decide +kernel
theorem dX8_countFrom_14 : decode cX8_countFrom 14 = .ok (.iload_n 3, 1) := by decide +kernel
theorem dX8_countFrom_15 : decode cX8_countFrom 15 = .ok (.iaload, 1) := by decide +kernel
theorem dX8_countFrom_16 : decode cX8_countFrom 16 = .ok (.aload_n 0, 1) := by decide +kernel
theorem dX8_countFrom_17 : decode cX8_countFrom 17 = .ok (.getfield 19, 3) := by decide +kernel
theorem dX8_countFrom_20 : decode cX8_countFrom 20 = .ok (.if_icmp .ne 7, 3) := by decide +kernel
theorem dX8_countFrom_23 : decode cX8_countFrom 23 = .ok (.iconst 1, 1) := by decide +kernel
theorem dX8_countFrom_24 : decode cX8_countFrom 24 = .ok (.goto 4, 3) := by decide +kernel
theorem dX8_countFrom_27 : decode cX8_countFrom 27 = .ok (.iconst 0, 1) := by decide +kernel
theorem dX8_countFrom_28 : decode cX8_countFrom 28 = .ok (.ireturn, 1) := by decide +kernel
theorem dX8_countFrom_29 : decode cX8_countFrom 29 = .ok (.iconst 0, 1) := by decide +kernel
theorem dX8_countFrom_30 : decode cX8_countFrom 30 = .ok (.istore 4, 2) := by decide +kernel
theorem dX8_countFrom_32 : decode cX8_countFrom 32 = .ok (.iconst 0, 1) := by decide +kernel
theorem dX8_countFrom_33 : decode cX8_countFrom 33 = .ok (.istore 5, 2) := by decide +kernel
theorem dX8_countFrom_35 : decode cX8_countFrom 35 = .ok (.iload 5, 2) := by decide +kernel
theorem dX8_countFrom_37 : decode cX8_countFrom 37 = .ok (.iload_n 2, 1) := by decide +kernel
theorem dX8_countFrom_38 : decode cX8_countFrom 38 = .ok (.if_icmp .gt 50, 3) := by decide +kernel
theorem dX8_countFrom_41 : decode cX8_countFrom 41 = .ok (.aload_n 1, 1) := by decide +kernel
theorem dX8_countFrom_42 : decode cX8_countFrom 42 = .ok (.iload_n 2, 1) := by decide +kernel
theorem dX8_countFrom_43 : decode cX8_countFrom 43 = .ok (.iload 5, 2) := by decide +kernel
theorem dX8_countFrom_45 : decode cX8_countFrom 45 = .ok (.invokestatic 29, 3) := by decide +kernel
theorem dX8_countFrom_48 : decode cX8_countFrom 48 = .ok (.iload_n 2, 1) := by decide +kernel
theorem dX8_countFrom_49 : decode cX8_countFrom 49 = .ok (.ifCond .eq 14, 3) := by decide +kernel
theorem dX8_countFrom_52 : decode cX8_countFrom 52 = .ok (.aload_n 0, 1) := by decide +kernel
theorem dX8_countFrom_53 : decode cX8_countFrom 53 = .ok (.aload_n 1, 1) := by decide +kernel
theorem dX8_countFrom_54 : decode cX8_countFrom 54 = .ok (.iload_n 2, 1) := by decide +kernel
theorem dX8_countFrom_55 : decode cX8_countFrom 55 = .ok (.iconst 1, 1) := by decide +kernel
theorem dX8_countFrom_56 : decode cX8_countFrom 56 = .ok (.isub, 1) := by decide +kernel
theorem dX8_countFrom_57 : decode cX8_countFrom 57 = .ok (.invokestatic 33, 3) := by decide +kernel
theorem dX8_countFrom_60 : decode cX8_countFrom 60 = .ok (.ifCond .eq 17, 3) := by decide +kernel
theorem dX8_countFrom_63 : decode cX8_countFrom 63 = .ok (.iload 4, 2) := by decide +kernel
theorem dX8_countFrom_65 : decode cX8_countFrom 65 = .ok (.aload_n 0, 1) := by decide +kernel
theorem dX8_countFrom_66 : decode cX8_countFrom 66 = .ok (.aload_n 1, 1) := by decide +kernel
theorem dX8_countFrom_67 : decode cX8_countFrom 67 = .ok (.iload_n 2, 1) := by decide +kernel
theorem dX8_countFrom_68 : decode cX8_countFrom 68 = .ok (.iconst 1, 1) := by decide +kernel
theorem dX8_countFrom_69 : decode cX8_countFrom 69 = .ok (.iadd, 1) := by decide +kernel
theorem dX8_countFrom_70 : decode cX8_countFrom 70 = .ok (.iload_n 3, 1) := by decide +kernel
theorem dX8_countFrom_71 : decode cX8_countFrom 71 = .ok (.invokestatic 15, 3) := by decide +kernel
theorem dX8_countFrom_74 : decode cX8_countFrom 74 = .ok (.iadd, 1) := by decide +kernel
theorem dX8_countFrom_75 : decode cX8_countFrom 75 = .ok (.istore 4, 2) := by decide +kernel
theorem dX8_countFrom_77 : decode cX8_countFrom 77 = .ok (.aload_n 1, 1) := by decide +kernel
theorem dX8_countFrom_78 : decode cX8_countFrom 78 = .ok (.iload_n 2, 1) := by decide +kernel
theorem dX8_countFrom_79 : decode cX8_countFrom 79 = .ok (.invokestatic 37, 3) := by decide +kernel
theorem dX8_countFrom_82 : decode cX8_countFrom 82 = .ok (.iinc 5 1, 3) := by decide +kernel
theorem dX8_countFrom_85 : decode cX8_countFrom 85 = .ok (.goto (-50), 3) := by decide +kernel
theorem dX8_countFrom_88 : decode cX8_countFrom 88 = .ok (.iload 4, 2) := by decide +kernel
theorem dX8_countFrom_90 : decode cX8_countFrom 90 = .ok (.ireturn, 1) := by decide +kernel
theorem dX8_slideIn_0 : decode cX8_slideIn 0 = .ok (.iconst 0, 1) := by decide +kernel
theorem dX8_slideIn_1 : decode cX8_slideIn 1 = .ok (.istore_n 3, 1) := by decide +kernel
theorem dX8_slideIn_2 : decode cX8_slideIn 2 = .ok (.iload_n 3, 1) := by decide +kernel
theorem dX8_slideIn_3 : decode cX8_slideIn 3 = .ok (.iload_n 1, 1) := by decide +kernel
theorem dX8_slideIn_4 : decode cX8_slideIn 4 = .ok (.if_icmp .ge 23, 3) := by decide +kernel
theorem dX8_slideIn_7 : decode cX8_slideIn 7 = .ok (.aload_n 0, 1) := by decide +kernel
theorem dX8_slideIn_8 : decode cX8_slideIn 8 = .ok (.iload_n 3, 1) := by decide +kernel
theorem dX8_slideIn_9 : decode cX8_slideIn 9 = .ok (.iaload, 1) := by decide +kernel
theorem dX8_slideIn_10 : decode cX8_slideIn 10 = .ok (.iload_n 2, 1) := by decide +kernel
theorem dX8_slideIn_11 : decode cX8_slideIn 11 = .ok (.if_icmp .lt 10, 3) := by decide +kernel
theorem dX8_slideIn_14 : decode cX8_slideIn 14 = .ok (.aload_n 0, 1) := by decide +kernel
theorem dX8_slideIn_15 : decode cX8_slideIn 15 = .ok (.iload_n 3, 1) := by decide +kernel
theorem dX8_slideIn_16 : decode cX8_slideIn 16 = .ok (.dup2, 1) := by decide +kernel
theorem dX8_slideIn_17 : decode cX8_slideIn 17 = .ok (.iaload, 1) := by decide +kernel
theorem dX8_slideIn_18 : decode cX8_slideIn 18 = .ok (.iconst 1, 1) := by decide +kernel
theorem dX8_slideIn_19 : decode cX8_slideIn 19 = .ok (.iadd, 1) := by decide +kernel
theorem dX8_slideIn_20 : decode cX8_slideIn 20 = .ok (.iastore, 1) := by decide +kernel
theorem dX8_slideIn_21 : decode cX8_slideIn 21 = .ok (.iinc 3 1, 3) := by decide +kernel
theorem dX8_slideIn_24 : decode cX8_slideIn 24 = .ok (.goto (-22), 3) := by decide +kernel
theorem dX8_slideIn_27 : decode cX8_slideIn 27 = .ok (.aload_n 0, 1) := by decide +kernel
theorem dX8_slideIn_28 : decode cX8_slideIn 28 = .ok (.iload_n 1, 1) := by decide +kernel
theorem dX8_slideIn_29 : decode cX8_slideIn 29 = .ok (.iload_n 2, 1) := by decide +kernel
theorem dX8_slideIn_30 : decode cX8_slideIn 30 = .ok (.iastore, 1) := by decide +kernel
theorem dX8_slideIn_31 : decode cX8_slideIn 31 = .ok (.return_, 1) := by decide +kernel
theorem dX8_pullOut_0 : decode cX8_pullOut 0 = .ok (.iconst 0, 1) := by decide +kernel
theorem dX8_pullOut_1 : decode cX8_pullOut 1 = .ok (.istore_n 2, 1) := by decide +kernel
theorem dX8_pullOut_2 : decode cX8_pullOut 2 = .ok (.iload_n 2, 1) := by decide +kernel
theorem dX8_pullOut_3 : decode cX8_pullOut 3 = .ok (.iload_n 1, 1) := by decide +kernel
theorem dX8_pullOut_4 : decode cX8_pullOut 4 = .ok (.if_icmp .ge 25, 3) := by decide +kernel
theorem dX8_pullOut_7 : decode cX8_pullOut 7 = .ok (.aload_n 0, 1) := by decide +kernel
theorem dX8_pullOut_8 : decode cX8_pullOut 8 = .ok (.iload_n 2, 1) := by decide +kernel
theorem dX8_pullOut_9 : decode cX8_pullOut 9 = .ok (.iaload, 1) := by decide +kernel
theorem dX8_pullOut_10 : decode cX8_pullOut 10 = .ok (.aload_n 0, 1) := by decide +kernel
theorem dX8_pullOut_11 : decode cX8_pullOut 11 = .ok (.iload_n 1, 1) := by decide +kernel
theorem dX8_pullOut_12 : decode cX8_pullOut 12 = .ok (.iaload, 1) := by decide +kernel
theorem dX8_pullOut_13 : decode cX8_pullOut 13 = .ok (.if_icmp .le 10, 3) := by decide +kernel
theorem dX8_pullOut_16 : decode cX8_pullOut 16 = .ok (.aload_n 0, 1) := by decide +kernel
theorem dX8_pullOut_17 : decode cX8_pullOut 17 = .ok (.iload_n 2, 1) := by decide +kernel
theorem dX8_pullOut_18 : decode cX8_pullOut 18 = .ok (.dup2, 1) := by decide +kernel
theorem dX8_pullOut_19 : decode cX8_pullOut 19 = .ok (.iaload, 1) := by decide +kernel
theorem dX8_pullOut_20 : decode cX8_pullOut 20 = .ok (.iconst 1, 1) := by decide +kernel
theorem dX8_pullOut_21 : decode cX8_pullOut 21 = .ok (.isub, 1) := by decide +kernel
theorem dX8_pullOut_22 : decode cX8_pullOut 22 = .ok (.iastore, 1) := by decide +kernel
theorem dX8_pullOut_23 : decode cX8_pullOut 23 = .ok (.iinc 2 1, 3) := by decide +kernel
theorem dX8_pullOut_26 : decode cX8_pullOut 26 = .ok (.goto (-24), 3) := by decide +kernel
theorem dX8_pullOut_29 : decode cX8_pullOut 29 = .ok (.return_, 1) := by decide +kernel
theorem dX8_countPermutations_0 : decode cX8_countPermutations 0 = .ok (.iload_n 2, 1) := by decide +kernel
theorem dX8_countPermutations_1 : decode cX8_countPermutations 1 = .ok (.aload_n 0, 1) := by decide +kernel
theorem dX8_countPermutations_2 : decode cX8_countPermutations 2 = .ok (.getfield 19, 3) := by decide +kernel
theorem dX8_countPermutations_5 : decode cX8_countPermutations 5 = .ok (.if_icmp .le 17, 3) := by decide +kernel
theorem dX8_countPermutations_8 : decode cX8_countPermutations 8 = .ok (.aload_n 0, 1) := by decide +kernel
theorem dX8_countPermutations_9 : decode cX8_countPermutations 9 = .ok (.aload_n 1, 1) := by decide +kernel
theorem dX8_countPermutations_10 : decode cX8_countPermutations 10 = .ok (.invokestatic 41, 3) := by decide +kernel
theorem dX8_countPermutations_13 : decode cX8_countPermutations 13 = .ok (.ifCond .eq 7, 3) := by decide +kernel
theorem dX8_countPermutations_16 : decode cX8_countPermutations 16 = .ok (.iconst 1, 1) := by decide +kernel
theorem dX8_countPermutations_17 : decode cX8_countPermutations 17 = .ok (.goto 4, 3) := by decide +kernel
theorem dX8_countPermutations_20 : decode cX8_countPermutations 20 = .ok (.iconst 0, 1) := by decide +kernel
theorem dX8_countPermutations_21 : decode cX8_countPermutations 21 = .ok (.ireturn, 1) := by decide +kernel
theorem dX8_countPermutations_22 : decode cX8_countPermutations 22 = .ok (.iconst 0, 1) := by decide +kernel
theorem dX8_countPermutations_23 : decode cX8_countPermutations 23 = .ok (.istore_n 3, 1) := by decide +kernel
theorem dX8_countPermutations_24 : decode cX8_countPermutations 24 = .ok (.iload_n 2, 1) := by decide +kernel
theorem dX8_countPermutations_25 : decode cX8_countPermutations 25 = .ok (.istore 4, 2) := by decide +kernel
theorem dX8_countPermutations_27 : decode cX8_countPermutations 27 = .ok (.iload 4, 2) := by decide +kernel
theorem dX8_countPermutations_29 : decode cX8_countPermutations 29 = .ok (.aload_n 0, 1) := by decide +kernel
theorem dX8_countPermutations_30 : decode cX8_countPermutations 30 = .ok (.getfield 19, 3) := by decide +kernel
theorem dX8_countPermutations_33 : decode cX8_countPermutations 33 = .ok (.if_icmp .gt 34, 3) := by decide +kernel
theorem dX8_countPermutations_36 : decode cX8_countPermutations 36 = .ok (.aload_n 1, 1) := by decide +kernel
theorem dX8_countPermutations_37 : decode cX8_countPermutations 37 = .ok (.iload_n 2, 1) := by decide +kernel
theorem dX8_countPermutations_38 : decode cX8_countPermutations 38 = .ok (.iload 4, 2) := by decide +kernel
theorem dX8_countPermutations_40 : decode cX8_countPermutations 40 = .ok (.invokestatic 45, 3) := by decide +kernel
theorem dX8_countPermutations_43 : decode cX8_countPermutations 43 = .ok (.iload_n 3, 1) := by decide +kernel
theorem dX8_countPermutations_44 : decode cX8_countPermutations 44 = .ok (.aload_n 0, 1) := by decide +kernel
theorem dX8_countPermutations_45 : decode cX8_countPermutations 45 = .ok (.aload_n 1, 1) := by decide +kernel
theorem dX8_countPermutations_46 : decode cX8_countPermutations 46 = .ok (.iload_n 2, 1) := by decide +kernel
theorem dX8_countPermutations_47 : decode cX8_countPermutations 47 = .ok (.iconst 1, 1) := by decide +kernel
theorem dX8_countPermutations_48 : decode cX8_countPermutations 48 = .ok (.iadd, 1) := by decide +kernel
theorem dX8_countPermutations_49 : decode cX8_countPermutations 49 = .ok (.invokestatic 25, 3) := by decide +kernel
theorem dX8_countPermutations_52 : decode cX8_countPermutations 52 = .ok (.iadd, 1) := by decide +kernel
theorem dX8_countPermutations_53 : decode cX8_countPermutations 53 = .ok (.istore_n 3, 1) := by decide +kernel
theorem dX8_countPermutations_54 : decode cX8_countPermutations 54 = .ok (.aload_n 1, 1) := by decide +kernel
theorem dX8_countPermutations_55 : decode cX8_countPermutations 55 = .ok (.iload_n 2, 1) := by decide +kernel
theorem dX8_countPermutations_56 : decode cX8_countPermutations 56 = .ok (.iload 4, 2) := by decide +kernel
theorem dX8_countPermutations_58 : decode cX8_countPermutations 58 = .ok (.invokestatic 45, 3) := by decide +kernel
theorem dX8_countPermutations_61 : decode cX8_countPermutations 61 = .ok (.iinc 4 1, 3) := by decide +kernel
theorem dX8_countPermutations_64 : decode cX8_countPermutations 64 = .ok (.goto (-37), 3) := by decide +kernel
theorem dX8_countPermutations_67 : decode cX8_countPermutations 67 = .ok (.iload_n 3, 1) := by decide +kernel
theorem dX8_countPermutations_68 : decode cX8_countPermutations 68 = .ok (.ireturn, 1) := by decide +kernel
theorem dX8_swap_0 : decode cX8_swap 0 = .ok (.aload_n 0, 1) := by decide +kernel
theorem dX8_swap_1 : decode cX8_swap 1 = .ok (.iload_n 1, 1) := by decide +kernel
theorem dX8_swap_2 : decode cX8_swap 2 = .ok (.iaload, 1) := by decide +kernel
theorem dX8_swap_3 : decode cX8_swap 3 = .ok (.istore_n 3, 1) := by decide +kernel
theorem dX8_swap_4 : decode cX8_swap 4 = .ok (.aload_n 0, 1) := by decide +kernel
theorem dX8_swap_5 : decode cX8_swap 5 = .ok (.iload_n 1, 1) := by decide +kernel
theorem dX8_swap_6 : decode cX8_swap 6 = .ok (.aload_n 0, 1) := by decide +kernel
theorem dX8_swap_7 : decode cX8_swap 7 = .ok (.iload_n 2, 1) := by decide +kernel
theorem dX8_swap_8 : decode cX8_swap 8 = .ok (.iaload, 1) := by decide +kernel
theorem dX8_swap_9 : decode cX8_swap 9 = .ok (.iastore, 1) := by decide +kernel
theorem dX8_swap_10 : decode cX8_swap 10 = .ok (.aload_n 0, 1) := by decide +kernel
theorem dX8_swap_11 : decode cX8_swap 11 = .ok (.iload_n 2, 1) := by decide +kernel
theorem dX8_swap_12 : decode cX8_swap 12 = .ok (.iload_n 3, 1) := by decide +kernel
theorem dX8_swap_13 : decode cX8_swap 13 = .ok (.iastore, 1) := by decide +kernel
theorem dX8_swap_14 : decode cX8_swap 14 = .ok (.return_, 1) := by decide +kernel
theorem dX8_isPossible_0 : decode cX8_isPossible 0 = .ok (.iconst 0, 1) := by decide +kernel
theorem dX8_isPossible_1 : decode cX8_isPossible 1 = .ok (.istore_n 2, 1) := by decide +kernel
theorem dX8_isPossible_2 : decode cX8_isPossible 2 = .ok (.iload_n 2, 1) := by decide +kernel
theorem dX8_isPossible_3 : decode cX8_isPossible 3 = .ok (.aload_n 0, 1) := by decide +kernel
theorem dX8_isPossible_4 : decode cX8_isPossible 4 = .ok (.getfield 19, 3) := by decide +kernel
theorem dX8_isPossible_7 : decode cX8_isPossible 7 = .ok (.if_icmp .ge 20, 3) := by decide +kernel
theorem dX8_isPossible_10 : decode cX8_isPossible 10 = .ok (.aload_n 0, 1) := by decide +kernel
theorem dX8_isPossible_11 : decode cX8_isPossible 11 = .ok (.aload_n 1, 1) := by decide +kernel
theorem dX8_isPossible_12 : decode cX8_isPossible 12 = .ok (.iload_n 2, 1) := by decide +kernel
theorem dX8_isPossible_13 : decode cX8_isPossible 13 = .ok (.invokestatic 33, 3) := by decide +kernel
theorem dX8_isPossible_16 : decode cX8_isPossible 16 = .ok (.ifCond .ne 5, 3) := by decide +kernel
theorem dX8_isPossible_19 : decode cX8_isPossible 19 = .ok (.iconst 0, 1) := by decide +kernel
theorem dX8_isPossible_20 : decode cX8_isPossible 20 = .ok (.ireturn, 1) := by decide +kernel
theorem dX8_isPossible_21 : decode cX8_isPossible 21 = .ok (.iinc 2 1, 3) := by decide +kernel
theorem dX8_isPossible_24 : decode cX8_isPossible 24 = .ok (.goto (-22), 3) := by decide +kernel
theorem dX8_isPossible_27 : decode cX8_isPossible 27 = .ok (.iconst 1, 1) := by decide +kernel
theorem dX8_isPossible_28 : decode cX8_isPossible 28 = .ok (.ireturn, 1) := by decide +kernel
theorem dX8_isCreasePossible_0 : decode cX8_isCreasePossible 0 = .ok (.aload_n 0, 1) := by decide +kernel
theorem dX8_isCreasePossible_1 : decode cX8_isCreasePossible 1 = .ok (.getfield 48, 3) := by decide +kernel
theorem dX8_isCreasePossible_4 : decode cX8_isCreasePossible 4 = .ok (.iload_n 2, 1) := by decide +kernel
theorem dX8_isCreasePossible_5 : decode cX8_isCreasePossible 5 = .ok (.caload, 1) := by decide +kernel
theorem dX8_isCreasePossible_6 : decode cX8_isCreasePossible 6 = .ok (.bipush 118, 2) := by decide +kernel
theorem dX8_isCreasePossible_8 : decode cX8_isCreasePossible 8 = .ok (.if_icmp .ne 7, 3) := by decide +kernel
theorem dX8_isCreasePossible_11 : decode cX8_isCreasePossible 11 = .ok (.iconst 1, 1) := by decide +kernel
theorem dX8_isCreasePossible_12 : decode cX8_isCreasePossible 12 = .ok (.goto 4, 3) := by decide +kernel
theorem dX8_isCreasePossible_15 : decode cX8_isCreasePossible 15 = .ok (.iconst 0, 1) := by decide +kernel
theorem dX8_isCreasePossible_16 : decode cX8_isCreasePossible 16 = .ok (.iload_n 2, 1) := by decide +kernel
theorem dX8_isCreasePossible_17 : decode cX8_isCreasePossible 17 = .ok (.iconst 2, 1) := by decide +kernel
theorem dX8_isCreasePossible_18 : decode cX8_isCreasePossible 18 = .ok (.irem, 1) := by decide +kernel
theorem dX8_isCreasePossible_19 : decode cX8_isCreasePossible 19 = .ok (.ifCond .ne 7, 3) := by decide +kernel
theorem dX8_isCreasePossible_22 : decode cX8_isCreasePossible 22 = .ok (.iconst 1, 1) := by decide +kernel
theorem dX8_isCreasePossible_23 : decode cX8_isCreasePossible 23 = .ok (.goto 4, 3) := by decide +kernel
theorem dX8_isCreasePossible_26 : decode cX8_isCreasePossible 26 = .ok (.iconst 0, 1) := by decide +kernel
theorem dX8_isCreasePossible_27 : decode cX8_isCreasePossible 27 = .ok (.if_icmp .ne 7, 3) := by decide +kernel
theorem dX8_isCreasePossible_30 : decode cX8_isCreasePossible 30 = .ok (.iconst 1, 1) := by decide +kernel
theorem dX8_isCreasePossible_31 : decode cX8_isCreasePossible 31 = .ok (.goto 4, 3) := by decide +kernel
theorem dX8_isCreasePossible_34 : decode cX8_isCreasePossible 34 = .ok (.iconst 0, 1) := by decide +kernel
theorem dX8_isCreasePossible_35 : decode cX8_isCreasePossible 35 = .ok (.istore_n 3, 1) := by decide +kernel
theorem dX8_isCreasePossible_36 : decode cX8_isCreasePossible 36 = .ok (.aload_n 1, 1) := by decide +kernel
theorem dX8_isCreasePossible_37 : decode cX8_isCreasePossible 37 = .ok (.iload_n 2, 1) := by decide +kernel
theorem dX8_isCreasePossible_38 : decode cX8_isCreasePossible 38 = .ok (.iconst 1, 1) := by decide +kernel
theorem dX8_isCreasePossible_39 : decode cX8_isCreasePossible 39 = .ok (.iadd, 1) := by decide +kernel
theorem dX8_isCreasePossible_40 : decode cX8_isCreasePossible 40 = .ok (.iaload, 1) := by decide +kernel
theorem dX8_isCreasePossible_41 : decode cX8_isCreasePossible 41 = .ok (.aload_n 1, 1) := by decide +kernel
theorem dX8_isCreasePossible_42 : decode cX8_isCreasePossible 42 = .ok (.iload_n 2, 1) := by decide +kernel
theorem dX8_isCreasePossible_43 : decode cX8_isCreasePossible 43 = .ok (.iaload, 1) := by decide +kernel
theorem dX8_isCreasePossible_44 : decode cX8_isCreasePossible 44 = .ok (.if_icmp .le 7, 3) := by decide +kernel
theorem dX8_isCreasePossible_47 : decode cX8_isCreasePossible 47 = .ok (.iconst 1, 1) := by decide +kernel
theorem dX8_isCreasePossible_48 : decode cX8_isCreasePossible 48 = .ok (.goto 4, 3) := by decide +kernel
theorem dX8_isCreasePossible_51 : decode cX8_isCreasePossible 51 = .ok (.iconst 0, 1) := by decide +kernel
theorem dX8_isCreasePossible_52 : decode cX8_isCreasePossible 52 = .ok (.iload_n 3, 1) := by decide +kernel
theorem dX8_isCreasePossible_53 : decode cX8_isCreasePossible 53 = .ok (.if_icmp .eq 5, 3) := by decide +kernel
theorem dX8_isCreasePossible_56 : decode cX8_isCreasePossible 56 = .ok (.iconst 0, 1) := by decide +kernel
theorem dX8_isCreasePossible_57 : decode cX8_isCreasePossible 57 = .ok (.ireturn, 1) := by decide +kernel
theorem dX8_isCreasePossible_58 : decode cX8_isCreasePossible 58 = .ok (.iload_n 2, 1) := by decide +kernel
theorem dX8_isCreasePossible_59 : decode cX8_isCreasePossible 59 = .ok (.iconst 2, 1) := by decide +kernel
theorem dX8_isCreasePossible_60 : decode cX8_isCreasePossible 60 = .ok (.isub, 1) := by decide +kernel
theorem dX8_isCreasePossible_61 : decode cX8_isCreasePossible 61 = .ok (.istore 4, 2) := by decide +kernel
theorem dX8_isCreasePossible_63 : decode cX8_isCreasePossible 63 = .ok (.iload 4, 2) := by decide +kernel
theorem dX8_isCreasePossible_65 : decode cX8_isCreasePossible 65 = .ok (.ifCond .lt 21, 3) := by decide +kernel
theorem dX8_isCreasePossible_68 : decode cX8_isCreasePossible 68 = .ok (.aload_n 1, 1) := by decide +kernel
theorem dX8_isCreasePossible_69 : decode cX8_isCreasePossible 69 = .ok (.iload_n 2, 1) := by decide +kernel
theorem dX8_isCreasePossible_70 : decode cX8_isCreasePossible 70 = .ok (.iload 4, 2) := by decide +kernel
theorem dX8_isCreasePossible_72 : decode cX8_isCreasePossible 72 = .ok (.invokestatic 52, 3) := by decide +kernel
theorem dX8_isCreasePossible_75 : decode cX8_isCreasePossible 75 = .ok (.ifCond .eq 5, 3) := by decide +kernel
theorem dX8_isCreasePossible_78 : decode cX8_isCreasePossible 78 = .ok (.iconst 0, 1) := by decide +kernel
theorem dX8_isCreasePossible_79 : decode cX8_isCreasePossible 79 = .ok (.ireturn, 1) := by decide +kernel
theorem dX8_isCreasePossible_80 : decode cX8_isCreasePossible 80 = .ok (.iinc 4 (-2), 3) := by decide +kernel
theorem dX8_isCreasePossible_83 : decode cX8_isCreasePossible 83 = .ok (.goto (-20), 3) := by decide +kernel
theorem dX8_isCreasePossible_86 : decode cX8_isCreasePossible 86 = .ok (.iconst 1, 1) := by decide +kernel
theorem dX8_isCreasePossible_87 : decode cX8_isCreasePossible 87 = .ok (.ireturn, 1) := by decide +kernel
theorem dX8_cross_0 : decode cX8_cross 0 = .ok (.aload_n 0, 1) := by decide +kernel
theorem dX8_cross_1 : decode cX8_cross 1 = .ok (.iload_n 1, 1) := by decide +kernel
theorem dX8_cross_2 : decode cX8_cross 2 = .ok (.iaload, 1) := by decide +kernel
theorem dX8_cross_3 : decode cX8_cross 3 = .ok (.aload_n 0, 1) := by decide +kernel
theorem dX8_cross_4 : decode cX8_cross 4 = .ok (.iload_n 1, 1) := by decide +kernel
theorem dX8_cross_5 : decode cX8_cross 5 = .ok (.iconst 1, 1) := by decide +kernel
theorem dX8_cross_6 : decode cX8_cross 6 = .ok (.iadd, 1) := by decide +kernel
theorem dX8_cross_7 : decode cX8_cross 7 = .ok (.iaload, 1) := by decide +kernel
theorem dX8_cross_8 : decode cX8_cross 8 = .ok (.invokestatic 56, 3) := by decide +kernel
theorem dX8_cross_11 : decode cX8_cross 11 = .ok (.istore_n 3, 1) := by decide +kernel
theorem dX8_cross_12 : decode cX8_cross 12 = .ok (.aload_n 0, 1) := by decide +kernel
theorem dX8_cross_13 : decode cX8_cross 13 = .ok (.iload_n 1, 1) := by decide +kernel
theorem dX8_cross_14 : decode cX8_cross 14 = .ok (.iaload, 1) := by decide +kernel
theorem dX8_cross_15 : decode cX8_cross 15 = .ok (.aload_n 0, 1) := by decide +kernel
theorem dX8_cross_16 : decode cX8_cross 16 = .ok (.iload_n 1, 1) := by decide +kernel
theorem dX8_cross_17 : decode cX8_cross 17 = .ok (.iconst 1, 1) := by decide +kernel
theorem dX8_cross_18 : decode cX8_cross 18 = .ok (.iadd, 1) := by decide +kernel
theorem dX8_cross_19 : decode cX8_cross 19 = .ok (.iaload, 1) := by decide +kernel
theorem dX8_cross_20 : decode cX8_cross 20 = .ok (.invokestatic 62, 3) := by decide +kernel
theorem dX8_cross_23 : decode cX8_cross 23 = .ok (.istore 4, 2) := by decide +kernel
theorem dX8_cross_25 : decode cX8_cross 25 = .ok (.aload_n 0, 1) := by decide +kernel
theorem dX8_cross_26 : decode cX8_cross 26 = .ok (.iload_n 2, 1) := by decide +kernel
theorem dX8_cross_27 : decode cX8_cross 27 = .ok (.iaload, 1) := by decide +kernel
theorem dX8_cross_28 : decode cX8_cross 28 = .ok (.iload_n 3, 1) := by decide +kernel
theorem dX8_cross_29 : decode cX8_cross 29 = .ok (.iload 4, 2) := by decide +kernel
theorem dX8_cross_31 : decode cX8_cross 31 = .ok (.invokestatic 65, 3) := by decide +kernel
theorem dX8_cross_34 : decode cX8_cross 34 = .ok (.aload_n 0, 1) := by decide +kernel
theorem dX8_cross_35 : decode cX8_cross 35 = .ok (.iload_n 2, 1) := by decide +kernel
theorem dX8_cross_36 : decode cX8_cross 36 = .ok (.iconst 1, 1) := by decide +kernel
theorem dX8_cross_37 : decode cX8_cross 37 = .ok (.iadd, 1) := by decide +kernel
theorem dX8_cross_38 : decode cX8_cross 38 = .ok (.iaload, 1) := by decide +kernel
theorem dX8_cross_39 : decode cX8_cross 39 = .ok (.iload_n 3, 1) := by decide +kernel
theorem dX8_cross_40 : decode cX8_cross 40 = .ok (.iload 4, 2) := by decide +kernel
theorem dX8_cross_42 : decode cX8_cross 42 = .ok (.invokestatic 65, 3) := by decide +kernel
theorem dX8_cross_45 : decode cX8_cross 45 = .ok (.if_icmp .eq 7, 3) := by decide +kernel
theorem dX8_cross_48 : decode cX8_cross 48 = .ok (.iconst 1, 1) := by decide +kernel
theorem dX8_cross_49 : decode cX8_cross 49 = .ok (.goto 4, 3) := by decide +kernel
theorem dX8_cross_52 : decode cX8_cross 52 = .ok (.iconst 0, 1) := by decide +kernel
theorem dX8_cross_53 : decode cX8_cross 53 = .ok (.ireturn, 1) := by decide +kernel
theorem dX8_isBetween_0 : decode cX8_isBetween 0 = .ok (.iload_n 1, 1) := by decide +kernel
theorem dX8_isBetween_1 : decode cX8_isBetween 1 = .ok (.iload_n 0, 1) := by decide +kernel
theorem dX8_isBetween_2 : decode cX8_isBetween 2 = .ok (.if_icmp .ge 12, 3) := by decide +kernel
theorem dX8_isBetween_5 : decode cX8_isBetween 5 = .ok (.iload_n 0, 1) := by decide +kernel
theorem dX8_isBetween_6 : decode cX8_isBetween 6 = .ok (.iload_n 2, 1) := by decide +kernel
theorem dX8_isBetween_7 : decode cX8_isBetween 7 = .ok (.if_icmp .ge 7, 3) := by decide +kernel
theorem dX8_isBetween_10 : decode cX8_isBetween 10 = .ok (.iconst 1, 1) := by decide +kernel
theorem dX8_isBetween_11 : decode cX8_isBetween 11 = .ok (.goto 4, 3) := by decide +kernel
theorem dX8_isBetween_14 : decode cX8_isBetween 14 = .ok (.iconst 0, 1) := by decide +kernel
theorem dX8_isBetween_15 : decode cX8_isBetween 15 = .ok (.ireturn, 1) := by decide +kernel
theorem dX9_init_0 : decode cX9_init 0 = .ok (.aload_n 0, 1) := by decide +kernel
theorem dX9_init_1 : decode cX9_init 1 = .ok (.invokespecial 3, 3) := by decide +kernel
theorem dX9_init_4 : decode cX9_init 4 = .ok (.aload_n 0, 1) := by decide +kernel
theorem dX9_init_5 : decode cX9_init 5 = .ok (.bipush 9, 2) := by decide +kernel
theorem dX9_init_7 : decode cX9_init 7 = .ok (.anewarray 9, 3) := by decide +kernel
theorem dX9_init_10 : decode cX9_init 10 = .ok (.putfield 11, 3) := by decide +kernel
theorem dX9_init_13 : decode cX9_init 13 = .ok (.aload_n 0, 1) := by decide +kernel
theorem dX9_init_14 : decode cX9_init 14 = .ok (.bipush 9, 2) := by decide +kernel
theorem dX9_init_16 : decode cX9_init 16 = .ok (.newarray .int, 2) := by decide +kernel
theorem dX9_init_18 : decode cX9_init 18 = .ok (.putfield 17, 3) := by decide +kernel
theorem dX9_init_21 : decode cX9_init 21 = .ok (.iconst 0, 1) := by decide +kernel
theorem dX9_init_22 : decode cX9_init 22 = .ok (.istore_n 1, 1) := by decide +kernel
theorem dX9_init_23 : decode cX9_init 23 = .ok (.iload_n 1, 1) := by decide +kernel
theorem dX9_init_24 : decode cX9_init 24 = .ok (.bipush 9, 2) := by decide +kernel
theorem dX9_init_26 : decode cX9_init 26 = .ok (.if_icmp .ge 22, 3) := by decide +kernel
theorem dX9_init_29 : decode cX9_init 29 = .ok (.aload_n 0, 1) := by decide +kernel
theorem dX9_init_30 : decode cX9_init 30 = .ok (.getfield 11, 3) := by decide +kernel
theorem dX9_init_33 : decode cX9_init 33 = .ok (.iload_n 1, 1) := by decide +kernel
theorem dX9_init_34 : decode cX9_init 34 = .ok (.new 9, 3) := by decide +kernel
theorem dX9_init_37 : decode cX9_init 37 = .ok (.dup, 1) := by decide +kernel
theorem dX9_init_38 : decode cX9_init 38 = .ok (.invokespecial 21, 3) := by decide +kernel
theorem dX9_init_41 : decode cX9_init 41 = .ok (.aastore, 1) := by decide +kernel
theorem dX9_init_42 : decode cX9_init 42 = .ok (.iinc 1 1, 3) := by decide +kernel
theorem dX9_init_45 : decode cX9_init 45 = .ok (.goto (-22), 3) := by decide +kernel
theorem dX9_init_48 : decode cX9_init 48 = .ok (.iconst 0, 1) := by decide +kernel
theorem dX9_init_49 : decode cX9_init 49 = .ok (.istore_n 1, 1) := by decide +kernel
theorem dX9_init_50 : decode cX9_init 50 = .ok (.iload_n 1, 1) := by decide +kernel
theorem dX9_init_51 : decode cX9_init 51 = .ok (.bipush 9, 2) := by decide +kernel
theorem dX9_init_53 : decode cX9_init 53 = .ok (.if_icmp .ge 16, 3) := by decide +kernel
theorem dX9_init_56 : decode cX9_init 56 = .ok (.aload_n 0, 1) := by decide +kernel
theorem dX9_init_57 : decode cX9_init 57 = .ok (.getfield 17, 3) := by decide +kernel
theorem dX9_init_60 : decode cX9_init 60 = .ok (.iload_n 1, 1) := by decide +kernel
theorem dX9_init_61 : decode cX9_init 61 = .ok (.iconst (-1), 1) := by decide +kernel
theorem dX9_init_62 : decode cX9_init 62 = .ok (.iastore, 1) := by decide +kernel
theorem dX9_init_63 : decode cX9_init 63 = .ok (.iinc 1 1, 3) := by decide +kernel
theorem dX9_init_66 : decode cX9_init 66 = .ok (.goto (-16), 3) := by decide +kernel
theorem dX9_init_69 : decode cX9_init 69 = .ok (.return_, 1) := by decide +kernel
theorem dX9_copyFrom_0 : decode cX9_copyFrom 0 = .ok (.iconst 0, 1) := by decide +kernel
theorem dX9_copyFrom_1 : decode cX9_copyFrom 1 = .ok (.istore_n 2, 1) := by decide +kernel
theorem dX9_copyFrom_2 : decode cX9_copyFrom 2 = .ok (.iload_n 2, 1) := by decide +kernel
theorem dX9_copyFrom_3 : decode cX9_copyFrom 3 = .ok (.bipush 9, 2) := by decide +kernel
theorem dX9_copyFrom_5 : decode cX9_copyFrom 5 = .ok (.if_icmp .ge 24, 3) := by decide +kernel
theorem dX9_copyFrom_8 : decode cX9_copyFrom 8 = .ok (.aload_n 0, 1) := by decide +kernel
theorem dX9_copyFrom_9 : decode cX9_copyFrom 9 = .ok (.getfield 11, 3) := by decide +kernel
theorem dX9_copyFrom_12 : decode cX9_copyFrom 12 = .ok (.iload_n 2, 1) := by decide +kernel
theorem dX9_copyFrom_13 : decode cX9_copyFrom 13 = .ok (.aaload, 1) := by decide +kernel
theorem dX9_copyFrom_14 : decode cX9_copyFrom 14 = .ok (.aload_n 1, 1) := by decide +kernel
theorem dX9_copyFrom_15 : decode cX9_copyFrom 15 = .ok (.getfield 11, 3) := by decide +kernel
theorem dX9_copyFrom_18 : decode cX9_copyFrom 18 = .ok (.iload_n 2, 1) := by decide +kernel
theorem dX9_copyFrom_19 : decode cX9_copyFrom 19 = .ok (.aaload, 1) := by decide +kernel
theorem dX9_copyFrom_20 : decode cX9_copyFrom 20 = .ok (.invokevirtual 22, 3) := by decide +kernel
theorem dX9_copyFrom_23 : decode cX9_copyFrom 23 = .ok (.iinc 2 1, 3) := by decide +kernel
theorem dX9_copyFrom_26 : decode cX9_copyFrom 26 = .ok (.goto (-24), 3) := by decide +kernel
theorem dX9_copyFrom_29 : decode cX9_copyFrom 29 = .ok (.aload_n 1, 1) := by decide +kernel
theorem dX9_copyFrom_30 : decode cX9_copyFrom 30 = .ok (.getfield 17, 3) := by decide +kernel
theorem dX9_copyFrom_33 : decode cX9_copyFrom 33 = .ok (.iconst 0, 1) := by decide +kernel
theorem dX9_copyFrom_34 : decode cX9_copyFrom 34 = .ok (.aload_n 0, 1) := by decide +kernel
theorem dX9_copyFrom_35 : decode cX9_copyFrom 35 = .ok (.getfield 17, 3) := by decide +kernel
theorem dX9_copyFrom_38 : decode cX9_copyFrom 38 = .ok (.iconst 0, 1) := by decide +kernel
theorem dX9_copyFrom_39 : decode cX9_copyFrom 39 = .ok (.bipush 9, 2) := by decide +kernel
theorem dX9_copyFrom_41 : decode cX9_copyFrom 41 = .ok (.invokestatic 26, 3) := by decide +kernel
theorem dX9_copyFrom_44 : decode cX9_copyFrom 44 = .ok (.aload_n 0, 1) := by decide +kernel
theorem dX9_copyFrom_45 : decode cX9_copyFrom 45 = .ok (.aload_n 1, 1) := by decide +kernel
theorem dX9_copyFrom_46 : decode cX9_copyFrom 46 = .ok (.getfield 32, 3) := by decide +kernel
theorem dX9_copyFrom_49 : decode cX9_copyFrom 49 = .ok (.putfield 32, 3) := by decide +kernel
theorem dX9_copyFrom_52 : decode cX9_copyFrom 52 = .ok (.aload_n 0, 1) := by decide +kernel
theorem dX9_copyFrom_53 : decode cX9_copyFrom 53 = .ok (.aload_n 1, 1) := by decide +kernel
theorem dX9_copyFrom_54 : decode cX9_copyFrom 54 = .ok (.getfield 36, 3) := by decide +kernel
theorem dX9_copyFrom_57 : decode cX9_copyFrom 57 = .ok (.putfield 36, 3) := by decide +kernel
theorem dX9_copyFrom_60 : decode cX9_copyFrom 60 = .ok (.aload_n 0, 1) := by decide +kernel
theorem dX9_copyFrom_61 : decode cX9_copyFrom 61 = .ok (.aload_n 1, 1) := by decide +kernel
theorem dX9_copyFrom_62 : decode cX9_copyFrom 62 = .ok (.getfield 39, 3) := by decide +kernel
theorem dX9_copyFrom_65 : decode cX9_copyFrom 65 = .ok (.putfield 39, 3) := by decide +kernel
theorem dX9_copyFrom_68 : decode cX9_copyFrom 68 = .ok (.aload_n 0, 1) := by decide +kernel
theorem dX9_copyFrom_69 : decode cX9_copyFrom 69 = .ok (.aload_n 1, 1) := by decide +kernel
theorem dX9_copyFrom_70 : decode cX9_copyFrom 70 = .ok (.getfield 42, 3) := by decide +kernel
theorem dX9_copyFrom_73 : decode cX9_copyFrom 73 = .ok (.putfield 42, 3) := by decide +kernel
theorem dX9_copyFrom_76 : decode cX9_copyFrom 76 = .ok (.return_, 1) := by decide +kernel
theorem dX9_tryAddSheet_0 : decode cX9_tryAddSheet 0 = .ok (.iload_n 1, 1) := by decide +kernel
theorem dX9_tryAddSheet_1 : decode cX9_tryAddSheet 1 = .ok (.invokestatic 45, 3) := by decide +kernel
theorem dX9_tryAddSheet_4 : decode cX9_tryAddSheet 4 = .ok (.ifCond .eq 33, 3) := by decide +kernel
theorem dX9_tryAddSheet_7 : decode cX9_tryAddSheet 7 = .ok (.iload_n 2, 1) := by decide +kernel
theorem dX9_tryAddSheet_8 : decode cX9_tryAddSheet 8 = .ok (.invokestatic 45, 3) := by decide +kernel
theorem dX9_tryAddSheet_11 : decode cX9_tryAddSheet 11 = .ok (.ifCond .eq 26, 3) := by decide +kernel
theorem dX9_tryAddSheet_14 : decode cX9_tryAddSheet 14 = .ok (.iload_n 3, 1) := by decide +kernel
theorem dX9_tryAddSheet_15 : decode cX9_tryAddSheet 15 = .ok (.invokestatic 45, 3) := by decide +kernel
theorem dX9_tryAddSheet_18 : decode cX9_tryAddSheet 18 = .ok (.ifCond .eq 19, 3) := by decide +kernel
theorem dX9_tryAddSheet_21 : decode cX9_tryAddSheet 21 = .ok (.iload 4, 2) := by decide +kernel
theorem dX9_tryAddSheet_23 : decode cX9_tryAddSheet 23 = .ok (.invokestatic 45, 3) := by decide +kernel
theorem dX9_tryAddSheet_26 : decode cX9_tryAddSheet 26 = .ok (.ifCond .eq 11, 3) := by decide +kernel
theorem dX9_tryAddSheet_29 : decode cX9_tryAddSheet 29 = .ok (.iload 5, 2) := by decide +kernel
theorem dX9_tryAddSheet_31 : decode cX9_tryAddSheet 31 = .ok (.invokestatic 49, 3) := by decide +kernel
theorem dX9_tryAddSheet_34 : decode cX9_tryAddSheet 34 = .ok (.ifCond .ne 6, 3) := by decide +kernel
theorem dX9_tryAddSheet_37 : decode cX9_tryAddSheet 37 = .ok (.bipush (-2), 2) := by decide +kernel
theorem dX9_tryAddSheet_39 : decode cX9_tryAddSheet 39 = .ok (.ireturn, 1) := by decide +kernel
theorem dX9_tryAddSheet_40 : decode cX9_tryAddSheet 40 = .ok (.aload_n 0, 1) := by decide +kernel
theorem dX9_tryAddSheet_41 : decode cX9_tryAddSheet 41 = .ok (.getfield 32, 3) := by decide +kernel
theorem dX9_tryAddSheet_44 : decode cX9_tryAddSheet 44 = .ok (.bipush 9, 2) := by decide +kernel
theorem dX9_tryAddSheet_46 : decode cX9_tryAddSheet 46 = .ok (.if_icmp .lt 6, 3) := by decide +kernel
theorem dX9_tryAddSheet_49 : decode cX9_tryAddSheet 49 = .ok (.bipush (-3), 2) := by decide +kernel
theorem dX9_tryAddSheet_51 : decode cX9_tryAddSheet 51 = .ok (.ireturn, 1) := by decide +kernel
theorem dX9_tryAddSheet_52 : decode cX9_tryAddSheet 52 = .ok (.aload_n 0, 1) := by decide +kernel
theorem dX9_tryAddSheet_53 : decode cX9_tryAddSheet 53 = .ok (.getfield 32, 3) := by decide +kernel
theorem dX9_tryAddSheet_56 : decode cX9_tryAddSheet 56 = .ok (.istore 6, 2) := by decide +kernel
theorem dX9_tryAddSheet_58 : decode cX9_tryAddSheet 58 = .ok (.aload_n 0, 1) := by decide +kernel
theorem dX9_tryAddSheet_59 : decode cX9_tryAddSheet 59 = .ok (.getfield 11, 3) := by decide +kernel
theorem dX9_tryAddSheet_62 : decode cX9_tryAddSheet 62 = .ok (.iload 6, 2) := by decide +kernel
theorem dX9_tryAddSheet_64 : decode cX9_tryAddSheet 64 = .ok (.aaload, 1) := by decide +kernel
theorem dX9_tryAddSheet_65 : decode cX9_tryAddSheet 65 = .ok (.iload_n 1, 1) := by decide +kernel
theorem dX9_tryAddSheet_66 : decode cX9_tryAddSheet 66 = .ok (.iload_n 2, 1) := by decide +kernel
theorem dX9_tryAddSheet_67 : decode cX9_tryAddSheet 67 = .ok (.iload_n 3, 1) := by decide +kernel
theorem dX9_tryAddSheet_68 : decode cX9_tryAddSheet 68 = .ok (.iload 4, 2) := by decide +kernel
theorem dX9_tryAddSheet_70 : decode cX9_tryAddSheet 70 = .ok (.iload 5, 2) := by decide +kernel
theorem dX9_tryAddSheet_72 : decode cX9_tryAddSheet 72 = .ok (.invokevirtual 53, 3) := by decide +kernel
theorem dX9_tryAddSheet_75 : decode cX9_tryAddSheet 75 = .ok (.aload_n 0, 1) := by decide +kernel
theorem dX9_tryAddSheet_76 : decode cX9_tryAddSheet 76 = .ok (.dup, 1) := by decide +kernel
theorem dX9_tryAddSheet_77 : decode cX9_tryAddSheet 77 = .ok (.getfield 32, 3) := by decide +kernel
theorem dX9_tryAddSheet_80 : decode cX9_tryAddSheet 80 = .ok (.iconst 1, 1) := by decide +kernel
theorem dX9_tryAddSheet_81 : decode cX9_tryAddSheet 81 = .ok (.iadd, 1) := by decide +kernel
theorem dX9_tryAddSheet_82 : decode cX9_tryAddSheet 82 = .ok (.putfield 32, 3) := by decide +kernel
theorem dX9_tryAddSheet_85 : decode cX9_tryAddSheet 85 = .ok (.iload 6, 2) := by decide +kernel
theorem dX9_tryAddSheet_87 : decode cX9_tryAddSheet 87 = .ok (.ireturn, 1) := by decide +kernel
theorem dX9_tryAddCrease_0 : decode cX9_tryAddCrease 0 = .ok (.aload_n 0, 1) := by decide +kernel
theorem dX9_tryAddCrease_1 : decode cX9_tryAddCrease 1 = .ok (.iload_n 1, 1) := by decide +kernel
theorem dX9_tryAddCrease_2 : decode cX9_tryAddCrease 2 = .ok (.invokevirtual 57, 3) := by decide +kernel
theorem dX9_tryAddCrease_5 : decode cX9_tryAddCrease 5 = .ok (.ifCond .ne 5, 3) := by decide +kernel
theorem dX9_tryAddCrease_8 : decode cX9_tryAddCrease 8 = .ok (.iconst (-1), 1) := by decide +kernel
theorem dX9_tryAddCrease_9 : decode cX9_tryAddCrease 9 = .ok (.ireturn, 1) := by decide +kernel
theorem dX9_tryAddCrease_10 : decode cX9_tryAddCrease 10 = .ok (.iload_n 2, 1) := by decide +kernel
theorem dX9_tryAddCrease_11 : decode cX9_tryAddCrease 11 = .ok (.invokestatic 60, 3) := by decide +kernel
theorem dX9_tryAddCrease_14 : decode cX9_tryAddCrease 14 = .ok (.ifCond .ne 6, 3) := by decide +kernel
theorem dX9_tryAddCrease_17 : decode cX9_tryAddCrease 17 = .ok (.bipush (-2), 2) := by decide +kernel
theorem dX9_tryAddCrease_19 : decode cX9_tryAddCrease 19 = .ok (.ireturn, 1) := by decide +kernel
theorem dX9_tryAddCrease_20 : decode cX9_tryAddCrease 20 = .ok (.aload_n 0, 1) := by decide +kernel
theorem dX9_tryAddCrease_21 : decode cX9_tryAddCrease 21 = .ok (.getfield 11, 3) := by decide +kernel
theorem dX9_tryAddCrease_24 : decode cX9_tryAddCrease 24 = .ok (.iload_n 1, 1) := by decide +kernel
theorem dX9_tryAddCrease_25 : decode cX9_tryAddCrease 25 = .ok (.aaload, 1) := by decide +kernel
theorem dX9_tryAddCrease_26 : decode cX9_tryAddCrease 26 = .ok (.astore_n 3, 1) := by decide +kernel
theorem dX9_tryAddCrease_27 : decode cX9_tryAddCrease 27 = .ok (.aload_n 3, 1) := by decide +kernel
theorem dX9_tryAddCrease_28 : decode cX9_tryAddCrease 28 = .ok (.getfield 63, 3) := by decide +kernel
theorem dX9_tryAddCrease_31 : decode cX9_tryAddCrease 31 = .ok (.bipush 6, 2) := by decide +kernel
theorem dX9_tryAddCrease_33 : decode cX9_tryAddCrease 33 = .ok (.if_icmp .ge 10, 3) := by decide +kernel
theorem dX9_tryAddCrease_36 : decode cX9_tryAddCrease 36 = .ok (.aload_n 3, 1) := by decide +kernel
theorem dX9_tryAddCrease_37 : decode cX9_tryAddCrease 37 = .ok (.getfield 66, 3) := by decide +kernel
theorem dX9_tryAddCrease_40 : decode cX9_tryAddCrease 40 = .ok (.ifCond .eq 6, 3) := by decide +kernel
theorem dX9_tryAddCrease_43 : decode cX9_tryAddCrease 43 = .ok (.bipush (-3), 2) := by decide +kernel
theorem dX9_tryAddCrease_45 : decode cX9_tryAddCrease 45 = .ok (.ireturn, 1) := by decide +kernel
theorem dX9_tryAddCrease_46 : decode cX9_tryAddCrease 46 = .ok (.aload_n 3, 1) := by decide +kernel
theorem dX9_tryAddCrease_47 : decode cX9_tryAddCrease 47 = .ok (.getfield 70, 3) := by decide +kernel
theorem dX9_tryAddCrease_50 : decode cX9_tryAddCrease 50 = .ok (.aload_n 3, 1) := by decide +kernel
theorem dX9_tryAddCrease_51 : decode cX9_tryAddCrease 51 = .ok (.getfield 63, 3) := by decide +kernel
theorem dX9_tryAddCrease_54 : decode cX9_tryAddCrease 54 = .ok (.iload_n 2, 1) := by decide +kernel
theorem dX9_tryAddCrease_55 : decode cX9_tryAddCrease 55 = .ok (.castore, 1) := by decide +kernel
theorem dX9_tryAddCrease_56 : decode cX9_tryAddCrease 56 = .ok (.aload_n 3, 1) := by decide +kernel
theorem dX9_tryAddCrease_57 : decode cX9_tryAddCrease 57 = .ok (.dup, 1) := by decide +kernel
theorem dX9_tryAddCrease_58 : decode cX9_tryAddCrease 58 = .ok (.getfield 63, 3) := by decide +kernel
theorem dX9_tryAddCrease_61 : decode cX9_tryAddCrease 61 = .ok (.iconst 1, 1) := by decide +kernel
theorem dX9_tryAddCrease_62 : decode cX9_tryAddCrease 62 = .ok (.iadd, 1) := by decide +kernel
theorem dX9_tryAddCrease_63 : decode cX9_tryAddCrease 63 = .ok (.putfield 63, 3) := by decide +kernel
theorem dX9_tryAddCrease_66 : decode cX9_tryAddCrease 66 = .ok (.aload_n 3, 1) := by decide +kernel
theorem dX9_tryAddCrease_67 : decode cX9_tryAddCrease 67 = .ok (.getfield 63, 3) := by decide +kernel
theorem dX9_tryAddCrease_70 : decode cX9_tryAddCrease 70 = .ok (.ireturn, 1) := by decide +kernel
theorem dX9_tryFold_0 : decode cX9_tryFold 0 = .ok (.aload_n 0, 1) := by decide +kernel
theorem dX9_tryFold_1 : decode cX9_tryFold 1 = .ok (.iload_n 1, 1) := by decide +kernel
theorem dX9_tryFold_2 : decode cX9_tryFold 2 = .ok (.invokevirtual 57, 3) := by decide +kernel
theorem dX9_tryFold_5 : decode cX9_tryFold 5 = .ok (.ifCond .ne 5, 3) := by decide +kernel
theorem dX9_tryFold_8 : decode cX9_tryFold 8 = .ok (.iconst (-1), 1) := by decide +kernel
theorem dX9_tryFold_9 : decode cX9_tryFold 9 = .ok (.ireturn, 1) := by decide +kernel
theorem dX9_tryFold_10 : decode cX9_tryFold 10 = .ok (.aload_n 0, 1) := by decide +kernel
theorem dX9_tryFold_11 : decode cX9_tryFold 11 = .ok (.getfield 11, 3) := by decide +kernel
theorem dX9_tryFold_14 : decode cX9_tryFold 14 = .ok (.iload_n 1, 1) := by decide +kernel
theorem dX9_tryFold_15 : decode cX9_tryFold 15 = .ok (.aaload, 1) := by decide +kernel
theorem dX9_tryFold_16 : decode cX9_tryFold 16 = .ok (.astore_n 2, 1) := by decide +kernel
theorem dX9_tryFold_17 : decode cX9_tryFold 17 = .ok (.aload_n 2, 1) := by decide +kernel
theorem dX9_tryFold_18 : decode cX9_tryFold 18 = .ok (.getfield 66, 3) := by decide +kernel
theorem dX9_tryFold_21 : decode cX9_tryFold 21 = .ok (.ifCond .ne 17, 3) := by decide +kernel
theorem dX9_tryFold_24 : decode cX9_tryFold 24 = .ok (.aload_n 2, 1) := by decide +kernel
theorem dX9_tryFold_25 : decode cX9_tryFold 25 = .ok (.getfield 63, 3) := by decide +kernel
theorem dX9_tryFold_28 : decode cX9_tryFold 28 = .ok (.ifCond .eq 10, 3) := by decide +kernel
theorem dX9_tryFold_31 : decode cX9_tryFold 31 = .ok (.aload_n 2, 1) := by decide +kernel
theorem dX9_tryFold_32 : decode cX9_tryFold 32 = .ok (.invokevirtual 74, 3) := by decide +kernel
theorem dX9_tryFold_35 : decode cX9_tryFold 35 = .ok (.ifCond .eq 6, 3) := by decide +kernel
theorem dX9_tryFold_38 : decode cX9_tryFold 38 = .ok (.bipush (-3), 2) := by decide +kernel
theorem dX9_tryFold_40 : decode cX9_tryFold 40 = .ok (.ireturn, 1) := by decide +kernel
theorem dX9_tryFold_41 : decode cX9_tryFold 41 = .ok (.aload_n 2, 1) := by decide +kernel
theorem dX9_tryFold_42 : decode cX9_tryFold 42 = .ok (.iconst 1, 1) := by decide +kernel
theorem dX9_tryFold_43 : decode cX9_tryFold 43 = .ok (.putfield 66, 3) := by decide +kernel
theorem dX9_tryFold_46 : decode cX9_tryFold 46 = .ok (.aload_n 2, 1) := by decide +kernel
theorem dX9_tryFold_47 : decode cX9_tryFold 47 = .ok (.bipush 9, 2) := by decide +kernel
theorem dX9_tryFold_49 : decode cX9_tryFold 49 = .ok (.aload_n 2, 1) := by decide +kernel
theorem dX9_tryFold_50 : decode cX9_tryFold 50 = .ok (.getfield 78, 3) := by decide +kernel
theorem dX9_tryFold_53 : decode cX9_tryFold 53 = .ok (.aload_n 2, 1) := by decide +kernel
theorem dX9_tryFold_54 : decode cX9_tryFold 54 = .ok (.getfield 63, 3) := by decide +kernel
theorem dX9_tryFold_57 : decode cX9_tryFold 57 = .ok (.iadd, 1) := by decide +kernel
theorem dX9_tryFold_58 : decode cX9_tryFold 58 = .ok (.invokestatic 81, 3) := by decide +kernel
theorem dX9_tryFold_61 : decode cX9_tryFold 61 = .ok (.putfield 78, 3) := by decide +kernel
theorem dX9_tryFold_64 : decode cX9_tryFold 64 = .ok (.aload_n 0, 1) := by decide +kernel
theorem dX9_tryFold_65 : decode cX9_tryFold 65 = .ok (.dup, 1) := by decide +kernel
theorem dX9_tryFold_66 : decode cX9_tryFold 66 = .ok (.getfield 42, 3) := by decide +kernel
theorem dX9_tryFold_69 : decode cX9_tryFold 69 = .ok (.iconst 1, 1) := by decide +kernel
theorem dX9_tryFold_70 : decode cX9_tryFold 70 = .ok (.iadd, 1) := by decide +kernel
theorem dX9_tryFold_71 : decode cX9_tryFold 71 = .ok (.putfield 42, 3) := by decide +kernel
theorem dX9_tryFold_74 : decode cX9_tryFold 74 = .ok (.aload_n 2, 1) := by decide +kernel
theorem dX9_tryFold_75 : decode cX9_tryFold 75 = .ok (.getfield 78, 3) := by decide +kernel
theorem dX9_tryFold_78 : decode cX9_tryFold 78 = .ok (.ireturn, 1) := by decide +kernel
theorem dX9_tryUnfold_0 : decode cX9_tryUnfold 0 = .ok (.aload_n 0, 1) := by decide +kernel
theorem dX9_tryUnfold_1 : decode cX9_tryUnfold 1 = .ok (.iload_n 1, 1) := by decide +kernel
theorem dX9_tryUnfold_2 : decode cX9_tryUnfold 2 = .ok (.invokevirtual 57, 3) := by decide +kernel
theorem dX9_tryUnfold_5 : decode cX9_tryUnfold 5 = .ok (.ifCond .ne 5, 3) := by decide +kernel
theorem dX9_tryUnfold_8 : decode cX9_tryUnfold 8 = .ok (.iconst (-1), 1) := by decide +kernel
theorem dX9_tryUnfold_9 : decode cX9_tryUnfold 9 = .ok (.ireturn, 1) := by decide +kernel
theorem dX9_tryUnfold_10 : decode cX9_tryUnfold 10 = .ok (.aload_n 0, 1) := by decide +kernel
theorem dX9_tryUnfold_11 : decode cX9_tryUnfold 11 = .ok (.getfield 11, 3) := by decide +kernel
theorem dX9_tryUnfold_14 : decode cX9_tryUnfold 14 = .ok (.iload_n 1, 1) := by decide +kernel
theorem dX9_tryUnfold_15 : decode cX9_tryUnfold 15 = .ok (.aaload, 1) := by decide +kernel
theorem dX9_tryUnfold_16 : decode cX9_tryUnfold 16 = .ok (.getfield 66, 3) := by decide +kernel
theorem dX9_tryUnfold_19 : decode cX9_tryUnfold 19 = .ok (.ifCond .ne 6, 3) := by decide +kernel
theorem dX9_tryUnfold_22 : decode cX9_tryUnfold 22 = .ok (.bipush (-3), 2) := by decide +kernel
theorem dX9_tryUnfold_24 : decode cX9_tryUnfold 24 = .ok (.ireturn, 1) := by decide +kernel
theorem dX9_tryUnfold_25 : decode cX9_tryUnfold 25 = .ok (.aload_n 0, 1) := by decide +kernel
theorem dX9_tryUnfold_26 : decode cX9_tryUnfold 26 = .ok (.getfield 11, 3) := by decide +kernel
theorem dX9_tryUnfold_29 : decode cX9_tryUnfold 29 = .ok (.iload_n 1, 1) := by decide +kernel
theorem dX9_tryUnfold_30 : decode cX9_tryUnfold 30 = .ok (.aaload, 1) := by decide +kernel
theorem dX9_tryUnfold_31 : decode cX9_tryUnfold 31 = .ok (.iconst 0, 1) := by decide +kernel
theorem dX9_tryUnfold_32 : decode cX9_tryUnfold 32 = .ok (.putfield 66, 3) := by decide +kernel
theorem dX9_tryUnfold_35 : decode cX9_tryUnfold 35 = .ok (.aload_n 0, 1) := by decide +kernel
theorem dX9_tryUnfold_36 : decode cX9_tryUnfold 36 = .ok (.invokevirtual 87, 3) := by decide +kernel
theorem dX9_tryUnfold_39 : decode cX9_tryUnfold 39 = .ok (.ireturn, 1) := by decide +kernel
theorem dX9_tryMend_0 : decode cX9_tryMend 0 = .ok (.aload_n 0, 1) := by decide +kernel
theorem dX9_tryMend_1 : decode cX9_tryMend 1 = .ok (.iload_n 1, 1) := by decide +kernel
theorem dX9_tryMend_2 : decode cX9_tryMend 2 = .ok (.invokevirtual 57, 3) := by decide +kernel
theorem dX9_tryMend_5 : decode cX9_tryMend 5 = .ok (.ifCond .ne 5, 3) := by decide +kernel
theorem dX9_tryMend_8 : decode cX9_tryMend 8 = .ok (.iconst (-1), 1) := by decide +kernel
theorem dX9_tryMend_9 : decode cX9_tryMend 9 = .ok (.ireturn, 1) := by decide +kernel
theorem dX9_tryMend_10 : decode cX9_tryMend 10 = .ok (.aload_n 0, 1) := by decide +kernel
theorem dX9_tryMend_11 : decode cX9_tryMend 11 = .ok (.getfield 11, 3) := by decide +kernel
theorem dX9_tryMend_14 : decode cX9_tryMend 14 = .ok (.iload_n 1, 1) := by decide +kernel
theorem dX9_tryMend_15 : decode cX9_tryMend 15 = .ok (.aaload, 1) := by decide +kernel
theorem dX9_tryMend_16 : decode cX9_tryMend 16 = .ok (.astore_n 2, 1) := by decide +kernel
theorem dX9_tryMend_17 : decode cX9_tryMend 17 = .ok (.aload_n 2, 1) := by decide +kernel
theorem dX9_tryMend_18 : decode cX9_tryMend 18 = .ok (.getfield 78, 3) := by decide +kernel
theorem dX9_tryMend_21 : decode cX9_tryMend 21 = .ok (.ifCond .eq 10, 3) := by decide +kernel
theorem dX9_tryMend_24 : decode cX9_tryMend 24 = .ok (.aload_n 2, 1) := by decide +kernel
theorem dX9_tryMend_25 : decode cX9_tryMend 25 = .ok (.getfield 66, 3) := by decide +kernel
theorem dX9_tryMend_28 : decode cX9_tryMend 28 = .ok (.ifCond .eq 6, 3) := by decide +kernel
theorem dX9_tryMend_31 : decode cX9_tryMend 31 = .ok (.bipush (-3), 2) := by decide +kernel
theorem dX9_tryMend_33 : decode cX9_tryMend 33 = .ok (.ireturn, 1) := by decide +kernel
theorem dX9_tryMend_34 : decode cX9_tryMend 34 = .ok (.aload_n 0, 1) := by decide +kernel
theorem dX9_tryMend_35 : decode cX9_tryMend 35 = .ok (.getfield 36, 3) := by decide +kernel
theorem dX9_tryMend_38 : decode cX9_tryMend 38 = .ok (.aload_n 2, 1) := by decide +kernel
theorem dX9_tryMend_39 : decode cX9_tryMend 39 = .ok (.getfield 78, 3) := by decide +kernel
theorem dX9_tryMend_42 : decode cX9_tryMend 42 = .ok (.if_icmp .ge 6, 3) := by decide +kernel
theorem dX9_tryMend_45 : decode cX9_tryMend 45 = .ok (.bipush (-4), 2) := by decide +kernel
theorem dX9_tryMend_47 : decode cX9_tryMend 47 = .ok (.ireturn, 1) := by decide +kernel
theorem dX9_tryMend_48 : decode cX9_tryMend 48 = .ok (.aload_n 0, 1) := by decide +kernel
theorem dX9_tryMend_49 : decode cX9_tryMend 49 = .ok (.dup, 1) := by decide +kernel
theorem dX9_tryMend_50 : decode cX9_tryMend 50 = .ok (.getfield 36, 3) := by decide +kernel
theorem dX9_tryMend_53 : decode cX9_tryMend 53 = .ok (.aload_n 2, 1) := by decide +kernel
theorem dX9_tryMend_54 : decode cX9_tryMend 54 = .ok (.getfield 78, 3) := by decide +kernel
theorem dX9_tryMend_57 : decode cX9_tryMend 57 = .ok (.isub, 1) := by decide +kernel
theorem dX9_tryMend_58 : decode cX9_tryMend 58 = .ok (.putfield 36, 3) := by decide +kernel
theorem dX9_tryMend_61 : decode cX9_tryMend 61 = .ok (.aload_n 0, 1) := by decide +kernel
theorem dX9_tryMend_62 : decode cX9_tryMend 62 = .ok (.dup, 1) := by decide +kernel
theorem dX9_tryMend_63 : decode cX9_tryMend 63 = .ok (.getfield 39, 3) := by decide +kernel
theorem dX9_tryMend_66 : decode cX9_tryMend 66 = .ok (.aload_n 2, 1) := by decide +kernel
theorem dX9_tryMend_67 : decode cX9_tryMend 67 = .ok (.getfield 78, 3) := by decide +kernel
theorem dX9_tryMend_70 : decode cX9_tryMend 70 = .ok (.iadd, 1) := by decide +kernel
theorem dX9_tryMend_71 : decode cX9_tryMend 71 = .ok (.putfield 39, 3) := by decide +kernel
theorem dX9_tryMend_74 : decode cX9_tryMend 74 = .ok (.aload_n 2, 1) := by decide +kernel
theorem dX9_tryMend_75 : decode cX9_tryMend 75 = .ok (.iconst 0, 1) := by decide +kernel
theorem dX9_tryMend_76 : decode cX9_tryMend 76 = .ok (.putfield 78, 3) := by decide +kernel
theorem dX9_tryMend_79 : decode cX9_tryMend 79 = .ok (.aload_n 0, 1) := by decide +kernel
theorem dX9_tryMend_80 : decode cX9_tryMend 80 = .ok (.getfield 36, 3) := by decide +kernel
theorem dX9_tryMend_83 : decode cX9_tryMend 83 = .ok (.ireturn, 1) := by decide +kernel
theorem dX9_tryPut_0 : decode cX9_tryPut 0 = .ok (.aload_n 0, 1) := by decide +kernel
theorem dX9_tryPut_1 : decode cX9_tryPut 1 = .ok (.iload_n 1, 1) := by decide +kernel
theorem dX9_tryPut_2 : decode cX9_tryPut 2 = .ok (.invokevirtual 57, 3) := by decide +kernel
theorem dX9_tryPut_5 : decode cX9_tryPut 5 = .ok (.ifCond .eq 10, 3) := by decide +kernel
theorem dX9_tryPut_8 : decode cX9_tryPut 8 = .ok (.iload_n 2, 1) := by decide +kernel
theorem dX9_tryPut_9 : decode cX9_tryPut 9 = .ok (.invokestatic 91, 3) := by decide +kernel
theorem dX9_tryPut_12 : decode cX9_tryPut 12 = .ok (.ifCond .ne 5, 3) := by decide +kernel
theorem dX9_tryPut_15 : decode cX9_tryPut 15 = .ok (.iconst (-1), 1) := by decide +kernel
theorem dX9_tryPut_16 : decode cX9_tryPut 16 = .ok (.ireturn, 1) := by decide +kernel
theorem dX9_tryPut_17 : decode cX9_tryPut 17 = .ok (.iload_n 3, 1) := by decide +kernel
theorem dX9_tryPut_18 : decode cX9_tryPut 18 = .ok (.invokestatic 94, 3) := by decide +kernel
theorem dX9_tryPut_21 : decode cX9_tryPut 21 = .ok (.ifCond .ne 6, 3) := by decide +kernel
theorem dX9_tryPut_24 : decode cX9_tryPut 24 = .ok (.bipush (-2), 2) := by decide +kernel
theorem dX9_tryPut_26 : decode cX9_tryPut 26 = .ok (.ireturn, 1) := by decide +kernel
theorem dX9_tryPut_27 : decode cX9_tryPut 27 = .ok (.aload_n 0, 1) := by decide +kernel
theorem dX9_tryPut_28 : decode cX9_tryPut 28 = .ok (.getfield 11, 3) := by decide +kernel
theorem dX9_tryPut_31 : decode cX9_tryPut 31 = .ok (.iload_n 1, 1) := by decide +kernel
theorem dX9_tryPut_32 : decode cX9_tryPut 32 = .ok (.aaload, 1) := by decide +kernel
theorem dX9_tryPut_33 : decode cX9_tryPut 33 = .ok (.invokevirtual 97, 3) := by decide +kernel
theorem dX9_tryPut_36 : decode cX9_tryPut 36 = .ok (.ifCond .eq 11, 3) := by decide +kernel
theorem dX9_tryPut_39 : decode cX9_tryPut 39 = .ok (.aload_n 0, 1) := by decide +kernel
theorem dX9_tryPut_40 : decode cX9_tryPut 40 = .ok (.iload_n 2, 1) := by decide +kernel
theorem dX9_tryPut_41 : decode cX9_tryPut 41 = .ok (.invokevirtual 100, 3) := by decide +kernel
theorem dX9_tryPut_44 : decode cX9_tryPut 44 = .ok (.ifCond .eq 6, 3) := by decide +kernel
theorem dX9_tryPut_47 : decode cX9_tryPut 47 = .ok (.bipush (-3), 2) := by decide +kernel
theorem dX9_tryPut_49 : decode cX9_tryPut 49 = .ok (.ireturn, 1) := by decide +kernel
theorem dX9_tryPut_50 : decode cX9_tryPut 50 = .ok (.aload_n 0, 1) := by decide +kernel
theorem dX9_tryPut_51 : decode cX9_tryPut 51 = .ok (.aload_n 0, 1) := by decide +kernel
theorem dX9_tryPut_52 : decode cX9_tryPut 52 = .ok (.getfield 11, 3) := by decide +kernel
theorem dX9_tryPut_55 : decode cX9_tryPut 55 = .ok (.iload_n 1, 1) := by decide +kernel
theorem dX9_tryPut_56 : decode cX9_tryPut 56 = .ok (.aaload, 1) := by decide +kernel
theorem dX9_tryPut_57 : decode cX9_tryPut 57 = .ok (.iload_n 2, 1) := by decide +kernel
theorem dX9_tryPut_58 : decode cX9_tryPut 58 = .ok (.iload_n 3, 1) := by decide +kernel
theorem dX9_tryPut_59 : decode cX9_tryPut 59 = .ok (.invokevirtual 103, 3) := by decide +kernel
theorem dX9_tryPut_62 : decode cX9_tryPut 62 = .ok (.ifCond .ne 6, 3) := by decide +kernel
theorem dX9_tryPut_65 : decode cX9_tryPut 65 = .ok (.bipush (-4), 2) := by decide +kernel
theorem dX9_tryPut_67 : decode cX9_tryPut 67 = .ok (.ireturn, 1) := by decide +kernel
theorem dX9_tryPut_68 : decode cX9_tryPut 68 = .ok (.aload_n 0, 1) := by decide +kernel
theorem dX9_tryPut_69 : decode cX9_tryPut 69 = .ok (.iload_n 1, 1) := by decide +kernel
theorem dX9_tryPut_70 : decode cX9_tryPut 70 = .ok (.iload_n 2, 1) := by decide +kernel
theorem dX9_tryPut_71 : decode cX9_tryPut 71 = .ok (.iload_n 3, 1) := by decide +kernel
theorem dX9_tryPut_72 : decode cX9_tryPut 72 = .ok (.invokevirtual 107, 3) := by decide +kernel
theorem dX9_tryPut_75 : decode cX9_tryPut 75 = .ok (.aload_n 0, 1) := by decide +kernel
theorem dX9_tryPut_76 : decode cX9_tryPut 76 = .ok (.iload_n 2, 1) := by decide +kernel
theorem dX9_tryPut_77 : decode cX9_tryPut 77 = .ok (.invokevirtual 111, 3) := by decide +kernel
theorem dX9_tryPut_80 : decode cX9_tryPut 80 = .ok (.ireturn, 1) := by decide +kernel
theorem dX9_tryTake_0 : decode cX9_tryTake 0 = .ok (.iload_n 1, 1) := by decide +kernel
theorem dX9_tryTake_1 : decode cX9_tryTake 1 = .ok (.invokestatic 91, 3) := by decide +kernel
theorem dX9_tryTake_4 : decode cX9_tryTake 4 = .ok (.ifCond .ne 5, 3) := by decide +kernel
theorem dX9_tryTake_7 : decode cX9_tryTake 7 = .ok (.iconst (-1), 1) := by decide +kernel
theorem dX9_tryTake_8 : decode cX9_tryTake 8 = .ok (.ireturn, 1) := by decide +kernel
theorem dX9_tryTake_9 : decode cX9_tryTake 9 = .ok (.aload_n 0, 1) := by decide +kernel
theorem dX9_tryTake_10 : decode cX9_tryTake 10 = .ok (.iload_n 1, 1) := by decide +kernel
theorem dX9_tryTake_11 : decode cX9_tryTake 11 = .ok (.invokevirtual 100, 3) := by decide +kernel
theorem dX9_tryTake_14 : decode cX9_tryTake 14 = .ok (.ifCond .ne 6, 3) := by decide +kernel
theorem dX9_tryTake_17 : decode cX9_tryTake 17 = .ok (.bipush (-5), 2) := by decide +kernel
theorem dX9_tryTake_19 : decode cX9_tryTake 19 = .ok (.ireturn, 1) := by decide +kernel
theorem dX9_tryTake_20 : decode cX9_tryTake 20 = .ok (.aload_n 0, 1) := by decide +kernel
theorem dX9_tryTake_21 : decode cX9_tryTake 21 = .ok (.getfield 17, 3) := by decide +kernel
theorem dX9_tryTake_24 : decode cX9_tryTake 24 = .ok (.iload_n 1, 1) := by decide +kernel
theorem dX9_tryTake_25 : decode cX9_tryTake 25 = .ok (.iaload, 1) := by decide +kernel
theorem dX9_tryTake_26 : decode cX9_tryTake 26 = .ok (.istore_n 2, 1) := by decide +kernel
theorem dX9_tryTake_27 : decode cX9_tryTake 27 = .ok (.aload_n 0, 1) := by decide +kernel
theorem dX9_tryTake_28 : decode cX9_tryTake 28 = .ok (.iload_n 1, 1) := by decide +kernel
theorem dX9_tryTake_29 : decode cX9_tryTake 29 = .ok (.invokevirtual 115, 3) := by decide +kernel
theorem dX9_tryTake_32 : decode cX9_tryTake 32 = .ok (.iload_n 2, 1) := by decide +kernel
theorem dX9_tryTake_33 : decode cX9_tryTake 33 = .ok (.ireturn, 1) := by decide +kernel
theorem dX9_tryAddPaste_0 : decode cX9_tryAddPaste 0 = .ok (.iload_n 1, 1) := by decide +kernel
theorem dX9_tryAddPaste_1 : decode cX9_tryAddPaste 1 = .ok (.iconst 1, 1) := by decide +kernel
theorem dX9_tryAddPaste_2 : decode cX9_tryAddPaste 2 = .ok (.if_icmp .lt 9, 3) := by decide +kernel
theorem dX9_tryAddPaste_5 : decode cX9_tryAddPaste 5 = .ok (.iload_n 1, 1) := by decide +kernel
theorem dX9_tryAddPaste_6 : decode cX9_tryAddPaste 6 = .ok (.bipush 20, 2) := by decide +kernel
theorem dX9_tryAddPaste_8 : decode cX9_tryAddPaste 8 = .ok (.if_icmp .le 6, 3) := by decide +kernel
theorem dX9_tryAddPaste_11 : decode cX9_tryAddPaste 11 = .ok (.bipush (-2), 2) := by decide +kernel
theorem dX9_tryAddPaste_13 : decode cX9_tryAddPaste 13 = .ok (.ireturn, 1) := by decide +kernel
theorem dX9_tryAddPaste_14 : decode cX9_tryAddPaste 14 = .ok (.aload_n 0, 1) := by decide +kernel
theorem dX9_tryAddPaste_15 : decode cX9_tryAddPaste 15 = .ok (.getfield 36, 3) := by decide +kernel
theorem dX9_tryAddPaste_18 : decode cX9_tryAddPaste 18 = .ok (.iload_n 1, 1) := by decide +kernel
theorem dX9_tryAddPaste_19 : decode cX9_tryAddPaste 19 = .ok (.iadd, 1) := by decide +kernel
theorem dX9_tryAddPaste_20 : decode cX9_tryAddPaste 20 = .ok (.bipush 50, 2) := by decide +kernel
theorem dX9_tryAddPaste_22 : decode cX9_tryAddPaste 22 = .ok (.if_icmp .le 6, 3) := by decide +kernel
theorem dX9_tryAddPaste_25 : decode cX9_tryAddPaste 25 = .ok (.bipush (-3), 2) := by decide +kernel
theorem dX9_tryAddPaste_27 : decode cX9_tryAddPaste 27 = .ok (.ireturn, 1) := by decide +kernel
theorem dX9_tryAddPaste_28 : decode cX9_tryAddPaste 28 = .ok (.aload_n 0, 1) := by decide +kernel
theorem dX9_tryAddPaste_29 : decode cX9_tryAddPaste 29 = .ok (.dup, 1) := by decide +kernel
theorem dX9_tryAddPaste_30 : decode cX9_tryAddPaste 30 = .ok (.getfield 36, 3) := by decide +kernel
theorem dX9_tryAddPaste_33 : decode cX9_tryAddPaste 33 = .ok (.iload_n 1, 1) := by decide +kernel
theorem dX9_tryAddPaste_34 : decode cX9_tryAddPaste 34 = .ok (.iadd, 1) := by decide +kernel
theorem dX9_tryAddPaste_35 : decode cX9_tryAddPaste 35 = .ok (.putfield 36, 3) := by decide +kernel
theorem dX9_tryAddPaste_38 : decode cX9_tryAddPaste 38 = .ok (.aload_n 0, 1) := by decide +kernel
theorem dX9_tryAddPaste_39 : decode cX9_tryAddPaste 39 = .ok (.getfield 36, 3) := by decide +kernel
theorem dX9_tryAddPaste_42 : decode cX9_tryAddPaste 42 = .ok (.ireturn, 1) := by decide +kernel
theorem dX9_hasSheet_0 : decode cX9_hasSheet 0 = .ok (.iload_n 1, 1) := by decide +kernel
theorem dX9_hasSheet_1 : decode cX9_hasSheet 1 = .ok (.ifCond .lt 15, 3) := by decide +kernel
theorem dX9_hasSheet_4 : decode cX9_hasSheet 4 = .ok (.iload_n 1, 1) := by decide +kernel
theorem dX9_hasSheet_5 : decode cX9_hasSheet 5 = .ok (.aload_n 0, 1) := by decide +kernel
theorem dX9_hasSheet_6 : decode cX9_hasSheet 6 = .ok (.getfield 32, 3) := by decide +kernel
theorem dX9_hasSheet_9 : decode cX9_hasSheet 9 = .ok (.if_icmp .ge 7, 3) := by decide +kernel
theorem dX9_hasSheet_12 : decode cX9_hasSheet 12 = .ok (.iconst 1, 1) := by decide +kernel
theorem dX9_hasSheet_13 : decode cX9_hasSheet 13 = .ok (.goto 4, 3) := by decide +kernel
theorem dX9_hasSheet_16 : decode cX9_hasSheet 16 = .ok (.iconst 0, 1) := by decide +kernel
theorem dX9_hasSheet_17 : decode cX9_hasSheet 17 = .ok (.ireturn, 1) := by decide +kernel
theorem dX9_isOccupied_0 : decode cX9_isOccupied 0 = .ok (.aload_n 0, 1) := by decide +kernel
theorem dX9_isOccupied_1 : decode cX9_isOccupied 1 = .ok (.getfield 17, 3) := by decide +kernel
theorem dX9_isOccupied_4 : decode cX9_isOccupied 4 = .ok (.iload_n 1, 1) := by decide +kernel
theorem dX9_isOccupied_5 : decode cX9_isOccupied 5 = .ok (.iaload, 1) := by decide +kernel
theorem dX9_isOccupied_6 : decode cX9_isOccupied 6 = .ok (.iconst (-1), 1) := by decide +kernel
theorem dX9_isOccupied_7 : decode cX9_isOccupied 7 = .ok (.if_icmp .eq 7, 3) := by decide +kernel
theorem dX9_isOccupied_10 : decode cX9_isOccupied 10 = .ok (.iconst 1, 1) := by decide +kernel
theorem dX9_isOccupied_11 : decode cX9_isOccupied 11 = .ok (.goto 4, 3) := by decide +kernel
theorem dX9_isOccupied_14 : decode cX9_isOccupied 14 = .ok (.iconst 0, 1) := by decide +kernel
theorem dX9_isOccupied_15 : decode cX9_isOccupied 15 = .ok (.ireturn, 1) := by decide +kernel
theorem dX9_sheetLaidIn_0 : decode cX9_sheetLaidIn 0 = .ok (.aload_n 0, 1) := by decide +kernel
theorem dX9_sheetLaidIn_1 : decode cX9_sheetLaidIn 1 = .ok (.getfield 11, 3) := by decide +kernel
theorem dX9_sheetLaidIn_4 : decode cX9_sheetLaidIn 4 = .ok (.aload_n 0, 1) := by decide +kernel
theorem dX9_sheetLaidIn_5 : decode cX9_sheetLaidIn 5 = .ok (.getfield 17, 3) := by decide +kernel
theorem dX9_sheetLaidIn_8 : decode cX9_sheetLaidIn 8 = .ok (.iload_n 1, 1) := by decide +kernel
theorem dX9_sheetLaidIn_9 : decode cX9_sheetLaidIn 9 = .ok (.iaload, 1) := by decide +kernel
theorem dX9_sheetLaidIn_10 : decode cX9_sheetLaidIn 10 = .ok (.aaload, 1) := by decide +kernel
theorem dX9_sheetLaidIn_11 : decode cX9_sheetLaidIn 11 = .ok (.areturn, 1) := by decide +kernel
theorem dX9_lay_0 : decode cX9_lay 0 = .ok (.aload_n 0, 1) := by decide +kernel
theorem dX9_lay_1 : decode cX9_lay 1 = .ok (.getfield 17, 3) := by decide +kernel
theorem dX9_lay_4 : decode cX9_lay 4 = .ok (.iload_n 2, 1) := by decide +kernel
theorem dX9_lay_5 : decode cX9_lay 5 = .ok (.iload_n 1, 1) := by decide +kernel
theorem dX9_lay_6 : decode cX9_lay 6 = .ok (.iastore, 1) := by decide +kernel
theorem dX9_lay_7 : decode cX9_lay 7 = .ok (.aload_n 0, 1) := by decide +kernel
theorem dX9_lay_8 : decode cX9_lay 8 = .ok (.getfield 11, 3) := by decide +kernel
theorem dX9_lay_11 : decode cX9_lay 11 = .ok (.iload_n 1, 1) := by decide +kernel
theorem dX9_lay_12 : decode cX9_lay 12 = .ok (.aaload, 1) := by decide +kernel
theorem dX9_lay_13 : decode cX9_lay 13 = .ok (.iload_n 2, 1) := by decide +kernel
theorem dX9_lay_14 : decode cX9_lay 14 = .ok (.putfield 119, 3) := by decide +kernel
theorem dX9_lay_17 : decode cX9_lay 17 = .ok (.aload_n 0, 1) := by decide +kernel
theorem dX9_lay_18 : decode cX9_lay 18 = .ok (.getfield 11, 3) := by decide +kernel
theorem dX9_lay_21 : decode cX9_lay 21 = .ok (.iload_n 1, 1) := by decide +kernel
theorem dX9_lay_22 : decode cX9_lay 22 = .ok (.aaload, 1) := by decide +kernel
theorem dX9_lay_23 : decode cX9_lay 23 = .ok (.iload_n 3, 1) := by decide +kernel
theorem dX9_lay_24 : decode cX9_lay 24 = .ok (.putfield 122, 3) := by decide +kernel
theorem dX9_lay_27 : decode cX9_lay 27 = .ok (.return_, 1) := by decide +kernel
theorem dX9_lift_0 : decode cX9_lift 0 = .ok (.aload_n 0, 1) := by decide +kernel
theorem dX9_lift_1 : decode cX9_lift 1 = .ok (.iload_n 1, 1) := by decide +kernel
theorem dX9_lift_2 : decode cX9_lift 2 = .ok (.invokevirtual 125, 3) := by decide +kernel
theorem dX9_lift_5 : decode cX9_lift 5 = .ok (.iconst (-1), 1) := by decide +kernel
theorem dX9_lift_6 : decode cX9_lift 6 = .ok (.putfield 119, 3) := by decide +kernel
theorem dX9_lift_9 : decode cX9_lift 9 = .ok (.aload_n 0, 1) := by decide +kernel
theorem dX9_lift_10 : decode cX9_lift 10 = .ok (.getfield 17, 3) := by decide +kernel
theorem dX9_lift_13 : decode cX9_lift 13 = .ok (.iload_n 1, 1) := by decide +kernel
theorem dX9_lift_14 : decode cX9_lift 14 = .ok (.iconst (-1), 1) := by decide +kernel
theorem dX9_lift_15 : decode cX9_lift 15 = .ok (.iastore, 1) := by decide +kernel
theorem dX9_lift_16 : decode cX9_lift 16 = .ok (.return_, 1) := by decide +kernel
theorem dX9_isOccupiedBeside_0 : decode cX9_isOccupiedBeside 0 = .ok (.iload_n 1, 1) := by decide +kernel
theorem dX9_isOccupiedBeside_1 : decode cX9_isOccupiedBeside 1 = .ok (.iload_n 2, 1) := by decide +kernel
theorem dX9_isOccupiedBeside_2 : decode cX9_isOccupiedBeside 2 = .ok (.invokestatic 129, 3) := by decide +kernel
theorem dX9_isOccupiedBeside_5 : decode cX9_isOccupiedBeside 5 = .ok (.istore_n 3, 1) := by decide +kernel
theorem dX9_isOccupiedBeside_6 : decode cX9_isOccupiedBeside 6 = .ok (.iload_n 3, 1) := by decide +kernel
theorem dX9_isOccupiedBeside_7 : decode cX9_isOccupiedBeside 7 = .ok (.iconst (-1), 1) := by decide +kernel
theorem dX9_isOccupiedBeside_8 : decode cX9_isOccupiedBeside 8 = .ok (.if_icmp .eq 15, 3) := by decide +kernel
theorem dX9_isOccupiedBeside_11 : decode cX9_isOccupiedBeside 11 = .ok (.aload_n 0, 1) := by decide +kernel
theorem dX9_isOccupiedBeside_12 : decode cX9_isOccupiedBeside 12 = .ok (.iload_n 3, 1) := by decide +kernel
theorem dX9_isOccupiedBeside_13 : decode cX9_isOccupiedBeside 13 = .ok (.invokevirtual 100, 3) := by decide +kernel
theorem dX9_isOccupiedBeside_16 : decode cX9_isOccupiedBeside 16 = .ok (.ifCond .eq 7, 3) := by decide +kernel
theorem dX9_isOccupiedBeside_19 : decode cX9_isOccupiedBeside 19 = .ok (.iconst 1, 1) := by decide +kernel
theorem dX9_isOccupiedBeside_20 : decode cX9_isOccupiedBeside 20 = .ok (.goto 4, 3) := by decide +kernel
theorem dX9_isOccupiedBeside_23 : decode cX9_isOccupiedBeside 23 = .ok (.iconst 0, 1) := by decide +kernel
theorem dX9_isOccupiedBeside_24 : decode cX9_isOccupiedBeside 24 = .ok (.ireturn, 1) := by decide +kernel
theorem dX9_countBeside_0 : decode cX9_countBeside 0 = .ok (.iconst 0, 1) := by decide +kernel
theorem dX9_countBeside_1 : decode cX9_countBeside 1 = .ok (.istore_n 2, 1) := by decide +kernel
theorem dX9_countBeside_2 : decode cX9_countBeside 2 = .ok (.iconst 0, 1) := by decide +kernel
theorem dX9_countBeside_3 : decode cX9_countBeside 3 = .ok (.istore_n 3, 1) := by decide +kernel
theorem dX9_countBeside_4 : decode cX9_countBeside 4 = .ok (.iload_n 3, 1) := by decide +kernel
theorem dX9_countBeside_5 : decode cX9_countBeside 5 = .ok (.iconst 4, 1) := by decide +kernel
theorem dX9_countBeside_6 : decode cX9_countBeside 6 = .ok (.if_icmp .ge 21, 3) := by decide +kernel
theorem dX9_countBeside_9 : decode cX9_countBeside 9 = .ok (.aload_n 0, 1) := by decide +kernel
theorem dX9_countBeside_10 : decode cX9_countBeside 10 = .ok (.iload_n 1, 1) := by decide +kernel
theorem dX9_countBeside_11 : decode cX9_countBeside 11 = .ok (.iload_n 3, 1) := by decide +kernel
theorem dX9_countBeside_12 : decode cX9_countBeside 12 = .ok (.invokevirtual 132, 3) := by decide +kernel
theorem dX9_countBeside_15 : decode cX9_countBeside 15 = .ok (.ifCond .eq 6, 3) := by decide +kernel
theorem dX9_countBeside_18 : decode cX9_countBeside 18 = .ok (.iinc 2 1, 3) := by decide +kernel
theorem dX9_countBeside_21 : decode cX9_countBeside 21 = .ok (.iinc 3 1, 3) := by decide +kernel
theorem dX9_countBeside_24 : decode cX9_countBeside 24 = .ok (.goto (-20), 3) := by decide +kernel
theorem dX9_countBeside_27 : decode cX9_countBeside 27 = .ok (.iload_n 2, 1) := by decide +kernel
theorem dX9_countBeside_28 : decode cX9_countBeside 28 = .ok (.ireturn, 1) := by decide +kernel
theorem dX9_countKindBeside_0 : decode cX9_countKindBeside 0 = .ok (.iconst 0, 1) := by decide +kernel
theorem dX9_countKindBeside_1 : decode cX9_countKindBeside 1 = .ok (.istore_n 3, 1) := by decide +kernel
theorem dX9_countKindBeside_2 : decode cX9_countKindBeside 2 = .ok (.iconst 0, 1) := by decide +kernel
theorem dX9_countKindBeside_3 : decode cX9_countKindBeside 3 = .ok (.istore 4, 2) := by decide +kernel
theorem dX9_countKindBeside_5 : decode cX9_countKindBeside 5 = .ok (.iload 4, 2) := by decide +kernel
theorem dX9_countKindBeside_7 : decode cX9_countKindBeside 7 = .ok (.iconst 4, 1) := by decide +kernel
theorem dX9_countKindBeside_8 : decode cX9_countKindBeside 8 = .ok (.if_icmp .ge 39, 3) := by decide +kernel
theorem dX9_countKindBeside_11 : decode cX9_countKindBeside 11 = .ok (.aload_n 0, 1) := by decide +kernel
theorem dX9_countKindBeside_12 : decode cX9_countKindBeside 12 = .ok (.iload_n 1, 1) := by decide +kernel
theorem dX9_countKindBeside_13 : decode cX9_countKindBeside 13 = .ok (.iload 4, 2) := by decide +kernel
theorem dX9_countKindBeside_15 : decode cX9_countKindBeside 15 = .ok (.invokevirtual 132, 3) := by decide +kernel
theorem dX9_countKindBeside_18 : decode cX9_countKindBeside 18 = .ok (.ifCond .eq 23, 3) := by decide +kernel
theorem dX9_countKindBeside_21 : decode cX9_countKindBeside 21 = .ok (.aload_n 0, 1) := by decide +kernel
theorem dX9_countKindBeside_22 : decode cX9_countKindBeside 22 = .ok (.iload_n 1, 1) := by decide +kernel
theorem dX9_countKindBeside_23 : decode cX9_countKindBeside 23 = .ok (.iload 4, 2) := by decide +kernel
theorem dX9_countKindBeside_25 : decode cX9_countKindBeside 25 = .ok (.invokestatic 129, 3) := by decide +kernel
theorem dX9_countKindBeside_28 : decode cX9_countKindBeside 28 = .ok (.invokevirtual 125, 3) := by decide +kernel
theorem dX9_countKindBeside_31 : decode cX9_countKindBeside 31 = .ok (.getfield 136, 3) := by decide +kernel
theorem dX9_countKindBeside_34 : decode cX9_countKindBeside 34 = .ok (.iload_n 2, 1) := by decide +kernel
theorem dX9_countKindBeside_35 : decode cX9_countKindBeside 35 = .ok (.if_icmp .ne 6, 3) := by decide +kernel
theorem dX9_countKindBeside_38 : decode cX9_countKindBeside 38 = .ok (.iinc 3 1, 3) := by decide +kernel
theorem dX9_countKindBeside_41 : decode cX9_countKindBeside 41 = .ok (.iinc 4 1, 3) := by decide +kernel
theorem dX9_countKindBeside_44 : decode cX9_countKindBeside 44 = .ok (.goto (-39), 3) := by decide +kernel
theorem dX9_countKindBeside_47 : decode cX9_countKindBeside 47 = .ok (.iload_n 3, 1) := by decide +kernel
theorem dX9_countKindBeside_48 : decode cX9_countKindBeside 48 = .ok (.ireturn, 1) := by decide +kernel
theorem dX9_fits_0 : decode cX9_fits 0 = .ok (.iconst 0, 1) := by decide +kernel
theorem dX9_fits_1 : decode cX9_fits 1 = .ok (.istore 4, 2) := by decide +kernel
theorem dX9_fits_3 : decode cX9_fits 3 = .ok (.iload 4, 2) := by decide +kernel
theorem dX9_fits_5 : decode cX9_fits 5 = .ok (.iconst 4, 1) := by decide +kernel
theorem dX9_fits_6 : decode cX9_fits 6 = .ok (.if_icmp .ge 53, 3) := by decide +kernel
theorem dX9_fits_9 : decode cX9_fits 9 = .ok (.aload_n 0, 1) := by decide +kernel
theorem dX9_fits_10 : decode cX9_fits 10 = .ok (.iload_n 2, 1) := by decide +kernel
theorem dX9_fits_11 : decode cX9_fits 11 = .ok (.iload 4, 2) := by decide +kernel
theorem dX9_fits_13 : decode cX9_fits 13 = .ok (.invokevirtual 132, 3) := by decide +kernel
theorem dX9_fits_16 : decode cX9_fits 16 = .ok (.ifCond .eq 37, 3) := by decide +kernel
theorem dX9_fits_19 : decode cX9_fits 19 = .ok (.aload_n 0, 1) := by decide +kernel
theorem dX9_fits_20 : decode cX9_fits 20 = .ok (.iload_n 2, 1) := by decide +kernel
theorem dX9_fits_21 : decode cX9_fits 21 = .ok (.iload 4, 2) := by decide +kernel
theorem dX9_fits_23 : decode cX9_fits 23 = .ok (.invokestatic 129, 3) := by decide +kernel
theorem dX9_fits_26 : decode cX9_fits 26 = .ok (.invokevirtual 125, 3) := by decide +kernel
theorem dX9_fits_29 : decode cX9_fits 29 = .ok (.astore 5, 2) := by decide +kernel
theorem dX9_fits_31 : decode cX9_fits 31 = .ok (.aload_n 1, 1) := by decide +kernel
theorem dX9_fits_32 : decode cX9_fits 32 = .ok (.iload 4, 2) := by decide +kernel
theorem dX9_fits_34 : decode cX9_fits 34 = .ok (.iload_n 3, 1) := by decide +kernel
theorem dX9_fits_35 : decode cX9_fits 35 = .ok (.invokevirtual 140, 3) := by decide +kernel
theorem dX9_fits_38 : decode cX9_fits 38 = .ok (.aload 5, 2) := by decide +kernel
theorem dX9_fits_40 : decode cX9_fits 40 = .ok (.iload 4, 2) := by decide +kernel
theorem dX9_fits_42 : decode cX9_fits 42 = .ok (.invokestatic 143, 3) := by decide +kernel
theorem dX9_fits_45 : decode cX9_fits 45 = .ok (.invokevirtual 146, 3) := by decide +kernel
theorem dX9_fits_48 : decode cX9_fits 48 = .ok (.if_icmp .eq 5, 3) := by decide +kernel
theorem dX9_fits_51 : decode cX9_fits 51 = .ok (.iconst 0, 1) := by decide +kernel
theorem dX9_fits_52 : decode cX9_fits 52 = .ok (.ireturn, 1) := by decide +kernel
theorem dX9_fits_53 : decode cX9_fits 53 = .ok (.iinc 4 1, 3) := by decide +kernel
theorem dX9_fits_56 : decode cX9_fits 56 = .ok (.goto (-53), 3) := by decide +kernel
theorem dX9_fits_59 : decode cX9_fits 59 = .ok (.iconst 1, 1) := by decide +kernel
theorem dX9_fits_60 : decode cX9_fits 60 = .ok (.ireturn, 1) := by decide +kernel
theorem dX9_countPlaces_0 : decode cX9_countPlaces 0 = .ok (.iconst 0, 1) := by decide +kernel
theorem dX9_countPlaces_1 : decode cX9_countPlaces 1 = .ok (.istore_n 2, 1) := by decide +kernel
theorem dX9_countPlaces_2 : decode cX9_countPlaces 2 = .ok (.iconst 0, 1) := by decide +kernel
theorem dX9_countPlaces_3 : decode cX9_countPlaces 3 = .ok (.istore_n 3, 1) := by decide +kernel
theorem dX9_countPlaces_4 : decode cX9_countPlaces 4 = .ok (.iload_n 3, 1) := by decide +kernel
theorem dX9_countPlaces_5 : decode cX9_countPlaces 5 = .ok (.bipush 9, 2) := by decide +kernel
theorem dX9_countPlaces_7 : decode cX9_countPlaces 7 = .ok (.if_icmp .ge 46, 3) := by decide +kernel
theorem dX9_countPlaces_10 : decode cX9_countPlaces 10 = .ok (.iconst 0, 1) := by decide +kernel
theorem dX9_countPlaces_11 : decode cX9_countPlaces 11 = .ok (.istore 4, 2) := by decide +kernel
theorem dX9_countPlaces_13 : decode cX9_countPlaces 13 = .ok (.iload 4, 2) := by decide +kernel
theorem dX9_countPlaces_15 : decode cX9_countPlaces 15 = .ok (.iconst 4, 1) := by decide +kernel
theorem dX9_countPlaces_16 : decode cX9_countPlaces 16 = .ok (.if_icmp .ge 31, 3) := by decide +kernel
theorem dX9_countPlaces_19 : decode cX9_countPlaces 19 = .ok (.aload_n 0, 1) := by decide +kernel
theorem dX9_countPlaces_20 : decode cX9_countPlaces 20 = .ok (.iload_n 3, 1) := by decide +kernel
theorem dX9_countPlaces_21 : decode cX9_countPlaces 21 = .ok (.invokevirtual 100, 3) := by decide +kernel
theorem dX9_countPlaces_24 : decode cX9_countPlaces 24 = .ok (.ifCond .ne 17, 3) := by decide +kernel
theorem dX9_countPlaces_27 : decode cX9_countPlaces 27 = .ok (.aload_n 0, 1) := by decide +kernel
theorem dX9_countPlaces_28 : decode cX9_countPlaces 28 = .ok (.aload_n 1, 1) := by decide +kernel
theorem dX9_countPlaces_29 : decode cX9_countPlaces 29 = .ok (.iload_n 3, 1) := by decide +kernel
theorem dX9_countPlaces_30 : decode cX9_countPlaces 30 = .ok (.iload 4, 2) := by decide +kernel
theorem dX9_countPlaces_32 : decode cX9_countPlaces 32 = .ok (.invokevirtual 103, 3) := by decide +kernel
theorem dX9_countPlaces_35 : decode cX9_countPlaces 35 = .ok (.ifCond .eq 6, 3) := by decide +kernel
theorem dX9_countPlaces_38 : decode cX9_countPlaces 38 = .ok (.iinc 2 1, 3) := by decide +kernel
theorem dX9_countPlaces_41 : decode cX9_countPlaces 41 = .ok (.iinc 4 1, 3) := by decide +kernel
theorem dX9_countPlaces_44 : decode cX9_countPlaces 44 = .ok (.goto (-31), 3) := by decide +kernel
theorem dX9_countPlaces_47 : decode cX9_countPlaces 47 = .ok (.iinc 3 1, 3) := by decide +kernel
theorem dX9_countPlaces_50 : decode cX9_countPlaces 50 = .ok (.goto (-46), 3) := by decide +kernel
theorem dX9_countPlaces_53 : decode cX9_countPlaces 53 = .ok (.iload_n 2, 1) := by decide +kernel
theorem dX9_countPlaces_54 : decode cX9_countPlaces 54 = .ok (.ireturn, 1) := by decide +kernel
theorem dX9_countEmpty_0 : decode cX9_countEmpty 0 = .ok (.iconst 0, 1) := by decide +kernel
theorem dX9_countEmpty_1 : decode cX9_countEmpty 1 = .ok (.istore_n 1, 1) := by decide +kernel
theorem dX9_countEmpty_2 : decode cX9_countEmpty 2 = .ok (.iconst 0, 1) := by decide +kernel
theorem dX9_countEmpty_3 : decode cX9_countEmpty 3 = .ok (.istore_n 2, 1) := by decide +kernel
theorem dX9_countEmpty_4 : decode cX9_countEmpty 4 = .ok (.iload_n 2, 1) := by decide +kernel
theorem dX9_countEmpty_5 : decode cX9_countEmpty 5 = .ok (.bipush 9, 2) := by decide +kernel
theorem dX9_countEmpty_7 : decode cX9_countEmpty 7 = .ok (.if_icmp .ge 20, 3) := by decide +kernel
theorem dX9_countEmpty_10 : decode cX9_countEmpty 10 = .ok (.aload_n 0, 1) := by decide +kernel
theorem dX9_countEmpty_11 : decode cX9_countEmpty 11 = .ok (.iload_n 2, 1) := by decide +kernel
theorem dX9_countEmpty_12 : decode cX9_countEmpty 12 = .ok (.invokevirtual 100, 3) := by decide +kernel
theorem dX9_countEmpty_15 : decode cX9_countEmpty 15 = .ok (.ifCond .ne 6, 3) := by decide +kernel
theorem dX9_countEmpty_18 : decode cX9_countEmpty 18 = .ok (.iinc 1 1, 3) := by decide +kernel
theorem dX9_countEmpty_21 : decode cX9_countEmpty 21 = .ok (.iinc 2 1, 3) := by decide +kernel
theorem dX9_countEmpty_24 : decode cX9_countEmpty 24 = .ok (.goto (-20), 3) := by decide +kernel
theorem dX9_countEmpty_27 : decode cX9_countEmpty 27 = .ok (.iload_n 1, 1) := by decide +kernel
theorem dX9_countEmpty_28 : decode cX9_countEmpty 28 = .ok (.ireturn, 1) := by decide +kernel
theorem dX9_countFlat_0 : decode cX9_countFlat 0 = .ok (.iconst 0, 1) := by decide +kernel
theorem dX9_countFlat_1 : decode cX9_countFlat 1 = .ok (.istore_n 1, 1) := by decide +kernel
theorem dX9_countFlat_2 : decode cX9_countFlat 2 = .ok (.iconst 0, 1) := by decide +kernel
theorem dX9_countFlat_3 : decode cX9_countFlat 3 = .ok (.istore_n 2, 1) := by decide +kernel
theorem dX9_countFlat_4 : decode cX9_countFlat 4 = .ok (.iload_n 2, 1) := by decide +kernel
theorem dX9_countFlat_5 : decode cX9_countFlat 5 = .ok (.aload_n 0, 1) := by decide +kernel
theorem dX9_countFlat_6 : decode cX9_countFlat 6 = .ok (.getfield 32, 3) := by decide +kernel
theorem dX9_countFlat_9 : decode cX9_countFlat 9 = .ok (.if_icmp .ge 24, 3) := by decide +kernel
theorem dX9_countFlat_12 : decode cX9_countFlat 12 = .ok (.aload_n 0, 1) := by decide +kernel
theorem dX9_countFlat_13 : decode cX9_countFlat 13 = .ok (.getfield 11, 3) := by decide +kernel
theorem dX9_countFlat_16 : decode cX9_countFlat 16 = .ok (.iload_n 2, 1) := by decide +kernel
theorem dX9_countFlat_17 : decode cX9_countFlat 17 = .ok (.aaload, 1) := by decide +kernel
theorem dX9_countFlat_18 : decode cX9_countFlat 18 = .ok (.getfield 66, 3) := by decide +kernel
theorem dX9_countFlat_21 : decode cX9_countFlat 21 = .ok (.ifCond .ne 6, 3) := by decide +kernel
theorem dX9_countFlat_24 : decode cX9_countFlat 24 = .ok (.iinc 1 1, 3) := by decide +kernel
theorem dX9_countFlat_27 : decode cX9_countFlat 27 = .ok (.iinc 2 1, 3) := by decide +kernel
theorem dX9_countFlat_30 : decode cX9_countFlat 30 = .ok (.goto (-26), 3) := by decide +kernel
theorem dX9_countFlat_33 : decode cX9_countFlat 33 = .ok (.iload_n 1, 1) := by decide +kernel
theorem dX9_countFlat_34 : decode cX9_countFlat 34 = .ok (.ireturn, 1) := by decide +kernel
theorem dX9_countNeighbourPairs_0 : decode cX9_countNeighbourPairs 0 = .ok (.iconst 0, 1) := by decide +kernel
theorem dX9_countNeighbourPairs_1 : decode cX9_countNeighbourPairs 1 = .ok (.istore_n 1, 1) := by decide +kernel
theorem dX9_countNeighbourPairs_2 : decode cX9_countNeighbourPairs 2 = .ok (.iconst 0, 1) := by decide +kernel
theorem dX9_countNeighbourPairs_3 : decode cX9_countNeighbourPairs 3 = .ok (.istore_n 2, 1) := by decide +kernel
theorem dX9_countNeighbourPairs_4 : decode cX9_countNeighbourPairs 4 = .ok (.iload_n 2, 1) := by decide +kernel
theorem dX9_countNeighbourPairs_5 : decode cX9_countNeighbourPairs 5 = .ok (.bipush 9, 2) := by decide +kernel
theorem dX9_countNeighbourPairs_7 : decode cX9_countNeighbourPairs 7 = .ok (.if_icmp .ge 42, 3) := by decide +kernel
theorem dX9_countNeighbourPairs_10 : decode cX9_countNeighbourPairs 10 = .ok (.iconst 1, 1) := by decide +kernel
theorem dX9_countNeighbourPairs_11 : decode cX9_countNeighbourPairs 11 = .ok (.istore_n 3, 1) := by decide +kernel
theorem dX9_countNeighbourPairs_12 : decode cX9_countNeighbourPairs 12 = .ok (.iload_n 3, 1) := by decide +kernel
theorem dX9_countNeighbourPairs_13 : decode cX9_countNeighbourPairs 13 = .ok (.iconst 2, 1) := by decide +kernel
theorem dX9_countNeighbourPairs_14 : decode cX9_countNeighbourPairs 14 = .ok (.if_icmp .gt 29, 3) := by decide +kernel
theorem dX9_countNeighbourPairs_17 : decode cX9_countNeighbourPairs 17 = .ok (.aload_n 0, 1) := by decide +kernel
theorem dX9_countNeighbourPairs_18 : decode cX9_countNeighbourPairs 18 = .ok (.iload_n 2, 1) := by decide +kernel
theorem dX9_countNeighbourPairs_19 : decode cX9_countNeighbourPairs 19 = .ok (.invokevirtual 100, 3) := by decide +kernel
theorem dX9_countNeighbourPairs_22 : decode cX9_countNeighbourPairs 22 = .ok (.ifCond .eq 15, 3) := by decide +kernel
theorem dX9_countNeighbourPairs_25 : decode cX9_countNeighbourPairs 25 = .ok (.aload_n 0, 1) := by decide +kernel
theorem dX9_countNeighbourPairs_26 : decode cX9_countNeighbourPairs 26 = .ok (.iload_n 2, 1) := by decide +kernel
theorem dX9_countNeighbourPairs_27 : decode cX9_countNeighbourPairs 27 = .ok (.iload_n 3, 1) := by decide +kernel
theorem dX9_countNeighbourPairs_28 : decode cX9_countNeighbourPairs 28 = .ok (.invokevirtual 132, 3) := by decide +kernel
theorem dX9_countNeighbourPairs_31 : decode cX9_countNeighbourPairs 31 = .ok (.ifCond .eq 6, 3) := by decide +kernel
theorem dX9_countNeighbourPairs_34 : decode cX9_countNeighbourPairs 34 = .ok (.iinc 1 1, 3) := by decide +kernel
theorem dX9_countNeighbourPairs_37 : decode cX9_countNeighbourPairs 37 = .ok (.iinc 3 1, 3) := by decide +kernel
theorem dX9_countNeighbourPairs_40 : decode cX9_countNeighbourPairs 40 = .ok (.goto (-28), 3) := by decide +kernel
theorem dX9_countNeighbourPairs_43 : decode cX9_countNeighbourPairs 43 = .ok (.iinc 2 1, 3) := by decide +kernel
theorem dX9_countNeighbourPairs_46 : decode cX9_countNeighbourPairs 46 = .ok (.goto (-42), 3) := by decide +kernel
theorem dX9_countNeighbourPairs_49 : decode cX9_countNeighbourPairs 49 = .ok (.iload_n 1, 1) := by decide +kernel
theorem dX9_countNeighbourPairs_50 : decode cX9_countNeighbourPairs 50 = .ok (.ireturn, 1) := by decide +kernel
theorem dX9_sumOfWear_0 : decode cX9_sumOfWear 0 = .ok (.iconst 0, 1) := by decide +kernel
theorem dX9_sumOfWear_1 : decode cX9_sumOfWear 1 = .ok (.istore_n 1, 1) := by decide +kernel
theorem dX9_sumOfWear_2 : decode cX9_sumOfWear 2 = .ok (.iconst 0, 1) := by decide +kernel
theorem dX9_sumOfWear_3 : decode cX9_sumOfWear 3 = .ok (.istore_n 2, 1) := by decide +kernel
theorem dX9_sumOfWear_4 : decode cX9_sumOfWear 4 = .ok (.iload_n 2, 1) := by decide +kernel
theorem dX9_sumOfWear_5 : decode cX9_sumOfWear 5 = .ok (.aload_n 0, 1) := by decide +kernel
theorem dX9_sumOfWear_6 : decode cX9_sumOfWear 6 = .ok (.getfield 32, 3) := by decide +kernel
theorem dX9_sumOfWear_9 : decode cX9_sumOfWear 9 = .ok (.if_icmp .ge 21, 3) := by decide +kernel
theorem dX9_sumOfWear_12 : decode cX9_sumOfWear 12 = .ok (.iload_n 1, 1) := by decide +kernel
theorem dX9_sumOfWear_13 : decode cX9_sumOfWear 13 = .ok (.aload_n 0, 1) := by decide +kernel
theorem dX9_sumOfWear_14 : decode cX9_sumOfWear 14 = .ok (.getfield 11, 3) := by decide +kernel
theorem dX9_sumOfWear_17 : decode cX9_sumOfWear 17 = .ok (.iload_n 2, 1) := by decide +kernel
theorem dX9_sumOfWear_18 : decode cX9_sumOfWear 18 = .ok (.aaload, 1) := by decide +kernel
theorem dX9_sumOfWear_19 : decode cX9_sumOfWear 19 = .ok (.getfield 78, 3) := by decide +kernel
theorem dX9_sumOfWear_22 : decode cX9_sumOfWear 22 = .ok (.iadd, 1) := by decide +kernel
theorem dX9_sumOfWear_23 : decode cX9_sumOfWear 23 = .ok (.istore_n 1, 1) := by decide +kernel
theorem dX9_sumOfWear_24 : decode cX9_sumOfWear 24 = .ok (.iinc 2 1, 3) := by decide +kernel
theorem dX9_sumOfWear_27 : decode cX9_sumOfWear 27 = .ok (.goto (-23), 3) := by decide +kernel
theorem dX9_sumOfWear_30 : decode cX9_sumOfWear 30 = .ok (.iload_n 1, 1) := by decide +kernel
theorem dX9_sumOfWear_31 : decode cX9_sumOfWear 31 = .ok (.ireturn, 1) := by decide +kernel
theorem dX9_sheetAtRank_0 : decode cX9_sheetAtRank 0 = .ok (.iconst 0, 1) := by decide +kernel
theorem dX9_sheetAtRank_1 : decode cX9_sheetAtRank 1 = .ok (.istore_n 2, 1) := by decide +kernel
theorem dX9_sheetAtRank_2 : decode cX9_sheetAtRank 2 = .ok (.iload_n 2, 1) := by decide +kernel
theorem dX9_sheetAtRank_3 : decode cX9_sheetAtRank 3 = .ok (.aload_n 0, 1) := by decide +kernel
theorem dX9_sheetAtRank_4 : decode cX9_sheetAtRank 4 = .ok (.getfield 32, 3) := by decide +kernel
theorem dX9_sheetAtRank_7 : decode cX9_sheetAtRank 7 = .ok (.if_icmp .ge 20, 3) := by decide +kernel
theorem dX9_sheetAtRank_10 : decode cX9_sheetAtRank 10 = .ok (.aload_n 0, 1) := by decide +kernel
theorem dX9_sheetAtRank_11 : decode cX9_sheetAtRank 11 = .ok (.iload_n 2, 1) := by decide +kernel
theorem dX9_sheetAtRank_12 : decode cX9_sheetAtRank 12 = .ok (.invokevirtual 149, 3) := by decide +kernel
theorem dX9_sheetAtRank_15 : decode cX9_sheetAtRank 15 = .ok (.iload_n 1, 1) := by decide +kernel
theorem dX9_sheetAtRank_16 : decode cX9_sheetAtRank 16 = .ok (.if_icmp .ne 5, 3) := by decide +kernel
theorem dX9_sheetAtRank_19 : decode cX9_sheetAtRank 19 = .ok (.iload_n 2, 1) := by decide +kernel
theorem dX9_sheetAtRank_20 : decode cX9_sheetAtRank 20 = .ok (.ireturn, 1) := by decide +kernel
theorem dX9_sheetAtRank_21 : decode cX9_sheetAtRank 21 = .ok (.iinc 2 1, 3) := by decide +kernel
theorem dX9_sheetAtRank_24 : decode cX9_sheetAtRank 24 = .ok (.goto (-22), 3) := by decide +kernel
theorem dX9_sheetAtRank_27 : decode cX9_sheetAtRank 27 = .ok (.iconst (-1), 1) := by decide +kernel
theorem dX9_sheetAtRank_28 : decode cX9_sheetAtRank 28 = .ok (.ireturn, 1) := by decide +kernel
theorem dX9_countBefore_0 : decode cX9_countBefore 0 = .ok (.iconst 0, 1) := by decide +kernel
theorem dX9_countBefore_1 : decode cX9_countBefore 1 = .ok (.istore_n 2, 1) := by decide +kernel
theorem dX9_countBefore_2 : decode cX9_countBefore 2 = .ok (.iconst 0, 1) := by decide +kernel
theorem dX9_countBefore_3 : decode cX9_countBefore 3 = .ok (.istore_n 3, 1) := by decide +kernel
theorem dX9_countBefore_4 : decode cX9_countBefore 4 = .ok (.iload_n 3, 1) := by decide +kernel
theorem dX9_countBefore_5 : decode cX9_countBefore 5 = .ok (.aload_n 0, 1) := by decide +kernel
theorem dX9_countBefore_6 : decode cX9_countBefore 6 = .ok (.getfield 32, 3) := by decide +kernel
theorem dX9_countBefore_9 : decode cX9_countBefore 9 = .ok (.if_icmp .ge 21, 3) := by decide +kernel
theorem dX9_countBefore_12 : decode cX9_countBefore 12 = .ok (.aload_n 0, 1) := by decide +kernel
theorem dX9_countBefore_13 : decode cX9_countBefore 13 = .ok (.iload_n 3, 1) := by decide +kernel
theorem dX9_countBefore_14 : decode cX9_countBefore 14 = .ok (.iload_n 1, 1) := by decide +kernel
theorem dX9_countBefore_15 : decode cX9_countBefore 15 = .ok (.invokevirtual 152, 3) := by decide +kernel
theorem dX9_countBefore_18 : decode cX9_countBefore 18 = .ok (.ifCond .eq 6, 3) := by decide +kernel
theorem dX9_countBefore_21 : decode cX9_countBefore 21 = .ok (.iinc 2 1, 3) := by decide +kernel
theorem dX9_countBefore_24 : decode cX9_countBefore 24 = .ok (.iinc 3 1, 3) := by decide +kernel
theorem dX9_countBefore_27 : decode cX9_countBefore 27 = .ok (.goto (-23), 3) := by decide +kernel
theorem dX9_countBefore_30 : decode cX9_countBefore 30 = .ok (.iload_n 2, 1) := by decide +kernel
theorem dX9_countBefore_31 : decode cX9_countBefore 31 = .ok (.ireturn, 1) := by decide +kernel
theorem dX9_comesBefore_0 : decode cX9_comesBefore 0 = .ok (.aload_n 0, 1) := by decide +kernel
theorem dX9_comesBefore_1 : decode cX9_comesBefore 1 = .ok (.getfield 11, 3) := by decide +kernel
theorem dX9_comesBefore_4 : decode cX9_comesBefore 4 = .ok (.iload_n 1, 1) := by decide +kernel
theorem dX9_comesBefore_5 : decode cX9_comesBefore 5 = .ok (.aaload, 1) := by decide +kernel
theorem dX9_comesBefore_6 : decode cX9_comesBefore 6 = .ok (.astore_n 3, 1) := by decide +kernel
theorem dX9_comesBefore_7 : decode cX9_comesBefore 7 = .ok (.aload_n 0, 1) := by decide +kernel
theorem dX9_comesBefore_8 : decode cX9_comesBefore 8 = .ok (.getfield 11, 3) := by decide +kernel
theorem dX9_comesBefore_11 : decode cX9_comesBefore 11 = .ok (.iload_n 2, 1) := by decide +kernel
theorem dX9_comesBefore_12 : decode cX9_comesBefore 12 = .ok (.aaload, 1) := by decide +kernel
theorem dX9_comesBefore_13 : decode cX9_comesBefore 13 = .ok (.astore 4, 2) := by decide +kernel
theorem dX9_comesBefore_15 : decode cX9_comesBefore 15 = .ok (.aload_n 3, 1) := by decide +kernel
theorem dX9_comesBefore_16 : decode cX9_comesBefore 16 = .ok (.getfield 78, 3) := by decide +kernel
theorem dX9_comesBefore_19 : decode cX9_comesBefore 19 = .ok (.aload 4, 2) := by decide +kernel
theorem dX9_comesBefore_21 : decode cX9_comesBefore 21 = .ok (.getfield 78, 3) := by decide +kernel
theorem dX9_comesBefore_24 : decode cX9_comesBefore 24 = .ok (.if_icmp .eq 21, 3) := by decide +kernel
theorem dX9_comesBefore_27 : decode cX9_comesBefore 27 = .ok (.aload_n 3, 1) := by decide +kernel
theorem dX9_comesBefore_28 : decode cX9_comesBefore 28 = .ok (.getfield 78, 3) := by decide +kernel
theorem dX9_comesBefore_31 : decode cX9_comesBefore 31 = .ok (.aload 4, 2) := by decide +kernel
theorem dX9_comesBefore_33 : decode cX9_comesBefore 33 = .ok (.getfield 78, 3) := by decide +kernel
theorem dX9_comesBefore_36 : decode cX9_comesBefore 36 = .ok (.if_icmp .le 7, 3) := by decide +kernel
theorem dX9_comesBefore_39 : decode cX9_comesBefore 39 = .ok (.iconst 1, 1) := by decide +kernel
theorem dX9_comesBefore_40 : decode cX9_comesBefore 40 = .ok (.goto 4, 3) := by decide +kernel
theorem dX9_comesBefore_43 : decode cX9_comesBefore 43 = .ok (.iconst 0, 1) := by decide +kernel
theorem dX9_comesBefore_44 : decode cX9_comesBefore 44 = .ok (.ireturn, 1) := by decide +kernel
theorem dX9_comesBefore_45 : decode cX9_comesBefore 45 = .ok (.aload_n 3, 1) := by decide +kernel
theorem dX9_comesBefore_46 : decode cX9_comesBefore 46 = .ok (.getfield 63, 3) := by decide +kernel
theorem dX9_comesBefore_49 : decode cX9_comesBefore 49 = .ok (.aload 4, 2) := by decide +kernel
theorem dX9_comesBefore_51 : decode cX9_comesBefore 51 = .ok (.getfield 63, 3) := by decide +kernel
theorem dX9_comesBefore_54 : decode cX9_comesBefore 54 = .ok (.if_icmp .eq 21, 3) := by decide +kernel
theorem dX9_comesBefore_57 : decode cX9_comesBefore 57 = .ok (.aload_n 3, 1) := by decide +kernel
theorem dX9_comesBefore_58 : decode cX9_comesBefore 58 = .ok (.getfield 63, 3) := by decide +kernel
theorem dX9_comesBefore_61 : decode cX9_comesBefore 61 = .ok (.aload 4, 2) := by decide +kernel
theorem dX9_comesBefore_63 : decode cX9_comesBefore 63 = .ok (.getfield 63, 3) := by decide +kernel
theorem dX9_comesBefore_66 : decode cX9_comesBefore 66 = .ok (.if_icmp .le 7, 3) := by decide +kernel
theorem dX9_comesBefore_69 : decode cX9_comesBefore 69 = .ok (.iconst 1, 1) := by decide +kernel
theorem dX9_comesBefore_70 : decode cX9_comesBefore 70 = .ok (.goto 4, 3) := by decide +kernel
theorem dX9_comesBefore_73 : decode cX9_comesBefore 73 = .ok (.iconst 0, 1) := by decide +kernel
theorem dX9_comesBefore_74 : decode cX9_comesBefore 74 = .ok (.ireturn, 1) := by decide +kernel
theorem dX9_comesBefore_75 : decode cX9_comesBefore 75 = .ok (.iload_n 1, 1) := by decide +kernel
theorem dX9_comesBefore_76 : decode cX9_comesBefore 76 = .ok (.iload_n 2, 1) := by decide +kernel
theorem dX9_comesBefore_77 : decode cX9_comesBefore 77 = .ok (.if_icmp .ge 7, 3) := by decide +kernel
theorem dX9_comesBefore_80 : decode cX9_comesBefore 80 = .ok (.iconst 1, 1) := by decide +kernel
theorem dX9_comesBefore_81 : decode cX9_comesBefore 81 = .ok (.goto 4, 3) := by decide +kernel
theorem dX9_comesBefore_84 : decode cX9_comesBefore 84 = .ok (.iconst 0, 1) := by decide +kernel
theorem dX9_comesBefore_85 : decode cX9_comesBefore 85 = .ok (.ireturn, 1) := by decide +kernel
theorem dX10_init_0 : decode cX10_init 0 = .ok (.aload_n 0, 1) := by decide +kernel
theorem dX10_init_1 : decode cX10_init 1 = .ok (.invokespecial 3, 3) := by decide +kernel
theorem dX10_init_4 : decode cX10_init 4 = .ok (.aload_n 0, 1) := by decide +kernel
theorem dX10_init_5 : decode cX10_init 5 = .ok (.new 9, 3) := by decide +kernel
theorem dX10_init_8 : decode cX10_init 8 = .ok (.dup, 1) := by decide +kernel
theorem dX10_init_9 : decode cX10_init 9 = .ok (.invokespecial 11, 3) := by decide +kernel
theorem dX10_init_12 : decode cX10_init 12 = .ok (.putfield 12, 3) := by decide +kernel
theorem dX10_init_15 : decode cX10_init 15 = .ok (.aload_n 0, 1) := by decide +kernel
theorem dX10_init_16 : decode cX10_init 16 = .ok (.new 9, 3) := by decide +kernel
theorem dX10_init_19 : decode cX10_init 19 = .ok (.dup, 1) := by decide +kernel
theorem dX10_init_20 : decode cX10_init 20 = .ok (.invokespecial 11, 3) := by decide +kernel
theorem dX10_init_23 : decode cX10_init 23 = .ok (.putfield 16, 3) := by decide +kernel
theorem dX10_init_26 : decode cX10_init 26 = .ok (.aload_n 0, 1) := by decide +kernel
theorem dX10_init_27 : decode cX10_init 27 = .ok (.new 19, 3) := by decide +kernel
theorem dX10_init_30 : decode cX10_init 30 = .ok (.dup, 1) := by decide +kernel
theorem dX10_init_31 : decode cX10_init 31 = .ok (.invokespecial 21, 3) := by decide +kernel
theorem dX10_init_34 : decode cX10_init 34 = .ok (.putfield 22, 3) := by decide +kernel
theorem dX10_init_37 : decode cX10_init 37 = .ok (.aload_n 0, 1) := by decide +kernel
theorem dX10_init_38 : decode cX10_init 38 = .ok (.new 26, 3) := by decide +kernel
theorem dX10_init_41 : decode cX10_init 41 = .ok (.dup, 1) := by decide +kernel
theorem dX10_init_42 : decode cX10_init 42 = .ok (.invokespecial 28, 3) := by decide +kernel
theorem dX10_init_45 : decode cX10_init 45 = .ok (.putfield 29, 3) := by decide +kernel
theorem dX10_init_48 : decode cX10_init 48 = .ok (.aload_n 0, 1) := by decide +kernel
theorem dX10_init_49 : decode cX10_init 49 = .ok (.new 33, 3) := by decide +kernel
theorem dX10_init_52 : decode cX10_init 52 = .ok (.dup, 1) := by decide +kernel
theorem dX10_init_53 : decode cX10_init 53 = .ok (.invokespecial 35, 3) := by decide +kernel
theorem dX10_init_56 : decode cX10_init 56 = .ok (.putfield 36, 3) := by decide +kernel
theorem dX10_init_59 : decode cX10_init 59 = .ok (.aload_n 0, 1) := by decide +kernel
theorem dX10_init_60 : decode cX10_init 60 = .ok (.new 40, 3) := by decide +kernel
theorem dX10_init_63 : decode cX10_init 63 = .ok (.dup, 1) := by decide +kernel
theorem dX10_init_64 : decode cX10_init 64 = .ok (.invokespecial 42, 3) := by decide +kernel
theorem dX10_init_67 : decode cX10_init 67 = .ok (.putfield 43, 3) := by decide +kernel
theorem dX10_init_70 : decode cX10_init 70 = .ok (.aload_n 0, 1) := by decide +kernel
theorem dX10_init_71 : decode cX10_init 71 = .ok (.new 47, 3) := by decide +kernel
theorem dX10_init_74 : decode cX10_init 74 = .ok (.dup, 1) := by decide +kernel
theorem dX10_init_75 : decode cX10_init 75 = .ok (.invokespecial 49, 3) := by decide +kernel
theorem dX10_init_78 : decode cX10_init 78 = .ok (.putfield 50, 3) := by decide +kernel
theorem dX10_init_81 : decode cX10_init 81 = .ok (.aload_n 0, 1) := by decide +kernel
theorem dX10_init_82 : decode cX10_init 82 = .ok (.iconst (-1), 1) := by decide +kernel
theorem dX10_init_83 : decode cX10_init 83 = .ok (.putfield 54, 3) := by decide +kernel
theorem dX10_init_86 : decode cX10_init 86 = .ok (.aload_n 0, 1) := by decide +kernel
theorem dX10_init_87 : decode cX10_init 87 = .ok (.iconst (-1), 1) := by decide +kernel
theorem dX10_init_88 : decode cX10_init 88 = .ok (.putfield 58, 3) := by decide +kernel
theorem dX10_init_91 : decode cX10_init 91 = .ok (.return_, 1) := by decide +kernel
theorem dX10_addSheet_0 : decode cX10_addSheet 0 = .ok (.aload_n 0, 1) := by decide +kernel
theorem dX10_addSheet_1 : decode cX10_addSheet 1 = .ok (.getfield 22, 3) := by decide +kernel
theorem dX10_addSheet_4 : decode cX10_addSheet 4 = .ok (.aload_n 0, 1) := by decide +kernel
theorem dX10_addSheet_5 : decode cX10_addSheet 5 = .ok (.getfield 12, 3) := by decide +kernel
theorem dX10_addSheet_8 : decode cX10_addSheet 8 = .ok (.invokevirtual 61, 3) := by decide +kernel
theorem dX10_addSheet_11 : decode cX10_addSheet 11 = .ok (.aload_n 0, 1) := by decide +kernel
theorem dX10_addSheet_12 : decode cX10_addSheet 12 = .ok (.aload_n 0, 1) := by decide +kernel
theorem dX10_addSheet_13 : decode cX10_addSheet 13 = .ok (.getfield 12, 3) := by decide +kernel
theorem dX10_addSheet_16 : decode cX10_addSheet 16 = .ok (.iload_n 1, 1) := by decide +kernel
theorem dX10_addSheet_17 : decode cX10_addSheet 17 = .ok (.iload_n 2, 1) := by decide +kernel
theorem dX10_addSheet_18 : decode cX10_addSheet 18 = .ok (.iload_n 3, 1) := by decide +kernel
theorem dX10_addSheet_19 : decode cX10_addSheet 19 = .ok (.iload 4, 2) := by decide +kernel
theorem dX10_addSheet_21 : decode cX10_addSheet 21 = .ok (.iload 5, 2) := by decide +kernel
theorem dX10_addSheet_23 : decode cX10_addSheet 23 = .ok (.invokevirtual 65, 3) := by decide +kernel
theorem dX10_addSheet_26 : decode cX10_addSheet 26 = .ok (.invokevirtual 69, 3) := by decide +kernel
theorem dX10_addSheet_29 : decode cX10_addSheet 29 = .ok (.ireturn, 1) := by decide +kernel
theorem dX10_addCrease_0 : decode cX10_addCrease 0 = .ok (.aload_n 0, 1) := by decide +kernel
theorem dX10_addCrease_1 : decode cX10_addCrease 1 = .ok (.getfield 22, 3) := by decide +kernel
theorem dX10_addCrease_4 : decode cX10_addCrease 4 = .ok (.aload_n 0, 1) := by decide +kernel
theorem dX10_addCrease_5 : decode cX10_addCrease 5 = .ok (.getfield 12, 3) := by decide +kernel
theorem dX10_addCrease_8 : decode cX10_addCrease 8 = .ok (.invokevirtual 61, 3) := by decide +kernel
theorem dX10_addCrease_11 : decode cX10_addCrease 11 = .ok (.aload_n 0, 1) := by decide +kernel
theorem dX10_addCrease_12 : decode cX10_addCrease 12 = .ok (.aload_n 0, 1) := by decide +kernel
theorem dX10_addCrease_13 : decode cX10_addCrease 13 = .ok (.getfield 12, 3) := by decide +kernel
theorem dX10_addCrease_16 : decode cX10_addCrease 16 = .ok (.iload_n 1, 1) := by decide +kernel
theorem dX10_addCrease_17 : decode cX10_addCrease 17 = .ok (.iload_n 2, 1) := by decide +kernel
theorem dX10_addCrease_18 : decode cX10_addCrease 18 = .ok (.invokevirtual 73, 3) := by decide +kernel
theorem dX10_addCrease_21 : decode cX10_addCrease 21 = .ok (.invokevirtual 69, 3) := by decide +kernel
theorem dX10_addCrease_24 : decode cX10_addCrease 24 = .ok (.ireturn, 1) := by decide +kernel
theorem dX10_fold_0 : decode cX10_fold 0 = .ok (.aload_n 0, 1) := by decide +kernel
theorem dX10_fold_1 : decode cX10_fold 1 = .ok (.getfield 22, 3) := by decide +kernel
theorem dX10_fold_4 : decode cX10_fold 4 = .ok (.aload_n 0, 1) := by decide +kernel
theorem dX10_fold_5 : decode cX10_fold 5 = .ok (.getfield 12, 3) := by decide +kernel
theorem dX10_fold_8 : decode cX10_fold 8 = .ok (.invokevirtual 61, 3) := by decide +kernel
theorem dX10_fold_11 : decode cX10_fold 11 = .ok (.aload_n 0, 1) := by decide +kernel
theorem dX10_fold_12 : decode cX10_fold 12 = .ok (.aload_n 0, 1) := by decide +kernel
theorem dX10_fold_13 : decode cX10_fold 13 = .ok (.getfield 12, 3) := by decide +kernel
theorem dX10_fold_16 : decode cX10_fold 16 = .ok (.iload_n 1, 1) := by decide +kernel
theorem dX10_fold_17 : decode cX10_fold 17 = .ok (.invokevirtual 77, 3) := by decide +kernel
theorem dX10_fold_20 : decode cX10_fold 20 = .ok (.invokevirtual 69, 3) := by decide +kernel
theorem dX10_fold_23 : decode cX10_fold 23 = .ok (.ireturn, 1) := by decide +kernel
theorem dX10_unfold_0 : decode cX10_unfold 0 = .ok (.aload_n 0, 1) := by decide +kernel
theorem dX10_unfold_1 : decode cX10_unfold 1 = .ok (.getfield 22, 3) := by decide +kernel
theorem dX10_unfold_4 : decode cX10_unfold 4 = .ok (.aload_n 0, 1) := by decide +kernel
theorem dX10_unfold_5 : decode cX10_unfold 5 = .ok (.getfield 12, 3) := by decide +kernel
theorem dX10_unfold_8 : decode cX10_unfold 8 = .ok (.invokevirtual 61, 3) := by decide +kernel
theorem dX10_unfold_11 : decode cX10_unfold 11 = .ok (.aload_n 0, 1) := by decide +kernel
theorem dX10_unfold_12 : decode cX10_unfold 12 = .ok (.aload_n 0, 1) := by decide +kernel
theorem dX10_unfold_13 : decode cX10_unfold 13 = .ok (.getfield 12, 3) := by decide +kernel
theorem dX10_unfold_16 : decode cX10_unfold 16 = .ok (.iload_n 1, 1) := by decide +kernel
theorem dX10_unfold_17 : decode cX10_unfold 17 = .ok (.invokevirtual 80, 3) := by decide +kernel
theorem dX10_unfold_20 : decode cX10_unfold 20 = .ok (.invokevirtual 69, 3) := by decide +kernel
theorem dX10_unfold_23 : decode cX10_unfold 23 = .ok (.ireturn, 1) := by decide +kernel
theorem dX10_mend_0 : decode cX10_mend 0 = .ok (.aload_n 0, 1) := by decide +kernel
theorem dX10_mend_1 : decode cX10_mend 1 = .ok (.getfield 22, 3) := by decide +kernel
theorem dX10_mend_4 : decode cX10_mend 4 = .ok (.aload_n 0, 1) := by decide +kernel
theorem dX10_mend_5 : decode cX10_mend 5 = .ok (.getfield 12, 3) := by decide +kernel
theorem dX10_mend_8 : decode cX10_mend 8 = .ok (.invokevirtual 61, 3) := by decide +kernel
theorem dX10_mend_11 : decode cX10_mend 11 = .ok (.aload_n 0, 1) := by decide +kernel
theorem dX10_mend_12 : decode cX10_mend 12 = .ok (.aload_n 0, 1) := by decide +kernel
theorem dX10_mend_13 : decode cX10_mend 13 = .ok (.getfield 12, 3) := by decide +kernel
theorem dX10_mend_16 : decode cX10_mend 16 = .ok (.iload_n 1, 1) := by decide +kernel
theorem dX10_mend_17 : decode cX10_mend 17 = .ok (.invokevirtual 83, 3) := by decide +kernel
theorem dX10_mend_20 : decode cX10_mend 20 = .ok (.invokevirtual 69, 3) := by decide +kernel
theorem dX10_mend_23 : decode cX10_mend 23 = .ok (.ireturn, 1) := by decide +kernel
theorem dX10_put_0 : decode cX10_put 0 = .ok (.aload_n 0, 1) := by decide +kernel
theorem dX10_put_1 : decode cX10_put 1 = .ok (.getfield 22, 3) := by decide +kernel
theorem dX10_put_4 : decode cX10_put 4 = .ok (.aload_n 0, 1) := by decide +kernel
theorem dX10_put_5 : decode cX10_put 5 = .ok (.getfield 12, 3) := by decide +kernel
theorem dX10_put_8 : decode cX10_put 8 = .ok (.invokevirtual 61, 3) := by decide +kernel
theorem dX10_put_11 : decode cX10_put 11 = .ok (.aload_n 0, 1) := by decide +kernel
theorem dX10_put_12 : decode cX10_put 12 = .ok (.aload_n 0, 1) := by decide +kernel
theorem dX10_put_13 : decode cX10_put 13 = .ok (.getfield 12, 3) := by decide +kernel
theorem dX10_put_16 : decode cX10_put 16 = .ok (.iload_n 1, 1) := by decide +kernel
theorem dX10_put_17 : decode cX10_put 17 = .ok (.iload_n 2, 1) := by decide +kernel
theorem dX10_put_18 : decode cX10_put 18 = .ok (.iload_n 3, 1) := by decide +kernel
theorem dX10_put_19 : decode cX10_put 19 = .ok (.invokevirtual 86, 3) := by decide +kernel
theorem dX10_put_22 : decode cX10_put 22 = .ok (.invokevirtual 69, 3) := by decide +kernel
theorem dX10_put_25 : decode cX10_put 25 = .ok (.ireturn, 1) := by decide +kernel
theorem dX10_take_0 : decode cX10_take 0 = .ok (.aload_n 0, 1) := by decide +kernel
theorem dX10_take_1 : decode cX10_take 1 = .ok (.getfield 22, 3) := by decide +kernel
theorem dX10_take_4 : decode cX10_take 4 = .ok (.aload_n 0, 1) := by decide +kernel
theorem dX10_take_5 : decode cX10_take 5 = .ok (.getfield 12, 3) := by decide +kernel
theorem dX10_take_8 : decode cX10_take 8 = .ok (.invokevirtual 61, 3) := by decide +kernel
theorem dX10_take_11 : decode cX10_take 11 = .ok (.aload_n 0, 1) := by decide +kernel
theorem dX10_take_12 : decode cX10_take 12 = .ok (.aload_n 0, 1) := by decide +kernel
theorem dX10_take_13 : decode cX10_take 13 = .ok (.getfield 12, 3) := by decide +kernel
theorem dX10_take_16 : decode cX10_take 16 = .ok (.iload_n 1, 1) := by decide +kernel
theorem dX10_take_17 : decode cX10_take 17 = .ok (.invokevirtual 90, 3) := by decide +kernel
theorem dX10_take_20 : decode cX10_take 20 = .ok (.invokevirtual 69, 3) := by decide +kernel
theorem dX10_take_23 : decode cX10_take 23 = .ok (.ireturn, 1) := by decide +kernel
theorem dX10_addPaste_0 : decode cX10_addPaste 0 = .ok (.aload_n 0, 1) := by decide +kernel
theorem dX10_addPaste_1 : decode cX10_addPaste 1 = .ok (.getfield 22, 3) := by decide +kernel
theorem dX10_addPaste_4 : decode cX10_addPaste 4 = .ok (.aload_n 0, 1) := by decide +kernel
theorem dX10_addPaste_5 : decode cX10_addPaste 5 = .ok (.getfield 12, 3) := by decide +kernel
theorem dX10_addPaste_8 : decode cX10_addPaste 8 = .ok (.invokevirtual 61, 3) := by decide +kernel
theorem dX10_addPaste_11 : decode cX10_addPaste 11 = .ok (.aload_n 0, 1) := by decide +kernel
theorem dX10_addPaste_12 : decode cX10_addPaste 12 = .ok (.aload_n 0, 1) := by decide +kernel
theorem dX10_addPaste_13 : decode cX10_addPaste 13 = .ok (.getfield 12, 3) := by decide +kernel
theorem dX10_addPaste_16 : decode cX10_addPaste 16 = .ok (.iload_n 1, 1) := by decide +kernel
theorem dX10_addPaste_17 : decode cX10_addPaste 17 = .ok (.invokevirtual 93, 3) := by decide +kernel
theorem dX10_addPaste_20 : decode cX10_addPaste 20 = .ok (.invokevirtual 69, 3) := by decide +kernel
theorem dX10_addPaste_23 : decode cX10_addPaste 23 = .ok (.ireturn, 1) := by decide +kernel
theorem dX10_sheetCount_0 : decode cX10_sheetCount 0 = .ok (.aload_n 0, 1) := by decide +kernel
theorem dX10_sheetCount_1 : decode cX10_sheetCount 1 = .ok (.getfield 12, 3) := by decide +kernel
theorem dX10_sheetCount_4 : decode cX10_sheetCount 4 = .ok (.getfield 96, 3) := by decide +kernel
theorem dX10_sheetCount_7 : decode cX10_sheetCount 7 = .ok (.ireturn, 1) := by decide +kernel
theorem dX10_kind_0 : decode cX10_kind 0 = .ok (.aload_n 0, 1) := by decide +kernel
theorem dX10_kind_1 : decode cX10_kind 1 = .ok (.iload_n 1, 1) := by decide +kernel
theorem dX10_kind_2 : decode cX10_kind 2 = .ok (.invokevirtual 99, 3) := by decide +kernel
theorem dX10_kind_5 : decode cX10_kind 5 = .ok (.getfield 103, 3) := by decide +kernel
theorem dX10_kind_8 : decode cX10_kind 8 = .ok (.ireturn, 1) := by decide +kernel
theorem dX10_border_0 : decode cX10_border 0 = .ok (.aload_n 0, 1) := by decide +kernel
theorem dX10_border_1 : decode cX10_border 1 = .ok (.iload_n 1, 1) := by decide +kernel
theorem dX10_border_2 : decode cX10_border 2 = .ok (.invokevirtual 99, 3) := by decide +kernel
theorem dX10_border_5 : decode cX10_border 5 = .ok (.astore_n 3, 1) := by decide +kernel
theorem dX10_border_6 : decode cX10_border 6 = .ok (.iload_n 2, 1) := by decide +kernel
theorem dX10_border_7 : decode cX10_border 7 = .ok (.invokestatic 109, 3) := by decide +kernel
theorem dX10_border_10 : decode cX10_border 10 = .ok (.aload_n 3, 1) := by decide +kernel
theorem dX10_border_11 : decode cX10_border 11 = .ok (.iload_n 2, 1) := by decide +kernel
theorem dX10_border_12 : decode cX10_border 12 = .ok (.iconst 0, 1) := by decide +kernel
theorem dX10_border_13 : decode cX10_border 13 = .ok (.invokevirtual 113, 3) := by decide +kernel
theorem dX10_border_16 : decode cX10_border 16 = .ok (.ireturn, 1) := by decide +kernel
theorem dX10_wear_0 : decode cX10_wear 0 = .ok (.aload_n 0, 1) := by decide +kernel
theorem dX10_wear_1 : decode cX10_wear 1 = .ok (.iload_n 1, 1) := by decide +kernel
theorem dX10_wear_2 : decode cX10_wear 2 = .ok (.invokevirtual 99, 3) := by decide +kernel
theorem dX10_wear_5 : decode cX10_wear 5 = .ok (.getfield 117, 3) := by decide +kernel
theorem dX10_wear_8 : decode cX10_wear 8 = .ok (.ireturn, 1) := by decide +kernel
theorem dX10_isTorn_0 : decode cX10_isTorn 0 = .ok (.aload_n 0, 1) := by decide +kernel
theorem dX10_isTorn_1 : decode cX10_isTorn 1 = .ok (.iload_n 1, 1) := by decide +kernel
theorem dX10_isTorn_2 : decode cX10_isTorn 2 = .ok (.invokevirtual 99, 3) := by decide +kernel
theorem dX10_isTorn_5 : decode cX10_isTorn 5 = .ok (.invokevirtual 120, 3) := by decide +kernel
theorem dX10_isTorn_8 : decode cX10_isTorn 8 = .ok (.ireturn, 1) := by decide +kernel
theorem dX10_isFolded_0 : decode cX10_isFolded 0 = .ok (.aload_n 0, 1) := by decide +kernel
theorem dX10_isFolded_1 : decode cX10_isFolded 1 = .ok (.iload_n 1, 1) := by decide +kernel
theorem dX10_isFolded_2 : decode cX10_isFolded 2 = .ok (.invokevirtual 99, 3) := by decide +kernel
theorem dX10_isFolded_5 : decode cX10_isFolded 5 = .ok (.getfield 124, 3) := by decide +kernel
theorem dX10_isFolded_8 : decode cX10_isFolded 8 = .ok (.ireturn, 1) := by decide +kernel
theorem dX10_creaseCount_0 : decode cX10_creaseCount 0 = .ok (.aload_n 0, 1) := by decide +kernel
theorem dX10_creaseCount_1 : decode cX10_creaseCount 1 = .ok (.iload_n 1, 1) := by decide +kernel
theorem dX10_creaseCount_2 : decode cX10_creaseCount 2 = .ok (.invokevirtual 99, 3) := by decide +kernel
theorem dX10_creaseCount_5 : decode cX10_creaseCount 5 = .ok (.getfield 128, 3) := by decide +kernel
theorem dX10_creaseCount_8 : decode cX10_creaseCount 8 = .ok (.ireturn, 1) := by decide +kernel
theorem dX10_crease_0 : decode cX10_crease 0 = .ok (.aload_n 0, 1) := by decide +kernel
theorem dX10_crease_1 : decode cX10_crease 1 = .ok (.iload_n 1, 1) := by decide +kernel
theorem dX10_crease_2 : decode cX10_crease 2 = .ok (.invokevirtual 99, 3) := by decide +kernel
theorem dX10_crease_5 : decode cX10_crease 5 = .ok (.astore_n 3, 1) := by decide +kernel
theorem dX10_crease_6 : decode cX10_crease 6 = .ok (.iload_n 2, 1) := by decide +kernel
theorem dX10_crease_7 : decode cX10_crease 7 = .ok (.ifCond .lt 11, 3) := by decide +kernel
theorem dX10_crease_10 : decode cX10_crease 10 = .ok (.iload_n 2, 1) := by decide +kernel
theorem dX10_crease_11 : decode cX10_crease 11 = .ok (.aload_n 3, 1) := by decide +kernel
theorem dX10_crease_12 : decode cX10_crease 12 = .ok (.getfield 128, 3) := by decide +kernel
theorem dX10_crease_15 : decode cX10_crease 15 = .ok (.if_icmp .lt 13, 3) := by decide +kernel
theorem dX10_crease_18 : decode cX10_crease 18 = .ok (.new 131, 3) := by decide +kernel
theorem dX10_crease_21 : decode cX10_crease 21 = .ok (.dup, 1) := by decide +kernel
theorem dX10_crease_22 : decode cX10_crease 22 = .ok (.ldc 133, 2) := by decide +kernel
theorem dX10_crease_24 : decode cX10_crease 24 = .ok (.invokespecial 135, 3) := by decide +kernel
theorem dX10_crease_27 : decode cX10_crease 27 = .ok (.athrow, 1) := by decide +kernel
theorem dX10_crease_28 : decode cX10_crease 28 = .ok (.aload_n 3, 1) := by decide +kernel
theorem dX10_crease_29 : decode cX10_crease 29 = .ok (.getfield 138, 3) := by decide +kernel
theorem dX10_crease_32 : decode cX10_crease 32 = .ok (.iload_n 2, 1) := by decide +kernel
theorem dX10_crease_33 : decode cX10_crease 33 = .ok (.caload, 1) := by decide +kernel
theorem dX10_crease_34 : decode cX10_crease 34 = .ok (.ireturn, 1) := by decide +kernel
theorem dX10_cellOf_0 : decode cX10_cellOf 0 = .ok (.aload_n 0, 1) := by decide +kernel
theorem dX10_cellOf_1 : decode cX10_cellOf 1 = .ok (.iload_n 1, 1) := by decide +kernel
theorem dX10_cellOf_2 : decode cX10_cellOf 2 = .ok (.invokevirtual 99, 3) := by decide +kernel
theorem dX10_cellOf_5 : decode cX10_cellOf 5 = .ok (.astore_n 2, 1) := by decide +kernel
theorem dX10_cellOf_6 : decode cX10_cellOf 6 = .ok (.aload_n 2, 1) := by decide +kernel
theorem dX10_cellOf_7 : decode cX10_cellOf 7 = .ok (.invokevirtual 142, 3) := by decide +kernel
theorem dX10_cellOf_10 : decode cX10_cellOf 10 = .ok (.ifCond .ne 13, 3) := by decide +kernel
theorem dX10_cellOf_13 : decode cX10_cellOf 13 = .ok (.new 145, 3) := by decide +kernel
theorem dX10_cellOf_16 : decode cX10_cellOf 16 = .ok (.dup, 1) := by decide +kernel
theorem dX10_cellOf_17 : decode cX10_cellOf 17 = .ok (.ldc 147, 2) := by decide +kernel
theorem dX10_cellOf_19 : decode cX10_cellOf 19 = .ok (.invokespecial 149, 3) := by decide +kernel
theorem dX10_cellOf_22 : decode cX10_cellOf 22 = .ok (.athrow, 1) := by decide +kernel
theorem dX10_cellOf_23 : decode cX10_cellOf 23 = .ok (.aload_n 2, 1) := by decide +kernel
theorem dX10_cellOf_24 : decode cX10_cellOf 24 = .ok (.getfield 150, 3) := by decide +kernel
theorem dX10_cellOf_27 : decode cX10_cellOf 27 = .ok (.ireturn, 1) := by decide +kernel
theorem dX10_sheetIn_0 : decode cX10_sheetIn 0 = .ok (.iload_n 1, 1) := by decide +kernel
theorem dX10_sheetIn_1 : decode cX10_sheetIn 1 = .ok (.invokestatic 153, 3) := by decide +kernel
theorem dX10_sheetIn_4 : decode cX10_sheetIn 4 = .ok (.aload_n 0, 1) := by decide +kernel
theorem dX10_sheetIn_5 : decode cX10_sheetIn 5 = .ok (.iload_n 1, 1) := by decide +kernel
theorem dX10_sheetIn_6 : decode cX10_sheetIn 6 = .ok (.invokevirtual 156, 3) := by decide +kernel
theorem dX10_sheetIn_9 : decode cX10_sheetIn 9 = .ok (.aload_n 0, 1) := by decide +kernel
theorem dX10_sheetIn_10 : decode cX10_sheetIn 10 = .ok (.getfield 12, 3) := by decide +kernel
theorem dX10_sheetIn_13 : decode cX10_sheetIn 13 = .ok (.getfield 159, 3) := by decide +kernel
theorem dX10_sheetIn_16 : decode cX10_sheetIn 16 = .ok (.iload_n 1, 1) := by decide +kernel
theorem dX10_sheetIn_17 : decode cX10_sheetIn 17 = .ok (.iaload, 1) := by decide +kernel
theorem dX10_sheetIn_18 : decode cX10_sheetIn 18 = .ok (.ireturn, 1) := by decide +kernel
theorem dX10_turnsIn_0 : decode cX10_turnsIn 0 = .ok (.iload_n 1, 1) := by decide +kernel
theorem dX10_turnsIn_1 : decode cX10_turnsIn 1 = .ok (.invokestatic 153, 3) := by decide +kernel
theorem dX10_turnsIn_4 : decode cX10_turnsIn 4 = .ok (.aload_n 0, 1) := by decide +kernel
theorem dX10_turnsIn_5 : decode cX10_turnsIn 5 = .ok (.iload_n 1, 1) := by decide +kernel
theorem dX10_turnsIn_6 : decode cX10_turnsIn 6 = .ok (.invokevirtual 156, 3) := by decide +kernel
theorem dX10_turnsIn_9 : decode cX10_turnsIn 9 = .ok (.aload_n 0, 1) := by decide +kernel
theorem dX10_turnsIn_10 : decode cX10_turnsIn 10 = .ok (.getfield 12, 3) := by decide +kernel
theorem dX10_turnsIn_13 : decode cX10_turnsIn 13 = .ok (.iload_n 1, 1) := by decide +kernel
theorem dX10_turnsIn_14 : decode cX10_turnsIn 14 = .ok (.invokevirtual 163, 3) := by decide +kernel
theorem dX10_turnsIn_17 : decode cX10_turnsIn 17 = .ok (.getfield 166, 3) := by decide +kernel
theorem dX10_turnsIn_20 : decode cX10_turnsIn 20 = .ok (.ireturn, 1) := by decide +kernel
theorem dX10_borderIn_0 : decode cX10_borderIn 0 = .ok (.iload_n 1, 1) := by decide +kernel
theorem dX10_borderIn_1 : decode cX10_borderIn 1 = .ok (.invokestatic 153, 3) := by decide +kernel
theorem dX10_borderIn_4 : decode cX10_borderIn 4 = .ok (.iload_n 2, 1) := by decide +kernel
theorem dX10_borderIn_5 : decode cX10_borderIn 5 = .ok (.invokestatic 109, 3) := by decide +kernel
theorem dX10_borderIn_8 : decode cX10_borderIn 8 = .ok (.aload_n 0, 1) := by decide +kernel
theorem dX10_borderIn_9 : decode cX10_borderIn 9 = .ok (.iload_n 1, 1) := by decide +kernel
theorem dX10_borderIn_10 : decode cX10_borderIn 10 = .ok (.invokevirtual 156, 3) := by decide +kernel
theorem dX10_borderIn_13 : decode cX10_borderIn 13 = .ok (.aload_n 0, 1) := by decide +kernel
theorem dX10_borderIn_14 : decode cX10_borderIn 14 = .ok (.getfield 12, 3) := by decide +kernel
theorem dX10_borderIn_17 : decode cX10_borderIn 17 = .ok (.iload_n 1, 1) := by decide +kernel
theorem dX10_borderIn_18 : decode cX10_borderIn 18 = .ok (.invokevirtual 163, 3) := by decide +kernel
theorem dX10_borderIn_21 : decode cX10_borderIn 21 = .ok (.iload_n 2, 1) := by decide +kernel
theorem dX10_borderIn_22 : decode cX10_borderIn 22 = .ok (.invokevirtual 169, 3) := by decide +kernel
theorem dX10_borderIn_25 : decode cX10_borderIn 25 = .ok (.ireturn, 1) := by decide +kernel
theorem dX10_emptyCells_0 : decode cX10_emptyCells 0 = .ok (.aload_n 0, 1) := by decide +kernel
theorem dX10_emptyCells_1 : decode cX10_emptyCells 1 = .ok (.getfield 12, 3) := by decide +kernel
theorem dX10_emptyCells_4 : decode cX10_emptyCells 4 = .ok (.invokevirtual 172, 3) := by decide +kernel
theorem dX10_emptyCells_7 : decode cX10_emptyCells 7 = .ok (.ireturn, 1) := by decide +kernel
theorem dX10_paste_0 : decode cX10_paste 0 = .ok (.aload_n 0, 1) := by decide +kernel
theorem dX10_paste_1 : decode cX10_paste 1 = .ok (.getfield 12, 3) := by decide +kernel
theorem dX10_paste_4 : decode cX10_paste 4 = .ok (.getfield 176, 3) := by decide +kernel
theorem dX10_paste_7 : decode cX10_paste 7 = .ok (.ireturn, 1) := by decide +kernel
theorem dX10_matches_0 : decode cX10_matches 0 = .ok (.aload_n 0, 1) := by decide +kernel
theorem dX10_matches_1 : decode cX10_matches 1 = .ok (.iload_n 1, 1) := by decide +kernel
theorem dX10_matches_2 : decode cX10_matches 2 = .ok (.invokevirtual 99, 3) := by decide +kernel
theorem dX10_matches_5 : decode cX10_matches 5 = .ok (.astore 4, 2) := by decide +kernel
theorem dX10_matches_7 : decode cX10_matches 7 = .ok (.iload_n 2, 1) := by decide +kernel
theorem dX10_matches_8 : decode cX10_matches 8 = .ok (.invokestatic 153, 3) := by decide +kernel
theorem dX10_matches_11 : decode cX10_matches 11 = .ok (.iload_n 3, 1) := by decide +kernel
theorem dX10_matches_12 : decode cX10_matches 12 = .ok (.invokestatic 179, 3) := by decide +kernel
theorem dX10_matches_15 : decode cX10_matches 15 = .ok (.ifCond .ne 13, 3) := by decide +kernel
theorem dX10_matches_18 : decode cX10_matches 18 = .ok (.new 183, 3) := by decide +kernel
theorem dX10_matches_21 : decode cX10_matches 21 = .ok (.dup, 1) := by decide +kernel
theorem dX10_matches_22 : decode cX10_matches 22 = .ok (.ldc 185, 2) := by decide +kernel
theorem dX10_matches_24 : decode cX10_matches 24 = .ok (.invokespecial 187, 3) := by decide +kernel
theorem dX10_matches_27 : decode cX10_matches 27 = .ok (.athrow, 1) := by decide +kernel
theorem dX10_matches_28 : decode cX10_matches 28 = .ok (.aload_n 0, 1) := by decide +kernel
theorem dX10_matches_29 : decode cX10_matches 29 = .ok (.getfield 12, 3) := by decide +kernel
theorem dX10_matches_32 : decode cX10_matches 32 = .ok (.iload_n 2, 1) := by decide +kernel
theorem dX10_matches_33 : decode cX10_matches 33 = .ok (.invokevirtual 188, 3) := by decide +kernel
theorem dX10_matches_36 : decode cX10_matches 36 = .ok (.ifCond .ne 11, 3) := by decide +kernel
theorem dX10_matches_39 : decode cX10_matches 39 = .ok (.aload 4, 2) := by decide +kernel
theorem dX10_matches_41 : decode cX10_matches 41 = .ok (.invokevirtual 142, 3) := by decide +kernel
theorem dX10_matches_44 : decode cX10_matches 44 = .ok (.ifCond .eq 13, 3) := by decide +kernel
theorem dX10_matches_47 : decode cX10_matches 47 = .ok (.new 191, 3) := by decide +kernel
theorem dX10_matches_50 : decode cX10_matches 50 = .ok (.dup, 1) := by decide +kernel
theorem dX10_matches_51 : decode cX10_matches 51 = .ok (.ldc 193, 2) := by decide +kernel
theorem dX10_matches_53 : decode cX10_matches 53 = .ok (.invokespecial 195, 3) := by decide +kernel
theorem dX10_matches_56 : decode cX10_matches 56 = .ok (.athrow, 1) := by decide +kernel
theorem dX10_matches_57 : decode cX10_matches 57 = .ok (.aload_n 0, 1) := by decide +kernel
theorem dX10_matches_58 : decode cX10_matches 58 = .ok (.getfield 12, 3) := by decide +kernel
theorem dX10_matches_61 : decode cX10_matches 61 = .ok (.aload 4, 2) := by decide +kernel
theorem dX10_matches_63 : decode cX10_matches 63 = .ok (.iload_n 2, 1) := by decide +kernel
theorem dX10_matches_64 : decode cX10_matches 64 = .ok (.iload_n 3, 1) := by decide +kernel
theorem dX10_matches_65 : decode cX10_matches 65 = .ok (.invokevirtual 196, 3) := by decide +kernel
theorem dX10_matches_68 : decode cX10_matches 68 = .ok (.ireturn, 1) := by decide +kernel
theorem dX10_waysToPut_0 : decode cX10_waysToPut 0 = .ok (.aload_n 0, 1) := by decide +kernel
theorem dX10_waysToPut_1 : decode cX10_waysToPut 1 = .ok (.iload_n 1, 1) := by decide +kernel
theorem dX10_waysToPut_2 : decode cX10_waysToPut 2 = .ok (.invokevirtual 99, 3) := by decide +kernel
theorem dX10_waysToPut_5 : decode cX10_waysToPut 5 = .ok (.astore_n 2, 1) := by decide +kernel
theorem dX10_waysToPut_6 : decode cX10_waysToPut 6 = .ok (.aload_n 2, 1) := by decide +kernel
theorem dX10_waysToPut_7 : decode cX10_waysToPut 7 = .ok (.invokevirtual 200, 3) := by decide +kernel
theorem dX10_waysToPut_10 : decode cX10_waysToPut 10 = .ok (.ifCond .eq 14, 3) := by decide +kernel
theorem dX10_waysToPut_13 : decode cX10_waysToPut 13 = .ok (.aload_n 0, 1) := by decide +kernel
theorem dX10_waysToPut_14 : decode cX10_waysToPut 14 = .ok (.getfield 12, 3) := by decide +kernel
theorem dX10_waysToPut_17 : decode cX10_waysToPut 17 = .ok (.aload_n 2, 1) := by decide +kernel
theorem dX10_waysToPut_18 : decode cX10_waysToPut 18 = .ok (.invokevirtual 203, 3) := by decide +kernel
theorem dX10_waysToPut_21 : decode cX10_waysToPut 21 = .ok (.goto 4, 3) := by decide +kernel
theorem dX10_waysToPut_24 : decode cX10_waysToPut 24 = .ok (.iconst 0, 1) := by decide +kernel
theorem dX10_waysToPut_25 : decode cX10_waysToPut 25 = .ok (.ireturn, 1) := by decide +kernel
theorem dX10_completions_0 : decode cX10_completions 0 = .ok (.aload_n 0, 1) := by decide +kernel
theorem dX10_completions_1 : decode cX10_completions 1 = .ok (.invokevirtual 207, 3) := by decide +kernel
theorem dX10_completions_4 : decode cX10_completions 4 = .ok (.aload_n 0, 1) := by decide +kernel
theorem dX10_completions_5 : decode cX10_completions 5 = .ok (.getfield 12, 3) := by decide +kernel
theorem dX10_completions_8 : decode cX10_completions 8 = .ok (.iconst 0, 1) := by decide +kernel
theorem dX10_completions_9 : decode cX10_completions 9 = .ok (.iconst 0, 1) := by decide +kernel
theorem dX10_completions_10 : decode cX10_completions 10 = .ok (.invokestatic 210, 3) := by decide +kernel
theorem dX10_completions_13 : decode cX10_completions 13 = .ok (.ireturn, 1) := by decide +kernel
theorem dX10_completionsBackwards_0 : decode cX10_completionsBackwards 0 = .ok (.aload_n 0, 1) := by decide +kernel
theorem dX10_completionsBackwards_1 : decode cX10_completionsBackwards 1 = .ok (.invokevirtual 207, 3) := by decide +kernel
theorem dX10_completionsBackwards_4 : decode cX10_completionsBackwards 4 = .ok (.aload_n 0, 1) := by decide +kernel
theorem dX10_completionsBackwards_5 : decode cX10_completionsBackwards 5 = .ok (.getfield 12, 3) := by decide +kernel
theorem dX10_completionsBackwards_8 : decode cX10_completionsBackwards 8 = .ok (.iconst 0, 1) := by decide +kernel
theorem dX10_completionsBackwards_9 : decode cX10_completionsBackwards 9 = .ok (.iconst 1, 1) := by decide +kernel
theorem dX10_completionsBackwards_10 : decode cX10_completionsBackwards 10 = .ok (.invokestatic 210, 3) := by decide +kernel
theorem dX10_completionsBackwards_13 : decode cX10_completionsBackwards 13 = .ok (.ireturn, 1) := by decide +kernel
theorem dX10_foldings_0 : decode cX10_foldings 0 = .ok (.aload_n 0, 1) := by decide +kernel
theorem dX10_foldings_1 : decode cX10_foldings 1 = .ok (.getfield 36, 3) := by decide +kernel
theorem dX10_foldings_4 : decode cX10_foldings 4 = .ok (.aload_n 0, 1) := by decide +kernel
theorem dX10_foldings_5 : decode cX10_foldings 5 = .ok (.iload_n 1, 1) := by decide +kernel
theorem dX10_foldings_6 : decode cX10_foldings 6 = .ok (.invokevirtual 99, 3) := by decide +kernel
theorem dX10_foldings_9 : decode cX10_foldings 9 = .ok (.iconst (-1), 1) := by decide +kernel
theorem dX10_foldings_10 : decode cX10_foldings 10 = .ok (.invokevirtual 214, 3) := by decide +kernel
theorem dX10_foldings_13 : decode cX10_foldings 13 = .ok (.ireturn, 1) := by decide +kernel
theorem dX10_foldingsByPermutations_0 : decode cX10_foldingsByPermutations 0 = .ok (.aload_n 0, 1) := by decide +kernel
theorem dX10_foldingsByPermutations_1 : decode cX10_foldingsByPermutations 1 = .ok (.getfield 36, 3) := by decide +kernel
theorem dX10_foldingsByPermutations_4 : decode cX10_foldingsByPermutations 4 = .ok (.aload_n 0, 1) := by decide +kernel
theorem dX10_foldingsByPermutations_5 : decode cX10_foldingsByPermutations 5 = .ok (.iload_n 1, 1) := by decide +kernel
theorem dX10_foldingsByPermutations_6 : decode cX10_foldingsByPermutations 6 = .ok (.invokevirtual 99, 3) := by decide +kernel
theorem dX10_foldingsByPermutations_9 : decode cX10_foldingsByPermutations 9 = .ok (.invokevirtual 218, 3) := by decide +kernel
theorem dX10_foldingsByPermutations_12 : decode cX10_foldingsByPermutations 12 = .ok (.ireturn, 1) := by decide +kernel
theorem dX10_canBeOnTop_0 : decode cX10_canBeOnTop 0 = .ok (.aload_n 0, 1) := by decide +kernel
theorem dX10_canBeOnTop_1 : decode cX10_canBeOnTop 1 = .ok (.iload_n 1, 1) := by decide +kernel
theorem dX10_canBeOnTop_2 : decode cX10_canBeOnTop 2 = .ok (.invokevirtual 99, 3) := by decide +kernel
theorem dX10_canBeOnTop_5 : decode cX10_canBeOnTop 5 = .ok (.astore_n 3, 1) := by decide +kernel
theorem dX10_canBeOnTop_6 : decode cX10_canBeOnTop 6 = .ok (.iload_n 2, 1) := by decide +kernel
theorem dX10_canBeOnTop_7 : decode cX10_canBeOnTop 7 = .ok (.ifCond .lt 11, 3) := by decide +kernel
theorem dX10_canBeOnTop_10 : decode cX10_canBeOnTop 10 = .ok (.iload_n 2, 1) := by decide +kernel
theorem dX10_canBeOnTop_11 : decode cX10_canBeOnTop 11 = .ok (.aload_n 3, 1) := by decide +kernel
theorem dX10_canBeOnTop_12 : decode cX10_canBeOnTop 12 = .ok (.getfield 128, 3) := by decide +kernel
theorem dX10_canBeOnTop_15 : decode cX10_canBeOnTop 15 = .ok (.if_icmp .le 13, 3) := by decide +kernel
theorem dX10_canBeOnTop_18 : decode cX10_canBeOnTop 18 = .ok (.new 131, 3) := by decide +kernel
theorem dX10_canBeOnTop_21 : decode cX10_canBeOnTop 21 = .ok (.dup, 1) := by decide +kernel
theorem dX10_canBeOnTop_22 : decode cX10_canBeOnTop 22 = .ok (.ldc 221, 2) := by decide +kernel
theorem dX10_canBeOnTop_24 : decode cX10_canBeOnTop 24 = .ok (.invokespecial 135, 3) := by decide +kernel
theorem dX10_canBeOnTop_27 : decode cX10_canBeOnTop 27 = .ok (.athrow, 1) := by decide +kernel
theorem dX10_canBeOnTop_28 : decode cX10_canBeOnTop 28 = .ok (.aload_n 0, 1) := by decide +kernel
theorem dX10_canBeOnTop_29 : decode cX10_canBeOnTop 29 = .ok (.getfield 36, 3) := by decide +kernel
theorem dX10_canBeOnTop_32 : decode cX10_canBeOnTop 32 = .ok (.aload_n 3, 1) := by decide +kernel
theorem dX10_canBeOnTop_33 : decode cX10_canBeOnTop 33 = .ok (.iload_n 2, 1) := by decide +kernel
theorem dX10_canBeOnTop_34 : decode cX10_canBeOnTop 34 = .ok (.invokevirtual 214, 3) := by decide +kernel
theorem dX10_canBeOnTop_37 : decode cX10_canBeOnTop 37 = .ok (.ifCond .le 7, 3) := by decide +kernel
theorem dX10_canBeOnTop_40 : decode cX10_canBeOnTop 40 = .ok (.iconst 1, 1) := by decide +kernel
theorem dX10_canBeOnTop_41 : decode cX10_canBeOnTop 41 = .ok (.goto 4, 3) := by decide +kernel
theorem dX10_canBeOnTop_44 : decode cX10_canBeOnTop 44 = .ok (.iconst 0, 1) := by decide +kernel
theorem dX10_canBeOnTop_45 : decode cX10_canBeOnTop 45 = .ok (.ireturn, 1) := by decide +kernel
theorem dX10_pointsOf_0 : decode cX10_pointsOf 0 = .ok (.iload_n 1, 1) := by decide +kernel
theorem dX10_pointsOf_1 : decode cX10_pointsOf 1 = .ok (.invokestatic 153, 3) := by decide +kernel
theorem dX10_pointsOf_4 : decode cX10_pointsOf 4 = .ok (.aload_n 0, 1) := by decide +kernel
theorem dX10_pointsOf_5 : decode cX10_pointsOf 5 = .ok (.iload_n 1, 1) := by decide +kernel
theorem dX10_pointsOf_6 : decode cX10_pointsOf 6 = .ok (.invokevirtual 156, 3) := by decide +kernel
theorem dX10_pointsOf_9 : decode cX10_pointsOf 9 = .ok (.aload_n 0, 1) := by decide +kernel
theorem dX10_pointsOf_10 : decode cX10_pointsOf 10 = .ok (.getfield 12, 3) := by decide +kernel
theorem dX10_pointsOf_13 : decode cX10_pointsOf 13 = .ok (.iload_n 1, 1) := by decide +kernel
theorem dX10_pointsOf_14 : decode cX10_pointsOf 14 = .ok (.invokestatic 223, 3) := by decide +kernel
theorem dX10_pointsOf_17 : decode cX10_pointsOf 17 = .ok (.ireturn, 1) := by decide +kernel
theorem dX10_points_0 : decode cX10_points 0 = .ok (.aload_n 0, 1) := by decide +kernel
theorem dX10_points_1 : decode cX10_points 1 = .ok (.getfield 12, 3) := by decide +kernel
theorem dX10_points_4 : decode cX10_points 4 = .ok (.invokestatic 229, 3) := by decide +kernel
theorem dX10_points_7 : decode cX10_points 7 = .ok (.ireturn, 1) := by decide +kernel
theorem dX10_groupSize_0 : decode cX10_groupSize 0 = .ok (.iload_n 1, 1) := by decide +kernel
theorem dX10_groupSize_1 : decode cX10_groupSize 1 = .ok (.invokestatic 153, 3) := by decide +kernel
theorem dX10_groupSize_4 : decode cX10_groupSize 4 = .ok (.aload_n 0, 1) := by decide +kernel
theorem dX10_groupSize_5 : decode cX10_groupSize 5 = .ok (.iload_n 1, 1) := by decide +kernel
theorem dX10_groupSize_6 : decode cX10_groupSize 6 = .ok (.invokevirtual 156, 3) := by decide +kernel
theorem dX10_groupSize_9 : decode cX10_groupSize 9 = .ok (.aload_n 0, 1) := by decide +kernel
theorem dX10_groupSize_10 : decode cX10_groupSize 10 = .ok (.getfield 12, 3) := by decide +kernel
theorem dX10_groupSize_13 : decode cX10_groupSize 13 = .ok (.iload_n 1, 1) := by decide +kernel
theorem dX10_groupSize_14 : decode cX10_groupSize 14 = .ok (.invokestatic 236, 3) := by decide +kernel
theorem dX10_groupSize_17 : decode cX10_groupSize 17 = .ok (.invokestatic 239, 3) := by decide +kernel
theorem dX10_groupSize_20 : decode cX10_groupSize 20 = .ok (.ireturn, 1) := by decide +kernel
theorem dX10_groups_0 : decode cX10_groups 0 = .ok (.aload_n 0, 1) := by decide +kernel
theorem dX10_groups_1 : decode cX10_groups 1 = .ok (.getfield 12, 3) := by decide +kernel
theorem dX10_groups_4 : decode cX10_groups 4 = .ok (.invokestatic 244, 3) := by decide +kernel
theorem dX10_groups_7 : decode cX10_groups 7 = .ok (.ireturn, 1) := by decide +kernel
theorem dX10_matchedBorders_0 : decode cX10_matchedBorders 0 = .ok (.aload_n 0, 1) := by decide +kernel
theorem dX10_matchedBorders_1 : decode cX10_matchedBorders 1 = .ok (.getfield 12, 3) := by decide +kernel
theorem dX10_matchedBorders_4 : decode cX10_matchedBorders 4 = .ok (.invokevirtual 250, 3) := by decide +kernel
theorem dX10_matchedBorders_7 : decode cX10_matchedBorders 7 = .ok (.ireturn, 1) := by decide +kernel
theorem dX10_sheetByWear_0 : decode cX10_sheetByWear 0 = .ok (.iload_n 1, 1) := by decide +kernel
theorem dX10_sheetByWear_1 : decode cX10_sheetByWear 1 = .ok (.ifCond .lt 14, 3) := by decide +kernel
theorem dX10_sheetByWear_4 : decode cX10_sheetByWear 4 = .ok (.iload_n 1, 1) := by decide +kernel
theorem dX10_sheetByWear_5 : decode cX10_sheetByWear 5 = .ok (.aload_n 0, 1) := by decide +kernel
theorem dX10_sheetByWear_6 : decode cX10_sheetByWear 6 = .ok (.getfield 12, 3) := by decide +kernel
theorem dX10_sheetByWear_9 : decode cX10_sheetByWear 9 = .ok (.getfield 96, 3) := by decide +kernel
theorem dX10_sheetByWear_12 : decode cX10_sheetByWear 12 = .ok (.if_icmp .lt 13, 3) := by decide +kernel
theorem dX10_sheetByWear_15 : decode cX10_sheetByWear 15 = .ok (.new 145, 3) := by decide +kernel
theorem dX10_sheetByWear_18 : decode cX10_sheetByWear 18 = .ok (.dup, 1) := by decide +kernel
theorem dX10_sheetByWear_19 : decode cX10_sheetByWear 19 = .ok (.ldc 253, 2) := by decide +kernel
theorem dX10_sheetByWear_21 : decode cX10_sheetByWear 21 = .ok (.invokespecial 149, 3) := by decide +kernel
theorem dX10_sheetByWear_24 : decode cX10_sheetByWear 24 = .ok (.athrow, 1) := by decide +kernel
theorem dX10_sheetByWear_25 : decode cX10_sheetByWear 25 = .ok (.aload_n 0, 1) := by decide +kernel
theorem dX10_sheetByWear_26 : decode cX10_sheetByWear 26 = .ok (.getfield 12, 3) := by decide +kernel
theorem dX10_sheetByWear_29 : decode cX10_sheetByWear 29 = .ok (.iload_n 1, 1) := by decide +kernel
theorem dX10_sheetByWear_30 : decode cX10_sheetByWear 30 = .ok (.invokevirtual 255, 3) := by decide +kernel
theorem dX10_sheetByWear_33 : decode cX10_sheetByWear 33 = .ok (.ireturn, 1) := by decide +kernel
theorem dX10_foldCount_0 : decode cX10_foldCount 0 = .ok (.aload_n 0, 1) := by decide +kernel
theorem dX10_foldCount_1 : decode cX10_foldCount 1 = .ok (.getfield 12, 3) := by decide +kernel
theorem dX10_foldCount_4 : decode cX10_foldCount 4 = .ok (.getfield 258, 3) := by decide +kernel
theorem dX10_foldCount_7 : decode cX10_foldCount 7 = .ok (.ireturn, 1) := by decide +kernel
theorem dX10_usedPaste_0 : decode cX10_usedPaste 0 = .ok (.aload_n 0, 1) := by decide +kernel
theorem dX10_usedPaste_1 : decode cX10_usedPaste 1 = .ok (.getfield 12, 3) := by decide +kernel
theorem dX10_usedPaste_4 : decode cX10_usedPaste 4 = .ok (.getfield 261, 3) := by decide +kernel
theorem dX10_usedPaste_7 : decode cX10_usedPaste 7 = .ok (.ireturn, 1) := by decide +kernel
theorem dX10_meanWear_0 : decode cX10_meanWear 0 = .ok (.aload_n 0, 1) := by decide +kernel
theorem dX10_meanWear_1 : decode cX10_meanWear 1 = .ok (.getfield 12, 3) := by decide +kernel
theorem dX10_meanWear_4 : decode cX10_meanWear 4 = .ok (.getfield 96, 3) := by decide +kernel
theorem dX10_meanWear_7 : decode cX10_meanWear 7 = .ok (.ifCond .ne 14, 3) := by decide +kernel
theorem dX10_meanWear_10 : decode cX10_meanWear 10 = .ok (.new 264, 3) := by decide +kernel
theorem dX10_meanWear_13 : decode cX10_meanWear 13 = .ok (.dup, 1) := by decide +kernel
theorem dX10_meanWear_14 : decode cX10_meanWear 14 = .ok (.ldc_w 266, 3) := by decide +kernel
theorem dX10_meanWear_17 : decode cX10_meanWear 17 = .ok (.invokespecial 268, 3) := by decide +kernel
theorem dX10_meanWear_20 : decode cX10_meanWear 20 = .ok (.athrow, 1) := by decide +kernel
theorem dX10_meanWear_21 : decode cX10_meanWear 21 = .ok (.aload_n 0, 1) := by decide +kernel
theorem dX10_meanWear_22 : decode cX10_meanWear 22 = .ok (.getfield 12, 3) := by decide +kernel
theorem dX10_meanWear_25 : decode cX10_meanWear 25 = .ok (.invokevirtual 269, 3) := by decide +kernel
theorem dX10_meanWear_28 : decode cX10_meanWear 28 = .ok (.i2d, 1) := by decide +kernel
theorem dX10_meanWear_29 : decode cX10_meanWear 29 = .ok (.aload_n 0, 1) := by decide +kernel
theorem dX10_meanWear_30 : decode cX10_meanWear 30 = .ok (.getfield 12, 3) := by decide +kernel
theorem dX10_meanWear_33 : decode cX10_meanWear 33 = .ok (.getfield 96, 3) := by decide +kernel
theorem dX10_meanWear_36 : decode cX10_meanWear 36 = .ok (.i2d, 1) := by decide +kernel
theorem dX10_meanWear_37 : decode cX10_meanWear 37 = .ok (.ddiv, 1) := by decide +kernel
theorem dX10_meanWear_38 : decode cX10_meanWear 38 = .ok (.dreturn, 1) := by decide +kernel
theorem dX10_coveredShare_0 : decode cX10_coveredShare 0 = .ok (.bipush 9, 2) := by decide +kernel
theorem dX10_coveredShare_2 : decode cX10_coveredShare 2 = .ok (.aload_n 0, 1) := by decide +kernel
theorem dX10_coveredShare_3 : decode cX10_coveredShare 3 = .ok (.getfield 12, 3) := by decide +kernel
theorem dX10_coveredShare_6 : decode cX10_coveredShare 6 = .ok (.invokevirtual 172, 3) := by decide +kernel
theorem dX10_coveredShare_9 : decode cX10_coveredShare 9 = .ok (.isub, 1) := by decide +kernel
theorem dX10_coveredShare_10 : decode cX10_coveredShare 10 = .ok (.i2f, 1) := by decide +kernel
theorem dX10_coveredShare_11 : decode cX10_coveredShare 11 = .ok (.ldc_w 272, 3) := by decide +kernel
theorem dX10_coveredShare_14 : decode cX10_coveredShare 14 = .ok (.fdiv, 1) := by decide +kernel
theorem dX10_coveredShare_15 : decode cX10_coveredShare 15 = .ok (.freturn, 1) := by decide +kernel
theorem dX10_feed_0 : decode cX10_feed 0 = .ok (.aload_n 0, 1) := by decide +kernel
theorem dX10_feed_1 : decode cX10_feed 1 = .ok (.getfield 43, 3) := by decide +kernel
theorem dX10_feed_4 : decode cX10_feed 4 = .ok (.invokevirtual 279, 3) := by decide +kernel
theorem dX10_feed_7 : decode cX10_feed 7 = .ok (.ifCond .eq 14, 3) := by decide +kernel
theorem dX10_feed_10 : decode cX10_feed 10 = .ok (.new 191, 3) := by decide +kernel
theorem dX10_feed_13 : decode cX10_feed 13 = .ok (.dup, 1) := by decide +kernel
theorem dX10_feed_14 : decode cX10_feed 14 = .ok (.ldc_w 282, 3) := by decide +kernel
theorem dX10_feed_17 : decode cX10_feed 17 = .ok (.invokespecial 195, 3) := by decide +kernel
theorem dX10_feed_20 : decode cX10_feed 20 = .ok (.athrow, 1) := by decide +kernel
theorem dX10_feed_21 : decode cX10_feed 21 = .ok (.aload_n 0, 1) := by decide +kernel
theorem dX10_feed_22 : decode cX10_feed 22 = .ok (.getfield 43, 3) := by decide +kernel
theorem dX10_feed_25 : decode cX10_feed 25 = .ok (.iload_n 1, 1) := by decide +kernel
theorem dX10_feed_26 : decode cX10_feed 26 = .ok (.invokevirtual 284, 3) := by decide +kernel
theorem dX10_feed_29 : decode cX10_feed 29 = .ok (.aload_n 0, 1) := by decide +kernel
theorem dX10_feed_30 : decode cX10_feed 30 = .ok (.getfield 43, 3) := by decide +kernel
theorem dX10_feed_33 : decode cX10_feed 33 = .ok (.getfield 288, 3) := by decide +kernel
theorem dX10_feed_36 : decode cX10_feed 36 = .ok (.ireturn, 1) := by decide +kernel
theorem dX10_runCommands_0 : decode cX10_runCommands 0 = .ok (.aload_n 0, 1) := by decide +kernel
theorem dX10_runCommands_1 : decode cX10_runCommands 1 = .ok (.getfield 43, 3) := by decide +kernel
theorem dX10_runCommands_4 : decode cX10_runCommands 4 = .ok (.invokevirtual 291, 3) := by decide +kernel
theorem dX10_runCommands_7 : decode cX10_runCommands 7 = .ok (.istore_n 1, 1) := by decide +kernel
theorem dX10_runCommands_8 : decode cX10_runCommands 8 = .ok (.iload_n 1, 1) := by decide +kernel
theorem dX10_runCommands_9 : decode cX10_runCommands 9 = .ok (.iconst (-1), 1) := by decide +kernel
theorem dX10_runCommands_10 : decode cX10_runCommands 10 = .ok (.if_icmp .eq 26, 3) := by decide +kernel
theorem dX10_runCommands_13 : decode cX10_runCommands 13 = .ok (.aload_n 0, 1) := by decide +kernel
theorem dX10_runCommands_14 : decode cX10_runCommands 14 = .ok (.iload_n 1, 1) := by decide +kernel
theorem dX10_runCommands_15 : decode cX10_runCommands 15 = .ok (.putfield 54, 3) := by decide +kernel
theorem dX10_runCommands_18 : decode cX10_runCommands 18 = .ok (.aload_n 0, 1) := by decide +kernel
theorem dX10_runCommands_19 : decode cX10_runCommands 19 = .ok (.getfield 43, 3) := by decide +kernel
theorem dX10_runCommands_22 : decode cX10_runCommands 22 = .ok (.invokevirtual 294, 3) := by decide +kernel
theorem dX10_runCommands_25 : decode cX10_runCommands 25 = .ok (.new 183, 3) := by decide +kernel
theorem dX10_runCommands_28 : decode cX10_runCommands 28 = .ok (.dup, 1) := by decide +kernel
theorem dX10_runCommands_29 : decode cX10_runCommands 29 = .ok (.ldc_w 297, 3) := by decide +kernel
theorem dX10_runCommands_32 : decode cX10_runCommands 32 = .ok (.invokespecial 187, 3) := by decide +kernel
theorem dX10_runCommands_35 : decode cX10_runCommands 35 = .ok (.athrow, 1) := by decide +kernel
theorem dX10_runCommands_36 : decode cX10_runCommands 36 = .ok (.aload_n 0, 1) := by decide +kernel
theorem dX10_runCommands_37 : decode cX10_runCommands 37 = .ok (.getfield 22, 3) := by decide +kernel
theorem dX10_runCommands_40 : decode cX10_runCommands 40 = .ok (.aload_n 0, 1) := by decide +kernel
theorem dX10_runCommands_41 : decode cX10_runCommands 41 = .ok (.getfield 12, 3) := by decide +kernel
theorem dX10_runCommands_44 : decode cX10_runCommands 44 = .ok (.invokevirtual 61, 3) := by decide +kernel
theorem dX10_runCommands_47 : decode cX10_runCommands 47 = .ok (.aload_n 0, 1) := by decide +kernel
theorem dX10_runCommands_48 : decode cX10_runCommands 48 = .ok (.invokevirtual 299, 3) := by decide +kernel
theorem dX10_runCommands_51 : decode cX10_runCommands 51 = .ok (.istore_n 2, 1) := by decide +kernel
theorem dX10_runCommands_52 : decode cX10_runCommands 52 = .ok (.aload_n 0, 1) := by decide +kernel
theorem dX10_runCommands_53 : decode cX10_runCommands 53 = .ok (.getfield 43, 3) := by decide +kernel
theorem dX10_runCommands_56 : decode cX10_runCommands 56 = .ok (.invokevirtual 294, 3) := by decide +kernel
theorem dX10_runCommands_59 : decode cX10_runCommands 59 = .ok (.iload_n 2, 1) := by decide +kernel
theorem dX10_runCommands_60 : decode cX10_runCommands 60 = .ok (.iconst (-1), 1) := by decide +kernel
theorem dX10_runCommands_61 : decode cX10_runCommands 61 = .ok (.if_icmp .eq 30, 3) := by decide +kernel
theorem dX10_runCommands_64 : decode cX10_runCommands 64 = .ok (.aload_n 0, 1) := by decide +kernel
theorem dX10_runCommands_65 : decode cX10_runCommands 65 = .ok (.iload_n 2, 1) := by decide +kernel
theorem dX10_runCommands_66 : decode cX10_runCommands 66 = .ok (.putfield 58, 3) := by decide +kernel
theorem dX10_runCommands_69 : decode cX10_runCommands 69 = .ok (.aload_n 0, 1) := by decide +kernel
theorem dX10_runCommands_70 : decode cX10_runCommands 70 = .ok (.getfield 22, 3) := by decide +kernel
theorem dX10_runCommands_73 : decode cX10_runCommands 73 = .ok (.aload_n 0, 1) := by decide +kernel
theorem dX10_runCommands_74 : decode cX10_runCommands 74 = .ok (.getfield 12, 3) := by decide +kernel
theorem dX10_runCommands_77 : decode cX10_runCommands 77 = .ok (.invokevirtual 302, 3) := by decide +kernel
theorem dX10_runCommands_80 : decode cX10_runCommands 80 = .ok (.new 305, 3) := by decide +kernel
theorem dX10_runCommands_83 : decode cX10_runCommands 83 = .ok (.dup, 1) := by decide +kernel
theorem dX10_runCommands_84 : decode cX10_runCommands 84 = .ok (.ldc_w 307, 3) := by decide +kernel
theorem dX10_runCommands_87 : decode cX10_runCommands 87 = .ok (.invokespecial 309, 3) := by decide +kernel
theorem dX10_runCommands_90 : decode cX10_runCommands 90 = .ok (.athrow, 1) := by decide +kernel
theorem dX10_runCommands_91 : decode cX10_runCommands 91 = .ok (.aload_n 0, 1) := by decide +kernel
theorem dX10_runCommands_92 : decode cX10_runCommands 92 = .ok (.getfield 22, 3) := by decide +kernel
theorem dX10_runCommands_95 : decode cX10_runCommands 95 = .ok (.invokevirtual 310, 3) := by decide +kernel
theorem dX10_runCommands_98 : decode cX10_runCommands 98 = .ok (.aload_n 0, 1) := by decide +kernel
theorem dX10_runCommands_99 : decode cX10_runCommands 99 = .ok (.getfield 43, 3) := by decide +kernel
theorem dX10_runCommands_102 : decode cX10_runCommands 102 = .ok (.getfield 313, 3) := by decide +kernel
theorem dX10_runCommands_105 : decode cX10_runCommands 105 = .ok (.ireturn, 1) := by decide +kernel
theorem dX10_errorPosition_0 : decode cX10_errorPosition 0 = .ok (.aload_n 0, 1) := by decide +kernel
theorem dX10_errorPosition_1 : decode cX10_errorPosition 1 = .ok (.getfield 54, 3) := by decide +kernel
theorem dX10_errorPosition_4 : decode cX10_errorPosition 4 = .ok (.iconst (-1), 1) := by decide +kernel
theorem dX10_errorPosition_5 : decode cX10_errorPosition 5 = .ok (.if_icmp .ne 14, 3) := by decide +kernel
theorem dX10_errorPosition_8 : decode cX10_errorPosition 8 = .ok (.new 145, 3) := by decide +kernel
theorem dX10_errorPosition_11 : decode cX10_errorPosition 11 = .ok (.dup, 1) := by decide +kernel
theorem dX10_errorPosition_12 : decode cX10_errorPosition 12 = .ok (.ldc_w 316, 3) := by decide +kernel
theorem dX10_errorPosition_15 : decode cX10_errorPosition 15 = .ok (.invokespecial 149, 3) := by decide +kernel
theorem dX10_errorPosition_18 : decode cX10_errorPosition 18 = .ok (.athrow, 1) := by decide +kernel
theorem dX10_errorPosition_19 : decode cX10_errorPosition 19 = .ok (.aload_n 0, 1) := by decide +kernel
theorem dX10_errorPosition_20 : decode cX10_errorPosition 20 = .ok (.getfield 54, 3) := by decide +kernel
theorem dX10_errorPosition_23 : decode cX10_errorPosition 23 = .ok (.ireturn, 1) := by decide +kernel
theorem dX10_failedCommand_0 : decode cX10_failedCommand 0 = .ok (.aload_n 0, 1) := by decide +kernel
theorem dX10_failedCommand_1 : decode cX10_failedCommand 1 = .ok (.getfield 58, 3) := by decide +kernel
theorem dX10_failedCommand_4 : decode cX10_failedCommand 4 = .ok (.iconst (-1), 1) := by decide +kernel
theorem dX10_failedCommand_5 : decode cX10_failedCommand 5 = .ok (.if_icmp .ne 14, 3) := by decide +kernel
theorem dX10_failedCommand_8 : decode cX10_failedCommand 8 = .ok (.new 145, 3) := by decide +kernel
theorem dX10_failedCommand_11 : decode cX10_failedCommand 11 = .ok (.dup, 1) := by decide +kernel
theorem dX10_failedCommand_12 : decode cX10_failedCommand 12 = .ok (.ldc_w 318, 3) := by decide +kernel
theorem dX10_failedCommand_15 : decode cX10_failedCommand 15 = .ok (.invokespecial 149, 3) := by decide +kernel
theorem dX10_failedCommand_18 : decode cX10_failedCommand 18 = .ok (.athrow, 1) := by decide +kernel
theorem dX10_failedCommand_19 : decode cX10_failedCommand 19 = .ok (.aload_n 0, 1) := by decide +kernel
theorem dX10_failedCommand_20 : decode cX10_failedCommand 20 = .ok (.getfield 58, 3) := by decide +kernel
theorem dX10_failedCommand_23 : decode cX10_failedCommand 23 = .ok (.ireturn, 1) := by decide +kernel
theorem dX10_writeTable_0 : decode cX10_writeTable 0 = .ok (.aload_n 0, 1) := by decide +kernel
theorem dX10_writeTable_1 : decode cX10_writeTable 1 = .ok (.getfield 50, 3) := by decide +kernel
theorem dX10_writeTable_4 : decode cX10_writeTable 4 = .ok (.aload_n 0, 1) := by decide +kernel
theorem dX10_writeTable_5 : decode cX10_writeTable 5 = .ok (.getfield 12, 3) := by decide +kernel
theorem dX10_writeTable_8 : decode cX10_writeTable 8 = .ok (.invokevirtual 320, 3) := by decide +kernel
theorem dX10_writeTable_11 : decode cX10_writeTable 11 = .ok (.aload_n 0, 1) := by decide +kernel
theorem dX10_writeTable_12 : decode cX10_writeTable 12 = .ok (.getfield 50, 3) := by decide +kernel
theorem dX10_writeTable_15 : decode cX10_writeTable 15 = .ok (.getfield 323, 3) := by decide +kernel
theorem dX10_writeTable_18 : decode cX10_writeTable 18 = .ok (.ireturn, 1) := by decide +kernel
theorem dX10_writeSheet_0 : decode cX10_writeSheet 0 = .ok (.aload_n 0, 1) := by decide +kernel
theorem dX10_writeSheet_1 : decode cX10_writeSheet 1 = .ok (.getfield 50, 3) := by decide +kernel
theorem dX10_writeSheet_4 : decode cX10_writeSheet 4 = .ok (.aload_n 0, 1) := by decide +kernel
theorem dX10_writeSheet_5 : decode cX10_writeSheet 5 = .ok (.iload_n 1, 1) := by decide +kernel
theorem dX10_writeSheet_6 : decode cX10_writeSheet 6 = .ok (.invokevirtual 99, 3) := by decide +kernel
theorem dX10_writeSheet_9 : decode cX10_writeSheet 9 = .ok (.invokevirtual 324, 3) := by decide +kernel
theorem dX10_writeSheet_12 : decode cX10_writeSheet 12 = .ok (.aload_n 0, 1) := by decide +kernel
theorem dX10_writeSheet_13 : decode cX10_writeSheet 13 = .ok (.getfield 50, 3) := by decide +kernel
theorem dX10_writeSheet_16 : decode cX10_writeSheet 16 = .ok (.getfield 323, 3) := by decide +kernel
theorem dX10_writeSheet_19 : decode cX10_writeSheet 19 = .ok (.ireturn, 1) := by decide +kernel
theorem dX10_outputChar_0 : decode cX10_outputChar 0 = .ok (.iload_n 1, 1) := by decide +kernel
theorem dX10_outputChar_1 : decode cX10_outputChar 1 = .ok (.ifCond .lt 14, 3) := by decide +kernel
theorem dX10_outputChar_4 : decode cX10_outputChar 4 = .ok (.iload_n 1, 1) := by decide +kernel
theorem dX10_outputChar_5 : decode cX10_outputChar 5 = .ok (.aload_n 0, 1) := by decide +kernel
theorem dX10_outputChar_6 : decode cX10_outputChar 6 = .ok (.getfield 50, 3) := by decide +kernel
theorem dX10_outputChar_9 : decode cX10_outputChar 9 = .ok (.getfield 323, 3) := by decide +kernel
theorem dX10_outputChar_12 : decode cX10_outputChar 12 = .ok (.if_icmp .lt 14, 3) := by decide +kernel
theorem dX10_outputChar_15 : decode cX10_outputChar 15 = .ok (.new 131, 3) := by decide +kernel
theorem dX10_outputChar_18 : decode cX10_outputChar 18 = .ok (.dup, 1) := by decide +kernel
theorem dX10_outputChar_19 : decode cX10_outputChar 19 = .ok (.ldc_w 328, 3) := by decide +kernel
theorem dX10_outputChar_22 : decode cX10_outputChar 22 = .ok (.invokespecial 135, 3) := by decide +kernel
theorem dX10_outputChar_25 : decode cX10_outputChar 25 = .ok (.athrow, 1) := by decide +kernel
theorem dX10_outputChar_26 : decode cX10_outputChar 26 = .ok (.aload_n 0, 1) := by decide +kernel
theorem dX10_outputChar_27 : decode cX10_outputChar 27 = .ok (.getfield 50, 3) := by decide +kernel
theorem dX10_outputChar_30 : decode cX10_outputChar 30 = .ok (.getfield 330, 3) := by decide +kernel
theorem dX10_outputChar_33 : decode cX10_outputChar 33 = .ok (.iload_n 1, 1) := by decide +kernel
theorem dX10_outputChar_34 : decode cX10_outputChar 34 = .ok (.caload, 1) := by decide +kernel
theorem dX10_outputChar_35 : decode cX10_outputChar 35 = .ok (.ireturn, 1) := by decide +kernel
theorem dX10_undoCount_0 : decode cX10_undoCount 0 = .ok (.aload_n 0, 1) := by decide +kernel
theorem dX10_undoCount_1 : decode cX10_undoCount 1 = .ok (.getfield 22, 3) := by decide +kernel
theorem dX10_undoCount_4 : decode cX10_undoCount 4 = .ok (.getfield 333, 3) := by decide +kernel
theorem dX10_undoCount_7 : decode cX10_undoCount 7 = .ok (.ireturn, 1) := by decide +kernel
theorem dX10_undo_0 : decode cX10_undo 0 = .ok (.aload_n 0, 1) := by decide +kernel
theorem dX10_undo_1 : decode cX10_undo 1 = .ok (.getfield 22, 3) := by decide +kernel
theorem dX10_undo_4 : decode cX10_undo 4 = .ok (.getfield 333, 3) := by decide +kernel
theorem dX10_undo_7 : decode cX10_undo 7 = .ok (.ifCond .ne 14, 3) := by decide +kernel
theorem dX10_undo_10 : decode cX10_undo 10 = .ok (.new 191, 3) := by decide +kernel
theorem dX10_undo_13 : decode cX10_undo 13 = .ok (.dup, 1) := by decide +kernel
theorem dX10_undo_14 : decode cX10_undo 14 = .ok (.ldc_w 336, 3) := by decide +kernel
theorem dX10_undo_17 : decode cX10_undo 17 = .ok (.invokespecial 195, 3) := by decide +kernel
theorem dX10_undo_20 : decode cX10_undo 20 = .ok (.athrow, 1) := by decide +kernel
theorem dX10_undo_21 : decode cX10_undo 21 = .ok (.aload_n 0, 1) := by decide +kernel
theorem dX10_undo_22 : decode cX10_undo 22 = .ok (.getfield 22, 3) := by decide +kernel
theorem dX10_undo_25 : decode cX10_undo 25 = .ok (.aload_n 0, 1) := by decide +kernel
theorem dX10_undo_26 : decode cX10_undo 26 = .ok (.getfield 12, 3) := by decide +kernel
theorem dX10_undo_29 : decode cX10_undo 29 = .ok (.invokevirtual 338, 3) := by decide +kernel
theorem dX10_undo_32 : decode cX10_undo 32 = .ok (.aload_n 0, 1) := by decide +kernel
theorem dX10_undo_33 : decode cX10_undo 33 = .ok (.getfield 22, 3) := by decide +kernel
theorem dX10_undo_36 : decode cX10_undo 36 = .ok (.getfield 333, 3) := by decide +kernel
theorem dX10_undo_39 : decode cX10_undo 39 = .ok (.ireturn, 1) := by decide +kernel
theorem dX10_save_0 : decode cX10_save 0 = .ok (.aload_n 0, 1) := by decide +kernel
theorem dX10_save_1 : decode cX10_save 1 = .ok (.getfield 16, 3) := by decide +kernel
theorem dX10_save_4 : decode cX10_save 4 = .ok (.aload_n 0, 1) := by decide +kernel
theorem dX10_save_5 : decode cX10_save 5 = .ok (.getfield 12, 3) := by decide +kernel
theorem dX10_save_8 : decode cX10_save 8 = .ok (.invokevirtual 341, 3) := by decide +kernel
theorem dX10_save_11 : decode cX10_save 11 = .ok (.aload_n 0, 1) := by decide +kernel
theorem dX10_save_12 : decode cX10_save 12 = .ok (.iconst 1, 1) := by decide +kernel
theorem dX10_save_13 : decode cX10_save 13 = .ok (.putfield 344, 3) := by decide +kernel
theorem dX10_save_16 : decode cX10_save 16 = .ok (.aload_n 0, 1) := by decide +kernel
theorem dX10_save_17 : decode cX10_save 17 = .ok (.getfield 12, 3) := by decide +kernel
theorem dX10_save_20 : decode cX10_save 20 = .ok (.getfield 96, 3) := by decide +kernel
theorem dX10_save_23 : decode cX10_save 23 = .ok (.ireturn, 1) := by decide +kernel
theorem dX10_restore_0 : decode cX10_restore 0 = .ok (.aload_n 0, 1) := by decide +kernel
theorem dX10_restore_1 : decode cX10_restore 1 = .ok (.getfield 344, 3) := by decide +kernel
theorem dX10_restore_4 : decode cX10_restore 4 = .ok (.ifCond .ne 14, 3) := by decide +kernel
theorem dX10_restore_7 : decode cX10_restore 7 = .ok (.new 191, 3) := by decide +kernel
theorem dX10_restore_10 : decode cX10_restore 10 = .ok (.dup, 1) := by decide +kernel
theorem dX10_restore_11 : decode cX10_restore 11 = .ok (.ldc_w 347, 3) := by decide +kernel
theorem dX10_restore_14 : decode cX10_restore 14 = .ok (.invokespecial 195, 3) := by decide +kernel
theorem dX10_restore_17 : decode cX10_restore 17 = .ok (.athrow, 1) := by decide +kernel
theorem dX10_restore_18 : decode cX10_restore 18 = .ok (.aload_n 0, 1) := by decide +kernel
theorem dX10_restore_19 : decode cX10_restore 19 = .ok (.getfield 12, 3) := by decide +kernel
theorem dX10_restore_22 : decode cX10_restore 22 = .ok (.aload_n 0, 1) := by decide +kernel
theorem dX10_restore_23 : decode cX10_restore 23 = .ok (.getfield 16, 3) := by decide +kernel
theorem dX10_restore_26 : decode cX10_restore 26 = .ok (.invokevirtual 341, 3) := by decide +kernel
theorem dX10_restore_29 : decode cX10_restore 29 = .ok (.aload_n 0, 1) := by decide +kernel
theorem dX10_restore_30 : decode cX10_restore 30 = .ok (.getfield 22, 3) := by decide +kernel
theorem dX10_restore_33 : decode cX10_restore 33 = .ok (.invokevirtual 349, 3) := by decide +kernel
theorem dX10_restore_36 : decode cX10_restore 36 = .ok (.aload_n 0, 1) := by decide +kernel
theorem dX10_restore_37 : decode cX10_restore 37 = .ok (.getfield 12, 3) := by decide +kernel
theorem dX10_restore_40 : decode cX10_restore 40 = .ok (.getfield 96, 3) := by decide +kernel
theorem dX10_restore_43 : decode cX10_restore 43 = .ok (.ireturn, 1) := by decide +kernel
theorem dX10_recorded_0 : decode cX10_recorded 0 = .ok (.iload_n 1, 1) := by decide +kernel
theorem dX10_recorded_1 : decode cX10_recorded 1 = .ok (.ifCond .ge 7, 3) := by decide +kernel
theorem dX10_recorded_4 : decode cX10_recorded 4 = .ok (.iload_n 1, 1) := by decide +kernel
theorem dX10_recorded_5 : decode cX10_recorded 5 = .ok (.invokestatic 352, 3) := by decide +kernel
theorem dX10_recorded_8 : decode cX10_recorded 8 = .ok (.aload_n 0, 1) := by decide +kernel
theorem dX10_recorded_9 : decode cX10_recorded 9 = .ok (.getfield 22, 3) := by decide +kernel
theorem dX10_recorded_12 : decode cX10_recorded 12 = .ok (.invokevirtual 310, 3) := by decide +kernel
theorem dX10_recorded_15 : decode cX10_recorded 15 = .ok (.iload_n 1, 1) := by decide +kernel
theorem dX10_recorded_16 : decode cX10_recorded 16 = .ok (.ireturn, 1) := by decide +kernel
theorem dX10_throwRefusal_0 : decode cX10_throwRefusal 0 = .ok (.iload_n 0, 1) := by decide +kernel
theorem dX10_throwRefusal_1 : decode cX10_throwRefusal 1 = .ok (.tableswitch 75 (-4) (-1) #[64, 53, 42, 31], 31) := by decide +kernel
theorem dX10_throwRefusal_32 : decode cX10_throwRefusal 32 = .ok (.new 131, 3) := by decide +kernel
theorem dX10_throwRefusal_35 : decode cX10_throwRefusal 35 = .ok (.dup, 1) := by decide +kernel
theorem dX10_throwRefusal_36 : decode cX10_throwRefusal 36 = .ok (.ldc_w 355, 3) := by decide +kernel
theorem dX10_throwRefusal_39 : decode cX10_throwRefusal 39 = .ok (.invokespecial 135, 3) := by decide +kernel
theorem dX10_throwRefusal_42 : decode cX10_throwRefusal 42 = .ok (.athrow, 1) := by decide +kernel
theorem dX10_throwRefusal_43 : decode cX10_throwRefusal 43 = .ok (.new 183, 3) := by decide +kernel
theorem dX10_throwRefusal_46 : decode cX10_throwRefusal 46 = .ok (.dup, 1) := by decide +kernel
theorem dX10_throwRefusal_47 : decode cX10_throwRefusal 47 = .ok (.ldc_w 357, 3) := by decide +kernel
theorem dX10_throwRefusal_50 : decode cX10_throwRefusal 50 = .ok (.invokespecial 187, 3) := by decide +kernel
theorem dX10_throwRefusal_53 : decode cX10_throwRefusal 53 = .ok (.athrow, 1) := by decide +kernel
theorem dX10_throwRefusal_54 : decode cX10_throwRefusal 54 = .ok (.new 191, 3) := by decide +kernel
theorem dX10_throwRefusal_57 : decode cX10_throwRefusal 57 = .ok (.dup, 1) := by decide +kernel
theorem dX10_throwRefusal_58 : decode cX10_throwRefusal 58 = .ok (.ldc_w 359, 3) := by decide +kernel
theorem dX10_throwRefusal_61 : decode cX10_throwRefusal 61 = .ok (.invokespecial 195, 3) := by decide +kernel
theorem dX10_throwRefusal_64 : decode cX10_throwRefusal 64 = .ok (.athrow, 1) := by decide +kernel
theorem dX10_throwRefusal_65 : decode cX10_throwRefusal 65 = .ok (.new 305, 3) := by decide +kernel
theorem dX10_throwRefusal_68 : decode cX10_throwRefusal 68 = .ok (.dup, 1) := by decide +kernel
theorem dX10_throwRefusal_69 : decode cX10_throwRefusal 69 = .ok (.ldc_w 361, 3) := by decide +kernel
theorem dX10_throwRefusal_72 : decode cX10_throwRefusal 72 = .ok (.invokespecial 309, 3) := by decide +kernel
theorem dX10_throwRefusal_75 : decode cX10_throwRefusal 75 = .ok (.athrow, 1) := by decide +kernel
theorem dX10_throwRefusal_76 : decode cX10_throwRefusal 76 = .ok (.new 145, 3) := by decide +kernel
theorem dX10_throwRefusal_79 : decode cX10_throwRefusal 79 = .ok (.dup, 1) := by decide +kernel
theorem dX10_throwRefusal_80 : decode cX10_throwRefusal 80 = .ok (.ldc_w 363, 3) := by decide +kernel
theorem dX10_throwRefusal_83 : decode cX10_throwRefusal 83 = .ok (.invokespecial 149, 3) := by decide +kernel
theorem dX10_throwRefusal_86 : decode cX10_throwRefusal 86 = .ok (.athrow, 1) := by decide +kernel
theorem dX10_demandedSheet_0 : decode cX10_demandedSheet 0 = .ok (.aload_n 0, 1) := by decide +kernel
theorem dX10_demandedSheet_1 : decode cX10_demandedSheet 1 = .ok (.getfield 12, 3) := by decide +kernel
theorem dX10_demandedSheet_4 : decode cX10_demandedSheet 4 = .ok (.iload_n 1, 1) := by decide +kernel
theorem dX10_demandedSheet_5 : decode cX10_demandedSheet 5 = .ok (.invokevirtual 365, 3) := by decide +kernel
theorem dX10_demandedSheet_8 : decode cX10_demandedSheet 8 = .ok (.ifCond .ne 14, 3) := by decide +kernel
theorem dX10_demandedSheet_11 : decode cX10_demandedSheet 11 = .ok (.new 131, 3) := by decide +kernel
theorem dX10_demandedSheet_14 : decode cX10_demandedSheet 14 = .ok (.dup, 1) := by decide +kernel
theorem dX10_demandedSheet_15 : decode cX10_demandedSheet 15 = .ok (.ldc_w 368, 3) := by decide +kernel
theorem dX10_demandedSheet_18 : decode cX10_demandedSheet 18 = .ok (.invokespecial 135, 3) := by decide +kernel
theorem dX10_demandedSheet_21 : decode cX10_demandedSheet 21 = .ok (.athrow, 1) := by decide +kernel
theorem dX10_demandedSheet_22 : decode cX10_demandedSheet 22 = .ok (.aload_n 0, 1) := by decide +kernel
theorem dX10_demandedSheet_23 : decode cX10_demandedSheet 23 = .ok (.getfield 12, 3) := by decide +kernel
theorem dX10_demandedSheet_26 : decode cX10_demandedSheet 26 = .ok (.getfield 370, 3) := by decide +kernel
theorem dX10_demandedSheet_29 : decode cX10_demandedSheet 29 = .ok (.iload_n 1, 1) := by decide +kernel
theorem dX10_demandedSheet_30 : decode cX10_demandedSheet 30 = .ok (.aaload, 1) := by decide +kernel
theorem dX10_demandedSheet_31 : decode cX10_demandedSheet 31 = .ok (.areturn, 1) := by decide +kernel
theorem dX10_demandCell_0 : decode cX10_demandCell 0 = .ok (.iload_n 0, 1) := by decide +kernel
theorem dX10_demandCell_1 : decode cX10_demandCell 1 = .ok (.invokestatic 374, 3) := by decide +kernel
theorem dX10_demandCell_4 : decode cX10_demandCell 4 = .ok (.ifCond .ne 14, 3) := by decide +kernel
theorem dX10_demandCell_7 : decode cX10_demandCell 7 = .ok (.new 131, 3) := by decide +kernel
theorem dX10_demandCell_10 : decode cX10_demandCell 10 = .ok (.dup, 1) := by decide +kernel
theorem dX10_demandCell_11 : decode cX10_demandCell 11 = .ok (.ldc_w 377, 3) := by decide +kernel
theorem dX10_demandCell_14 : decode cX10_demandCell 14 = .ok (.invokespecial 135, 3) := by decide +kernel
theorem dX10_demandCell_17 : decode cX10_demandCell 17 = .ok (.athrow, 1) := by decide +kernel
theorem dX10_demandCell_18 : decode cX10_demandCell 18 = .ok (.return_, 1) := by decide +kernel
theorem dX10_demandSide_0 : decode cX10_demandSide 0 = .ok (.iload_n 0, 1) := by decide +kernel
theorem dX10_demandSide_1 : decode cX10_demandSide 1 = .ok (.ifCond .lt 8, 3) := by decide +kernel
theorem dX10_demandSide_4 : decode cX10_demandSide 4 = .ok (.iload_n 0, 1) := by decide +kernel
theorem dX10_demandSide_5 : decode cX10_demandSide 5 = .ok (.iconst 4, 1) := by decide +kernel
theorem dX10_demandSide_6 : decode cX10_demandSide 6 = .ok (.if_icmp .lt 14, 3) := by decide +kernel
theorem dX10_demandSide_9 : decode cX10_demandSide 9 = .ok (.new 183, 3) := by decide +kernel
theorem dX10_demandSide_12 : decode cX10_demandSide 12 = .ok (.dup, 1) := by decide +kernel
theorem dX10_demandSide_13 : decode cX10_demandSide 13 = .ok (.ldc_w 379, 3) := by decide +kernel
theorem dX10_demandSide_16 : decode cX10_demandSide 16 = .ok (.invokespecial 187, 3) := by decide +kernel
theorem dX10_demandSide_19 : decode cX10_demandSide 19 = .ok (.athrow, 1) := by decide +kernel
theorem dX10_demandSide_20 : decode cX10_demandSide 20 = .ok (.return_, 1) := by decide +kernel
theorem dX10_demandOccupied_0 : decode cX10_demandOccupied 0 = .ok (.aload_n 0, 1) := by decide +kernel
theorem dX10_demandOccupied_1 : decode cX10_demandOccupied 1 = .ok (.getfield 12, 3) := by decide +kernel
theorem dX10_demandOccupied_4 : decode cX10_demandOccupied 4 = .ok (.iload_n 1, 1) := by decide +kernel
theorem dX10_demandOccupied_5 : decode cX10_demandOccupied 5 = .ok (.invokevirtual 188, 3) := by decide +kernel
theorem dX10_demandOccupied_8 : decode cX10_demandOccupied 8 = .ok (.ifCond .ne 14, 3) := by decide +kernel
theorem dX10_demandOccupied_11 : decode cX10_demandOccupied 11 = .ok (.new 145, 3) := by decide +kernel
theorem dX10_demandOccupied_14 : decode cX10_demandOccupied 14 = .ok (.dup, 1) := by decide +kernel
theorem dX10_demandOccupied_15 : decode cX10_demandOccupied 15 = .ok (.ldc_w 363, 3) := by decide +kernel
theorem dX10_demandOccupied_18 : decode cX10_demandOccupied 18 = .ok (.invokespecial 149, 3) := by decide +kernel
theorem dX10_demandOccupied_21 : decode cX10_demandOccupied 21 = .ok (.athrow, 1) := by decide +kernel
theorem dX10_demandOccupied_22 : decode cX10_demandOccupied 22 = .ok (.return_, 1) := by decide +kernel
theorem dX10_demandFewEmptyCells_0 : decode cX10_demandFewEmptyCells 0 = .ok (.aload_n 0, 1) := by decide +kernel
theorem dX10_demandFewEmptyCells_1 : decode cX10_demandFewEmptyCells 1 = .ok (.getfield 12, 3) := by decide +kernel
theorem dX10_demandFewEmptyCells_4 : decode cX10_demandFewEmptyCells 4 = .ok (.invokevirtual 172, 3) := by decide +kernel
theorem dX10_demandFewEmptyCells_7 : decode cX10_demandFewEmptyCells 7 = .ok (.iconst 3, 1) := by decide +kernel
theorem dX10_demandFewEmptyCells_8 : decode cX10_demandFewEmptyCells 8 = .ok (.if_icmp .le 14, 3) := by decide +kernel
theorem dX10_demandFewEmptyCells_11 : decode cX10_demandFewEmptyCells 11 = .ok (.new 305, 3) := by decide +kernel
theorem dX10_demandFewEmptyCells_14 : decode cX10_demandFewEmptyCells 14 = .ok (.dup, 1) := by decide +kernel
theorem dX10_demandFewEmptyCells_15 : decode cX10_demandFewEmptyCells 15 = .ok (.ldc_w 381, 3) := by decide +kernel
theorem dX10_demandFewEmptyCells_18 : decode cX10_demandFewEmptyCells 18 = .ok (.invokespecial 309, 3) := by decide +kernel
theorem dX10_demandFewEmptyCells_21 : decode cX10_demandFewEmptyCells 21 = .ok (.athrow, 1) := by decide +kernel
theorem dX10_demandFewEmptyCells_22 : decode cX10_demandFewEmptyCells 22 = .ok (.return_, 1) := by decide +kernel
theorem dX10_carryOutAll_0 : decode cX10_carryOutAll 0 = .ok (.iconst 0, 1) := by decide +kernel
theorem dX10_carryOutAll_1 : decode cX10_carryOutAll 1 = .ok (.istore_n 1, 1) := by decide +kernel
theorem dX10_carryOutAll_2 : decode cX10_carryOutAll 2 = .ok (.iload_n 1, 1) := by decide +kernel
theorem dX10_carryOutAll_3 : decode cX10_carryOutAll 3 = .ok (.aload_n 0, 1) := by decide +kernel
theorem dX10_carryOutAll_4 : decode cX10_carryOutAll 4 = .ok (.getfield 43, 3) := by decide +kernel
theorem dX10_carryOutAll_7 : decode cX10_carryOutAll 7 = .ok (.getfield 313, 3) := by decide +kernel
theorem dX10_carryOutAll_10 : decode cX10_carryOutAll 10 = .ok (.if_icmp .ge 19, 3) := by decide +kernel
theorem dX10_carryOutAll_13 : decode cX10_carryOutAll 13 = .ok (.aload_n 0, 1) := by decide +kernel
theorem dX10_carryOutAll_14 : decode cX10_carryOutAll 14 = .ok (.iload_n 1, 1) := by decide +kernel
theorem dX10_carryOutAll_15 : decode cX10_carryOutAll 15 = .ok (.invokevirtual 383, 3) := by decide +kernel
theorem dX10_carryOutAll_18 : decode cX10_carryOutAll 18 = .ok (.ifCond .ge 5, 3) := by decide +kernel
theorem dX10_carryOutAll_21 : decode cX10_carryOutAll 21 = .ok (.iload_n 1, 1) := by decide +kernel
theorem dX10_carryOutAll_22 : decode cX10_carryOutAll 22 = .ok (.ireturn, 1) := by decide +kernel
theorem dX10_carryOutAll_23 : decode cX10_carryOutAll 23 = .ok (.iinc 1 1, 3) := by decide +kernel
theorem dX10_carryOutAll_26 : decode cX10_carryOutAll 26 = .ok (.goto (-24), 3) := by decide +kernel
theorem dX10_carryOutAll_29 : decode cX10_carryOutAll 29 = .ok (.iconst (-1), 1) := by decide +kernel
theorem dX10_carryOutAll_30 : decode cX10_carryOutAll 30 = .ok (.ireturn, 1) := by decide +kernel
theorem dX10_answerOfCommand_0 : decode cX10_answerOfCommand 0 = .ok (.aload_n 0, 1) := by decide +kernel
theorem dX10_answerOfCommand_1 : decode cX10_answerOfCommand 1 = .ok (.getfield 43, 3) := by decide +kernel
theorem dX10_answerOfCommand_4 : decode cX10_answerOfCommand 4 = .ok (.iload_n 1, 1) := by decide +kernel
theorem dX10_answerOfCommand_5 : decode cX10_answerOfCommand 5 = .ok (.iconst 0, 1) := by decide +kernel
theorem dX10_answerOfCommand_6 : decode cX10_answerOfCommand 6 = .ok (.invokevirtual 386, 3) := by decide +kernel
theorem dX10_answerOfCommand_9 : decode cX10_answerOfCommand 9 = .ok (.istore_n 2, 1) := by decide +kernel
theorem dX10_answerOfCommand_10 : decode cX10_answerOfCommand 10 = .ok (.aload_n 0, 1) := by decide +kernel
theorem dX10_answerOfCommand_11 : decode cX10_answerOfCommand 11 = .ok (.getfield 43, 3) := by decide +kernel
theorem dX10_answerOfCommand_14 : decode cX10_answerOfCommand 14 = .ok (.iload_n 1, 1) := by decide +kernel
theorem dX10_answerOfCommand_15 : decode cX10_answerOfCommand 15 = .ok (.iconst 1, 1) := by decide +kernel
theorem dX10_answerOfCommand_16 : decode cX10_answerOfCommand 16 = .ok (.invokevirtual 386, 3) := by decide +kernel
theorem dX10_answerOfCommand_19 : decode cX10_answerOfCommand 19 = .ok (.istore_n 3, 1) := by decide +kernel
theorem dX10_answerOfCommand_20 : decode cX10_answerOfCommand 20 = .ok (.aload_n 0, 1) := by decide +kernel
theorem dX10_answerOfCommand_21 : decode cX10_answerOfCommand 21 = .ok (.getfield 43, 3) := by decide +kernel
theorem dX10_answerOfCommand_24 : decode cX10_answerOfCommand 24 = .ok (.iload_n 1, 1) := by decide +kernel
theorem dX10_answerOfCommand_25 : decode cX10_answerOfCommand 25 = .ok (.iconst 2, 1) := by decide +kernel
theorem dX10_answerOfCommand_26 : decode cX10_answerOfCommand 26 = .ok (.invokevirtual 386, 3) := by decide +kernel
theorem dX10_answerOfCommand_29 : decode cX10_answerOfCommand 29 = .ok (.istore 4, 2) := by decide +kernel
theorem dX10_answerOfCommand_31 : decode cX10_answerOfCommand 31 = .ok (.getstatic 389, 3) := by decide +kernel
theorem dX10_answerOfCommand_34 : decode cX10_answerOfCommand 34 = .ok (.getstatic 394, 3) := by decide +kernel
theorem dX10_answerOfCommand_37 : decode cX10_answerOfCommand 37 = .ok (.aload_n 0, 1) := by decide +kernel
theorem dX10_answerOfCommand_38 : decode cX10_answerOfCommand 38 = .ok (.getfield 43, 3) := by decide +kernel
theorem dX10_answerOfCommand_41 : decode cX10_answerOfCommand 41 = .ok (.getfield 398, 3) := by decide +kernel
theorem dX10_answerOfCommand_44 : decode cX10_answerOfCommand 44 = .ok (.iload_n 1, 1) := by decide +kernel
theorem dX10_answerOfCommand_45 : decode cX10_answerOfCommand 45 = .ok (.iaload, 1) := by decide +kernel
theorem dX10_answerOfCommand_46 : decode cX10_answerOfCommand 46 = .ok (.aaload, 1) := by decide +kernel
theorem dX10_answerOfCommand_47 : decode cX10_answerOfCommand 47 = .ok (.invokevirtual 401, 3) := by decide +kernel
theorem dX10_answerOfCommand_50 : decode cX10_answerOfCommand 50 = .ok (.iaload, 1) := by decide +kernel
theorem dX10_answerOfCommand_51 : decode cX10_answerOfCommand 51 = .ok (.tableswitch 150 1 8 #[45, 75, 93, 102, 111, 120, 132, 141], 45) := by decide +kernel
theorem dX10_answerOfCommand_96 : decode cX10_answerOfCommand 96 = .ok (.aload_n 0, 1) := by decide +kernel
theorem dX10_answerOfCommand_97 : decode cX10_answerOfCommand 97 = .ok (.getfield 12, 3) := by decide +kernel
theorem dX10_answerOfCommand_100 : decode cX10_answerOfCommand 100 = .ok (.iload_n 2, 1) := by decide +kernel
theorem dX10_answerOfCommand_101 : decode cX10_answerOfCommand 101 = .ok (.iload_n 3, 1) := by decide +kernel
theorem dX10_answerOfCommand_102 : decode cX10_answerOfCommand 102 = .ok (.iload 4, 2) := by decide +kernel
theorem dX10_answerOfCommand_104 : decode cX10_answerOfCommand 104 = .ok (.aload_n 0, 1) := by decide +kernel
theorem dX10_answerOfCommand_105 : decode cX10_answerOfCommand 105 = .ok (.getfield 43, 3) := by decide +kernel
theorem dX10_answerOfCommand_108 : decode cX10_answerOfCommand 108 = .ok (.iload_n 1, 1) := by decide +kernel
theorem dX10_answerOfCommand_109 : decode cX10_answerOfCommand 109 = .ok (.iconst 3, 1) := by decide +kernel
theorem dX10_answerOfCommand_110 : decode cX10_answerOfCommand 110 = .ok (.invokevirtual 386, 3) := by decide +kernel
theorem dX10_answerOfCommand_113 : decode cX10_answerOfCommand 113 = .ok (.aload_n 0, 1) := by decide +kernel
theorem dX10_answerOfCommand_114 : decode cX10_answerOfCommand 114 = .ok (.getfield 43, 3) := by decide +kernel
theorem dX10_answerOfCommand_117 : decode cX10_answerOfCommand 117 = .ok (.iload_n 1, 1) := by decide +kernel
theorem dX10_answerOfCommand_118 : decode cX10_answerOfCommand 118 = .ok (.iconst 4, 1) := by decide +kernel
theorem dX10_answerOfCommand_119 : decode cX10_answerOfCommand 119 = .ok (.invokevirtual 406, 3) := by decide +kernel
theorem dX10_answerOfCommand_122 : decode cX10_answerOfCommand 122 = .ok (.invokevirtual 65, 3) := by decide +kernel
theorem dX10_answerOfCommand_125 : decode cX10_answerOfCommand 125 = .ok (.ireturn, 1) := by decide +kernel
theorem dX10_answerOfCommand_126 : decode cX10_answerOfCommand 126 = .ok (.aload_n 0, 1) := by decide +kernel
theorem dX10_answerOfCommand_127 : decode cX10_answerOfCommand 127 = .ok (.getfield 12, 3) := by decide +kernel
theorem dX10_answerOfCommand_130 : decode cX10_answerOfCommand 130 = .ok (.iload_n 2, 1) := by decide +kernel
theorem dX10_answerOfCommand_131 : decode cX10_answerOfCommand 131 = .ok (.aload_n 0, 1) := by decide +kernel
theorem dX10_answerOfCommand_132 : decode cX10_answerOfCommand 132 = .ok (.getfield 43, 3) := by decide +kernel
theorem dX10_answerOfCommand_135 : decode cX10_answerOfCommand 135 = .ok (.iload_n 1, 1) := by decide +kernel
theorem dX10_answerOfCommand_136 : decode cX10_answerOfCommand 136 = .ok (.iconst 1, 1) := by decide +kernel
theorem dX10_answerOfCommand_137 : decode cX10_answerOfCommand 137 = .ok (.invokevirtual 406, 3) := by decide +kernel
theorem dX10_answerOfCommand_140 : decode cX10_answerOfCommand 140 = .ok (.invokevirtual 73, 3) := by decide +kernel
theorem dX10_answerOfCommand_143 : decode cX10_answerOfCommand 143 = .ok (.ireturn, 1) := by decide +kernel
theorem dX10_answerOfCommand_144 : decode cX10_answerOfCommand 144 = .ok (.aload_n 0, 1) := by decide +kernel
theorem dX10_answerOfCommand_145 : decode cX10_answerOfCommand 145 = .ok (.getfield 12, 3) := by decide +kernel
theorem dX10_answerOfCommand_148 : decode cX10_answerOfCommand 148 = .ok (.iload_n 2, 1) := by decide +kernel
theorem dX10_answerOfCommand_149 : decode cX10_answerOfCommand 149 = .ok (.invokevirtual 77, 3) := by decide +kernel
theorem dX10_answerOfCommand_152 : decode cX10_answerOfCommand 152 = .ok (.ireturn, 1) := by decide +kernel
theorem dX10_answerOfCommand_153 : decode cX10_answerOfCommand 153 = .ok (.aload_n 0, 1) := by decide +kernel
theorem dX10_answerOfCommand_154 : decode cX10_answerOfCommand 154 = .ok (.getfield 12, 3) := by decide +kernel
theorem dX10_answerOfCommand_157 : decode cX10_answerOfCommand 157 = .ok (.iload_n 2, 1) := by decide +kernel
theorem dX10_answerOfCommand_158 : decode cX10_answerOfCommand 158 = .ok (.invokevirtual 80, 3) := by decide +kernel
theorem dX10_answerOfCommand_161 : decode cX10_answerOfCommand 161 = .ok (.ireturn, 1) := by decide +kernel
theorem dX10_answerOfCommand_162 : decode cX10_answerOfCommand 162 = .ok (.aload_n 0, 1) := by decide +kernel
theorem dX10_answerOfCommand_163 : decode cX10_answerOfCommand 163 = .ok (.getfield 12, 3) := by decide +kernel
theorem dX10_answerOfCommand_166 : decode cX10_answerOfCommand 166 = .ok (.iload_n 2, 1) := by decide +kernel
theorem dX10_answerOfCommand_167 : decode cX10_answerOfCommand 167 = .ok (.invokevirtual 83, 3) := by decide +kernel
theorem dX10_answerOfCommand_170 : decode cX10_answerOfCommand 170 = .ok (.ireturn, 1) := by decide +kernel
theorem dX10_answerOfCommand_171 : decode cX10_answerOfCommand 171 = .ok (.aload_n 0, 1) := by decide +kernel
theorem dX10_answerOfCommand_172 : decode cX10_answerOfCommand 172 = .ok (.getfield 12, 3) := by decide +kernel
theorem dX10_answerOfCommand_175 : decode cX10_answerOfCommand 175 = .ok (.iload_n 2, 1) := by decide +kernel
theorem dX10_answerOfCommand_176 : decode cX10_answerOfCommand 176 = .ok (.iload_n 3, 1) := by decide +kernel
theorem dX10_answerOfCommand_177 : decode cX10_answerOfCommand 177 = .ok (.iload 4, 2) := by decide +kernel
theorem dX10_answerOfCommand_179 : decode cX10_answerOfCommand 179 = .ok (.invokevirtual 86, 3) := by decide +kernel
theorem dX10_answerOfCommand_182 : decode cX10_answerOfCommand 182 = .ok (.ireturn, 1) := by decide +kernel
theorem dX10_answerOfCommand_183 : decode cX10_answerOfCommand 183 = .ok (.aload_n 0, 1) := by decide +kernel
theorem dX10_answerOfCommand_184 : decode cX10_answerOfCommand 184 = .ok (.getfield 12, 3) := by decide +kernel
theorem dX10_answerOfCommand_187 : decode cX10_answerOfCommand 187 = .ok (.iload_n 2, 1) := by decide +kernel
theorem dX10_answerOfCommand_188 : decode cX10_answerOfCommand 188 = .ok (.invokevirtual 90, 3) := by decide +kernel
theorem dX10_answerOfCommand_191 : decode cX10_answerOfCommand 191 = .ok (.ireturn, 1) := by decide +kernel
theorem dX10_answerOfCommand_192 : decode cX10_answerOfCommand 192 = .ok (.aload_n 0, 1) := by decide +kernel
theorem dX10_answerOfCommand_193 : decode cX10_answerOfCommand 193 = .ok (.getfield 12, 3) := by decide +kernel
theorem dX10_answerOfCommand_196 : decode cX10_answerOfCommand 196 = .ok (.iload_n 2, 1) := by decide +kernel
theorem dX10_answerOfCommand_197 : decode cX10_answerOfCommand 197 = .ok (.invokevirtual 93, 3) := by decide +kernel
theorem dX10_answerOfCommand_200 : decode cX10_answerOfCommand 200 = .ok (.ireturn, 1) := by decide +kernel
theorem dX10_answerOfCommand_201 : decode cX10_answerOfCommand 201 = .ok (.aload_n 0, 1) := by decide +kernel
theorem dX10_answerOfCommand_202 : decode cX10_answerOfCommand 202 = .ok (.getfield 12, 3) := by decide +kernel
theorem dX10_answerOfCommand_205 : decode cX10_answerOfCommand 205 = .ok (.bipush 10, 2) := by decide +kernel
theorem dX10_answerOfCommand_207 : decode cX10_answerOfCommand 207 = .ok (.iload_n 2, 1) := by decide +kernel
theorem dX10_answerOfCommand_208 : decode cX10_answerOfCommand 208 = .ok (.imul, 1) := by decide +kernel
theorem dX10_answerOfCommand_209 : decode cX10_answerOfCommand 209 = .ok (.iload_n 3, 1) := by decide +kernel
theorem dX10_answerOfCommand_210 : decode cX10_answerOfCommand 210 = .ok (.iadd, 1) := by decide +kernel
theorem dX10_answerOfCommand_211 : decode cX10_answerOfCommand 211 = .ok (.invokevirtual 93, 3) := by decide +kernel
theorem dX10_answerOfCommand_214 : decode cX10_answerOfCommand 214 = .ok (.ireturn, 1) := by decide +kernel
theorem dX10_waysFrom_0 : decode cX10_waysFrom 0 = .ok (.iload_n 1, 1) := by decide +kernel
theorem dX10_waysFrom_1 : decode cX10_waysFrom 1 = .ok (.bipush 9, 2) := by decide +kernel
theorem dX10_waysFrom_3 : decode cX10_waysFrom 3 = .ok (.if_icmp .lt 5, 3) := by decide +kernel
theorem dX10_waysFrom_6 : decode cX10_waysFrom 6 = .ok (.iconst 1, 1) := by decide +kernel
theorem dX10_waysFrom_7 : decode cX10_waysFrom 7 = .ok (.ireturn, 1) := by decide +kernel
theorem dX10_waysFrom_8 : decode cX10_waysFrom 8 = .ok (.iload_n 2, 1) := by decide +kernel
theorem dX10_waysFrom_9 : decode cX10_waysFrom 9 = .ok (.ifCond .eq 10, 3) := by decide +kernel
theorem dX10_waysFrom_12 : decode cX10_waysFrom 12 = .ok (.bipush 8, 2) := by decide +kernel
theorem dX10_waysFrom_14 : decode cX10_waysFrom 14 = .ok (.iload_n 1, 1) := by decide +kernel
theorem dX10_waysFrom_15 : decode cX10_waysFrom 15 = .ok (.isub, 1) := by decide +kernel
theorem dX10_waysFrom_16 : decode cX10_waysFrom 16 = .ok (.goto 4, 3) := by decide +kernel
theorem dX10_waysFrom_19 : decode cX10_waysFrom 19 = .ok (.iload_n 1, 1) := by decide +kernel
theorem dX10_waysFrom_20 : decode cX10_waysFrom 20 = .ok (.istore_n 3, 1) := by decide +kernel
theorem dX10_waysFrom_21 : decode cX10_waysFrom 21 = .ok (.aload_n 0, 1) := by decide +kernel
theorem dX10_waysFrom_22 : decode cX10_waysFrom 22 = .ok (.iload_n 3, 1) := by decide +kernel
theorem dX10_waysFrom_23 : decode cX10_waysFrom 23 = .ok (.invokevirtual 188, 3) := by decide +kernel
theorem dX10_waysFrom_26 : decode cX10_waysFrom 26 = .ok (.ifCond .eq 12, 3) := by decide +kernel
theorem dX10_waysFrom_29 : decode cX10_waysFrom 29 = .ok (.aload_n 0, 1) := by decide +kernel
theorem dX10_waysFrom_30 : decode cX10_waysFrom 30 = .ok (.iload_n 1, 1) := by decide +kernel
theorem dX10_waysFrom_31 : decode cX10_waysFrom 31 = .ok (.iconst 1, 1) := by decide +kernel
theorem dX10_waysFrom_32 : decode cX10_waysFrom 32 = .ok (.iadd, 1) := by decide +kernel
theorem dX10_waysFrom_33 : decode cX10_waysFrom 33 = .ok (.iload_n 2, 1) := by decide +kernel
theorem dX10_waysFrom_34 : decode cX10_waysFrom 34 = .ok (.invokestatic 210, 3) := by decide +kernel
theorem dX10_waysFrom_37 : decode cX10_waysFrom 37 = .ok (.ireturn, 1) := by decide +kernel
theorem dX10_waysFrom_38 : decode cX10_waysFrom 38 = .ok (.iconst 0, 1) := by decide +kernel
theorem dX10_waysFrom_39 : decode cX10_waysFrom 39 = .ok (.istore 4, 2) := by decide +kernel
theorem dX10_waysFrom_41 : decode cX10_waysFrom 41 = .ok (.iconst 0, 1) := by decide +kernel
theorem dX10_waysFrom_42 : decode cX10_waysFrom 42 = .ok (.istore 5, 2) := by decide +kernel
theorem dX10_waysFrom_44 : decode cX10_waysFrom 44 = .ok (.iload 5, 2) := by decide +kernel
theorem dX10_waysFrom_46 : decode cX10_waysFrom 46 = .ok (.aload_n 0, 1) := by decide +kernel
theorem dX10_waysFrom_47 : decode cX10_waysFrom 47 = .ok (.getfield 96, 3) := by decide +kernel
theorem dX10_waysFrom_50 : decode cX10_waysFrom 50 = .ok (.if_icmp .ge 80, 3) := by decide +kernel
theorem dX10_waysFrom_53 : decode cX10_waysFrom 53 = .ok (.aload_n 0, 1) := by decide +kernel
theorem dX10_waysFrom_54 : decode cX10_waysFrom 54 = .ok (.getfield 370, 3) := by decide +kernel
theorem dX10_waysFrom_57 : decode cX10_waysFrom 57 = .ok (.iload 5, 2) := by decide +kernel
theorem dX10_waysFrom_59 : decode cX10_waysFrom 59 = .ok (.aaload, 1) := by decide +kernel
theorem dX10_waysFrom_60 : decode cX10_waysFrom 60 = .ok (.astore 6, 2) := by decide +kernel
theorem dX10_waysFrom_62 : decode cX10_waysFrom 62 = .ok (.iconst 0, 1) := by decide +kernel
theorem dX10_waysFrom_63 : decode cX10_waysFrom 63 = .ok (.istore 7, 2) := by decide +kernel
theorem dX10_waysFrom_65 : decode cX10_waysFrom 65 = .ok (.iload 7, 2) := by decide +kernel
theorem dX10_waysFrom_67 : decode cX10_waysFrom 67 = .ok (.iconst 4, 1) := by decide +kernel
theorem dX10_waysFrom_68 : decode cX10_waysFrom 68 = .ok (.if_icmp .ge 56, 3) := by decide +kernel
theorem dX10_waysFrom_71 : decode cX10_waysFrom 71 = .ok (.aload 6, 2) := by decide +kernel
theorem dX10_waysFrom_73 : decode cX10_waysFrom 73 = .ok (.invokevirtual 200, 3) := by decide +kernel
theorem dX10_waysFrom_76 : decode cX10_waysFrom 76 = .ok (.ifCond .eq 42, 3) := by decide +kernel
theorem dX10_waysFrom_79 : decode cX10_waysFrom 79 = .ok (.aload_n 0, 1) := by decide +kernel
theorem dX10_waysFrom_80 : decode cX10_waysFrom 80 = .ok (.aload 6, 2) := by decide +kernel
theorem dX10_waysFrom_82 : decode cX10_waysFrom 82 = .ok (.iload_n 3, 1) := by decide +kernel
theorem dX10_waysFrom_83 : decode cX10_waysFrom 83 = .ok (.iload 7, 2) := by decide +kernel
theorem dX10_waysFrom_85 : decode cX10_waysFrom 85 = .ok (.invokevirtual 196, 3) := by decide +kernel
theorem dX10_waysFrom_88 : decode cX10_waysFrom 88 = .ok (.ifCond .eq 30, 3) := by decide +kernel
theorem dX10_waysFrom_91 : decode cX10_waysFrom 91 = .ok (.aload_n 0, 1) := by decide +kernel
theorem dX10_waysFrom_92 : decode cX10_waysFrom 92 = .ok (.iload 5, 2) := by decide +kernel
theorem dX10_waysFrom_94 : decode cX10_waysFrom 94 = .ok (.iload_n 3, 1) := by decide +kernel
theorem dX10_waysFrom_95 : decode cX10_waysFrom 95 = .ok (.iload 7, 2) := by decide +kernel
theorem dX10_waysFrom_97 : decode cX10_waysFrom 97 = .ok (.invokevirtual 410, 3) := by decide +kernel
theorem dX10_waysFrom_100 : decode cX10_waysFrom 100 = .ok (.iload 4, 2) := by decide +kernel
theorem dX10_waysFrom_102 : decode cX10_waysFrom 102 = .ok (.aload_n 0, 1) := by decide +kernel
theorem dX10_waysFrom_103 : decode cX10_waysFrom 103 = .ok (.iload_n 1, 1) := by decide +kernel
theorem dX10_waysFrom_104 : decode cX10_waysFrom 104 = .ok (.iconst 1, 1) := by decide +kernel
theorem dX10_waysFrom_105 : decode cX10_waysFrom 105 = .ok (.iadd, 1) := by decide +kernel
theorem dX10_waysFrom_106 : decode cX10_waysFrom 106 = .ok (.iload_n 2, 1) := by decide +kernel
theorem dX10_waysFrom_107 : decode cX10_waysFrom 107 = .ok (.invokestatic 210, 3) := by decide +kernel
theorem dX10_waysFrom_110 : decode cX10_waysFrom 110 = .ok (.iadd, 1) := by decide +kernel
theorem dX10_waysFrom_111 : decode cX10_waysFrom 111 = .ok (.istore 4, 2) := by decide +kernel
theorem dX10_waysFrom_113 : decode cX10_waysFrom 113 = .ok (.aload_n 0, 1) := by decide +kernel
theorem dX10_waysFrom_114 : decode cX10_waysFrom 114 = .ok (.iload_n 3, 1) := by decide +kernel
theorem dX10_waysFrom_115 : decode cX10_waysFrom 115 = .ok (.invokevirtual 414, 3) := by decide +kernel
theorem dX10_waysFrom_118 : decode cX10_waysFrom 118 = .ok (.iinc 7 1, 3) := by decide +kernel
theorem dX10_waysFrom_121 : decode cX10_waysFrom 121 = .ok (.goto (-56), 3) := by decide +kernel
theorem dX10_waysFrom_124 : decode cX10_waysFrom 124 = .ok (.iinc 5 1, 3) := by decide +kernel
theorem dX10_waysFrom_127 : decode cX10_waysFrom 127 = .ok (.goto (-83), 3) := by decide +kernel
theorem dX10_waysFrom_130 : decode cX10_waysFrom 130 = .ok (.iload 4, 2) := by decide +kernel
theorem dX10_waysFrom_132 : decode cX10_waysFrom 132 = .ok (.ireturn, 1) := by decide +kernel
theorem dX10_isCell_0 : decode cX10_isCell 0 = .ok (.iload_n 0, 1) := by decide +kernel
theorem dX10_isCell_1 : decode cX10_isCell 1 = .ok (.ifCond .lt 13, 3) := by decide +kernel
theorem dX10_isCell_4 : decode cX10_isCell 4 = .ok (.iload_n 0, 1) := by decide +kernel
theorem dX10_isCell_5 : decode cX10_isCell 5 = .ok (.bipush 9, 2) := by decide +kernel
theorem dX10_isCell_7 : decode cX10_isCell 7 = .ok (.if_icmp .ge 7, 3) := by decide +kernel
theorem dX10_isCell_10 : decode cX10_isCell 10 = .ok (.iconst 1, 1) := by decide +kernel
theorem dX10_isCell_11 : decode cX10_isCell 11 = .ok (.goto 4, 3) := by decide +kernel
theorem dX10_isCell_14 : decode cX10_isCell 14 = .ok (.iconst 0, 1) := by decide +kernel
theorem dX10_isCell_15 : decode cX10_isCell 15 = .ok (.ireturn, 1) := by decide +kernel
theorem dX10_isTurns_0 : decode cX10_isTurns 0 = .ok (.iload_n 0, 1) := by decide +kernel
theorem dX10_isTurns_1 : decode cX10_isTurns 1 = .ok (.ifCond .lt 12, 3) := by decide +kernel
theorem dX10_isTurns_4 : decode cX10_isTurns 4 = .ok (.iload_n 0, 1) := by decide +kernel
theorem dX10_isTurns_5 : decode cX10_isTurns 5 = .ok (.iconst 4, 1) := by decide +kernel
theorem dX10_isTurns_6 : decode cX10_isTurns 6 = .ok (.if_icmp .ge 7, 3) := by decide +kernel
theorem dX10_isTurns_9 : decode cX10_isTurns 9 = .ok (.iconst 1, 1) := by decide +kernel
theorem dX10_isTurns_10 : decode cX10_isTurns 10 = .ok (.goto 4, 3) := by decide +kernel
theorem dX10_isTurns_13 : decode cX10_isTurns 13 = .ok (.iconst 0, 1) := by decide +kernel
theorem dX10_isTurns_14 : decode cX10_isTurns 14 = .ok (.ireturn, 1) := by decide +kernel
theorem dX10_isCode_0 : decode cX10_isCode 0 = .ok (.iload_n 0, 1) := by decide +kernel
theorem dX10_isCode_1 : decode cX10_isCode 1 = .ok (.ifCond .lt 13, 3) := by decide +kernel
theorem dX10_isCode_4 : decode cX10_isCode 4 = .ok (.iload_n 0, 1) := by decide +kernel
theorem dX10_isCode_5 : decode cX10_isCode 5 = .ok (.bipush 9, 2) := by decide +kernel
theorem dX10_isCode_7 : decode cX10_isCode 7 = .ok (.if_icmp .gt 7, 3) := by decide +kernel
theorem dX10_isCode_10 : decode cX10_isCode 10 = .ok (.iconst 1, 1) := by decide +kernel
theorem dX10_isCode_11 : decode cX10_isCode 11 = .ok (.goto 4, 3) := by decide +kernel
theorem dX10_isCode_14 : decode cX10_isCode 14 = .ok (.iconst 0, 1) := by decide +kernel
theorem dX10_isCode_15 : decode cX10_isCode 15 = .ok (.ireturn, 1) := by decide +kernel
theorem dX10_isKind_0 : decode cX10_isKind 0 = .ok (.iload_n 0, 1) := by decide +kernel
theorem dX10_isKind_1 : decode cX10_isKind 1 = .ok (.bipush 115, 2) := by decide +kernel
theorem dX10_isKind_3 : decode cX10_isKind 3 = .ok (.if_icmp .eq 15, 3) := by decide +kernel
theorem dX10_isKind_6 : decode cX10_isKind 6 = .ok (.iload_n 0, 1) := by decide +kernel
theorem dX10_isKind_7 : decode cX10_isKind 7 = .ok (.bipush 108, 2) := by decide +kernel
theorem dX10_isKind_9 : decode cX10_isKind 9 = .ok (.if_icmp .eq 9, 3) := by decide +kernel
theorem dX10_isKind_12 : decode cX10_isKind 12 = .ok (.iload_n 0, 1) := by decide +kernel
theorem dX10_isKind_13 : decode cX10_isKind 13 = .ok (.bipush 99, 2) := by decide +kernel
theorem dX10_isKind_15 : decode cX10_isKind 15 = .ok (.if_icmp .ne 7, 3) := by decide +kernel
theorem dX10_isKind_18 : decode cX10_isKind 18 = .ok (.iconst 1, 1) := by decide +kernel
theorem dX10_isKind_19 : decode cX10_isKind 19 = .ok (.goto 4, 3) := by decide +kernel
theorem dX10_isKind_22 : decode cX10_isKind 22 = .ok (.iconst 0, 1) := by decide +kernel
theorem dX10_isKind_23 : decode cX10_isKind 23 = .ok (.ireturn, 1) := by decide +kernel
theorem dX10_isCrease_0 : decode cX10_isCrease 0 = .ok (.iload_n 0, 1) := by decide +kernel
theorem dX10_isCrease_1 : decode cX10_isCrease 1 = .ok (.bipush 118, 2) := by decide +kernel
theorem dX10_isCrease_3 : decode cX10_isCrease 3 = .ok (.if_icmp .eq 9, 3) := by decide +kernel
theorem dX10_isCrease_6 : decode cX10_isCrease 6 = .ok (.iload_n 0, 1) := by decide +kernel
theorem dX10_isCrease_7 : decode cX10_isCrease 7 = .ok (.bipush 109, 2) := by decide +kernel
theorem dX10_isCrease_9 : decode cX10_isCrease 9 = .ok (.if_icmp .ne 7, 3) := by decide +kernel
theorem dX10_isCrease_12 : decode cX10_isCrease 12 = .ok (.iconst 1, 1) := by decide +kernel
theorem dX10_isCrease_13 : decode cX10_isCrease 13 = .ok (.goto 4, 3) := by decide +kernel
theorem dX10_isCrease_16 : decode cX10_isCrease 16 = .ok (.iconst 0, 1) := by decide +kernel
theorem dX10_isCrease_17 : decode cX10_isCrease 17 = .ok (.ireturn, 1) := by decide +kernel
theorem dX10_neighbour_0 : decode cX10_neighbour 0 = .ok (.iload_n 0, 1) := by decide +kernel
theorem dX10_neighbour_1 : decode cX10_neighbour 1 = .ok (.iconst 3, 1) := by decide +kernel
theorem dX10_neighbour_2 : decode cX10_neighbour 2 = .ok (.irem, 1) := by decide +kernel
theorem dX10_neighbour_3 : decode cX10_neighbour 3 = .ok (.istore_n 2, 1) := by decide +kernel
theorem dX10_neighbour_4 : decode cX10_neighbour 4 = .ok (.iload_n 1, 1) := by decide +kernel
theorem dX10_neighbour_5 : decode cX10_neighbour 5 = .ok (.tableswitch 67 0 2 #[27, 40, 53], 27) := by decide +kernel
theorem dX10_neighbour_32 : decode cX10_neighbour 32 = .ok (.iload_n 0, 1) := by decide +kernel
theorem dX10_neighbour_33 : decode cX10_neighbour 33 = .ok (.iconst 3, 1) := by decide +kernel
theorem dX10_neighbour_34 : decode cX10_neighbour 34 = .ok (.if_icmp .lt 9, 3) := by decide +kernel
theorem dX10_neighbour_37 : decode cX10_neighbour 37 = .ok (.iload_n 0, 1) := by decide +kernel
theorem dX10_neighbour_38 : decode cX10_neighbour 38 = .ok (.iconst 3, 1) := by decide +kernel
theorem dX10_neighbour_39 : decode cX10_neighbour 39 = .ok (.isub, 1) := by decide +kernel
theorem dX10_neighbour_40 : decode cX10_neighbour 40 = .ok (.goto 4, 3) := by decide +kernel
theorem dX10_neighbour_43 : decode cX10_neighbour 43 = .ok (.iconst (-1), 1) := by decide +kernel
theorem dX10_neighbour_44 : decode cX10_neighbour 44 = .ok (.ireturn, 1) := by decide +kernel
theorem dX10_neighbour_45 : decode cX10_neighbour 45 = .ok (.iload_n 2, 1) := by decide +kernel
theorem dX10_neighbour_46 : decode cX10_neighbour 46 = .ok (.iconst 2, 1) := by decide +kernel
theorem dX10_neighbour_47 : decode cX10_neighbour 47 = .ok (.if_icmp .ge 9, 3) := by decide +kernel
theorem dX10_neighbour_50 : decode cX10_neighbour 50 = .ok (.iload_n 0, 1) := by decide +kernel
theorem dX10_neighbour_51 : decode cX10_neighbour 51 = .ok (.iconst 1, 1) := by decide +kernel
theorem dX10_neighbour_52 : decode cX10_neighbour 52 = .ok (.iadd, 1) := by decide +kernel
theorem dX10_neighbour_53 : decode cX10_neighbour 53 = .ok (.goto 4, 3) := by decide +kernel
theorem dX10_neighbour_56 : decode cX10_neighbour 56 = .ok (.iconst (-1), 1) := by decide +kernel
theorem dX10_neighbour_57 : decode cX10_neighbour 57 = .ok (.ireturn, 1) := by decide +kernel
theorem dX10_neighbour_58 : decode cX10_neighbour 58 = .ok (.iload_n 0, 1) := by decide +kernel
theorem dX10_neighbour_59 : decode cX10_neighbour 59 = .ok (.bipush 6, 2) := by decide +kernel
theorem dX10_neighbour_61 : decode cX10_neighbour 61 = .ok (.if_icmp .ge 9, 3) := by decide +kernel
theorem dX10_neighbour_64 : decode cX10_neighbour 64 = .ok (.iload_n 0, 1) := by decide +kernel
theorem dX10_neighbour_65 : decode cX10_neighbour 65 = .ok (.iconst 3, 1) := by decide +kernel
theorem dX10_neighbour_66 : decode cX10_neighbour 66 = .ok (.iadd, 1) := by decide +kernel
theorem dX10_neighbour_67 : decode cX10_neighbour 67 = .ok (.goto 4, 3) := by decide +kernel
theorem dX10_neighbour_70 : decode cX10_neighbour 70 = .ok (.iconst (-1), 1) := by decide +kernel
theorem dX10_neighbour_71 : decode cX10_neighbour 71 = .ok (.ireturn, 1) := by decide +kernel
theorem dX10_neighbour_72 : decode cX10_neighbour 72 = .ok (.iload_n 2, 1) := by decide +kernel
theorem dX10_neighbour_73 : decode cX10_neighbour 73 = .ok (.ifCond .le 9, 3) := by decide +kernel
theorem dX10_neighbour_76 : decode cX10_neighbour 76 = .ok (.iload_n 0, 1) := by decide +kernel
theorem dX10_neighbour_77 : decode cX10_neighbour 77 = .ok (.iconst 1, 1) := by decide +kernel
theorem dX10_neighbour_78 : decode cX10_neighbour 78 = .ok (.isub, 1) := by decide +kernel
theorem dX10_neighbour_79 : decode cX10_neighbour 79 = .ok (.goto 4, 3) := by decide +kernel
theorem dX10_neighbour_82 : decode cX10_neighbour 82 = .ok (.iconst (-1), 1) := by decide +kernel
theorem dX10_neighbour_83 : decode cX10_neighbour 83 = .ok (.ireturn, 1) := by decide +kernel
theorem dX10_opposite_0 : decode cX10_opposite 0 = .ok (.iload_n 0, 1) := by decide +kernel
theorem dX10_opposite_1 : decode cX10_opposite 1 = .ok (.iconst 2, 1) := by decide +kernel
theorem dX10_opposite_2 : decode cX10_opposite 2 = .ok (.iadd, 1) := by decide +kernel
theorem dX10_opposite_3 : decode cX10_opposite 3 = .ok (.iconst 4, 1) := by decide +kernel
theorem dX10_opposite_4 : decode cX10_opposite 4 = .ok (.irem, 1) := by decide +kernel
theorem dX10_opposite_5 : decode cX10_opposite 5 = .ok (.ireturn, 1) := by decide +kernel
end
section
theorem dL_at_0 : decode cL_at 0 = .ok (.iload_n 1, 1) := by decide +kernel
theorem dL_at_1 : decode cL_at 1 = .ok (.aload_n 0, 1) := by decide +kernel
theorem dL_at_2 : decode cL_at 2 = .ok (.arraylength, 1) := by decide +kernel
theorem dL_at_3 : decode cL_at 3 = .ok (.if_icmp .ge 9, 3) := by decide +kernel
theorem dL_at_6 : decode cL_at 6 = .ok (.aload_n 0, 1) := by decide +kernel
theorem dL_at_7 : decode cL_at 7 = .ok (.iload_n 1, 1) := by decide +kernel
theorem dL_at_8 : decode cL_at 8 = .ok (.iaload, 1) := by decide +kernel
theorem dL_at_9 : decode cL_at 9 = .ok (.goto 4, 3) := by decide +kernel
theorem dL_at_12 : decode cL_at 12 = .ok (.iconst 0, 1) := by decide +kernel
theorem dL_at_13 : decode cL_at 13 = .ok (.ireturn, 1) := by decide +kernel
theorem dL_some_0 : decode cL_some 0 = .ok (.iload_n 0, 1) := by decide +kernel
theorem dL_some_1 : decode cL_some 1 = .ok (.iload_n 1, 1) := by decide +kernel
theorem dL_some_2 : decode cL_some 2 = .ok (.irem, 1) := by decide +kernel
theorem dL_some_3 : decode cL_some 3 = .ok (.istore_n 2, 1) := by decide +kernel
theorem dL_some_4 : decode cL_some 4 = .ok (.iload_n 2, 1) := by decide +kernel
theorem dL_some_5 : decode cL_some 5 = .ok (.ifCond .ge 9, 3) := by decide +kernel
theorem dL_some_8 : decode cL_some 8 = .ok (.iload_n 2, 1) := by decide +kernel
theorem dL_some_9 : decode cL_some 9 = .ok (.iload_n 1, 1) := by decide +kernel
theorem dL_some_10 : decode cL_some 10 = .ok (.iadd, 1) := by decide +kernel
theorem dL_some_11 : decode cL_some 11 = .ok (.goto 4, 3) := by decide +kernel
theorem dL_some_14 : decode cL_some 14 = .ok (.iload_n 2, 1) := by decide +kernel
theorem dL_some_15 : decode cL_some 15 = .ok (.ireturn, 1) := by decide +kernel
theorem dL_addSheet_0 : decode cL_addSheet 0 = .ok (.aload_n 0, 1) := by decide +kernel
theorem dL_addSheet_1 : decode cL_addSheet 1 = .ok (.iload_n 1, 1) := by decide +kernel
theorem dL_addSheet_2 : decode cL_addSheet 2 = .ok (.iload_n 2, 1) := by decide +kernel
theorem dL_addSheet_3 : decode cL_addSheet 3 = .ok (.iload_n 3, 1) := by decide +kernel
theorem dL_addSheet_4 : decode cL_addSheet 4 = .ok (.iload 4, 2) := by decide +kernel
theorem dL_addSheet_6 : decode cL_addSheet 6 = .ok (.iload 5, 2) := by decide +kernel
theorem dL_addSheet_8 : decode cL_addSheet 8 = .ok (.invokevirtual 7, 3) := by decide +kernel
theorem dL_addSheet_11 : decode cL_addSheet 11 = .ok (.ireturn, 1) := by decide +kernel
theorem dL_addSheet_12 : decode cL_addSheet 12 = .ok (.astore 6, 2) := by decide +kernel
theorem dL_addSheet_14 : decode cL_addSheet 14 = .ok (.sipush (-1001), 3) := by decide +kernel
theorem dL_addSheet_17 : decode cL_addSheet 17 = .ok (.ireturn, 1) := by decide +kernel
theorem dL_addSheet_18 : decode cL_addSheet 18 = .ok (.astore 6, 2) := by decide +kernel
theorem dL_addSheet_20 : decode cL_addSheet 20 = .ok (.sipush (-1002), 3) := by decide +kernel
theorem dL_addSheet_23 : decode cL_addSheet 23 = .ok (.ireturn, 1) := by decide +kernel
theorem dL_addCrease_0 : decode cL_addCrease 0 = .ok (.aload_n 0, 1) := by decide +kernel
theorem dL_addCrease_1 : decode cL_addCrease 1 = .ok (.iload_n 1, 1) := by decide +kernel
theorem dL_addCrease_2 : decode cL_addCrease 2 = .ok (.iload_n 2, 1) := by decide +kernel
theorem dL_addCrease_3 : decode cL_addCrease 3 = .ok (.invokevirtual 17, 3) := by decide +kernel
theorem dL_addCrease_6 : decode cL_addCrease 6 = .ok (.ireturn, 1) := by decide +kernel
theorem dL_addCrease_7 : decode cL_addCrease 7 = .ok (.astore_n 3, 1) := by decide +kernel
theorem dL_addCrease_8 : decode cL_addCrease 8 = .ok (.sipush (-1001), 3) := by decide +kernel
theorem dL_addCrease_11 : decode cL_addCrease 11 = .ok (.ireturn, 1) := by decide +kernel
theorem dL_addCrease_12 : decode cL_addCrease 12 = .ok (.astore_n 3, 1) := by decide +kernel
theorem dL_addCrease_13 : decode cL_addCrease 13 = .ok (.sipush (-1002), 3) := by decide +kernel
theorem dL_addCrease_16 : decode cL_addCrease 16 = .ok (.ireturn, 1) := by decide +kernel
theorem dL_addCrease_17 : decode cL_addCrease 17 = .ok (.astore_n 3, 1) := by decide +kernel
theorem dL_addCrease_18 : decode cL_addCrease 18 = .ok (.sipush (-1003), 3) := by decide +kernel
theorem dL_addCrease_21 : decode cL_addCrease 21 = .ok (.ireturn, 1) := by decide +kernel
theorem dL_fold_0 : decode cL_fold 0 = .ok (.aload_n 0, 1) := by decide +kernel
theorem dL_fold_1 : decode cL_fold 1 = .ok (.iload_n 1, 1) := by decide +kernel
theorem dL_fold_2 : decode cL_fold 2 = .ok (.invokevirtual 23, 3) := by decide +kernel
theorem dL_fold_5 : decode cL_fold 5 = .ok (.ireturn, 1) := by decide +kernel
theorem dL_fold_6 : decode cL_fold 6 = .ok (.astore_n 2, 1) := by decide +kernel
theorem dL_fold_7 : decode cL_fold 7 = .ok (.sipush (-1001), 3) := by decide +kernel
theorem dL_fold_10 : decode cL_fold 10 = .ok (.ireturn, 1) := by decide +kernel
theorem dL_fold_11 : decode cL_fold 11 = .ok (.astore_n 2, 1) := by decide +kernel
theorem dL_fold_12 : decode cL_fold 12 = .ok (.sipush (-1002), 3) := by decide +kernel
theorem dL_fold_15 : decode cL_fold 15 = .ok (.ireturn, 1) := by decide +kernel
theorem dL_unfold_0 : decode cL_unfold 0 = .ok (.aload_n 0, 1) := by decide +kernel
theorem dL_unfold_1 : decode cL_unfold 1 = .ok (.iload_n 1, 1) := by decide +kernel
theorem dL_unfold_2 : decode cL_unfold 2 = .ok (.invokevirtual 27, 3) := by decide +kernel
theorem dL_unfold_5 : decode cL_unfold 5 = .ok (.ireturn, 1) := by decide +kernel
theorem dL_unfold_6 : decode cL_unfold 6 = .ok (.astore_n 2, 1) := by decide +kernel
theorem dL_unfold_7 : decode cL_unfold 7 = .ok (.sipush (-1001), 3) := by decide +kernel
theorem dL_unfold_10 : decode cL_unfold 10 = .ok (.ireturn, 1) := by decide +kernel
theorem dL_unfold_11 : decode cL_unfold 11 = .ok (.astore_n 2, 1) := by decide +kernel
theorem dL_unfold_12 : decode cL_unfold 12 = .ok (.sipush (-1002), 3) := by decide +kernel
theorem dL_unfold_15 : decode cL_unfold 15 = .ok (.ireturn, 1) := by decide +kernel
theorem dL_mend_0 : decode cL_mend 0 = .ok (.aload_n 0, 1) := by decide +kernel
theorem dL_mend_1 : decode cL_mend 1 = .ok (.iload_n 1, 1) := by decide +kernel
theorem dL_mend_2 : decode cL_mend 2 = .ok (.invokevirtual 30, 3) := by decide +kernel
theorem dL_mend_5 : decode cL_mend 5 = .ok (.ireturn, 1) := by decide +kernel
theorem dL_mend_6 : decode cL_mend 6 = .ok (.astore_n 2, 1) := by decide +kernel
theorem dL_mend_7 : decode cL_mend 7 = .ok (.sipush (-1001), 3) := by decide +kernel
theorem dL_mend_10 : decode cL_mend 10 = .ok (.ireturn, 1) := by decide +kernel
theorem dL_mend_11 : decode cL_mend 11 = .ok (.astore_n 2, 1) := by decide +kernel
theorem dL_mend_12 : decode cL_mend 12 = .ok (.sipush (-1002), 3) := by decide +kernel
theorem dL_mend_15 : decode cL_mend 15 = .ok (.ireturn, 1) := by decide +kernel
theorem dL_mend_16 : decode cL_mend 16 = .ok (.astore_n 2, 1) := by decide +kernel
theorem dL_mend_17 : decode cL_mend 17 = .ok (.sipush (-1003), 3) := by decide +kernel
theorem dL_mend_20 : decode cL_mend 20 = .ok (.ireturn, 1) := by decide +kernel
theorem dL_put_0 : decode cL_put 0 = .ok (.aload_n 0, 1) := by decide +kernel
theorem dL_put_1 : decode cL_put 1 = .ok (.iload_n 1, 1) := by decide +kernel
theorem dL_put_2 : decode cL_put 2 = .ok (.iload_n 2, 1) := by decide +kernel
theorem dL_put_3 : decode cL_put 3 = .ok (.iload_n 3, 1) := by decide +kernel
theorem dL_put_4 : decode cL_put 4 = .ok (.invokevirtual 35, 3) := by decide +kernel
theorem dL_put_7 : decode cL_put 7 = .ok (.ireturn, 1) := by decide +kernel
theorem dL_put_8 : decode cL_put 8 = .ok (.astore 4, 2) := by decide +kernel
theorem dL_put_10 : decode cL_put 10 = .ok (.sipush (-1001), 3) := by decide +kernel
theorem dL_put_13 : decode cL_put 13 = .ok (.ireturn, 1) := by decide +kernel
theorem dL_put_14 : decode cL_put 14 = .ok (.astore 4, 2) := by decide +kernel
theorem dL_put_16 : decode cL_put 16 = .ok (.sipush (-1002), 3) := by decide +kernel
theorem dL_put_19 : decode cL_put 19 = .ok (.ireturn, 1) := by decide +kernel
theorem dL_put_20 : decode cL_put 20 = .ok (.astore 4, 2) := by decide +kernel
theorem dL_put_22 : decode cL_put 22 = .ok (.sipush (-1003), 3) := by decide +kernel
theorem dL_put_25 : decode cL_put 25 = .ok (.ireturn, 1) := by decide +kernel
theorem dL_put_26 : decode cL_put 26 = .ok (.astore 4, 2) := by decide +kernel
theorem dL_put_28 : decode cL_put 28 = .ok (.sipush (-1004), 3) := by decide +kernel
theorem dL_put_31 : decode cL_put 31 = .ok (.ireturn, 1) := by decide +kernel
theorem dL_take_0 : decode cL_take 0 = .ok (.aload_n 0, 1) := by decide +kernel
theorem dL_take_1 : decode cL_take 1 = .ok (.iload_n 1, 1) := by decide +kernel
theorem dL_take_2 : decode cL_take 2 = .ok (.invokevirtual 39, 3) := by decide +kernel
theorem dL_take_5 : decode cL_take 5 = .ok (.ireturn, 1) := by decide +kernel
theorem dL_take_6 : decode cL_take 6 = .ok (.astore_n 2, 1) := by decide +kernel
theorem dL_take_7 : decode cL_take 7 = .ok (.sipush (-1001), 3) := by decide +kernel
theorem dL_take_10 : decode cL_take 10 = .ok (.ireturn, 1) := by decide +kernel
theorem dL_take_11 : decode cL_take 11 = .ok (.astore_n 2, 1) := by decide +kernel
theorem dL_take_12 : decode cL_take 12 = .ok (.sipush (-1002), 3) := by decide +kernel
theorem dL_take_15 : decode cL_take 15 = .ok (.ireturn, 1) := by decide +kernel
theorem dL_addPaste_0 : decode cL_addPaste 0 = .ok (.aload_n 0, 1) := by decide +kernel
theorem dL_addPaste_1 : decode cL_addPaste 1 = .ok (.iload_n 1, 1) := by decide +kernel
theorem dL_addPaste_2 : decode cL_addPaste 2 = .ok (.invokevirtual 44, 3) := by decide +kernel
theorem dL_addPaste_5 : decode cL_addPaste 5 = .ok (.ireturn, 1) := by decide +kernel
theorem dL_addPaste_6 : decode cL_addPaste 6 = .ok (.astore_n 2, 1) := by decide +kernel
theorem dL_addPaste_7 : decode cL_addPaste 7 = .ok (.sipush (-1001), 3) := by decide +kernel
theorem dL_addPaste_10 : decode cL_addPaste 10 = .ok (.ireturn, 1) := by decide +kernel
theorem dL_addPaste_11 : decode cL_addPaste 11 = .ok (.astore_n 2, 1) := by decide +kernel
theorem dL_addPaste_12 : decode cL_addPaste 12 = .ok (.sipush (-1002), 3) := by decide +kernel
theorem dL_addPaste_15 : decode cL_addPaste 15 = .ok (.ireturn, 1) := by decide +kernel
theorem dL_kind_0 : decode cL_kind 0 = .ok (.aload_n 0, 1) := by decide +kernel
theorem dL_kind_1 : decode cL_kind 1 = .ok (.iload_n 1, 1) := by decide +kernel
theorem dL_kind_2 : decode cL_kind 2 = .ok (.invokevirtual 47, 3) := by decide +kernel
theorem dL_kind_5 : decode cL_kind 5 = .ok (.ireturn, 1) := by decide +kernel
theorem dL_kind_6 : decode cL_kind 6 = .ok (.astore_n 2, 1) := by decide +kernel
theorem dL_kind_7 : decode cL_kind 7 = .ok (.sipush (-1001), 3) := by decide +kernel
theorem dL_kind_10 : decode cL_kind 10 = .ok (.ireturn, 1) := by decide +kernel
theorem dL_border_0 : decode cL_border 0 = .ok (.aload_n 0, 1) := by decide +kernel
theorem dL_border_1 : decode cL_border 1 = .ok (.iload_n 1, 1) := by decide +kernel
theorem dL_border_2 : decode cL_border 2 = .ok (.iload_n 2, 1) := by decide +kernel
theorem dL_border_3 : decode cL_border 3 = .ok (.invokevirtual 51, 3) := by decide +kernel
theorem dL_border_6 : decode cL_border 6 = .ok (.ireturn, 1) := by decide +kernel
theorem dL_border_7 : decode cL_border 7 = .ok (.astore_n 3, 1) := by decide +kernel
theorem dL_border_8 : decode cL_border 8 = .ok (.sipush (-1001), 3) := by decide +kernel
theorem dL_border_11 : decode cL_border 11 = .ok (.ireturn, 1) := by decide +kernel
theorem dL_border_12 : decode cL_border 12 = .ok (.astore_n 3, 1) := by decide +kernel
theorem dL_border_13 : decode cL_border 13 = .ok (.sipush (-1002), 3) := by decide +kernel
theorem dL_border_16 : decode cL_border 16 = .ok (.ireturn, 1) := by decide +kernel
theorem dL_wear_0 : decode cL_wear 0 = .ok (.aload_n 0, 1) := by decide +kernel
theorem dL_wear_1 : decode cL_wear 1 = .ok (.iload_n 1, 1) := by decide +kernel
theorem dL_wear_2 : decode cL_wear 2 = .ok (.invokevirtual 55, 3) := by decide +kernel
theorem dL_wear_5 : decode cL_wear 5 = .ok (.ireturn, 1) := by decide +kernel
theorem dL_wear_6 : decode cL_wear 6 = .ok (.astore_n 2, 1) := by decide +kernel
theorem dL_wear_7 : decode cL_wear 7 = .ok (.sipush (-1001), 3) := by decide +kernel
theorem dL_wear_10 : decode cL_wear 10 = .ok (.ireturn, 1) := by decide +kernel
theorem dL_isTorn_0 : decode cL_isTorn 0 = .ok (.aload_n 0, 1) := by decide +kernel
theorem dL_isTorn_1 : decode cL_isTorn 1 = .ok (.iload_n 1, 1) := by decide +kernel
theorem dL_isTorn_2 : decode cL_isTorn 2 = .ok (.invokevirtual 58, 3) := by decide +kernel
theorem dL_isTorn_5 : decode cL_isTorn 5 = .ok (.ifCond .eq 7, 3) := by decide +kernel
theorem dL_isTorn_8 : decode cL_isTorn 8 = .ok (.iconst 1, 1) := by decide +kernel
theorem dL_isTorn_9 : decode cL_isTorn 9 = .ok (.goto 4, 3) := by decide +kernel
theorem dL_isTorn_12 : decode cL_isTorn 12 = .ok (.iconst 0, 1) := by decide +kernel
theorem dL_isTorn_13 : decode cL_isTorn 13 = .ok (.ireturn, 1) := by decide +kernel
theorem dL_isTorn_14 : decode cL_isTorn 14 = .ok (.astore_n 2, 1) := by decide +kernel
theorem dL_isTorn_15 : decode cL_isTorn 15 = .ok (.sipush (-1001), 3) := by decide +kernel
theorem dL_isTorn_18 : decode cL_isTorn 18 = .ok (.ireturn, 1) := by decide +kernel
theorem dL_isFolded_0 : decode cL_isFolded 0 = .ok (.aload_n 0, 1) := by decide +kernel
theorem dL_isFolded_1 : decode cL_isFolded 1 = .ok (.iload_n 1, 1) := by decide +kernel
theorem dL_isFolded_2 : decode cL_isFolded 2 = .ok (.invokevirtual 62, 3) := by decide +kernel
theorem dL_isFolded_5 : decode cL_isFolded 5 = .ok (.ifCond .eq 7, 3) := by decide +kernel
theorem dL_isFolded_8 : decode cL_isFolded 8 = .ok (.iconst 1, 1) := by decide +kernel
theorem dL_isFolded_9 : decode cL_isFolded 9 = .ok (.goto 4, 3) := by decide +kernel
theorem dL_isFolded_12 : decode cL_isFolded 12 = .ok (.iconst 0, 1) := by decide +kernel
theorem dL_isFolded_13 : decode cL_isFolded 13 = .ok (.ireturn, 1) := by decide +kernel
theorem dL_isFolded_14 : decode cL_isFolded 14 = .ok (.astore_n 2, 1) := by decide +kernel
theorem dL_isFolded_15 : decode cL_isFolded 15 = .ok (.sipush (-1001), 3) := by decide +kernel
theorem dL_isFolded_18 : decode cL_isFolded 18 = .ok (.ireturn, 1) := by decide +kernel
theorem dL_creaseCount_0 : decode cL_creaseCount 0 = .ok (.aload_n 0, 1) := by decide +kernel
theorem dL_creaseCount_1 : decode cL_creaseCount 1 = .ok (.iload_n 1, 1) := by decide +kernel
theorem dL_creaseCount_2 : decode cL_creaseCount 2 = .ok (.invokevirtual 65, 3) := by decide +kernel
theorem dL_creaseCount_5 : decode cL_creaseCount 5 = .ok (.ireturn, 1) := by decide +kernel
theorem dL_creaseCount_6 : decode cL_creaseCount 6 = .ok (.astore_n 2, 1) := by decide +kernel
theorem dL_creaseCount_7 : decode cL_creaseCount 7 = .ok (.sipush (-1001), 3) := by decide +kernel
theorem dL_creaseCount_10 : decode cL_creaseCount 10 = .ok (.ireturn, 1) := by decide +kernel
theorem dL_crease_0 : decode cL_crease 0 = .ok (.aload_n 0, 1) := by decide +kernel
theorem dL_crease_1 : decode cL_crease 1 = .ok (.iload_n 1, 1) := by decide +kernel
theorem dL_crease_2 : decode cL_crease 2 = .ok (.iload_n 2, 1) := by decide +kernel
theorem dL_crease_3 : decode cL_crease 3 = .ok (.invokevirtual 68, 3) := by decide +kernel
theorem dL_crease_6 : decode cL_crease 6 = .ok (.ireturn, 1) := by decide +kernel
theorem dL_crease_7 : decode cL_crease 7 = .ok (.astore_n 3, 1) := by decide +kernel
theorem dL_crease_8 : decode cL_crease 8 = .ok (.sipush (-1001), 3) := by decide +kernel
theorem dL_crease_11 : decode cL_crease 11 = .ok (.ireturn, 1) := by decide +kernel
theorem dL_cellOf_0 : decode cL_cellOf 0 = .ok (.aload_n 0, 1) := by decide +kernel
theorem dL_cellOf_1 : decode cL_cellOf 1 = .ok (.iload_n 1, 1) := by decide +kernel
theorem dL_cellOf_2 : decode cL_cellOf 2 = .ok (.invokevirtual 72, 3) := by decide +kernel
theorem dL_cellOf_5 : decode cL_cellOf 5 = .ok (.ireturn, 1) := by decide +kernel
theorem dL_cellOf_6 : decode cL_cellOf 6 = .ok (.astore_n 2, 1) := by decide +kernel
theorem dL_cellOf_7 : decode cL_cellOf 7 = .ok (.sipush (-1001), 3) := by decide +kernel
theorem dL_cellOf_10 : decode cL_cellOf 10 = .ok (.ireturn, 1) := by decide +kernel
theorem dL_cellOf_11 : decode cL_cellOf 11 = .ok (.astore_n 2, 1) := by decide +kernel
theorem dL_cellOf_12 : decode cL_cellOf 12 = .ok (.sipush (-1002), 3) := by decide +kernel
theorem dL_cellOf_15 : decode cL_cellOf 15 = .ok (.ireturn, 1) := by decide +kernel
theorem dL_sheetIn_0 : decode cL_sheetIn 0 = .ok (.aload_n 0, 1) := by decide +kernel
theorem dL_sheetIn_1 : decode cL_sheetIn 1 = .ok (.iload_n 1, 1) := by decide +kernel
theorem dL_sheetIn_2 : decode cL_sheetIn 2 = .ok (.invokevirtual 75, 3) := by decide +kernel
theorem dL_sheetIn_5 : decode cL_sheetIn 5 = .ok (.ireturn, 1) := by decide +kernel
theorem dL_sheetIn_6 : decode cL_sheetIn 6 = .ok (.astore_n 2, 1) := by decide +kernel
theorem dL_sheetIn_7 : decode cL_sheetIn 7 = .ok (.sipush (-1001), 3) := by decide +kernel
theorem dL_sheetIn_10 : decode cL_sheetIn 10 = .ok (.ireturn, 1) := by decide +kernel
theorem dL_sheetIn_11 : decode cL_sheetIn 11 = .ok (.astore_n 2, 1) := by decide +kernel
theorem dL_sheetIn_12 : decode cL_sheetIn 12 = .ok (.sipush (-1002), 3) := by decide +kernel
theorem dL_sheetIn_15 : decode cL_sheetIn 15 = .ok (.ireturn, 1) := by decide +kernel
theorem dL_turnsIn_0 : decode cL_turnsIn 0 = .ok (.aload_n 0, 1) := by decide +kernel
theorem dL_turnsIn_1 : decode cL_turnsIn 1 = .ok (.iload_n 1, 1) := by decide +kernel
theorem dL_turnsIn_2 : decode cL_turnsIn 2 = .ok (.invokevirtual 78, 3) := by decide +kernel
theorem dL_turnsIn_5 : decode cL_turnsIn 5 = .ok (.ireturn, 1) := by decide +kernel
theorem dL_turnsIn_6 : decode cL_turnsIn 6 = .ok (.astore_n 2, 1) := by decide +kernel
theorem dL_turnsIn_7 : decode cL_turnsIn 7 = .ok (.sipush (-1001), 3) := by decide +kernel
theorem dL_turnsIn_10 : decode cL_turnsIn 10 = .ok (.ireturn, 1) := by decide +kernel
theorem dL_turnsIn_11 : decode cL_turnsIn 11 = .ok (.astore_n 2, 1) := by decide +kernel
theorem dL_turnsIn_12 : decode cL_turnsIn 12 = .ok (.sipush (-1002), 3) := by decide +kernel
theorem dL_turnsIn_15 : decode cL_turnsIn 15 = .ok (.ireturn, 1) := by decide +kernel
theorem dL_borderIn_0 : decode cL_borderIn 0 = .ok (.aload_n 0, 1) := by decide +kernel
theorem dL_borderIn_1 : decode cL_borderIn 1 = .ok (.iload_n 1, 1) := by decide +kernel
theorem dL_borderIn_2 : decode cL_borderIn 2 = .ok (.iload_n 2, 1) := by decide +kernel
theorem dL_borderIn_3 : decode cL_borderIn 3 = .ok (.invokevirtual 81, 3) := by decide +kernel
theorem dL_borderIn_6 : decode cL_borderIn 6 = .ok (.ireturn, 1) := by decide +kernel
theorem dL_borderIn_7 : decode cL_borderIn 7 = .ok (.astore_n 3, 1) := by decide +kernel
theorem dL_borderIn_8 : decode cL_borderIn 8 = .ok (.sipush (-1001), 3) := by decide +kernel
theorem dL_borderIn_11 : decode cL_borderIn 11 = .ok (.ireturn, 1) := by decide +kernel
theorem dL_borderIn_12 : decode cL_borderIn 12 = .ok (.astore_n 3, 1) := by decide +kernel
theorem dL_borderIn_13 : decode cL_borderIn 13 = .ok (.sipush (-1002), 3) := by decide +kernel
theorem dL_borderIn_16 : decode cL_borderIn 16 = .ok (.ireturn, 1) := by decide +kernel
theorem dL_borderIn_17 : decode cL_borderIn 17 = .ok (.astore_n 3, 1) := by decide +kernel
theorem dL_borderIn_18 : decode cL_borderIn 18 = .ok (.sipush (-1003), 3) := by decide +kernel
theorem dL_borderIn_21 : decode cL_borderIn 21 = .ok (.ireturn, 1) := by decide +kernel
theorem dL_matches_0 : decode cL_matches 0 = .ok (.aload_n 0, 1) := by decide +kernel
theorem dL_matches_1 : decode cL_matches 1 = .ok (.iload_n 1, 1) := by decide +kernel
theorem dL_matches_2 : decode cL_matches 2 = .ok (.iload_n 2, 1) := by decide +kernel
theorem dL_matches_3 : decode cL_matches 3 = .ok (.iload_n 3, 1) := by decide +kernel
theorem dL_matches_4 : decode cL_matches 4 = .ok (.invokevirtual 84, 3) := by decide +kernel
theorem dL_matches_7 : decode cL_matches 7 = .ok (.ifCond .eq 7, 3) := by decide +kernel
theorem dL_matches_10 : decode cL_matches 10 = .ok (.iconst 1, 1) := by decide +kernel
theorem dL_matches_11 : decode cL_matches 11 = .ok (.goto 4, 3) := by decide +kernel
theorem dL_matches_14 : decode cL_matches 14 = .ok (.iconst 0, 1) := by decide +kernel
theorem dL_matches_15 : decode cL_matches 15 = .ok (.ireturn, 1) := by decide +kernel
theorem dL_matches_16 : decode cL_matches 16 = .ok (.astore 4, 2) := by decide +kernel
theorem dL_matches_18 : decode cL_matches 18 = .ok (.sipush (-1001), 3) := by decide +kernel
theorem dL_matches_21 : decode cL_matches 21 = .ok (.ireturn, 1) := by decide +kernel
theorem dL_matches_22 : decode cL_matches 22 = .ok (.astore 4, 2) := by decide +kernel
theorem dL_matches_24 : decode cL_matches 24 = .ok (.sipush (-1002), 3) := by decide +kernel
theorem dL_matches_27 : decode cL_matches 27 = .ok (.ireturn, 1) := by decide +kernel
theorem dL_matches_28 : decode cL_matches 28 = .ok (.astore 4, 2) := by decide +kernel
theorem dL_matches_30 : decode cL_matches 30 = .ok (.sipush (-1003), 3) := by decide +kernel
theorem dL_matches_33 : decode cL_matches 33 = .ok (.ireturn, 1) := by decide +kernel
theorem dL_waysToPut_0 : decode cL_waysToPut 0 = .ok (.aload_n 0, 1) := by decide +kernel
theorem dL_waysToPut_1 : decode cL_waysToPut 1 = .ok (.iload_n 1, 1) := by decide +kernel
theorem dL_waysToPut_2 : decode cL_waysToPut 2 = .ok (.invokevirtual 88, 3) := by decide +kernel
theorem dL_waysToPut_5 : decode cL_waysToPut 5 = .ok (.ireturn, 1) := by decide +kernel
theorem dL_waysToPut_6 : decode cL_waysToPut 6 = .ok (.astore_n 2, 1) := by decide +kernel
theorem dL_waysToPut_7 : decode cL_waysToPut 7 = .ok (.sipush (-1001), 3) := by decide +kernel
theorem dL_waysToPut_10 : decode cL_waysToPut 10 = .ok (.ireturn, 1) := by decide +kernel
theorem dL_completions_0 : decode cL_completions 0 = .ok (.aload_n 0, 1) := by decide +kernel
theorem dL_completions_1 : decode cL_completions 1 = .ok (.invokevirtual 91, 3) := by decide +kernel
theorem dL_completions_4 : decode cL_completions 4 = .ok (.ireturn, 1) := by decide +kernel
theorem dL_completions_5 : decode cL_completions 5 = .ok (.astore_n 1, 1) := by decide +kernel
theorem dL_completions_6 : decode cL_completions 6 = .ok (.sipush (-1001), 3) := by decide +kernel
theorem dL_completions_9 : decode cL_completions 9 = .ok (.ireturn, 1) := by decide +kernel
theorem dL_backwards_0 : decode cL_backwards 0 = .ok (.aload_n 0, 1) := by decide +kernel
theorem dL_backwards_1 : decode cL_backwards 1 = .ok (.invokevirtual 95, 3) := by decide +kernel
theorem dL_backwards_4 : decode cL_backwards 4 = .ok (.ireturn, 1) := by decide +kernel
theorem dL_backwards_5 : decode cL_backwards 5 = .ok (.astore_n 1, 1) := by decide +kernel
theorem dL_backwards_6 : decode cL_backwards 6 = .ok (.sipush (-1001), 3) := by decide +kernel
theorem dL_backwards_9 : decode cL_backwards 9 = .ok (.ireturn, 1) := by decide +kernel
theorem dL_foldings_0 : decode cL_foldings 0 = .ok (.aload_n 0, 1) := by decide +kernel
theorem dL_foldings_1 : decode cL_foldings 1 = .ok (.iload_n 1, 1) := by decide +kernel
theorem dL_foldings_2 : decode cL_foldings 2 = .ok (.invokevirtual 98, 3) := by decide +kernel
theorem dL_foldings_5 : decode cL_foldings 5 = .ok (.ireturn, 1) := by decide +kernel
theorem dL_foldings_6 : decode cL_foldings 6 = .ok (.astore_n 2, 1) := by decide +kernel
theorem dL_foldings_7 : decode cL_foldings 7 = .ok (.sipush (-1001), 3) := by decide +kernel
theorem dL_foldings_10 : decode cL_foldings 10 = .ok (.ireturn, 1) := by decide +kernel
theorem dL_byPermutations_0 : decode cL_byPermutations 0 = .ok (.aload_n 0, 1) := by decide +kernel
theorem dL_byPermutations_1 : decode cL_byPermutations 1 = .ok (.iload_n 1, 1) := by decide +kernel
theorem dL_byPermutations_2 : decode cL_byPermutations 2 = .ok (.invokevirtual 101, 3) := by decide +kernel
theorem dL_byPermutations_5 : decode cL_byPermutations 5 = .ok (.ireturn, 1) := by decide +kernel
theorem dL_byPermutations_6 : decode cL_byPermutations 6 = .ok (.astore_n 2, 1) := by decide +kernel
theorem dL_byPermutations_7 : decode cL_byPermutations 7 = .ok (.sipush (-1001), 3) := by decide +kernel
theorem dL_byPermutations_10 : decode cL_byPermutations 10 = .ok (.ireturn, 1) := by decide +kernel
theorem dL_onTop_0 : decode cL_onTop 0 = .ok (.aload_n 0, 1) := by decide +kernel
theorem dL_onTop_1 : decode cL_onTop 1 = .ok (.iload_n 1, 1) := by decide +kernel
theorem dL_onTop_2 : decode cL_onTop 2 = .ok (.iload_n 2, 1) := by decide +kernel
theorem dL_onTop_3 : decode cL_onTop 3 = .ok (.invokevirtual 104, 3) := by decide +kernel
theorem dL_onTop_6 : decode cL_onTop 6 = .ok (.ifCond .eq 7, 3) := by decide +kernel
theorem dL_onTop_9 : decode cL_onTop 9 = .ok (.iconst 1, 1) := by decide +kernel
theorem dL_onTop_10 : decode cL_onTop 10 = .ok (.goto 4, 3) := by decide +kernel
theorem dL_onTop_13 : decode cL_onTop 13 = .ok (.iconst 0, 1) := by decide +kernel
theorem dL_onTop_14 : decode cL_onTop 14 = .ok (.ireturn, 1) := by decide +kernel
theorem dL_onTop_15 : decode cL_onTop 15 = .ok (.astore_n 3, 1) := by decide +kernel
theorem dL_onTop_16 : decode cL_onTop 16 = .ok (.sipush (-1001), 3) := by decide +kernel
theorem dL_onTop_19 : decode cL_onTop 19 = .ok (.ireturn, 1) := by decide +kernel
theorem dL_pointsOf_0 : decode cL_pointsOf 0 = .ok (.aload_n 0, 1) := by decide +kernel
theorem dL_pointsOf_1 : decode cL_pointsOf 1 = .ok (.iload_n 1, 1) := by decide +kernel
theorem dL_pointsOf_2 : decode cL_pointsOf 2 = .ok (.invokevirtual 108, 3) := by decide +kernel
theorem dL_pointsOf_5 : decode cL_pointsOf 5 = .ok (.ireturn, 1) := by decide +kernel
theorem dL_pointsOf_6 : decode cL_pointsOf 6 = .ok (.astore_n 2, 1) := by decide +kernel
theorem dL_pointsOf_7 : decode cL_pointsOf 7 = .ok (.sipush (-1001), 3) := by decide +kernel
theorem dL_pointsOf_10 : decode cL_pointsOf 10 = .ok (.ireturn, 1) := by decide +kernel
theorem dL_pointsOf_11 : decode cL_pointsOf 11 = .ok (.astore_n 2, 1) := by decide +kernel
theorem dL_pointsOf_12 : decode cL_pointsOf 12 = .ok (.sipush (-1002), 3) := by decide +kernel
theorem dL_pointsOf_15 : decode cL_pointsOf 15 = .ok (.ireturn, 1) := by decide +kernel
theorem dL_groupSize_0 : decode cL_groupSize 0 = .ok (.aload_n 0, 1) := by decide +kernel
theorem dL_groupSize_1 : decode cL_groupSize 1 = .ok (.iload_n 1, 1) := by decide +kernel
theorem dL_groupSize_2 : decode cL_groupSize 2 = .ok (.invokevirtual 111, 3) := by decide +kernel
theorem dL_groupSize_5 : decode cL_groupSize 5 = .ok (.ireturn, 1) := by decide +kernel
theorem dL_groupSize_6 : decode cL_groupSize 6 = .ok (.astore_n 2, 1) := by decide +kernel
theorem dL_groupSize_7 : decode cL_groupSize 7 = .ok (.sipush (-1001), 3) := by decide +kernel
theorem dL_groupSize_10 : decode cL_groupSize 10 = .ok (.ireturn, 1) := by decide +kernel
theorem dL_groupSize_11 : decode cL_groupSize 11 = .ok (.astore_n 2, 1) := by decide +kernel
theorem dL_groupSize_12 : decode cL_groupSize 12 = .ok (.sipush (-1002), 3) := by decide +kernel
theorem dL_groupSize_15 : decode cL_groupSize 15 = .ok (.ireturn, 1) := by decide +kernel
theorem dL_byWear_0 : decode cL_byWear 0 = .ok (.aload_n 0, 1) := by decide +kernel
theorem dL_byWear_1 : decode cL_byWear 1 = .ok (.iload_n 1, 1) := by decide +kernel
theorem dL_byWear_2 : decode cL_byWear 2 = .ok (.invokevirtual 114, 3) := by decide +kernel
theorem dL_byWear_5 : decode cL_byWear 5 = .ok (.ireturn, 1) := by decide +kernel
theorem dL_byWear_6 : decode cL_byWear 6 = .ok (.astore_n 2, 1) := by decide +kernel
theorem dL_byWear_7 : decode cL_byWear 7 = .ok (.sipush (-1001), 3) := by decide +kernel
theorem dL_byWear_10 : decode cL_byWear 10 = .ok (.ireturn, 1) := by decide +kernel
theorem dL_meanWear_0 : decode cL_meanWear 0 = .ok (.aload_n 0, 1) := by decide +kernel
theorem dL_meanWear_1 : decode cL_meanWear 1 = .ok (.invokevirtual 117, 3) := by decide +kernel
theorem dL_meanWear_4 : decode cL_meanWear 4 = .ok (.dreturn, 1) := by decide +kernel
theorem dL_meanWear_5 : decode cL_meanWear 5 = .ok (.astore_n 1, 1) := by decide +kernel
theorem dL_meanWear_6 : decode cL_meanWear 6 = .ok (.ldc2_w 123, 3) := by decide +kernel
theorem dL_meanWear_9 : decode cL_meanWear 9 = .ok (.dreturn, 1) := by decide +kernel
theorem dL_feed_0 : decode cL_feed 0 = .ok (.aload_n 0, 1) := by decide +kernel
theorem dL_feed_1 : decode cL_feed 1 = .ok (.iload_n 1, 1) := by decide +kernel
theorem dL_feed_2 : decode cL_feed 2 = .ok (.invokevirtual 125, 3) := by decide +kernel
theorem dL_feed_5 : decode cL_feed 5 = .ok (.ireturn, 1) := by decide +kernel
theorem dL_feed_6 : decode cL_feed 6 = .ok (.astore_n 2, 1) := by decide +kernel
theorem dL_feed_7 : decode cL_feed 7 = .ok (.sipush (-1001), 3) := by decide +kernel
theorem dL_feed_10 : decode cL_feed 10 = .ok (.ireturn, 1) := by decide +kernel
theorem dL_run_0 : decode cL_run 0 = .ok (.aload_n 0, 1) := by decide +kernel
theorem dL_run_1 : decode cL_run 1 = .ok (.invokevirtual 129, 3) := by decide +kernel
theorem dL_run_4 : decode cL_run 4 = .ok (.ireturn, 1) := by decide +kernel
theorem dL_run_5 : decode cL_run 5 = .ok (.astore_n 1, 1) := by decide +kernel
theorem dL_run_6 : decode cL_run 6 = .ok (.sipush (-1001), 3) := by decide +kernel
theorem dL_run_9 : decode cL_run 9 = .ok (.ireturn, 1) := by decide +kernel
theorem dL_run_10 : decode cL_run 10 = .ok (.astore_n 1, 1) := by decide +kernel
theorem dL_run_11 : decode cL_run 11 = .ok (.sipush (-1002), 3) := by decide +kernel
theorem dL_run_14 : decode cL_run 14 = .ok (.ireturn, 1) := by decide +kernel
theorem dL_errorPosition_0 : decode cL_errorPosition 0 = .ok (.aload_n 0, 1) := by decide +kernel
theorem dL_errorPosition_1 : decode cL_errorPosition 1 = .ok (.invokevirtual 132, 3) := by decide +kernel
theorem dL_errorPosition_4 : decode cL_errorPosition 4 = .ok (.ireturn, 1) := by decide +kernel
theorem dL_errorPosition_5 : decode cL_errorPosition 5 = .ok (.astore_n 1, 1) := by decide +kernel
theorem dL_errorPosition_6 : decode cL_errorPosition 6 = .ok (.sipush (-1001), 3) := by decide +kernel
theorem dL_errorPosition_9 : decode cL_errorPosition 9 = .ok (.ireturn, 1) := by decide +kernel
theorem dL_failedCommand_0 : decode cL_failedCommand 0 = .ok (.aload_n 0, 1) := by decide +kernel
theorem dL_failedCommand_1 : decode cL_failedCommand 1 = .ok (.invokevirtual 135, 3) := by decide +kernel
theorem dL_failedCommand_4 : decode cL_failedCommand 4 = .ok (.ireturn, 1) := by decide +kernel
theorem dL_failedCommand_5 : decode cL_failedCommand 5 = .ok (.astore_n 1, 1) := by decide +kernel
theorem dL_failedCommand_6 : decode cL_failedCommand 6 = .ok (.sipush (-1001), 3) := by decide +kernel
theorem dL_failedCommand_9 : decode cL_failedCommand 9 = .ok (.ireturn, 1) := by decide +kernel
theorem dL_writeSheet_0 : decode cL_writeSheet 0 = .ok (.aload_n 0, 1) := by decide +kernel
theorem dL_writeSheet_1 : decode cL_writeSheet 1 = .ok (.iload_n 1, 1) := by decide +kernel
theorem dL_writeSheet_2 : decode cL_writeSheet 2 = .ok (.invokevirtual 138, 3) := by decide +kernel
theorem dL_writeSheet_5 : decode cL_writeSheet 5 = .ok (.ireturn, 1) := by decide +kernel
theorem dL_writeSheet_6 : decode cL_writeSheet 6 = .ok (.astore_n 2, 1) := by decide +kernel
theorem dL_writeSheet_7 : decode cL_writeSheet 7 = .ok (.sipush (-1001), 3) := by decide +kernel
theorem dL_writeSheet_10 : decode cL_writeSheet 10 = .ok (.ireturn, 1) := by decide +kernel
theorem dL_outputChar_0 : decode cL_outputChar 0 = .ok (.aload_n 0, 1) := by decide +kernel
theorem dL_outputChar_1 : decode cL_outputChar 1 = .ok (.iload_n 1, 1) := by decide +kernel
theorem dL_outputChar_2 : decode cL_outputChar 2 = .ok (.invokevirtual 141, 3) := by decide +kernel
theorem dL_outputChar_5 : decode cL_outputChar 5 = .ok (.ireturn, 1) := by decide +kernel
theorem dL_outputChar_6 : decode cL_outputChar 6 = .ok (.astore_n 2, 1) := by decide +kernel
theorem dL_outputChar_7 : decode cL_outputChar 7 = .ok (.sipush (-1001), 3) := by decide +kernel
theorem dL_outputChar_10 : decode cL_outputChar 10 = .ok (.ireturn, 1) := by decide +kernel
theorem dL_undo_0 : decode cL_undo 0 = .ok (.aload_n 0, 1) := by decide +kernel
theorem dL_undo_1 : decode cL_undo 1 = .ok (.invokevirtual 144, 3) := by decide +kernel
theorem dL_undo_4 : decode cL_undo 4 = .ok (.ireturn, 1) := by decide +kernel
theorem dL_undo_5 : decode cL_undo 5 = .ok (.astore_n 1, 1) := by decide +kernel
theorem dL_undo_6 : decode cL_undo 6 = .ok (.sipush (-1001), 3) := by decide +kernel
theorem dL_undo_9 : decode cL_undo 9 = .ok (.ireturn, 1) := by decide +kernel
theorem dL_restore_0 : decode cL_restore 0 = .ok (.aload_n 0, 1) := by decide +kernel
theorem dL_restore_1 : decode cL_restore 1 = .ok (.invokevirtual 147, 3) := by decide +kernel
theorem dL_restore_4 : decode cL_restore 4 = .ok (.ireturn, 1) := by decide +kernel
theorem dL_restore_5 : decode cL_restore 5 = .ok (.astore_n 1, 1) := by decide +kernel
theorem dL_restore_6 : decode cL_restore 6 = .ok (.sipush (-1001), 3) := by decide +kernel
theorem dL_restore_9 : decode cL_restore 9 = .ok (.ireturn, 1) := by decide +kernel
theorem dL_runs_0 : decode cL_runs 0 = .ok (.iconst 0, 1) := by decide +kernel
theorem dL_runs_1 : decode cL_runs 1 = .ok (.istore_n 2, 1) := by decide +kernel
theorem dL_runs_2 : decode cL_runs 2 = .ok (.iload_n 2, 1) := by decide +kernel
theorem dL_runs_3 : decode cL_runs 3 = .ok (.aload_n 1, 1) := by decide +kernel
theorem dL_runs_4 : decode cL_runs 4 = .ok (.invokevirtual 150, 3) := by decide +kernel
theorem dL_runs_7 : decode cL_runs 7 = .ok (.if_icmp .ge 28, 3) := by decide +kernel
theorem dL_runs_10 : decode cL_runs 10 = .ok (.aload_n 0, 1) := by decide +kernel
theorem dL_runs_11 : decode cL_runs 11 = .ok (.aload_n 1, 1) := by decide +kernel
theorem dL_runs_12 : decode cL_runs 12 = .ok (.iload_n 2, 1) := by decide +kernel
theorem dL_runs_13 : decode cL_runs 13 = .ok (.invokevirtual 155, 3) := by decide +kernel
theorem dL_runs_16 : decode cL_runs 16 = .ok (.invokestatic 158, 3) := by decide +kernel
theorem dL_runs_19 : decode cL_runs 19 = .ok (.iload_n 2, 1) := by decide +kernel
theorem dL_runs_20 : decode cL_runs 20 = .ok (.iconst 1, 1) := by decide +kernel
theorem dL_runs_21 : decode cL_runs 21 = .ok (.iadd, 1) := by decide +kernel
theorem dL_runs_22 : decode cL_runs 22 = .ok (.if_icmp .eq 7, 3) := by decide +kernel
theorem dL_runs_25 : decode cL_runs 25 = .ok (.sipush (-9999), 3) := by decide +kernel
theorem dL_runs_28 : decode cL_runs 28 = .ok (.ireturn, 1) := by decide +kernel
theorem dL_runs_29 : decode cL_runs 29 = .ok (.iinc 2 1, 3) := by decide +kernel
theorem dL_runs_32 : decode cL_runs 32 = .ok (.goto (-30), 3) := by decide +kernel
theorem dL_runs_35 : decode cL_runs 35 = .ok (.aload_n 0, 1) := by decide +kernel
theorem dL_runs_36 : decode cL_runs 36 = .ok (.invokestatic 163, 3) := by decide +kernel
theorem dL_runs_39 : decode cL_runs 39 = .ok (.ireturn, 1) := by decide +kernel
theorem dL_makes_0 : decode cL_makes 0 = .ok (.iconst 4, 1) := by decide +kernel
theorem dL_makes_1 : decode cL_makes 1 = .ok (.aload_n 1, 1) := by decide +kernel
theorem dL_makes_2 : decode cL_makes 2 = .ok (.iconst 0, 1) := by decide +kernel
theorem dL_makes_3 : decode cL_makes 3 = .ok (.invokestatic 170, 3) := by decide +kernel
theorem dL_makes_6 : decode cL_makes 6 = .ok (.bipush 6, 2) := by decide +kernel
theorem dL_makes_8 : decode cL_makes 8 = .ok (.invokestatic 174, 3) := by decide +kernel
theorem dL_makes_11 : decode cL_makes 11 = .ok (.iadd, 1) := by decide +kernel
theorem dL_makes_12 : decode cL_makes 12 = .ok (.istore_n 2, 1) := by decide +kernel
theorem dL_makes_13 : decode cL_makes 13 = .ok (.iconst 1, 1) := by decide +kernel
theorem dL_makes_14 : decode cL_makes 14 = .ok (.aload_n 1, 1) := by decide +kernel
theorem dL_makes_15 : decode cL_makes 15 = .ok (.iconst 1, 1) := by decide +kernel
theorem dL_makes_16 : decode cL_makes 16 = .ok (.invokestatic 170, 3) := by decide +kernel
theorem dL_makes_19 : decode cL_makes 19 = .ok (.iconst 3, 1) := by decide +kernel
theorem dL_makes_20 : decode cL_makes 20 = .ok (.invokestatic 174, 3) := by decide +kernel
theorem dL_makes_23 : decode cL_makes 23 = .ok (.iadd, 1) := by decide +kernel
theorem dL_makes_24 : decode cL_makes 24 = .ok (.istore_n 3, 1) := by decide +kernel
theorem dL_makes_25 : decode cL_makes 25 = .ok (.iconst 0, 1) := by decide +kernel
theorem dL_makes_26 : decode cL_makes 26 = .ok (.istore 4, 2) := by decide +kernel
theorem dL_makes_28 : decode cL_makes 28 = .ok (.iload 4, 2) := by decide +kernel
theorem dL_makes_30 : decode cL_makes 30 = .ok (.iload_n 2, 1) := by decide +kernel
theorem dL_makes_31 : decode cL_makes 31 = .ok (.if_icmp .ge 134, 3) := by decide +kernel
theorem dL_makes_34 : decode cL_makes 34 = .ok (.aload_n 1, 1) := by decide +kernel
theorem dL_makes_35 : decode cL_makes 35 = .ok (.iconst 2, 1) := by decide +kernel
theorem dL_makes_36 : decode cL_makes 36 = .ok (.iload 4, 2) := by decide +kernel
theorem dL_makes_38 : decode cL_makes 38 = .ok (.iadd, 1) := by decide +kernel
theorem dL_makes_39 : decode cL_makes 39 = .ok (.invokestatic 170, 3) := by decide +kernel
theorem dL_makes_42 : decode cL_makes 42 = .ok (.istore 5, 2) := by decide +kernel
theorem dL_makes_44 : decode cL_makes 44 = .ok (.aload_n 0, 1) := by decide +kernel
theorem dL_makes_45 : decode cL_makes 45 = .ok (.iload 5, 2) := by decide +kernel
theorem dL_makes_47 : decode cL_makes 47 = .ok (.iload_n 3, 1) := by decide +kernel
theorem dL_makes_48 : decode cL_makes 48 = .ok (.invokestatic 174, 3) := by decide +kernel
theorem dL_makes_51 : decode cL_makes 51 = .ok (.iload 5, 2) := by decide +kernel
theorem dL_makes_53 : decode cL_makes 53 = .ok (.iconst 3, 1) := by decide +kernel
theorem dL_makes_54 : decode cL_makes 54 = .ok (.ishr, 1) := by decide +kernel
theorem dL_makes_55 : decode cL_makes 55 = .ok (.iload_n 3, 1) := by decide +kernel
theorem dL_makes_56 : decode cL_makes 56 = .ok (.invokestatic 174, 3) := by decide +kernel
theorem dL_makes_59 : decode cL_makes 59 = .ok (.iload 5, 2) := by decide +kernel
theorem dL_makes_61 : decode cL_makes 61 = .ok (.bipush 6, 2) := by decide +kernel
theorem dL_makes_63 : decode cL_makes 63 = .ok (.ishr, 1) := by decide +kernel
theorem dL_makes_64 : decode cL_makes 64 = .ok (.iload_n 3, 1) := by decide +kernel
theorem dL_makes_65 : decode cL_makes 65 = .ok (.invokestatic 174, 3) := by decide +kernel
theorem dL_makes_68 : decode cL_makes 68 = .ok (.iload 5, 2) := by decide +kernel
theorem dL_makes_70 : decode cL_makes 70 = .ok (.bipush 9, 2) := by decide +kernel
theorem dL_makes_72 : decode cL_makes 72 = .ok (.ishr, 1) := by decide +kernel
theorem dL_makes_73 : decode cL_makes 73 = .ok (.iload_n 3, 1) := by decide +kernel
theorem dL_makes_74 : decode cL_makes 74 = .ok (.invokestatic 174, 3) := by decide +kernel
theorem dL_makes_77 : decode cL_makes 77 = .ok (.ldc 177, 2) := by decide +kernel
theorem dL_makes_79 : decode cL_makes 79 = .ok (.iload 5, 2) := by decide +kernel
theorem dL_makes_81 : decode cL_makes 81 = .ok (.bipush 12, 2) := by decide +kernel
theorem dL_makes_83 : decode cL_makes 83 = .ok (.ishr, 1) := by decide +kernel
theorem dL_makes_84 : decode cL_makes 84 = .ok (.iconst 3, 1) := by decide +kernel
theorem dL_makes_85 : decode cL_makes 85 = .ok (.invokestatic 174, 3) := by decide +kernel
theorem dL_makes_88 : decode cL_makes 88 = .ok (.invokevirtual 155, 3) := by decide +kernel
theorem dL_makes_91 : decode cL_makes 91 = .ok (.invokestatic 179, 3) := by decide +kernel
theorem dL_makes_94 : decode cL_makes 94 = .ok (.iload 4, 2) := by decide +kernel
theorem dL_makes_96 : decode cL_makes 96 = .ok (.if_icmp .eq 5, 3) := by decide +kernel
theorem dL_makes_99 : decode cL_makes 99 = .ok (.iconst 0, 1) := by decide +kernel
theorem dL_makes_100 : decode cL_makes 100 = .ok (.ireturn, 1) := by decide +kernel
theorem dL_makes_101 : decode cL_makes 101 = .ok (.iconst 0, 1) := by decide +kernel
theorem dL_makes_102 : decode cL_makes 102 = .ok (.istore 6, 2) := by decide +kernel
theorem dL_makes_104 : decode cL_makes 104 = .ok (.iload 6, 2) := by decide +kernel
theorem dL_makes_106 : decode cL_makes 106 = .ok (.iload 5, 2) := by decide +kernel
theorem dL_makes_108 : decode cL_makes 108 = .ok (.bipush 14, 2) := by decide +kernel
theorem dL_makes_110 : decode cL_makes 110 = .ok (.ishr, 1) := by decide +kernel
theorem dL_makes_111 : decode cL_makes 111 = .ok (.iconst 4, 1) := by decide +kernel
theorem dL_makes_112 : decode cL_makes 112 = .ok (.invokestatic 174, 3) := by decide +kernel
theorem dL_makes_115 : decode cL_makes 115 = .ok (.if_icmp .ge 44, 3) := by decide +kernel
theorem dL_makes_118 : decode cL_makes 118 = .ok (.aload_n 0, 1) := by decide +kernel
theorem dL_makes_119 : decode cL_makes 119 = .ok (.iload 4, 2) := by decide +kernel
theorem dL_makes_121 : decode cL_makes 121 = .ok (.iload 5, 2) := by decide +kernel
theorem dL_makes_123 : decode cL_makes 123 = .ok (.bipush 17, 2) := by decide +kernel
theorem dL_makes_125 : decode cL_makes 125 = .ok (.iload 6, 2) := by decide +kernel
theorem dL_makes_127 : decode cL_makes 127 = .ok (.iadd, 1) := by decide +kernel
theorem dL_makes_128 : decode cL_makes 128 = .ok (.ishr, 1) := by decide +kernel
theorem dL_makes_129 : decode cL_makes 129 = .ok (.iconst 1, 1) := by decide +kernel
theorem dL_makes_130 : decode cL_makes 130 = .ok (.iand, 1) := by decide +kernel
theorem dL_makes_131 : decode cL_makes 131 = .ok (.ifCond .ne 8, 3) := by decide +kernel
theorem dL_makes_134 : decode cL_makes 134 = .ok (.bipush 118, 2) := by decide +kernel
theorem dL_makes_136 : decode cL_makes 136 = .ok (.goto 5, 3) := by decide +kernel
theorem dL_makes_139 : decode cL_makes 139 = .ok (.bipush 109, 2) := by decide +kernel
theorem dL_makes_141 : decode cL_makes 141 = .ok (.invokestatic 182, 3) := by decide +kernel
theorem dL_makes_144 : decode cL_makes 144 = .ok (.iload 6, 2) := by decide +kernel
theorem dL_makes_146 : decode cL_makes 146 = .ok (.iconst 1, 1) := by decide +kernel
theorem dL_makes_147 : decode cL_makes 147 = .ok (.iadd, 1) := by decide +kernel
theorem dL_makes_148 : decode cL_makes 148 = .ok (.if_icmp .eq 5, 3) := by decide +kernel
theorem dL_makes_151 : decode cL_makes 151 = .ok (.iconst 0, 1) := by decide +kernel
theorem dL_makes_152 : decode cL_makes 152 = .ok (.ireturn, 1) := by decide +kernel
theorem dL_makes_153 : decode cL_makes 153 = .ok (.iinc 6 1, 3) := by decide +kernel
theorem dL_makes_156 : decode cL_makes 156 = .ok (.goto (-52), 3) := by decide +kernel
theorem dL_makes_159 : decode cL_makes 159 = .ok (.iinc 4 1, 3) := by decide +kernel
theorem dL_makes_162 : decode cL_makes 162 = .ok (.goto (-134), 3) := by decide +kernel
theorem dL_makes_165 : decode cL_makes 165 = .ok (.iconst 0, 1) := by decide +kernel
theorem dL_makes_166 : decode cL_makes 166 = .ok (.istore 4, 2) := by decide +kernel
theorem dL_makes_168 : decode cL_makes 168 = .ok (.iload 4, 2) := by decide +kernel
theorem dL_makes_170 : decode cL_makes 170 = .ok (.iload_n 2, 1) := by decide +kernel
theorem dL_makes_171 : decode cL_makes 171 = .ok (.if_icmp .ge 66, 3) := by decide +kernel
theorem dL_makes_174 : decode cL_makes 174 = .ok (.aload_n 1, 1) := by decide +kernel
theorem dL_makes_175 : decode cL_makes 175 = .ok (.bipush 12, 2) := by decide +kernel
theorem dL_makes_177 : decode cL_makes 177 = .ok (.iload 4, 2) := by decide +kernel
theorem dL_makes_179 : decode cL_makes 179 = .ok (.iadd, 1) := by decide +kernel
theorem dL_makes_180 : decode cL_makes 180 = .ok (.invokestatic 170, 3) := by decide +kernel
theorem dL_makes_183 : decode cL_makes 183 = .ok (.istore 5, 2) := by decide +kernel
theorem dL_makes_185 : decode cL_makes 185 = .ok (.aload_n 0, 1) := by decide +kernel
theorem dL_makes_186 : decode cL_makes 186 = .ok (.iload 4, 2) := by decide +kernel
theorem dL_makes_188 : decode cL_makes 188 = .ok (.iload 5, 2) := by decide +kernel
theorem dL_makes_190 : decode cL_makes 190 = .ok (.bipush 9, 2) := by decide +kernel
theorem dL_makes_192 : decode cL_makes 192 = .ok (.invokestatic 174, 3) := by decide +kernel
theorem dL_makes_195 : decode cL_makes 195 = .ok (.iload 5, 2) := by decide +kernel
theorem dL_makes_197 : decode cL_makes 197 = .ok (.iconst 4, 1) := by decide +kernel
theorem dL_makes_198 : decode cL_makes 198 = .ok (.ishr, 1) := by decide +kernel
theorem dL_makes_199 : decode cL_makes 199 = .ok (.iconst 4, 1) := by decide +kernel
theorem dL_makes_200 : decode cL_makes 200 = .ok (.invokestatic 174, 3) := by decide +kernel
theorem dL_makes_203 : decode cL_makes 203 = .ok (.invokestatic 185, 3) := by decide +kernel
theorem dL_makes_206 : decode cL_makes 206 = .ok (.istore 6, 2) := by decide +kernel
theorem dL_makes_208 : decode cL_makes 208 = .ok (.iload 6, 2) := by decide +kernel
theorem dL_makes_210 : decode cL_makes 210 = .ok (.ifCond .ge 21, 3) := by decide +kernel
theorem dL_makes_213 : decode cL_makes 213 = .ok (.iload 6, 2) := by decide +kernel
theorem dL_makes_215 : decode cL_makes 215 = .ok (.sipush (-1003), 3) := by decide +kernel
theorem dL_makes_218 : decode cL_makes 218 = .ok (.if_icmp .eq 13, 3) := by decide +kernel
theorem dL_makes_221 : decode cL_makes 221 = .ok (.iload 6, 2) := by decide +kernel
theorem dL_makes_223 : decode cL_makes 223 = .ok (.sipush (-1004), 3) := by decide +kernel
theorem dL_makes_226 : decode cL_makes 226 = .ok (.if_icmp .eq 5, 3) := by decide +kernel
theorem dL_makes_229 : decode cL_makes 229 = .ok (.iconst 0, 1) := by decide +kernel
theorem dL_makes_230 : decode cL_makes 230 = .ok (.ireturn, 1) := by decide +kernel
theorem dL_makes_231 : decode cL_makes 231 = .ok (.iinc 4 1, 3) := by decide +kernel
theorem dL_makes_234 : decode cL_makes 234 = .ok (.goto (-66), 3) := by decide +kernel
theorem dL_makes_237 : decode cL_makes 237 = .ok (.aload_n 0, 1) := by decide +kernel
theorem dL_makes_238 : decode cL_makes 238 = .ok (.iconst 1, 1) := by decide +kernel
theorem dL_makes_239 : decode cL_makes 239 = .ok (.aload_n 1, 1) := by decide +kernel
theorem dL_makes_240 : decode cL_makes 240 = .ok (.bipush 22, 2) := by decide +kernel
theorem dL_makes_242 : decode cL_makes 242 = .ok (.invokestatic 170, 3) := by decide +kernel
theorem dL_makes_245 : decode cL_makes 245 = .ok (.bipush 20, 2) := by decide +kernel
theorem dL_makes_247 : decode cL_makes 247 = .ok (.invokestatic 174, 3) := by decide +kernel
theorem dL_makes_250 : decode cL_makes 250 = .ok (.iadd, 1) := by decide +kernel
theorem dL_makes_251 : decode cL_makes 251 = .ok (.invokestatic 188, 3) := by decide +kernel
theorem dL_makes_254 : decode cL_makes 254 = .ok (.ifCond .le 7, 3) := by decide +kernel
theorem dL_makes_257 : decode cL_makes 257 = .ok (.iconst 1, 1) := by decide +kernel
theorem dL_makes_258 : decode cL_makes 258 = .ok (.goto 4, 3) := by decide +kernel
theorem dL_makes_261 : decode cL_makes 261 = .ok (.iconst 0, 1) := by decide +kernel
theorem dL_makes_262 : decode cL_makes 262 = .ok (.ireturn, 1) := by decide +kernel
theorem dL_asks_0 : decode cL_asks 0 = .ok (.aload_n 0, 1) := by decide +kernel
theorem dL_asks_1 : decode cL_asks 1 = .ok (.invokevirtual 190, 3) := by decide +kernel
theorem dL_asks_4 : decode cL_asks 4 = .ok (.istore_n 1, 1) := by decide +kernel
theorem dL_asks_5 : decode cL_asks 5 = .ok (.ldc2_w 193, 3) := by decide +kernel
theorem dL_asks_8 : decode cL_asks 8 = .ok (.aload_n 0, 1) := by decide +kernel
theorem dL_asks_9 : decode cL_asks 9 = .ok (.invokestatic 195, 3) := by decide +kernel
theorem dL_asks_12 : decode cL_asks 12 = .ok (.invokestatic 198, 3) := by decide +kernel
theorem dL_asks_15 : decode cL_asks 15 = .ok (.lmul, 1) := by decide +kernel
theorem dL_asks_16 : decode cL_asks 16 = .ok (.aload_n 0, 1) := by decide +kernel
theorem dL_asks_17 : decode cL_asks 17 = .ok (.invokevirtual 204, 3) := by decide +kernel
theorem dL_asks_20 : decode cL_asks 20 = .ok (.invokestatic 208, 3) := by decide +kernel
theorem dL_asks_23 : decode cL_asks 23 = .ok (.i2l, 1) := by decide +kernel
theorem dL_asks_24 : decode cL_asks 24 = .ok (.ladd, 1) := by decide +kernel
theorem dL_asks_25 : decode cL_asks 25 = .ok (.lstore_n 2, 1) := by decide +kernel
theorem dL_asks_26 : decode cL_asks 26 = .ok (.ldc2_w 193, 3) := by decide +kernel
theorem dL_asks_29 : decode cL_asks 29 = .ok (.ldc2_w 193, 3) := by decide +kernel
theorem dL_asks_32 : decode cL_asks 32 = .ok (.ldc2_w 193, 3) := by decide +kernel
theorem dL_asks_35 : decode cL_asks 35 = .ok (.ldc2_w 193, 3) := by decide +kernel
theorem dL_asks_38 : decode cL_asks 38 = .ok (.ldc2_w 193, 3) := by decide +kernel
theorem dL_asks_41 : decode cL_asks 41 = .ok (.lload_n 2, 1) := by decide +kernel
theorem dL_asks_42 : decode cL_asks 42 = .ok (.lmul, 1) := by decide +kernel
theorem dL_asks_43 : decode cL_asks 43 = .ok (.iload_n 1, 1) := by decide +kernel
theorem dL_asks_44 : decode cL_asks 44 = .ok (.i2l, 1) := by decide +kernel
theorem dL_asks_45 : decode cL_asks 45 = .ok (.ladd, 1) := by decide +kernel
theorem dL_asks_46 : decode cL_asks 46 = .ok (.lmul, 1) := by decide +kernel
theorem dL_asks_47 : decode cL_asks 47 = .ok (.aload_n 0, 1) := by decide +kernel
theorem dL_asks_48 : decode cL_asks 48 = .ok (.invokevirtual 214, 3) := by decide +kernel
theorem dL_asks_51 : decode cL_asks 51 = .ok (.i2l, 1) := by decide +kernel
theorem dL_asks_52 : decode cL_asks 52 = .ok (.ladd, 1) := by decide +kernel
theorem dL_asks_53 : decode cL_asks 53 = .ok (.lmul, 1) := by decide +kernel
theorem dL_asks_54 : decode cL_asks 54 = .ok (.aload_n 0, 1) := by decide +kernel
theorem dL_asks_55 : decode cL_asks 55 = .ok (.invokevirtual 217, 3) := by decide +kernel
theorem dL_asks_58 : decode cL_asks 58 = .ok (.i2l, 1) := by decide +kernel
theorem dL_asks_59 : decode cL_asks 59 = .ok (.ladd, 1) := by decide +kernel
theorem dL_asks_60 : decode cL_asks 60 = .ok (.lmul, 1) := by decide +kernel
theorem dL_asks_61 : decode cL_asks 61 = .ok (.aload_n 0, 1) := by decide +kernel
theorem dL_asks_62 : decode cL_asks 62 = .ok (.invokevirtual 220, 3) := by decide +kernel
theorem dL_asks_65 : decode cL_asks 65 = .ok (.i2l, 1) := by decide +kernel
theorem dL_asks_66 : decode cL_asks 66 = .ok (.ladd, 1) := by decide +kernel
theorem dL_asks_67 : decode cL_asks 67 = .ok (.lmul, 1) := by decide +kernel
theorem dL_asks_68 : decode cL_asks 68 = .ok (.aload_n 0, 1) := by decide +kernel
theorem dL_asks_69 : decode cL_asks 69 = .ok (.invokevirtual 223, 3) := by decide +kernel
theorem dL_asks_72 : decode cL_asks 72 = .ok (.i2l, 1) := by decide +kernel
theorem dL_asks_73 : decode cL_asks 73 = .ok (.ladd, 1) := by decide +kernel
theorem dL_asks_74 : decode cL_asks 74 = .ok (.lstore_n 2, 1) := by decide +kernel
theorem dL_asks_75 : decode cL_asks 75 = .ok (.ldc2_w 193, 3) := by decide +kernel
theorem dL_asks_78 : decode cL_asks 78 = .ok (.ldc2_w 193, 3) := by decide +kernel
theorem dL_asks_81 : decode cL_asks 81 = .ok (.ldc2_w 193, 3) := by decide +kernel
theorem dL_asks_84 : decode cL_asks 84 = .ok (.lload_n 2, 1) := by decide +kernel
theorem dL_asks_85 : decode cL_asks 85 = .ok (.lmul, 1) := by decide +kernel
theorem dL_asks_86 : decode cL_asks 86 = .ok (.aload_n 0, 1) := by decide +kernel
theorem dL_asks_87 : decode cL_asks 87 = .ok (.invokevirtual 226, 3) := by decide +kernel
theorem dL_asks_90 : decode cL_asks 90 = .ok (.i2l, 1) := by decide +kernel
theorem dL_asks_91 : decode cL_asks 91 = .ok (.ladd, 1) := by decide +kernel
theorem dL_asks_92 : decode cL_asks 92 = .ok (.lmul, 1) := by decide +kernel
theorem dL_asks_93 : decode cL_asks 93 = .ok (.aload_n 0, 1) := by decide +kernel
theorem dL_asks_94 : decode cL_asks 94 = .ok (.invokevirtual 229, 3) := by decide +kernel
theorem dL_asks_97 : decode cL_asks 97 = .ok (.i2l, 1) := by decide +kernel
theorem dL_asks_98 : decode cL_asks 98 = .ok (.ladd, 1) := by decide +kernel
theorem dL_asks_99 : decode cL_asks 99 = .ok (.lmul, 1) := by decide +kernel
theorem dL_asks_100 : decode cL_asks 100 = .ok (.aload_n 0, 1) := by decide +kernel
theorem dL_asks_101 : decode cL_asks 101 = .ok (.invokestatic 232, 3) := by decide +kernel
theorem dL_asks_104 : decode cL_asks 104 = .ok (.i2l, 1) := by decide +kernel
theorem dL_asks_105 : decode cL_asks 105 = .ok (.ladd, 1) := by decide +kernel
theorem dL_asks_106 : decode cL_asks 106 = .ok (.lstore_n 2, 1) := by decide +kernel
theorem dL_asks_107 : decode cL_asks 107 = .ok (.aload_n 0, 1) := by decide +kernel
theorem dL_asks_108 : decode cL_asks 108 = .ok (.invokevirtual 234, 3) := by decide +kernel
theorem dL_asks_111 : decode cL_asks 111 = .ok (.istore 4, 2) := by decide +kernel
theorem dL_asks_113 : decode cL_asks 113 = .ok (.iconst 0, 1) := by decide +kernel
theorem dL_asks_114 : decode cL_asks 114 = .ok (.istore 5, 2) := by decide +kernel
theorem dL_asks_116 : decode cL_asks 116 = .ok (.iload 5, 2) := by decide +kernel
theorem dL_asks_118 : decode cL_asks 118 = .ok (.iload 4, 2) := by decide +kernel
theorem dL_asks_120 : decode cL_asks 120 = .ok (.if_icmp .ge 23, 3) := by decide +kernel
theorem dL_asks_123 : decode cL_asks 123 = .ok (.ldc2_w 193, 3) := by decide +kernel
theorem dL_asks_126 : decode cL_asks 126 = .ok (.lload_n 2, 1) := by decide +kernel
theorem dL_asks_127 : decode cL_asks 127 = .ok (.lmul, 1) := by decide +kernel
theorem dL_asks_128 : decode cL_asks 128 = .ok (.aload_n 0, 1) := by decide +kernel
theorem dL_asks_129 : decode cL_asks 129 = .ok (.iload 5, 2) := by decide +kernel
theorem dL_asks_131 : decode cL_asks 131 = .ok (.invokestatic 167, 3) := by decide +kernel
theorem dL_asks_134 : decode cL_asks 134 = .ok (.i2l, 1) := by decide +kernel
theorem dL_asks_135 : decode cL_asks 135 = .ok (.ladd, 1) := by decide +kernel
theorem dL_asks_136 : decode cL_asks 136 = .ok (.lstore_n 2, 1) := by decide +kernel
theorem dL_asks_137 : decode cL_asks 137 = .ok (.iinc 5 1, 3) := by decide +kernel
theorem dL_asks_140 : decode cL_asks 140 = .ok (.goto (-24), 3) := by decide +kernel
theorem dL_asks_143 : decode cL_asks 143 = .ok (.iconst 0, 1) := by decide +kernel
theorem dL_asks_144 : decode cL_asks 144 = .ok (.istore 5, 2) := by decide +kernel
theorem dL_asks_146 : decode cL_asks 146 = .ok (.iload 5, 2) := by decide +kernel
theorem dL_asks_148 : decode cL_asks 148 = .ok (.iload_n 1, 1) := by decide +kernel
theorem dL_asks_149 : decode cL_asks 149 = .ok (.if_icmp .ge 99, 3) := by decide +kernel
theorem dL_asks_152 : decode cL_asks 152 = .ok (.ldc2_w 193, 3) := by decide +kernel
theorem dL_asks_155 : decode cL_asks 155 = .ok (.ldc2_w 193, 3) := by decide +kernel
theorem dL_asks_158 : decode cL_asks 158 = .ok (.ldc2_w 193, 3) := by decide +kernel
theorem dL_asks_161 : decode cL_asks 161 = .ok (.lload_n 2, 1) := by decide +kernel
theorem dL_asks_162 : decode cL_asks 162 = .ok (.lmul, 1) := by decide +kernel
theorem dL_asks_163 : decode cL_asks 163 = .ok (.aload_n 0, 1) := by decide +kernel
theorem dL_asks_164 : decode cL_asks 164 = .ok (.iload 5, 2) := by decide +kernel
theorem dL_asks_166 : decode cL_asks 166 = .ok (.invokestatic 237, 3) := by decide +kernel
theorem dL_asks_169 : decode cL_asks 169 = .ok (.i2l, 1) := by decide +kernel
theorem dL_asks_170 : decode cL_asks 170 = .ok (.ladd, 1) := by decide +kernel
theorem dL_asks_171 : decode cL_asks 171 = .ok (.lmul, 1) := by decide +kernel
theorem dL_asks_172 : decode cL_asks 172 = .ok (.aload_n 0, 1) := by decide +kernel
theorem dL_asks_173 : decode cL_asks 173 = .ok (.iload 5, 2) := by decide +kernel
theorem dL_asks_175 : decode cL_asks 175 = .ok (.invokestatic 239, 3) := by decide +kernel
theorem dL_asks_178 : decode cL_asks 178 = .ok (.i2l, 1) := by decide +kernel
theorem dL_asks_179 : decode cL_asks 179 = .ok (.ladd, 1) := by decide +kernel
theorem dL_asks_180 : decode cL_asks 180 = .ok (.lmul, 1) := by decide +kernel
theorem dL_asks_181 : decode cL_asks 181 = .ok (.aload_n 0, 1) := by decide +kernel
theorem dL_asks_182 : decode cL_asks 182 = .ok (.iload 5, 2) := by decide +kernel
theorem dL_asks_184 : decode cL_asks 184 = .ok (.invokestatic 242, 3) := by decide +kernel
theorem dL_asks_187 : decode cL_asks 187 = .ok (.iconst 4, 1) := by decide +kernel
theorem dL_asks_188 : decode cL_asks 188 = .ok (.if_icmp .ge 12, 3) := by decide +kernel
theorem dL_asks_191 : decode cL_asks 191 = .ok (.aload_n 0, 1) := by decide +kernel
theorem dL_asks_192 : decode cL_asks 192 = .ok (.iload 5, 2) := by decide +kernel
theorem dL_asks_194 : decode cL_asks 194 = .ok (.invokestatic 244, 3) := by decide +kernel
theorem dL_asks_197 : decode cL_asks 197 = .ok (.goto 4, 3) := by decide +kernel
theorem dL_asks_200 : decode cL_asks 200 = .ok (.iconst 0, 1) := by decide +kernel
theorem dL_asks_201 : decode cL_asks 201 = .ok (.i2l, 1) := by decide +kernel
theorem dL_asks_202 : decode cL_asks 202 = .ok (.ladd, 1) := by decide +kernel
theorem dL_asks_203 : decode cL_asks 203 = .ok (.lstore_n 2, 1) := by decide +kernel
theorem dL_asks_204 : decode cL_asks 204 = .ok (.aload_n 0, 1) := by decide +kernel
theorem dL_asks_205 : decode cL_asks 205 = .ok (.iload 5, 2) := by decide +kernel
theorem dL_asks_207 : decode cL_asks 207 = .ok (.invokestatic 246, 3) := by decide +kernel
theorem dL_asks_210 : decode cL_asks 210 = .ok (.istore 4, 2) := by decide +kernel
theorem dL_asks_212 : decode cL_asks 212 = .ok (.iconst 0, 1) := by decide +kernel
theorem dL_asks_213 : decode cL_asks 213 = .ok (.istore 6, 2) := by decide +kernel
theorem dL_asks_215 : decode cL_asks 215 = .ok (.iload 6, 2) := by decide +kernel
theorem dL_asks_217 : decode cL_asks 217 = .ok (.iload 4, 2) := by decide +kernel
theorem dL_asks_219 : decode cL_asks 219 = .ok (.if_icmp .ge 23, 3) := by decide +kernel
theorem dL_asks_222 : decode cL_asks 222 = .ok (.ldc2_w 193, 3) := by decide +kernel
theorem dL_asks_225 : decode cL_asks 225 = .ok (.lload_n 2, 1) := by decide +kernel
theorem dL_asks_226 : decode cL_asks 226 = .ok (.lmul, 1) := by decide +kernel
theorem dL_asks_227 : decode cL_asks 227 = .ok (.aload_n 0, 1) := by decide +kernel
theorem dL_asks_228 : decode cL_asks 228 = .ok (.iload 6, 2) := by decide +kernel
theorem dL_asks_230 : decode cL_asks 230 = .ok (.invokestatic 167, 3) := by decide +kernel
theorem dL_asks_233 : decode cL_asks 233 = .ok (.i2l, 1) := by decide +kernel
theorem dL_asks_234 : decode cL_asks 234 = .ok (.ladd, 1) := by decide +kernel
theorem dL_asks_235 : decode cL_asks 235 = .ok (.lstore_n 2, 1) := by decide +kernel
theorem dL_asks_236 : decode cL_asks 236 = .ok (.iinc 6 1, 3) := by decide +kernel
theorem dL_asks_239 : decode cL_asks 239 = .ok (.goto (-24), 3) := by decide +kernel
theorem dL_asks_242 : decode cL_asks 242 = .ok (.iinc 5 1, 3) := by decide +kernel
theorem dL_asks_245 : decode cL_asks 245 = .ok (.goto (-99), 3) := by decide +kernel
theorem dL_asks_248 : decode cL_asks 248 = .ok (.lload_n 2, 1) := by decide +kernel
theorem dL_asks_249 : decode cL_asks 249 = .ok (.lreturn, 1) := by decide +kernel
theorem dL_changes_0 : decode cL_changes 0 = .ok (.iload_n 1, 1) := by decide +kernel
theorem dL_changes_1 : decode cL_changes 1 = .ok (.iconst 4, 1) := by decide +kernel
theorem dL_changes_2 : decode cL_changes 2 = .ok (.ishr, 1) := by decide +kernel
theorem dL_changes_3 : decode cL_changes 3 = .ok (.bipush 10, 2) := by decide +kernel
theorem dL_changes_5 : decode cL_changes 5 = .ok (.invokestatic 174, 3) := by decide +kernel
theorem dL_changes_8 : decode cL_changes 8 = .ok (.istore_n 2, 1) := by decide +kernel
theorem dL_changes_9 : decode cL_changes 9 = .ok (.iload_n 1, 1) := by decide +kernel
theorem dL_changes_10 : decode cL_changes 10 = .ok (.bipush 8, 2) := by decide +kernel
theorem dL_changes_12 : decode cL_changes 12 = .ok (.ishr, 1) := by decide +kernel
theorem dL_changes_13 : decode cL_changes 13 = .ok (.bipush 10, 2) := by decide +kernel
theorem dL_changes_15 : decode cL_changes 15 = .ok (.invokestatic 174, 3) := by decide +kernel
theorem dL_changes_18 : decode cL_changes 18 = .ok (.istore_n 3, 1) := by decide +kernel
theorem dL_changes_19 : decode cL_changes 19 = .ok (.iload_n 1, 1) := by decide +kernel
theorem dL_changes_20 : decode cL_changes 20 = .ok (.bipush 24, 2) := by decide +kernel
theorem dL_changes_22 : decode cL_changes 22 = .ok (.invokestatic 174, 3) := by decide +kernel
theorem dL_changes_25 : decode cL_changes 25 = .ok (.tableswitch 319 0 17 #[87, 144, 144, 144, 171, 171, 171, 185, 185, 199, 199, 213, 213, 234, 234, 234, 248, 248], 87) := by decide +kernel
theorem dL_changes_112 : decode cL_changes 112 = .ok (.aload_n 0, 1) := by decide +kernel
theorem dL_changes_113 : decode cL_changes 113 = .ok (.iload_n 1, 1) := by decide +kernel
theorem dL_changes_114 : decode cL_changes 114 = .ok (.iconst 4, 1) := by decide +kernel
theorem dL_changes_115 : decode cL_changes 115 = .ok (.ishr, 1) := by decide +kernel
theorem dL_changes_116 : decode cL_changes 116 = .ok (.bipush 11, 2) := by decide +kernel
theorem dL_changes_118 : decode cL_changes 118 = .ok (.invokestatic 174, 3) := by decide +kernel
theorem dL_changes_121 : decode cL_changes 121 = .ok (.iload_n 1, 1) := by decide +kernel
theorem dL_changes_122 : decode cL_changes 122 = .ok (.iconst 5, 1) := by decide +kernel
theorem dL_changes_123 : decode cL_changes 123 = .ok (.ishr, 1) := by decide +kernel
theorem dL_changes_124 : decode cL_changes 124 = .ok (.iconst 3, 1) := by decide +kernel
theorem dL_changes_125 : decode cL_changes 125 = .ok (.invokestatic 174, 3) := by decide +kernel
theorem dL_changes_128 : decode cL_changes 128 = .ok (.iload_n 1, 1) := by decide +kernel
theorem dL_changes_129 : decode cL_changes 129 = .ok (.bipush 7, 2) := by decide +kernel
theorem dL_changes_131 : decode cL_changes 131 = .ok (.ishr, 1) := by decide +kernel
theorem dL_changes_132 : decode cL_changes 132 = .ok (.iconst 3, 1) := by decide +kernel
theorem dL_changes_133 : decode cL_changes 133 = .ok (.invokestatic 174, 3) := by decide +kernel
theorem dL_changes_136 : decode cL_changes 136 = .ok (.iload_n 1, 1) := by decide +kernel
theorem dL_changes_137 : decode cL_changes 137 = .ok (.bipush 9, 2) := by decide +kernel
theorem dL_changes_139 : decode cL_changes 139 = .ok (.ishr, 1) := by decide +kernel
theorem dL_changes_140 : decode cL_changes 140 = .ok (.iconst 3, 1) := by decide +kernel
theorem dL_changes_141 : decode cL_changes 141 = .ok (.invokestatic 174, 3) := by decide +kernel
theorem dL_changes_144 : decode cL_changes 144 = .ok (.ldc 248, 2) := by decide +kernel
theorem dL_changes_146 : decode cL_changes 146 = .ok (.iload_n 1, 1) := by decide +kernel
theorem dL_changes_147 : decode cL_changes 147 = .ok (.bipush 11, 2) := by decide +kernel
theorem dL_changes_149 : decode cL_changes 149 = .ok (.ishr, 1) := by decide +kernel
theorem dL_changes_150 : decode cL_changes 150 = .ok (.iconst 4, 1) := by decide +kernel
theorem dL_changes_151 : decode cL_changes 151 = .ok (.invokestatic 174, 3) := by decide +kernel
theorem dL_changes_154 : decode cL_changes 154 = .ok (.invokevirtual 155, 3) := by decide +kernel
theorem dL_changes_157 : decode cL_changes 157 = .ok (.invokestatic 179, 3) := by decide +kernel
theorem dL_changes_160 : decode cL_changes 160 = .ok (.ifCond .lt 7, 3) := by decide +kernel
theorem dL_changes_163 : decode cL_changes 163 = .ok (.iconst 1, 1) := by decide +kernel
theorem dL_changes_164 : decode cL_changes 164 = .ok (.goto 4, 3) := by decide +kernel
theorem dL_changes_167 : decode cL_changes 167 = .ok (.iconst 0, 1) := by decide +kernel
theorem dL_changes_168 : decode cL_changes 168 = .ok (.ireturn, 1) := by decide +kernel
theorem dL_changes_169 : decode cL_changes 169 = .ok (.aload_n 0, 1) := by decide +kernel
theorem dL_changes_170 : decode cL_changes 170 = .ok (.iload_n 2, 1) := by decide +kernel
theorem dL_changes_171 : decode cL_changes 171 = .ok (.ldc 250, 2) := by decide +kernel
theorem dL_changes_173 : decode cL_changes 173 = .ok (.iload_n 1, 1) := by decide +kernel
theorem dL_changes_174 : decode cL_changes 174 = .ok (.bipush 8, 2) := by decide +kernel
theorem dL_changes_176 : decode cL_changes 176 = .ok (.ishr, 1) := by decide +kernel
theorem dL_changes_177 : decode cL_changes 177 = .ok (.iconst 3, 1) := by decide +kernel
theorem dL_changes_178 : decode cL_changes 178 = .ok (.invokestatic 174, 3) := by decide +kernel
theorem dL_changes_181 : decode cL_changes 181 = .ok (.invokevirtual 155, 3) := by decide +kernel
theorem dL_changes_184 : decode cL_changes 184 = .ok (.invokestatic 182, 3) := by decide +kernel
theorem dL_changes_187 : decode cL_changes 187 = .ok (.ifCond .lt 7, 3) := by decide +kernel
theorem dL_changes_190 : decode cL_changes 190 = .ok (.iconst 1, 1) := by decide +kernel
theorem dL_changes_191 : decode cL_changes 191 = .ok (.goto 4, 3) := by decide +kernel
theorem dL_changes_194 : decode cL_changes 194 = .ok (.iconst 0, 1) := by decide +kernel
theorem dL_changes_195 : decode cL_changes 195 = .ok (.ireturn, 1) := by decide +kernel
theorem dL_changes_196 : decode cL_changes 196 = .ok (.aload_n 0, 1) := by decide +kernel
theorem dL_changes_197 : decode cL_changes 197 = .ok (.iload_n 2, 1) := by decide +kernel
theorem dL_changes_198 : decode cL_changes 198 = .ok (.invokestatic 252, 3) := by decide +kernel
theorem dL_changes_201 : decode cL_changes 201 = .ok (.ifCond .lt 7, 3) := by decide +kernel
theorem dL_changes_204 : decode cL_changes 204 = .ok (.iconst 1, 1) := by decide +kernel
theorem dL_changes_205 : decode cL_changes 205 = .ok (.goto 4, 3) := by decide +kernel
theorem dL_changes_208 : decode cL_changes 208 = .ok (.iconst 0, 1) := by decide +kernel
theorem dL_changes_209 : decode cL_changes 209 = .ok (.ireturn, 1) := by decide +kernel
theorem dL_changes_210 : decode cL_changes 210 = .ok (.aload_n 0, 1) := by decide +kernel
theorem dL_changes_211 : decode cL_changes 211 = .ok (.iload_n 2, 1) := by decide +kernel
theorem dL_changes_212 : decode cL_changes 212 = .ok (.invokestatic 254, 3) := by decide +kernel
theorem dL_changes_215 : decode cL_changes 215 = .ok (.ifCond .lt 7, 3) := by decide +kernel
theorem dL_changes_218 : decode cL_changes 218 = .ok (.iconst 1, 1) := by decide +kernel
theorem dL_changes_219 : decode cL_changes 219 = .ok (.goto 4, 3) := by decide +kernel
theorem dL_changes_222 : decode cL_changes 222 = .ok (.iconst 0, 1) := by decide +kernel
theorem dL_changes_223 : decode cL_changes 223 = .ok (.ireturn, 1) := by decide +kernel
theorem dL_changes_224 : decode cL_changes 224 = .ok (.aload_n 0, 1) := by decide +kernel
theorem dL_changes_225 : decode cL_changes 225 = .ok (.iload_n 2, 1) := by decide +kernel
theorem dL_changes_226 : decode cL_changes 226 = .ok (.invokestatic 256, 3) := by decide +kernel
theorem dL_changes_229 : decode cL_changes 229 = .ok (.ifCond .lt 7, 3) := by decide +kernel
theorem dL_changes_232 : decode cL_changes 232 = .ok (.iconst 1, 1) := by decide +kernel
theorem dL_changes_233 : decode cL_changes 233 = .ok (.goto 4, 3) := by decide +kernel
theorem dL_changes_236 : decode cL_changes 236 = .ok (.iconst 0, 1) := by decide +kernel
theorem dL_changes_237 : decode cL_changes 237 = .ok (.ireturn, 1) := by decide +kernel
theorem dL_changes_238 : decode cL_changes 238 = .ok (.aload_n 0, 1) := by decide +kernel
theorem dL_changes_239 : decode cL_changes 239 = .ok (.iload_n 1, 1) := by decide +kernel
theorem dL_changes_240 : decode cL_changes 240 = .ok (.iconst 4, 1) := by decide +kernel
theorem dL_changes_241 : decode cL_changes 241 = .ok (.ishr, 1) := by decide +kernel
theorem dL_changes_242 : decode cL_changes 242 = .ok (.bipush 23, 2) := by decide +kernel
theorem dL_changes_244 : decode cL_changes 244 = .ok (.invokestatic 174, 3) := by decide +kernel
theorem dL_changes_247 : decode cL_changes 247 = .ok (.invokestatic 188, 3) := by decide +kernel
theorem dL_changes_250 : decode cL_changes 250 = .ok (.ifCond .lt 7, 3) := by decide +kernel
theorem dL_changes_253 : decode cL_changes 253 = .ok (.iconst 1, 1) := by decide +kernel
theorem dL_changes_254 : decode cL_changes 254 = .ok (.goto 4, 3) := by decide +kernel
theorem dL_changes_257 : decode cL_changes 257 = .ok (.iconst 0, 1) := by decide +kernel
theorem dL_changes_258 : decode cL_changes 258 = .ok (.ireturn, 1) := by decide +kernel
theorem dL_changes_259 : decode cL_changes 259 = .ok (.aload_n 0, 1) := by decide +kernel
theorem dL_changes_260 : decode cL_changes 260 = .ok (.iload_n 3, 1) := by decide +kernel
theorem dL_changes_261 : decode cL_changes 261 = .ok (.invokestatic 258, 3) := by decide +kernel
theorem dL_changes_264 : decode cL_changes 264 = .ok (.ifCond .lt 7, 3) := by decide +kernel
theorem dL_changes_267 : decode cL_changes 267 = .ok (.iconst 1, 1) := by decide +kernel
theorem dL_changes_268 : decode cL_changes 268 = .ok (.goto 4, 3) := by decide +kernel
theorem dL_changes_271 : decode cL_changes 271 = .ok (.iconst 0, 1) := by decide +kernel
theorem dL_changes_272 : decode cL_changes 272 = .ok (.ireturn, 1) := by decide +kernel
theorem dL_changes_273 : decode cL_changes 273 = .ok (.aload_n 0, 1) := by decide +kernel
theorem dL_changes_274 : decode cL_changes 274 = .ok (.iload_n 1, 1) := by decide +kernel
theorem dL_changes_275 : decode cL_changes 275 = .ok (.bipush 6, 2) := by decide +kernel
theorem dL_changes_277 : decode cL_changes 277 = .ok (.ishr, 1) := by decide +kernel
theorem dL_changes_278 : decode cL_changes 278 = .ok (.iconst 1, 1) := by decide +kernel
theorem dL_changes_279 : decode cL_changes 279 = .ok (.iand, 1) := by decide +kernel
theorem dL_changes_280 : decode cL_changes 280 = .ok (.ifCond .ne 26, 3) := by decide +kernel
theorem dL_changes_283 : decode cL_changes 283 = .ok (.new 260, 3) := by decide +kernel
theorem dL_changes_286 : decode cL_changes 286 = .ok (.dup, 1) := by decide +kernel
theorem dL_changes_287 : decode cL_changes 287 = .ok (.invokespecial 262, 3) := by decide +kernel
theorem dL_changes_290 : decode cL_changes 290 = .ok (.ldc_w 263, 3) := by decide +kernel
theorem dL_changes_293 : decode cL_changes 293 = .ok (.invokevirtual 265, 3) := by decide +kernel
theorem dL_changes_296 : decode cL_changes 296 = .ok (.iload_n 2, 1) := by decide +kernel
theorem dL_changes_297 : decode cL_changes 297 = .ok (.invokevirtual 269, 3) := by decide +kernel
theorem dL_changes_300 : decode cL_changes 300 = .ok (.invokevirtual 272, 3) := by decide +kernel
theorem dL_changes_303 : decode cL_changes 303 = .ok (.goto 29, 3) := by decide +kernel
theorem dL_changes_306 : decode cL_changes 306 = .ok (.new 260, 3) := by decide +kernel
theorem dL_changes_309 : decode cL_changes 309 = .ok (.dup, 1) := by decide +kernel
theorem dL_changes_310 : decode cL_changes 310 = .ok (.invokespecial 262, 3) := by decide +kernel
theorem dL_changes_313 : decode cL_changes 313 = .ok (.ldc_w 276, 3) := by decide +kernel
theorem dL_changes_316 : decode cL_changes 316 = .ok (.invokevirtual 265, 3) := by decide +kernel
theorem dL_changes_319 : decode cL_changes 319 = .ok (.iload_n 2, 1) := by decide +kernel
theorem dL_changes_320 : decode cL_changes 320 = .ok (.invokevirtual 269, 3) := by decide +kernel
theorem dL_changes_323 : decode cL_changes 323 = .ok (.ldc_w 278, 3) := by decide +kernel
theorem dL_changes_326 : decode cL_changes 326 = .ok (.invokevirtual 265, 3) := by decide +kernel
theorem dL_changes_329 : decode cL_changes 329 = .ok (.invokevirtual 272, 3) := by decide +kernel
theorem dL_changes_332 : decode cL_changes 332 = .ok (.invokestatic 280, 3) := by decide +kernel
theorem dL_changes_335 : decode cL_changes 335 = .ok (.ifCond .lt 7, 3) := by decide +kernel
theorem dL_changes_338 : decode cL_changes 338 = .ok (.iconst 1, 1) := by decide +kernel
theorem dL_changes_339 : decode cL_changes 339 = .ok (.goto 4, 3) := by decide +kernel
theorem dL_changes_342 : decode cL_changes 342 = .ok (.iconst 0, 1) := by decide +kernel
theorem dL_changes_343 : decode cL_changes 343 = .ok (.ireturn, 1) := by decide +kernel
theorem dL_changes_344 : decode cL_changes 344 = .ok (.aload_n 0, 1) := by decide +kernel
theorem dL_changes_345 : decode cL_changes 345 = .ok (.iload_n 2, 1) := by decide +kernel
theorem dL_changes_346 : decode cL_changes 346 = .ok (.iload_n 3, 1) := by decide +kernel
theorem dL_changes_347 : decode cL_changes 347 = .ok (.iload_n 1, 1) := by decide +kernel
theorem dL_changes_348 : decode cL_changes 348 = .ok (.bipush 12, 2) := by decide +kernel
theorem dL_changes_350 : decode cL_changes 350 = .ok (.ishr, 1) := by decide +kernel
theorem dL_changes_351 : decode cL_changes 351 = .ok (.iconst 5, 1) := by decide +kernel
theorem dL_changes_352 : decode cL_changes 352 = .ok (.invokestatic 174, 3) := by decide +kernel
theorem dL_changes_355 : decode cL_changes 355 = .ok (.invokestatic 185, 3) := by decide +kernel
theorem dL_changes_358 : decode cL_changes 358 = .ok (.ifCond .lt 7, 3) := by decide +kernel
theorem dL_changes_361 : decode cL_changes 361 = .ok (.iconst 1, 1) := by decide +kernel
theorem dL_changes_362 : decode cL_changes 362 = .ok (.goto 4, 3) := by decide +kernel
theorem dL_changes_365 : decode cL_changes 365 = .ok (.iconst 0, 1) := by decide +kernel
theorem dL_changes_366 : decode cL_changes 366 = .ok (.ireturn, 1) := by decide +kernel
theorem dL_thrown_0 : decode cL_thrown 0 = .ok (.aload_n 0, 1) := by decide +kernel
theorem dL_thrown_1 : decode cL_thrown 1 = .ok (.invokestatic 284, 3) := by decide +kernel
theorem dL_thrown_4 : decode cL_thrown 4 = .ok (.lstore_n 1, 1) := by decide +kernel
theorem dL_thrown_5 : decode cL_thrown 5 = .ok (.aload_n 0, 1) := by decide +kernel
theorem dL_thrown_6 : decode cL_thrown 6 = .ok (.invokevirtual 190, 3) := by decide +kernel
theorem dL_thrown_9 : decode cL_thrown 9 = .ok (.istore_n 3, 1) := by decide +kernel
theorem dL_thrown_10 : decode cL_thrown 10 = .ok (.aload_n 0, 1) := by decide +kernel
theorem dL_thrown_11 : decode cL_thrown 11 = .ok (.invokevirtual 288, 3) := by decide +kernel
theorem dL_thrown_14 : decode cL_thrown 14 = .ok (.istore 4, 2) := by decide +kernel
theorem dL_thrown_16 : decode cL_thrown 16 = .ok (.aload_n 0, 1) := by decide +kernel
theorem dL_thrown_17 : decode cL_thrown 17 = .ok (.iconst (-1), 1) := by decide +kernel
theorem dL_thrown_18 : decode cL_thrown 18 = .ok (.iconst 0, 1) := by decide +kernel
theorem dL_thrown_19 : decode cL_thrown 19 = .ok (.iconst 0, 1) := by decide +kernel
theorem dL_thrown_20 : decode cL_thrown 20 = .ok (.iconst 0, 1) := by decide +kernel
theorem dL_thrown_21 : decode cL_thrown 21 = .ok (.bipush 115, 2) := by decide +kernel
theorem dL_thrown_23 : decode cL_thrown 23 = .ok (.invokestatic 179, 3) := by decide +kernel
theorem dL_thrown_26 : decode cL_thrown 26 = .ok (.sipush (-1001), 3) := by decide +kernel
theorem dL_thrown_29 : decode cL_thrown 29 = .ok (.if_icmp .ne 262, 3) := by decide +kernel
theorem dL_thrown_32 : decode cL_thrown 32 = .ok (.aload_n 0, 1) := by decide +kernel
theorem dL_thrown_33 : decode cL_thrown 33 = .ok (.iconst 0, 1) := by decide +kernel
theorem dL_thrown_34 : decode cL_thrown 34 = .ok (.bipush 10, 2) := by decide +kernel
theorem dL_thrown_36 : decode cL_thrown 36 = .ok (.iconst 0, 1) := by decide +kernel
theorem dL_thrown_37 : decode cL_thrown 37 = .ok (.iconst 0, 1) := by decide +kernel
theorem dL_thrown_38 : decode cL_thrown 38 = .ok (.bipush 115, 2) := by decide +kernel
theorem dL_thrown_40 : decode cL_thrown 40 = .ok (.invokestatic 179, 3) := by decide +kernel
theorem dL_thrown_43 : decode cL_thrown 43 = .ok (.sipush (-1001), 3) := by decide +kernel
theorem dL_thrown_46 : decode cL_thrown 46 = .ok (.if_icmp .ne 245, 3) := by decide +kernel
theorem dL_thrown_49 : decode cL_thrown 49 = .ok (.aload_n 0, 1) := by decide +kernel
theorem dL_thrown_50 : decode cL_thrown 50 = .ok (.iconst 0, 1) := by decide +kernel
theorem dL_thrown_51 : decode cL_thrown 51 = .ok (.iconst 0, 1) := by decide +kernel
theorem dL_thrown_52 : decode cL_thrown 52 = .ok (.iconst 0, 1) := by decide +kernel
theorem dL_thrown_53 : decode cL_thrown 53 = .ok (.bipush 10, 2) := by decide +kernel
theorem dL_thrown_55 : decode cL_thrown 55 = .ok (.bipush 108, 2) := by decide +kernel
theorem dL_thrown_57 : decode cL_thrown 57 = .ok (.invokestatic 179, 3) := by decide +kernel
theorem dL_thrown_60 : decode cL_thrown 60 = .ok (.sipush (-1001), 3) := by decide +kernel
theorem dL_thrown_63 : decode cL_thrown 63 = .ok (.if_icmp .ne 228, 3) := by decide +kernel
theorem dL_thrown_66 : decode cL_thrown 66 = .ok (.aload_n 0, 1) := by decide +kernel
theorem dL_thrown_67 : decode cL_thrown 67 = .ok (.iconst 0, 1) := by decide +kernel
theorem dL_thrown_68 : decode cL_thrown 68 = .ok (.iconst 0, 1) := by decide +kernel
theorem dL_thrown_69 : decode cL_thrown 69 = .ok (.iconst 0, 1) := by decide +kernel
theorem dL_thrown_70 : decode cL_thrown 70 = .ok (.iconst 0, 1) := by decide +kernel
theorem dL_thrown_71 : decode cL_thrown 71 = .ok (.bipush 83, 2) := by decide +kernel
theorem dL_thrown_73 : decode cL_thrown 73 = .ok (.invokestatic 179, 3) := by decide +kernel
theorem dL_thrown_76 : decode cL_thrown 76 = .ok (.sipush (-1001), 3) := by decide +kernel
theorem dL_thrown_79 : decode cL_thrown 79 = .ok (.if_icmp .ne 212, 3) := by decide +kernel
theorem dL_thrown_82 : decode cL_thrown 82 = .ok (.iload_n 3, 1) := by decide +kernel
theorem dL_thrown_83 : decode cL_thrown 83 = .ok (.bipush 9, 2) := by decide +kernel
theorem dL_thrown_85 : decode cL_thrown 85 = .ok (.if_icmp .lt 19, 3) := by decide +kernel
theorem dL_thrown_88 : decode cL_thrown 88 = .ok (.aload_n 0, 1) := by decide +kernel
theorem dL_thrown_89 : decode cL_thrown 89 = .ok (.iconst 0, 1) := by decide +kernel
theorem dL_thrown_90 : decode cL_thrown 90 = .ok (.iconst 0, 1) := by decide +kernel
theorem dL_thrown_91 : decode cL_thrown 91 = .ok (.iconst 0, 1) := by decide +kernel
theorem dL_thrown_92 : decode cL_thrown 92 = .ok (.iconst 0, 1) := by decide +kernel
theorem dL_thrown_93 : decode cL_thrown 93 = .ok (.bipush 115, 2) := by decide +kernel
theorem dL_thrown_95 : decode cL_thrown 95 = .ok (.invokestatic 179, 3) := by decide +kernel
theorem dL_thrown_98 : decode cL_thrown 98 = .ok (.sipush (-1002), 3) := by decide +kernel
theorem dL_thrown_101 : decode cL_thrown 101 = .ok (.if_icmp .ne 190, 3) := by decide +kernel
theorem dL_thrown_104 : decode cL_thrown 104 = .ok (.aload_n 0, 1) := by decide +kernel
theorem dL_thrown_105 : decode cL_thrown 105 = .ok (.iload_n 3, 1) := by decide +kernel
theorem dL_thrown_106 : decode cL_thrown 106 = .ok (.bipush 120, 2) := by decide +kernel
theorem dL_thrown_108 : decode cL_thrown 108 = .ok (.invokestatic 182, 3) := by decide +kernel
theorem dL_thrown_111 : decode cL_thrown 111 = .ok (.sipush (-1001), 3) := by decide +kernel
theorem dL_thrown_114 : decode cL_thrown 114 = .ok (.if_icmp .ne 177, 3) := by decide +kernel
theorem dL_thrown_117 : decode cL_thrown 117 = .ok (.aload_n 0, 1) := by decide +kernel
theorem dL_thrown_118 : decode cL_thrown 118 = .ok (.iconst 0, 1) := by decide +kernel
theorem dL_thrown_119 : decode cL_thrown 119 = .ok (.bipush 120, 2) := by decide +kernel
theorem dL_thrown_121 : decode cL_thrown 121 = .ok (.invokestatic 182, 3) := by decide +kernel
theorem dL_thrown_124 : decode cL_thrown 124 = .ok (.sipush (-1002), 3) := by decide +kernel
theorem dL_thrown_127 : decode cL_thrown 127 = .ok (.if_icmp .ne 164, 3) := by decide +kernel
theorem dL_thrown_130 : decode cL_thrown 130 = .ok (.aload_n 0, 1) := by decide +kernel
theorem dL_thrown_131 : decode cL_thrown 131 = .ok (.iload_n 3, 1) := by decide +kernel
theorem dL_thrown_132 : decode cL_thrown 132 = .ok (.invokestatic 252, 3) := by decide +kernel
theorem dL_thrown_135 : decode cL_thrown 135 = .ok (.sipush (-1001), 3) := by decide +kernel
theorem dL_thrown_138 : decode cL_thrown 138 = .ok (.if_icmp .ne 153, 3) := by decide +kernel
theorem dL_thrown_141 : decode cL_thrown 141 = .ok (.aload_n 0, 1) := by decide +kernel
theorem dL_thrown_142 : decode cL_thrown 142 = .ok (.iconst (-1), 1) := by decide +kernel
theorem dL_thrown_143 : decode cL_thrown 143 = .ok (.invokestatic 254, 3) := by decide +kernel
theorem dL_thrown_146 : decode cL_thrown 146 = .ok (.sipush (-1001), 3) := by decide +kernel
theorem dL_thrown_149 : decode cL_thrown 149 = .ok (.if_icmp .ne 142, 3) := by decide +kernel
theorem dL_thrown_152 : decode cL_thrown 152 = .ok (.aload_n 0, 1) := by decide +kernel
theorem dL_thrown_153 : decode cL_thrown 153 = .ok (.iload_n 3, 1) := by decide +kernel
theorem dL_thrown_154 : decode cL_thrown 154 = .ok (.invokestatic 256, 3) := by decide +kernel
theorem dL_thrown_157 : decode cL_thrown 157 = .ok (.sipush (-1001), 3) := by decide +kernel
theorem dL_thrown_160 : decode cL_thrown 160 = .ok (.if_icmp .ne 131, 3) := by decide +kernel
theorem dL_thrown_163 : decode cL_thrown 163 = .ok (.aload_n 0, 1) := by decide +kernel
theorem dL_thrown_164 : decode cL_thrown 164 = .ok (.iload_n 3, 1) := by decide +kernel
theorem dL_thrown_165 : decode cL_thrown 165 = .ok (.iconst 0, 1) := by decide +kernel
theorem dL_thrown_166 : decode cL_thrown 166 = .ok (.bipush 9, 2) := by decide +kernel
theorem dL_thrown_168 : decode cL_thrown 168 = .ok (.invokestatic 185, 3) := by decide +kernel
theorem dL_thrown_171 : decode cL_thrown 171 = .ok (.sipush (-1001), 3) := by decide +kernel
theorem dL_thrown_174 : decode cL_thrown 174 = .ok (.if_icmp .ne 117, 3) := by decide +kernel
theorem dL_thrown_177 : decode cL_thrown 177 = .ok (.aload_n 0, 1) := by decide +kernel
theorem dL_thrown_178 : decode cL_thrown 178 = .ok (.iconst 0, 1) := by decide +kernel
theorem dL_thrown_179 : decode cL_thrown 179 = .ok (.bipush 9, 2) := by decide +kernel
theorem dL_thrown_181 : decode cL_thrown 181 = .ok (.bipush 9, 2) := by decide +kernel
theorem dL_thrown_183 : decode cL_thrown 183 = .ok (.invokestatic 185, 3) := by decide +kernel
theorem dL_thrown_186 : decode cL_thrown 186 = .ok (.sipush (-1001), 3) := by decide +kernel
theorem dL_thrown_189 : decode cL_thrown 189 = .ok (.if_icmp .ne 102, 3) := by decide +kernel
theorem dL_thrown_192 : decode cL_thrown 192 = .ok (.aload_n 0, 1) := by decide +kernel
theorem dL_thrown_193 : decode cL_thrown 193 = .ok (.iconst 0, 1) := by decide +kernel
theorem dL_thrown_194 : decode cL_thrown 194 = .ok (.iconst (-1), 1) := by decide +kernel
theorem dL_thrown_195 : decode cL_thrown 195 = .ok (.iconst 0, 1) := by decide +kernel
theorem dL_thrown_196 : decode cL_thrown 196 = .ok (.invokestatic 185, 3) := by decide +kernel
theorem dL_thrown_199 : decode cL_thrown 199 = .ok (.sipush (-1001), 3) := by decide +kernel
theorem dL_thrown_202 : decode cL_thrown 202 = .ok (.if_icmp .ne 89, 3) := by decide +kernel
theorem dL_thrown_205 : decode cL_thrown 205 = .ok (.aload_n 0, 1) := by decide +kernel
theorem dL_thrown_206 : decode cL_thrown 206 = .ok (.iconst 0, 1) := by decide +kernel
theorem dL_thrown_207 : decode cL_thrown 207 = .ok (.iconst 0, 1) := by decide +kernel
theorem dL_thrown_208 : decode cL_thrown 208 = .ok (.iconst 4, 1) := by decide +kernel
theorem dL_thrown_209 : decode cL_thrown 209 = .ok (.invokestatic 185, 3) := by decide +kernel
theorem dL_thrown_212 : decode cL_thrown 212 = .ok (.sipush (-1002), 3) := by decide +kernel
theorem dL_thrown_215 : decode cL_thrown 215 = .ok (.if_icmp .ne 76, 3) := by decide +kernel
theorem dL_thrown_218 : decode cL_thrown 218 = .ok (.aload_n 0, 1) := by decide +kernel
theorem dL_thrown_219 : decode cL_thrown 219 = .ok (.iconst 0, 1) := by decide +kernel
theorem dL_thrown_220 : decode cL_thrown 220 = .ok (.iconst 0, 1) := by decide +kernel
theorem dL_thrown_221 : decode cL_thrown 221 = .ok (.iconst (-1), 1) := by decide +kernel
theorem dL_thrown_222 : decode cL_thrown 222 = .ok (.invokestatic 185, 3) := by decide +kernel
theorem dL_thrown_225 : decode cL_thrown 225 = .ok (.sipush (-1002), 3) := by decide +kernel
theorem dL_thrown_228 : decode cL_thrown 228 = .ok (.if_icmp .ne 63, 3) := by decide +kernel
theorem dL_thrown_231 : decode cL_thrown 231 = .ok (.aload_n 0, 1) := by decide +kernel
theorem dL_thrown_232 : decode cL_thrown 232 = .ok (.bipush 9, 2) := by decide +kernel
theorem dL_thrown_234 : decode cL_thrown 234 = .ok (.invokestatic 258, 3) := by decide +kernel
theorem dL_thrown_237 : decode cL_thrown 237 = .ok (.sipush (-1001), 3) := by decide +kernel
theorem dL_thrown_240 : decode cL_thrown 240 = .ok (.if_icmp .ne 51, 3) := by decide +kernel
theorem dL_thrown_243 : decode cL_thrown 243 = .ok (.aload_n 0, 1) := by decide +kernel
theorem dL_thrown_244 : decode cL_thrown 244 = .ok (.iconst 0, 1) := by decide +kernel
theorem dL_thrown_245 : decode cL_thrown 245 = .ok (.invokestatic 188, 3) := by decide +kernel
theorem dL_thrown_248 : decode cL_thrown 248 = .ok (.sipush (-1001), 3) := by decide +kernel
theorem dL_thrown_251 : decode cL_thrown 251 = .ok (.if_icmp .ne 40, 3) := by decide +kernel
theorem dL_thrown_254 : decode cL_thrown 254 = .ok (.aload_n 0, 1) := by decide +kernel
theorem dL_thrown_255 : decode cL_thrown 255 = .ok (.bipush 21, 2) := by decide +kernel
theorem dL_thrown_257 : decode cL_thrown 257 = .ok (.invokestatic 188, 3) := by decide +kernel
theorem dL_thrown_260 : decode cL_thrown 260 = .ok (.sipush (-1001), 3) := by decide +kernel
theorem dL_thrown_263 : decode cL_thrown 263 = .ok (.if_icmp .ne 28, 3) := by decide +kernel
theorem dL_thrown_266 : decode cL_thrown 266 = .ok (.aload_n 0, 1) := by decide +kernel
theorem dL_thrown_267 : decode cL_thrown 267 = .ok (.invokevirtual 214, 3) := by decide +kernel
theorem dL_thrown_270 : decode cL_thrown 270 = .ok (.bipush 31, 2) := by decide +kernel
theorem dL_thrown_272 : decode cL_thrown 272 = .ok (.if_icmp .lt 15, 3) := by decide +kernel
theorem dL_thrown_275 : decode cL_thrown 275 = .ok (.aload_n 0, 1) := by decide +kernel
theorem dL_thrown_276 : decode cL_thrown 276 = .ok (.bipush 20, 2) := by decide +kernel
theorem dL_thrown_278 : decode cL_thrown 278 = .ok (.invokestatic 188, 3) := by decide +kernel
theorem dL_thrown_281 : decode cL_thrown 281 = .ok (.sipush (-1002), 3) := by decide +kernel
theorem dL_thrown_284 : decode cL_thrown 284 = .ok (.if_icmp .ne 7, 3) := by decide +kernel
theorem dL_thrown_287 : decode cL_thrown 287 = .ok (.iconst 1, 1) := by decide +kernel
theorem dL_thrown_288 : decode cL_thrown 288 = .ok (.goto 4, 3) := by decide +kernel
theorem dL_thrown_291 : decode cL_thrown 291 = .ok (.iconst 0, 1) := by decide +kernel
theorem dL_thrown_292 : decode cL_thrown 292 = .ok (.istore 5, 2) := by decide +kernel
theorem dL_thrown_294 : decode cL_thrown 294 = .ok (.iconst 0, 1) := by decide +kernel
theorem dL_thrown_295 : decode cL_thrown 295 = .ok (.istore 6, 2) := by decide +kernel
theorem dL_thrown_297 : decode cL_thrown 297 = .ok (.iload 6, 2) := by decide +kernel
theorem dL_thrown_299 : decode cL_thrown 299 = .ok (.iload_n 3, 1) := by decide +kernel
theorem dL_thrown_300 : decode cL_thrown 300 = .ok (.if_icmp .ge 410, 3) := by decide +kernel
theorem dL_thrown_303 : decode cL_thrown 303 = .ok (.iload 5, 2) := by decide +kernel
theorem dL_thrown_305 : decode cL_thrown 305 = .ok (.ifCond .eq 29, 3) := by decide +kernel
theorem dL_thrown_308 : decode cL_thrown 308 = .ok (.aload_n 0, 1) := by decide +kernel
theorem dL_thrown_309 : decode cL_thrown 309 = .ok (.iload 6, 2) := by decide +kernel
theorem dL_thrown_311 : decode cL_thrown 311 = .ok (.invokestatic 291, 3) := by decide +kernel
theorem dL_thrown_314 : decode cL_thrown 314 = .ok (.iconst 1, 1) := by decide +kernel
theorem dL_thrown_315 : decode cL_thrown 315 = .ok (.if_icmp .eq 15, 3) := by decide +kernel
theorem dL_thrown_318 : decode cL_thrown 318 = .ok (.aload_n 0, 1) := by decide +kernel
theorem dL_thrown_319 : decode cL_thrown 319 = .ok (.iload 6, 2) := by decide +kernel
theorem dL_thrown_321 : decode cL_thrown 321 = .ok (.invokestatic 254, 3) := by decide +kernel
theorem dL_thrown_324 : decode cL_thrown 324 = .ok (.sipush (-1002), 3) := by decide +kernel
theorem dL_thrown_327 : decode cL_thrown 327 = .ok (.if_icmp .ne 7, 3) := by decide +kernel
theorem dL_thrown_330 : decode cL_thrown 330 = .ok (.iconst 1, 1) := by decide +kernel
theorem dL_thrown_331 : decode cL_thrown 331 = .ok (.goto 4, 3) := by decide +kernel
theorem dL_thrown_334 : decode cL_thrown 334 = .ok (.iconst 0, 1) := by decide +kernel
theorem dL_thrown_335 : decode cL_thrown 335 = .ok (.istore 5, 2) := by decide +kernel
theorem dL_thrown_337 : decode cL_thrown 337 = .ok (.aload_n 0, 1) := by decide +kernel
theorem dL_thrown_338 : decode cL_thrown 338 = .ok (.iload 6, 2) := by decide +kernel
theorem dL_thrown_340 : decode cL_thrown 340 = .ok (.invokestatic 242, 3) := by decide +kernel
theorem dL_thrown_343 : decode cL_thrown 343 = .ok (.ifCond .eq 22, 3) := by decide +kernel
theorem dL_thrown_346 : decode cL_thrown 346 = .ok (.aload_n 0, 1) := by decide +kernel
theorem dL_thrown_347 : decode cL_thrown 347 = .ok (.iload 6, 2) := by decide +kernel
theorem dL_thrown_349 : decode cL_thrown 349 = .ok (.invokestatic 291, 3) := by decide +kernel
theorem dL_thrown_352 : decode cL_thrown 352 = .ok (.iconst 1, 1) := by decide +kernel
theorem dL_thrown_353 : decode cL_thrown 353 = .ok (.if_icmp .eq 12, 3) := by decide +kernel
theorem dL_thrown_356 : decode cL_thrown 356 = .ok (.aload_n 0, 1) := by decide +kernel
theorem dL_thrown_357 : decode cL_thrown 357 = .ok (.iload 6, 2) := by decide +kernel
theorem dL_thrown_359 : decode cL_thrown 359 = .ok (.invokestatic 293, 3) := by decide +kernel
theorem dL_thrown_362 : decode cL_thrown 362 = .ok (.ifCond .lt 27, 3) := by decide +kernel
theorem dL_thrown_365 : decode cL_thrown 365 = .ok (.iload 5, 2) := by decide +kernel
theorem dL_thrown_367 : decode cL_thrown 367 = .ok (.ifCond .eq 19, 3) := by decide +kernel
theorem dL_thrown_370 : decode cL_thrown 370 = .ok (.aload_n 0, 1) := by decide +kernel
theorem dL_thrown_371 : decode cL_thrown 371 = .ok (.iload 6, 2) := by decide +kernel
theorem dL_thrown_373 : decode cL_thrown 373 = .ok (.invokestatic 252, 3) := by decide +kernel
theorem dL_thrown_376 : decode cL_thrown 376 = .ok (.sipush (-1002), 3) := by decide +kernel
theorem dL_thrown_379 : decode cL_thrown 379 = .ok (.if_icmp .ne 7, 3) := by decide +kernel
theorem dL_thrown_382 : decode cL_thrown 382 = .ok (.iconst 1, 1) := by decide +kernel
theorem dL_thrown_383 : decode cL_thrown 383 = .ok (.goto 4, 3) := by decide +kernel
theorem dL_thrown_386 : decode cL_thrown 386 = .ok (.iconst 0, 1) := by decide +kernel
theorem dL_thrown_387 : decode cL_thrown 387 = .ok (.istore 5, 2) := by decide +kernel
theorem dL_thrown_389 : decode cL_thrown 389 = .ok (.aload_n 0, 1) := by decide +kernel
theorem dL_thrown_390 : decode cL_thrown 390 = .ok (.iload 6, 2) := by decide +kernel
theorem dL_thrown_392 : decode cL_thrown 392 = .ok (.invokestatic 295, 3) := by decide +kernel
theorem dL_thrown_395 : decode cL_thrown 395 = .ok (.ifCond .eq 13, 3) := by decide +kernel
theorem dL_thrown_398 : decode cL_thrown 398 = .ok (.aload_n 0, 1) := by decide +kernel
theorem dL_thrown_399 : decode cL_thrown 399 = .ok (.iload 6, 2) := by decide +kernel
theorem dL_thrown_401 : decode cL_thrown 401 = .ok (.invokestatic 291, 3) := by decide +kernel
theorem dL_thrown_404 : decode cL_thrown 404 = .ok (.iconst 1, 1) := by decide +kernel
theorem dL_thrown_405 : decode cL_thrown 405 = .ok (.if_icmp .ne 30, 3) := by decide +kernel
theorem dL_thrown_408 : decode cL_thrown 408 = .ok (.iload 5, 2) := by decide +kernel
theorem dL_thrown_410 : decode cL_thrown 410 = .ok (.ifCond .eq 19, 3) := by decide +kernel
theorem dL_thrown_413 : decode cL_thrown 413 = .ok (.aload_n 0, 1) := by decide +kernel
theorem dL_thrown_414 : decode cL_thrown 414 = .ok (.iload 6, 2) := by decide +kernel
theorem dL_thrown_416 : decode cL_thrown 416 = .ok (.invokestatic 256, 3) := by decide +kernel
theorem dL_thrown_419 : decode cL_thrown 419 = .ok (.sipush (-1002), 3) := by decide +kernel
theorem dL_thrown_422 : decode cL_thrown 422 = .ok (.if_icmp .ne 7, 3) := by decide +kernel
theorem dL_thrown_425 : decode cL_thrown 425 = .ok (.iconst 1, 1) := by decide +kernel
theorem dL_thrown_426 : decode cL_thrown 426 = .ok (.goto 4, 3) := by decide +kernel
theorem dL_thrown_429 : decode cL_thrown 429 = .ok (.iconst 0, 1) := by decide +kernel
theorem dL_thrown_430 : decode cL_thrown 430 = .ok (.istore 5, 2) := by decide +kernel
theorem dL_thrown_432 : decode cL_thrown 432 = .ok (.goto 40, 3) := by decide +kernel
theorem dL_thrown_435 : decode cL_thrown 435 = .ok (.aload_n 0, 1) := by decide +kernel
theorem dL_thrown_436 : decode cL_thrown 436 = .ok (.iload 6, 2) := by decide +kernel
theorem dL_thrown_438 : decode cL_thrown 438 = .ok (.invokestatic 295, 3) := by decide +kernel
theorem dL_thrown_441 : decode cL_thrown 441 = .ok (.aload_n 0, 1) := by decide +kernel
theorem dL_thrown_442 : decode cL_thrown 442 = .ok (.invokevirtual 214, 3) := by decide +kernel
theorem dL_thrown_445 : decode cL_thrown 445 = .ok (.if_icmp .le 27, 3) := by decide +kernel
theorem dL_thrown_448 : decode cL_thrown 448 = .ok (.iload 5, 2) := by decide +kernel
theorem dL_thrown_450 : decode cL_thrown 450 = .ok (.ifCond .eq 19, 3) := by decide +kernel
theorem dL_thrown_453 : decode cL_thrown 453 = .ok (.aload_n 0, 1) := by decide +kernel
theorem dL_thrown_454 : decode cL_thrown 454 = .ok (.iload 6, 2) := by decide +kernel
theorem dL_thrown_456 : decode cL_thrown 456 = .ok (.invokestatic 256, 3) := by decide +kernel
theorem dL_thrown_459 : decode cL_thrown 459 = .ok (.sipush (-1003), 3) := by decide +kernel
theorem dL_thrown_462 : decode cL_thrown 462 = .ok (.if_icmp .ne 7, 3) := by decide +kernel
theorem dL_thrown_465 : decode cL_thrown 465 = .ok (.iconst 1, 1) := by decide +kernel
theorem dL_thrown_466 : decode cL_thrown 466 = .ok (.goto 4, 3) := by decide +kernel
theorem dL_thrown_469 : decode cL_thrown 469 = .ok (.iconst 0, 1) := by decide +kernel
theorem dL_thrown_470 : decode cL_thrown 470 = .ok (.istore 5, 2) := by decide +kernel
theorem dL_thrown_472 : decode cL_thrown 472 = .ok (.aload_n 0, 1) := by decide +kernel
theorem dL_thrown_473 : decode cL_thrown 473 = .ok (.iload 6, 2) := by decide +kernel
theorem dL_thrown_475 : decode cL_thrown 475 = .ok (.invokestatic 242, 3) := by decide +kernel
theorem dL_thrown_478 : decode cL_thrown 478 = .ok (.bipush 6, 2) := by decide +kernel
theorem dL_thrown_480 : decode cL_thrown 480 = .ok (.if_icmp .eq 13, 3) := by decide +kernel
theorem dL_thrown_483 : decode cL_thrown 483 = .ok (.aload_n 0, 1) := by decide +kernel
theorem dL_thrown_484 : decode cL_thrown 484 = .ok (.iload 6, 2) := by decide +kernel
theorem dL_thrown_486 : decode cL_thrown 486 = .ok (.invokestatic 291, 3) := by decide +kernel
theorem dL_thrown_489 : decode cL_thrown 489 = .ok (.iconst 1, 1) := by decide +kernel
theorem dL_thrown_490 : decode cL_thrown 490 = .ok (.if_icmp .ne 29, 3) := by decide +kernel
theorem dL_thrown_493 : decode cL_thrown 493 = .ok (.iload 5, 2) := by decide +kernel
theorem dL_thrown_495 : decode cL_thrown 495 = .ok (.ifCond .eq 21, 3) := by decide +kernel
theorem dL_thrown_498 : decode cL_thrown 498 = .ok (.aload_n 0, 1) := by decide +kernel
theorem dL_thrown_499 : decode cL_thrown 499 = .ok (.iload 6, 2) := by decide +kernel
theorem dL_thrown_501 : decode cL_thrown 501 = .ok (.bipush 118, 2) := by decide +kernel
theorem dL_thrown_503 : decode cL_thrown 503 = .ok (.invokestatic 182, 3) := by decide +kernel
theorem dL_thrown_506 : decode cL_thrown 506 = .ok (.sipush (-1003), 3) := by decide +kernel
theorem dL_thrown_509 : decode cL_thrown 509 = .ok (.if_icmp .ne 7, 3) := by decide +kernel
theorem dL_thrown_512 : decode cL_thrown 512 = .ok (.iconst 1, 1) := by decide +kernel
theorem dL_thrown_513 : decode cL_thrown 513 = .ok (.goto 4, 3) := by decide +kernel
theorem dL_thrown_516 : decode cL_thrown 516 = .ok (.iconst 0, 1) := by decide +kernel
theorem dL_thrown_517 : decode cL_thrown 517 = .ok (.istore 5, 2) := by decide +kernel
theorem dL_thrown_519 : decode cL_thrown 519 = .ok (.aload_n 0, 1) := by decide +kernel
theorem dL_thrown_520 : decode cL_thrown 520 = .ok (.iload 6, 2) := by decide +kernel
theorem dL_thrown_522 : decode cL_thrown 522 = .ok (.invokestatic 293, 3) := by decide +kernel
theorem dL_thrown_525 : decode cL_thrown 525 = .ok (.ifCond .lt 48, 3) := by decide +kernel
theorem dL_thrown_528 : decode cL_thrown 528 = .ok (.iload 5, 2) := by decide +kernel
theorem dL_thrown_530 : decode cL_thrown 530 = .ok (.ifCond .eq 40, 3) := by decide +kernel
theorem dL_thrown_533 : decode cL_thrown 533 = .ok (.aload_n 0, 1) := by decide +kernel
theorem dL_thrown_534 : decode cL_thrown 534 = .ok (.iload 6, 2) := by decide +kernel
theorem dL_thrown_536 : decode cL_thrown 536 = .ok (.aload_n 0, 1) := by decide +kernel
theorem dL_thrown_537 : decode cL_thrown 537 = .ok (.iload 6, 2) := by decide +kernel
theorem dL_thrown_539 : decode cL_thrown 539 = .ok (.invokestatic 293, 3) := by decide +kernel
theorem dL_thrown_542 : decode cL_thrown 542 = .ok (.iconst 0, 1) := by decide +kernel
theorem dL_thrown_543 : decode cL_thrown 543 = .ok (.invokestatic 185, 3) := by decide +kernel
theorem dL_thrown_546 : decode cL_thrown 546 = .ok (.sipush (-1003), 3) := by decide +kernel
theorem dL_thrown_549 : decode cL_thrown 549 = .ok (.if_icmp .ne 21, 3) := by decide +kernel
theorem dL_thrown_552 : decode cL_thrown 552 = .ok (.aload_n 0, 1) := by decide +kernel
theorem dL_thrown_553 : decode cL_thrown 553 = .ok (.iload 6, 2) := by decide +kernel
theorem dL_thrown_555 : decode cL_thrown 555 = .ok (.iconst 0, 1) := by decide +kernel
theorem dL_thrown_556 : decode cL_thrown 556 = .ok (.iconst 0, 1) := by decide +kernel
theorem dL_thrown_557 : decode cL_thrown 557 = .ok (.invokestatic 297, 3) := by decide +kernel
theorem dL_thrown_560 : decode cL_thrown 560 = .ok (.sipush (-1003), 3) := by decide +kernel
theorem dL_thrown_563 : decode cL_thrown 563 = .ok (.if_icmp .ne 7, 3) := by decide +kernel
theorem dL_thrown_566 : decode cL_thrown 566 = .ok (.iconst 1, 1) := by decide +kernel
theorem dL_thrown_567 : decode cL_thrown 567 = .ok (.goto 4, 3) := by decide +kernel
theorem dL_thrown_570 : decode cL_thrown 570 = .ok (.iconst 0, 1) := by decide +kernel
theorem dL_thrown_571 : decode cL_thrown 571 = .ok (.istore 5, 2) := by decide +kernel
theorem dL_thrown_573 : decode cL_thrown 573 = .ok (.iload 5, 2) := by decide +kernel
theorem dL_thrown_575 : decode cL_thrown 575 = .ok (.ifCond .eq 126, 3) := by decide +kernel
theorem dL_thrown_578 : decode cL_thrown 578 = .ok (.aload_n 0, 1) := by decide +kernel
theorem dL_thrown_579 : decode cL_thrown 579 = .ok (.iload 6, 2) := by decide +kernel
theorem dL_thrown_581 : decode cL_thrown 581 = .ok (.iconst (-1), 1) := by decide +kernel
theorem dL_thrown_582 : decode cL_thrown 582 = .ok (.invokestatic 299, 3) := by decide +kernel
theorem dL_thrown_585 : decode cL_thrown 585 = .ok (.sipush (-1001), 3) := by decide +kernel
theorem dL_thrown_588 : decode cL_thrown 588 = .ok (.if_icmp .ne 113, 3) := by decide +kernel
theorem dL_thrown_591 : decode cL_thrown 591 = .ok (.aload_n 0, 1) := by decide +kernel
theorem dL_thrown_592 : decode cL_thrown 592 = .ok (.iload 6, 2) := by decide +kernel
theorem dL_thrown_594 : decode cL_thrown 594 = .ok (.aload_n 0, 1) := by decide +kernel
theorem dL_thrown_595 : decode cL_thrown 595 = .ok (.iload 6, 2) := by decide +kernel
theorem dL_thrown_597 : decode cL_thrown 597 = .ok (.invokestatic 242, 3) := by decide +kernel
theorem dL_thrown_600 : decode cL_thrown 600 = .ok (.invokestatic 299, 3) := by decide +kernel
theorem dL_thrown_603 : decode cL_thrown 603 = .ok (.sipush (-1001), 3) := by decide +kernel
theorem dL_thrown_606 : decode cL_thrown 606 = .ok (.if_icmp .ne 95, 3) := by decide +kernel
theorem dL_thrown_609 : decode cL_thrown 609 = .ok (.aload_n 0, 1) := by decide +kernel
theorem dL_thrown_610 : decode cL_thrown 610 = .ok (.iload 6, 2) := by decide +kernel
theorem dL_thrown_612 : decode cL_thrown 612 = .ok (.iconst (-1), 1) := by decide +kernel
theorem dL_thrown_613 : decode cL_thrown 613 = .ok (.invokestatic 302, 3) := by decide +kernel
theorem dL_thrown_616 : decode cL_thrown 616 = .ok (.sipush (-1001), 3) := by decide +kernel
theorem dL_thrown_619 : decode cL_thrown 619 = .ok (.if_icmp .ne 82, 3) := by decide +kernel
theorem dL_thrown_622 : decode cL_thrown 622 = .ok (.aload_n 0, 1) := by decide +kernel
theorem dL_thrown_623 : decode cL_thrown 623 = .ok (.iload 6, 2) := by decide +kernel
theorem dL_thrown_625 : decode cL_thrown 625 = .ok (.aload_n 0, 1) := by decide +kernel
theorem dL_thrown_626 : decode cL_thrown 626 = .ok (.iload 6, 2) := by decide +kernel
theorem dL_thrown_628 : decode cL_thrown 628 = .ok (.invokestatic 242, 3) := by decide +kernel
theorem dL_thrown_631 : decode cL_thrown 631 = .ok (.iconst 1, 1) := by decide +kernel
theorem dL_thrown_632 : decode cL_thrown 632 = .ok (.iadd, 1) := by decide +kernel
theorem dL_thrown_633 : decode cL_thrown 633 = .ok (.invokestatic 302, 3) := by decide +kernel
theorem dL_thrown_636 : decode cL_thrown 636 = .ok (.sipush (-1001), 3) := by decide +kernel
theorem dL_thrown_639 : decode cL_thrown 639 = .ok (.if_icmp .ne 62, 3) := by decide +kernel
theorem dL_thrown_642 : decode cL_thrown 642 = .ok (.aload_n 0, 1) := by decide +kernel
theorem dL_thrown_643 : decode cL_thrown 643 = .ok (.iload 6, 2) := by decide +kernel
theorem dL_thrown_645 : decode cL_thrown 645 = .ok (.iconst 4, 1) := by decide +kernel
theorem dL_thrown_646 : decode cL_thrown 646 = .ok (.invokestatic 305, 3) := by decide +kernel
theorem dL_thrown_649 : decode cL_thrown 649 = .ok (.sipush (-1002), 3) := by decide +kernel
theorem dL_thrown_652 : decode cL_thrown 652 = .ok (.if_icmp .ne 49, 3) := by decide +kernel
theorem dL_thrown_655 : decode cL_thrown 655 = .ok (.aload_n 0, 1) := by decide +kernel
theorem dL_thrown_656 : decode cL_thrown 656 = .ok (.iload 6, 2) := by decide +kernel
theorem dL_thrown_658 : decode cL_thrown 658 = .ok (.iconst (-1), 1) := by decide +kernel
theorem dL_thrown_659 : decode cL_thrown 659 = .ok (.invokestatic 305, 3) := by decide +kernel
theorem dL_thrown_662 : decode cL_thrown 662 = .ok (.sipush (-1002), 3) := by decide +kernel
theorem dL_thrown_665 : decode cL_thrown 665 = .ok (.if_icmp .ne 36, 3) := by decide +kernel
theorem dL_thrown_668 : decode cL_thrown 668 = .ok (.aload_n 0, 1) := by decide +kernel
theorem dL_thrown_669 : decode cL_thrown 669 = .ok (.iload 6, 2) := by decide +kernel
theorem dL_thrown_671 : decode cL_thrown 671 = .ok (.bipush 9, 2) := by decide +kernel
theorem dL_thrown_673 : decode cL_thrown 673 = .ok (.iconst 0, 1) := by decide +kernel
theorem dL_thrown_674 : decode cL_thrown 674 = .ok (.invokestatic 297, 3) := by decide +kernel
theorem dL_thrown_677 : decode cL_thrown 677 = .ok (.sipush (-1001), 3) := by decide +kernel
theorem dL_thrown_680 : decode cL_thrown 680 = .ok (.if_icmp .ne 21, 3) := by decide +kernel
theorem dL_thrown_683 : decode cL_thrown 683 = .ok (.aload_n 0, 1) := by decide +kernel
theorem dL_thrown_684 : decode cL_thrown 684 = .ok (.iload 6, 2) := by decide +kernel
theorem dL_thrown_686 : decode cL_thrown 686 = .ok (.iconst 0, 1) := by decide +kernel
theorem dL_thrown_687 : decode cL_thrown 687 = .ok (.iconst 4, 1) := by decide +kernel
theorem dL_thrown_688 : decode cL_thrown 688 = .ok (.invokestatic 297, 3) := by decide +kernel
theorem dL_thrown_691 : decode cL_thrown 691 = .ok (.sipush (-1002), 3) := by decide +kernel
theorem dL_thrown_694 : decode cL_thrown 694 = .ok (.if_icmp .ne 7, 3) := by decide +kernel
theorem dL_thrown_697 : decode cL_thrown 697 = .ok (.iconst 1, 1) := by decide +kernel
theorem dL_thrown_698 : decode cL_thrown 698 = .ok (.goto 4, 3) := by decide +kernel
theorem dL_thrown_701 : decode cL_thrown 701 = .ok (.iconst 0, 1) := by decide +kernel
theorem dL_thrown_702 : decode cL_thrown 702 = .ok (.istore 5, 2) := by decide +kernel
theorem dL_thrown_704 : decode cL_thrown 704 = .ok (.iinc 6 1, 3) := by decide +kernel
theorem dL_thrown_707 : decode cL_thrown 707 = .ok (.goto (-410), 3) := by decide +kernel
theorem dL_thrown_710 : decode cL_thrown 710 = .ok (.iconst 0, 1) := by decide +kernel
theorem dL_thrown_711 : decode cL_thrown 711 = .ok (.istore 6, 2) := by decide +kernel
theorem dL_thrown_713 : decode cL_thrown 713 = .ok (.iload 6, 2) := by decide +kernel
theorem dL_thrown_715 : decode cL_thrown 715 = .ok (.bipush 9, 2) := by decide +kernel
theorem dL_thrown_717 : decode cL_thrown 717 = .ok (.if_icmp .ge 94, 3) := by decide +kernel
theorem dL_thrown_720 : decode cL_thrown 720 = .ok (.aload_n 0, 1) := by decide +kernel
theorem dL_thrown_721 : decode cL_thrown 721 = .ok (.iload 6, 2) := by decide +kernel
theorem dL_thrown_723 : decode cL_thrown 723 = .ok (.invokestatic 307, 3) := by decide +kernel
theorem dL_thrown_726 : decode cL_thrown 726 = .ok (.sipush (-1002), 3) := by decide +kernel
theorem dL_thrown_729 : decode cL_thrown 729 = .ok (.if_icmp .ne 76, 3) := by decide +kernel
theorem dL_thrown_732 : decode cL_thrown 732 = .ok (.iload 5, 2) := by decide +kernel
theorem dL_thrown_734 : decode cL_thrown 734 = .ok (.ifCond .eq 68, 3) := by decide +kernel
theorem dL_thrown_737 : decode cL_thrown 737 = .ok (.aload_n 0, 1) := by decide +kernel
theorem dL_thrown_738 : decode cL_thrown 738 = .ok (.iload 6, 2) := by decide +kernel
theorem dL_thrown_740 : decode cL_thrown 740 = .ok (.invokestatic 258, 3) := by decide +kernel
theorem dL_thrown_743 : decode cL_thrown 743 = .ok (.sipush (-1002), 3) := by decide +kernel
theorem dL_thrown_746 : decode cL_thrown 746 = .ok (.if_icmp .ne 56, 3) := by decide +kernel
theorem dL_thrown_749 : decode cL_thrown 749 = .ok (.aload_n 0, 1) := by decide +kernel
theorem dL_thrown_750 : decode cL_thrown 750 = .ok (.iload 6, 2) := by decide +kernel
theorem dL_thrown_752 : decode cL_thrown 752 = .ok (.invokestatic 309, 3) := by decide +kernel
theorem dL_thrown_755 : decode cL_thrown 755 = .ok (.sipush (-1002), 3) := by decide +kernel
theorem dL_thrown_758 : decode cL_thrown 758 = .ok (.if_icmp .ne 44, 3) := by decide +kernel
theorem dL_thrown_761 : decode cL_thrown 761 = .ok (.aload_n 0, 1) := by decide +kernel
theorem dL_thrown_762 : decode cL_thrown 762 = .ok (.iload 6, 2) := by decide +kernel
theorem dL_thrown_764 : decode cL_thrown 764 = .ok (.iconst 0, 1) := by decide +kernel
theorem dL_thrown_765 : decode cL_thrown 765 = .ok (.invokestatic 311, 3) := by decide +kernel
theorem dL_thrown_768 : decode cL_thrown 768 = .ok (.sipush (-1003), 3) := by decide +kernel
theorem dL_thrown_771 : decode cL_thrown 771 = .ok (.if_icmp .ne 31, 3) := by decide +kernel
theorem dL_thrown_774 : decode cL_thrown 774 = .ok (.aload_n 0, 1) := by decide +kernel
theorem dL_thrown_775 : decode cL_thrown 775 = .ok (.iload 6, 2) := by decide +kernel
theorem dL_thrown_777 : decode cL_thrown 777 = .ok (.invokestatic 313, 3) := by decide +kernel
theorem dL_thrown_780 : decode cL_thrown 780 = .ok (.sipush (-1002), 3) := by decide +kernel
theorem dL_thrown_783 : decode cL_thrown 783 = .ok (.if_icmp .ne 19, 3) := by decide +kernel
theorem dL_thrown_786 : decode cL_thrown 786 = .ok (.aload_n 0, 1) := by decide +kernel
theorem dL_thrown_787 : decode cL_thrown 787 = .ok (.iload 6, 2) := by decide +kernel
theorem dL_thrown_789 : decode cL_thrown 789 = .ok (.invokestatic 315, 3) := by decide +kernel
theorem dL_thrown_792 : decode cL_thrown 792 = .ok (.sipush (-1002), 3) := by decide +kernel
theorem dL_thrown_795 : decode cL_thrown 795 = .ok (.if_icmp .ne 7, 3) := by decide +kernel
theorem dL_thrown_798 : decode cL_thrown 798 = .ok (.iconst 1, 1) := by decide +kernel
theorem dL_thrown_799 : decode cL_thrown 799 = .ok (.goto 4, 3) := by decide +kernel
theorem dL_thrown_802 : decode cL_thrown 802 = .ok (.iconst 0, 1) := by decide +kernel
theorem dL_thrown_803 : decode cL_thrown 803 = .ok (.istore 5, 2) := by decide +kernel
theorem dL_thrown_805 : decode cL_thrown 805 = .ok (.iinc 6 1, 3) := by decide +kernel
theorem dL_thrown_808 : decode cL_thrown 808 = .ok (.goto (-95), 3) := by decide +kernel
theorem dL_thrown_811 : decode cL_thrown 811 = .ok (.iload 5, 2) := by decide +kernel
theorem dL_thrown_813 : decode cL_thrown 813 = .ok (.ifCond .eq 315, 3) := by decide +kernel
theorem dL_thrown_816 : decode cL_thrown 816 = .ok (.aload_n 0, 1) := by decide +kernel
theorem dL_thrown_817 : decode cL_thrown 817 = .ok (.iload_n 3, 1) := by decide +kernel
theorem dL_thrown_818 : decode cL_thrown 818 = .ok (.invokestatic 317, 3) := by decide +kernel
theorem dL_thrown_821 : decode cL_thrown 821 = .ok (.sipush (-1001), 3) := by decide +kernel
theorem dL_thrown_824 : decode cL_thrown 824 = .ok (.if_icmp .ne 304, 3) := by decide +kernel
theorem dL_thrown_827 : decode cL_thrown 827 = .ok (.aload_n 0, 1) := by decide +kernel
theorem dL_thrown_828 : decode cL_thrown 828 = .ok (.iload_n 3, 1) := by decide +kernel
theorem dL_thrown_829 : decode cL_thrown 829 = .ok (.bipush 9, 2) := by decide +kernel
theorem dL_thrown_831 : decode cL_thrown 831 = .ok (.invokestatic 305, 3) := by decide +kernel
theorem dL_thrown_834 : decode cL_thrown 834 = .ok (.sipush (-1001), 3) := by decide +kernel
theorem dL_thrown_837 : decode cL_thrown 837 = .ok (.if_icmp .ne 291, 3) := by decide +kernel
theorem dL_thrown_840 : decode cL_thrown 840 = .ok (.aload_n 0, 1) := by decide +kernel
theorem dL_thrown_841 : decode cL_thrown 841 = .ok (.iload_n 3, 1) := by decide +kernel
theorem dL_thrown_842 : decode cL_thrown 842 = .ok (.invokestatic 295, 3) := by decide +kernel
theorem dL_thrown_845 : decode cL_thrown 845 = .ok (.sipush (-1001), 3) := by decide +kernel
theorem dL_thrown_848 : decode cL_thrown 848 = .ok (.if_icmp .ne 280, 3) := by decide +kernel
theorem dL_thrown_851 : decode cL_thrown 851 = .ok (.aload_n 0, 1) := by decide +kernel
theorem dL_thrown_852 : decode cL_thrown 852 = .ok (.iconst (-1), 1) := by decide +kernel
theorem dL_thrown_853 : decode cL_thrown 853 = .ok (.invokestatic 319, 3) := by decide +kernel
theorem dL_thrown_856 : decode cL_thrown 856 = .ok (.sipush (-1001), 3) := by decide +kernel
theorem dL_thrown_859 : decode cL_thrown 859 = .ok (.if_icmp .ne 269, 3) := by decide +kernel
theorem dL_thrown_862 : decode cL_thrown 862 = .ok (.aload_n 0, 1) := by decide +kernel
theorem dL_thrown_863 : decode cL_thrown 863 = .ok (.iload_n 3, 1) := by decide +kernel
theorem dL_thrown_864 : decode cL_thrown 864 = .ok (.invokestatic 291, 3) := by decide +kernel
theorem dL_thrown_867 : decode cL_thrown 867 = .ok (.sipush (-1001), 3) := by decide +kernel
theorem dL_thrown_870 : decode cL_thrown 870 = .ok (.if_icmp .ne 258, 3) := by decide +kernel
theorem dL_thrown_873 : decode cL_thrown 873 = .ok (.aload_n 0, 1) := by decide +kernel
theorem dL_thrown_874 : decode cL_thrown 874 = .ok (.iload_n 3, 1) := by decide +kernel
theorem dL_thrown_875 : decode cL_thrown 875 = .ok (.invokestatic 242, 3) := by decide +kernel
theorem dL_thrown_878 : decode cL_thrown 878 = .ok (.sipush (-1001), 3) := by decide +kernel
theorem dL_thrown_881 : decode cL_thrown 881 = .ok (.if_icmp .ne 247, 3) := by decide +kernel
theorem dL_thrown_884 : decode cL_thrown 884 = .ok (.aload_n 0, 1) := by decide +kernel
theorem dL_thrown_885 : decode cL_thrown 885 = .ok (.iload_n 3, 1) := by decide +kernel
theorem dL_thrown_886 : decode cL_thrown 886 = .ok (.iconst 0, 1) := by decide +kernel
theorem dL_thrown_887 : decode cL_thrown 887 = .ok (.invokestatic 299, 3) := by decide +kernel
theorem dL_thrown_890 : decode cL_thrown 890 = .ok (.sipush (-1001), 3) := by decide +kernel
theorem dL_thrown_893 : decode cL_thrown 893 = .ok (.if_icmp .ne 235, 3) := by decide +kernel
theorem dL_thrown_896 : decode cL_thrown 896 = .ok (.aload_n 0, 1) := by decide +kernel
theorem dL_thrown_897 : decode cL_thrown 897 = .ok (.iload_n 3, 1) := by decide +kernel
theorem dL_thrown_898 : decode cL_thrown 898 = .ok (.invokestatic 293, 3) := by decide +kernel
theorem dL_thrown_901 : decode cL_thrown 901 = .ok (.sipush (-1001), 3) := by decide +kernel
theorem dL_thrown_904 : decode cL_thrown 904 = .ok (.if_icmp .ne 224, 3) := by decide +kernel
theorem dL_thrown_907 : decode cL_thrown 907 = .ok (.aload_n 0, 1) := by decide +kernel
theorem dL_thrown_908 : decode cL_thrown 908 = .ok (.iconst (-1), 1) := by decide +kernel
theorem dL_thrown_909 : decode cL_thrown 909 = .ok (.invokestatic 307, 3) := by decide +kernel
theorem dL_thrown_912 : decode cL_thrown 912 = .ok (.sipush (-1001), 3) := by decide +kernel
theorem dL_thrown_915 : decode cL_thrown 915 = .ok (.if_icmp .ne 213, 3) := by decide +kernel
theorem dL_thrown_918 : decode cL_thrown 918 = .ok (.aload_n 0, 1) := by decide +kernel
theorem dL_thrown_919 : decode cL_thrown 919 = .ok (.bipush 9, 2) := by decide +kernel
theorem dL_thrown_921 : decode cL_thrown 921 = .ok (.invokestatic 309, 3) := by decide +kernel
theorem dL_thrown_924 : decode cL_thrown 924 = .ok (.sipush (-1001), 3) := by decide +kernel
theorem dL_thrown_927 : decode cL_thrown 927 = .ok (.if_icmp .ne 201, 3) := by decide +kernel
theorem dL_thrown_930 : decode cL_thrown 930 = .ok (.aload_n 0, 1) := by decide +kernel
theorem dL_thrown_931 : decode cL_thrown 931 = .ok (.bipush 9, 2) := by decide +kernel
theorem dL_thrown_933 : decode cL_thrown 933 = .ok (.bipush 9, 2) := by decide +kernel
theorem dL_thrown_935 : decode cL_thrown 935 = .ok (.invokestatic 311, 3) := by decide +kernel
theorem dL_thrown_938 : decode cL_thrown 938 = .ok (.sipush (-1001), 3) := by decide +kernel
theorem dL_thrown_941 : decode cL_thrown 941 = .ok (.if_icmp .ne 187, 3) := by decide +kernel
theorem dL_thrown_944 : decode cL_thrown 944 = .ok (.aload_n 0, 1) := by decide +kernel
theorem dL_thrown_945 : decode cL_thrown 945 = .ok (.iconst 0, 1) := by decide +kernel
theorem dL_thrown_946 : decode cL_thrown 946 = .ok (.bipush 9, 2) := by decide +kernel
theorem dL_thrown_948 : decode cL_thrown 948 = .ok (.invokestatic 311, 3) := by decide +kernel
theorem dL_thrown_951 : decode cL_thrown 951 = .ok (.sipush (-1002), 3) := by decide +kernel
theorem dL_thrown_954 : decode cL_thrown 954 = .ok (.if_icmp .ne 174, 3) := by decide +kernel
theorem dL_thrown_957 : decode cL_thrown 957 = .ok (.aload_n 0, 1) := by decide +kernel
theorem dL_thrown_958 : decode cL_thrown 958 = .ok (.iload_n 3, 1) := by decide +kernel
theorem dL_thrown_959 : decode cL_thrown 959 = .ok (.iconst 0, 1) := by decide +kernel
theorem dL_thrown_960 : decode cL_thrown 960 = .ok (.bipush 9, 2) := by decide +kernel
theorem dL_thrown_962 : decode cL_thrown 962 = .ok (.invokestatic 297, 3) := by decide +kernel
theorem dL_thrown_965 : decode cL_thrown 965 = .ok (.sipush (-1001), 3) := by decide +kernel
theorem dL_thrown_968 : decode cL_thrown 968 = .ok (.if_icmp .ne 160, 3) := by decide +kernel
theorem dL_thrown_971 : decode cL_thrown 971 = .ok (.aload_n 0, 1) := by decide +kernel
theorem dL_thrown_972 : decode cL_thrown 972 = .ok (.iload_n 3, 1) := by decide +kernel
theorem dL_thrown_973 : decode cL_thrown 973 = .ok (.invokestatic 237, 3) := by decide +kernel
theorem dL_thrown_976 : decode cL_thrown 976 = .ok (.sipush (-1001), 3) := by decide +kernel
theorem dL_thrown_979 : decode cL_thrown 979 = .ok (.if_icmp .ne 149, 3) := by decide +kernel
theorem dL_thrown_982 : decode cL_thrown 982 = .ok (.aload_n 0, 1) := by decide +kernel
theorem dL_thrown_983 : decode cL_thrown 983 = .ok (.iload_n 3, 1) := by decide +kernel
theorem dL_thrown_984 : decode cL_thrown 984 = .ok (.invokestatic 244, 3) := by decide +kernel
theorem dL_thrown_987 : decode cL_thrown 987 = .ok (.sipush (-1001), 3) := by decide +kernel
theorem dL_thrown_990 : decode cL_thrown 990 = .ok (.if_icmp .ne 138, 3) := by decide +kernel
theorem dL_thrown_993 : decode cL_thrown 993 = .ok (.aload_n 0, 1) := by decide +kernel
theorem dL_thrown_994 : decode cL_thrown 994 = .ok (.iconst (-1), 1) := by decide +kernel
theorem dL_thrown_995 : decode cL_thrown 995 = .ok (.invokestatic 321, 3) := by decide +kernel
theorem dL_thrown_998 : decode cL_thrown 998 = .ok (.sipush (-1001), 3) := by decide +kernel
theorem dL_thrown_1001 : decode cL_thrown 1001 = .ok (.if_icmp .ne 127, 3) := by decide +kernel
theorem dL_thrown_1004 : decode cL_thrown 1004 = .ok (.aload_n 0, 1) := by decide +kernel
theorem dL_thrown_1005 : decode cL_thrown 1005 = .ok (.iload_n 3, 1) := by decide +kernel
theorem dL_thrown_1006 : decode cL_thrown 1006 = .ok (.iconst 0, 1) := by decide +kernel
theorem dL_thrown_1007 : decode cL_thrown 1007 = .ok (.invokestatic 302, 3) := by decide +kernel
theorem dL_thrown_1010 : decode cL_thrown 1010 = .ok (.sipush (-1001), 3) := by decide +kernel
theorem dL_thrown_1013 : decode cL_thrown 1013 = .ok (.if_icmp .ne 115, 3) := by decide +kernel
theorem dL_thrown_1016 : decode cL_thrown 1016 = .ok (.aload_n 0, 1) := by decide +kernel
theorem dL_thrown_1017 : decode cL_thrown 1017 = .ok (.bipush 9, 2) := by decide +kernel
theorem dL_thrown_1019 : decode cL_thrown 1019 = .ok (.invokestatic 313, 3) := by decide +kernel
theorem dL_thrown_1022 : decode cL_thrown 1022 = .ok (.sipush (-1001), 3) := by decide +kernel
theorem dL_thrown_1025 : decode cL_thrown 1025 = .ok (.if_icmp .ne 103, 3) := by decide +kernel
theorem dL_thrown_1028 : decode cL_thrown 1028 = .ok (.aload_n 0, 1) := by decide +kernel
theorem dL_thrown_1029 : decode cL_thrown 1029 = .ok (.bipush 9, 2) := by decide +kernel
theorem dL_thrown_1031 : decode cL_thrown 1031 = .ok (.invokestatic 315, 3) := by decide +kernel
theorem dL_thrown_1034 : decode cL_thrown 1034 = .ok (.sipush (-1001), 3) := by decide +kernel
theorem dL_thrown_1037 : decode cL_thrown 1037 = .ok (.if_icmp .ne 91, 3) := by decide +kernel
theorem dL_thrown_1040 : decode cL_thrown 1040 = .ok (.aload_n 0, 1) := by decide +kernel
theorem dL_thrown_1041 : decode cL_thrown 1041 = .ok (.iload_n 3, 1) := by decide +kernel
theorem dL_thrown_1042 : decode cL_thrown 1042 = .ok (.invokestatic 239, 3) := by decide +kernel
theorem dL_thrown_1045 : decode cL_thrown 1045 = .ok (.sipush (-1001), 3) := by decide +kernel
theorem dL_thrown_1048 : decode cL_thrown 1048 = .ok (.if_icmp .ne 80, 3) := by decide +kernel
theorem dL_thrown_1051 : decode cL_thrown 1051 = .ok (.aload_n 0, 1) := by decide +kernel
theorem dL_thrown_1052 : decode cL_thrown 1052 = .ok (.iconst (-1), 1) := by decide +kernel
theorem dL_thrown_1053 : decode cL_thrown 1053 = .ok (.invokestatic 239, 3) := by decide +kernel
theorem dL_thrown_1056 : decode cL_thrown 1056 = .ok (.sipush (-1001), 3) := by decide +kernel
theorem dL_thrown_1059 : decode cL_thrown 1059 = .ok (.if_icmp .ne 69, 3) := by decide +kernel
theorem dL_thrown_1062 : decode cL_thrown 1062 = .ok (.aload_n 0, 1) := by decide +kernel
theorem dL_thrown_1063 : decode cL_thrown 1063 = .ok (.iload_n 3, 1) := by decide +kernel
theorem dL_thrown_1064 : decode cL_thrown 1064 = .ok (.invokestatic 246, 3) := by decide +kernel
theorem dL_thrown_1067 : decode cL_thrown 1067 = .ok (.sipush (-1001), 3) := by decide +kernel
theorem dL_thrown_1070 : decode cL_thrown 1070 = .ok (.if_icmp .ne 58, 3) := by decide +kernel
theorem dL_thrown_1073 : decode cL_thrown 1073 = .ok (.aload_n 0, 1) := by decide +kernel
theorem dL_thrown_1074 : decode cL_thrown 1074 = .ok (.invokevirtual 324, 3) := by decide +kernel
theorem dL_thrown_1077 : decode cL_thrown 1077 = .ok (.iconst 4, 1) := by decide +kernel
theorem dL_thrown_1078 : decode cL_thrown 1078 = .ok (.if_icmp .lt 23, 3) := by decide +kernel
theorem dL_thrown_1081 : decode cL_thrown 1081 = .ok (.aload_n 0, 1) := by decide +kernel
theorem dL_thrown_1082 : decode cL_thrown 1082 = .ok (.invokestatic 232, 3) := by decide +kernel
theorem dL_thrown_1085 : decode cL_thrown 1085 = .ok (.sipush (-1001), 3) := by decide +kernel
theorem dL_thrown_1088 : decode cL_thrown 1088 = .ok (.if_icmp .ne 40, 3) := by decide +kernel
theorem dL_thrown_1091 : decode cL_thrown 1091 = .ok (.aload_n 0, 1) := by decide +kernel
theorem dL_thrown_1092 : decode cL_thrown 1092 = .ok (.invokestatic 327, 3) := by decide +kernel
theorem dL_thrown_1095 : decode cL_thrown 1095 = .ok (.sipush (-1001), 3) := by decide +kernel
theorem dL_thrown_1098 : decode cL_thrown 1098 = .ok (.if_icmp .ne 30, 3) := by decide +kernel
theorem dL_thrown_1101 : decode cL_thrown 1101 = .ok (.aload_n 0, 1) := by decide +kernel
theorem dL_thrown_1102 : decode cL_thrown 1102 = .ok (.iconst (-1), 1) := by decide +kernel
theorem dL_thrown_1103 : decode cL_thrown 1103 = .ok (.invokestatic 167, 3) := by decide +kernel
theorem dL_thrown_1106 : decode cL_thrown 1106 = .ok (.sipush (-1001), 3) := by decide +kernel
theorem dL_thrown_1109 : decode cL_thrown 1109 = .ok (.if_icmp .ne 19, 3) := by decide +kernel
theorem dL_thrown_1112 : decode cL_thrown 1112 = .ok (.aload_n 0, 1) := by decide +kernel
theorem dL_thrown_1113 : decode cL_thrown 1113 = .ok (.bipush 40, 2) := by decide +kernel
theorem dL_thrown_1115 : decode cL_thrown 1115 = .ok (.invokestatic 167, 3) := by decide +kernel
theorem dL_thrown_1118 : decode cL_thrown 1118 = .ok (.sipush (-1001), 3) := by decide +kernel
theorem dL_thrown_1121 : decode cL_thrown 1121 = .ok (.if_icmp .ne 7, 3) := by decide +kernel
theorem dL_thrown_1124 : decode cL_thrown 1124 = .ok (.iconst 1, 1) := by decide +kernel
theorem dL_thrown_1125 : decode cL_thrown 1125 = .ok (.goto 4, 3) := by decide +kernel
theorem dL_thrown_1128 : decode cL_thrown 1128 = .ok (.iconst 0, 1) := by decide +kernel
theorem dL_thrown_1129 : decode cL_thrown 1129 = .ok (.istore 5, 2) := by decide +kernel
theorem dL_thrown_1131 : decode cL_thrown 1131 = .ok (.iload 5, 2) := by decide +kernel
theorem dL_thrown_1133 : decode cL_thrown 1133 = .ok (.ifCond .eq 85, 3) := by decide +kernel
theorem dL_thrown_1136 : decode cL_thrown 1136 = .ok (.aload_n 0, 1) := by decide +kernel
theorem dL_thrown_1137 : decode cL_thrown 1137 = .ok (.ldc_w 330, 3) := by decide +kernel
theorem dL_thrown_1140 : decode cL_thrown 1140 = .ok (.invokestatic 280, 3) := by decide +kernel
theorem dL_thrown_1143 : decode cL_thrown 1143 = .ok (.sipush (-1001), 3) := by decide +kernel
theorem dL_thrown_1146 : decode cL_thrown 1146 = .ok (.if_icmp .ne 72, 3) := by decide +kernel
theorem dL_thrown_1149 : decode cL_thrown 1149 = .ok (.aload_n 0, 1) := by decide +kernel
theorem dL_thrown_1150 : decode cL_thrown 1150 = .ok (.invokestatic 332, 3) := by decide +kernel
theorem dL_thrown_1153 : decode cL_thrown 1153 = .ok (.ifCond .ne 65, 3) := by decide +kernel
theorem dL_thrown_1156 : decode cL_thrown 1156 = .ok (.aload_n 0, 1) := by decide +kernel
theorem dL_thrown_1157 : decode cL_thrown 1157 = .ok (.ldc_w 334, 3) := by decide +kernel
theorem dL_thrown_1160 : decode cL_thrown 1160 = .ok (.invokestatic 280, 3) := by decide +kernel
theorem dL_thrown_1163 : decode cL_thrown 1163 = .ok (.sipush (-1002), 3) := by decide +kernel
theorem dL_thrown_1166 : decode cL_thrown 1166 = .ok (.if_icmp .ne 52, 3) := by decide +kernel
theorem dL_thrown_1169 : decode cL_thrown 1169 = .ok (.aload_n 0, 1) := by decide +kernel
theorem dL_thrown_1170 : decode cL_thrown 1170 = .ok (.invokestatic 336, 3) := by decide +kernel
theorem dL_thrown_1173 : decode cL_thrown 1173 = .ok (.ifCond .ne 45, 3) := by decide +kernel
theorem dL_thrown_1176 : decode cL_thrown 1176 = .ok (.aload_n 0, 1) := by decide +kernel
theorem dL_thrown_1177 : decode cL_thrown 1177 = .ok (.ldc_w 338, 3) := by decide +kernel
theorem dL_thrown_1180 : decode cL_thrown 1180 = .ok (.invokestatic 280, 3) := by decide +kernel
theorem dL_thrown_1183 : decode cL_thrown 1183 = .ok (.sipush (-1002), 3) := by decide +kernel
theorem dL_thrown_1186 : decode cL_thrown 1186 = .ok (.if_icmp .ne 32, 3) := by decide +kernel
theorem dL_thrown_1189 : decode cL_thrown 1189 = .ok (.aload_n 0, 1) := by decide +kernel
theorem dL_thrown_1190 : decode cL_thrown 1190 = .ok (.invokestatic 332, 3) := by decide +kernel
theorem dL_thrown_1193 : decode cL_thrown 1193 = .ok (.ifCond .ne 25, 3) := by decide +kernel
theorem dL_thrown_1196 : decode cL_thrown 1196 = .ok (.aload_n 0, 1) := by decide +kernel
theorem dL_thrown_1197 : decode cL_thrown 1197 = .ok (.invokevirtual 288, 3) := by decide +kernel
theorem dL_thrown_1200 : decode cL_thrown 1200 = .ok (.iload 4, 2) := by decide +kernel
theorem dL_thrown_1202 : decode cL_thrown 1202 = .ok (.if_icmp .ne 16, 3) := by decide +kernel
theorem dL_thrown_1205 : decode cL_thrown 1205 = .ok (.aload_n 0, 1) := by decide +kernel
theorem dL_thrown_1206 : decode cL_thrown 1206 = .ok (.invokestatic 284, 3) := by decide +kernel
theorem dL_thrown_1209 : decode cL_thrown 1209 = .ok (.lload_n 1, 1) := by decide +kernel
theorem dL_thrown_1210 : decode cL_thrown 1210 = .ok (.lcmp, 1) := by decide +kernel
theorem dL_thrown_1211 : decode cL_thrown 1211 = .ok (.ifCond .ne 7, 3) := by decide +kernel
theorem dL_thrown_1214 : decode cL_thrown 1214 = .ok (.iconst 1, 1) := by decide +kernel
theorem dL_thrown_1215 : decode cL_thrown 1215 = .ok (.goto 4, 3) := by decide +kernel
theorem dL_thrown_1218 : decode cL_thrown 1218 = .ok (.iconst 0, 1) := by decide +kernel
theorem dL_thrown_1219 : decode cL_thrown 1219 = .ok (.ireturn, 1) := by decide +kernel
theorem dL_law_0 : decode cL_law 0 = .ok (.new 8, 3) := by decide +kernel
theorem dL_law_3 : decode cL_law 3 = .ok (.dup, 1) := by decide +kernel
theorem dL_law_4 : decode cL_law 4 = .ok (.invokespecial 340, 3) := by decide +kernel
theorem dL_law_7 : decode cL_law 7 = .ok (.astore_n 1, 1) := by decide +kernel
theorem dL_law_8 : decode cL_law 8 = .ok (.aload_n 1, 1) := by decide +kernel
theorem dL_law_9 : decode cL_law 9 = .ok (.invokestatic 341, 3) := by decide +kernel
theorem dL_law_12 : decode cL_law 12 = .ok (.sipush (-1001), 3) := by decide +kernel
theorem dL_law_15 : decode cL_law 15 = .ok (.if_icmp .ne 31, 3) := by decide +kernel
theorem dL_law_18 : decode cL_law 18 = .ok (.aload_n 1, 1) := by decide +kernel
theorem dL_law_19 : decode cL_law 19 = .ok (.invokestatic 343, 3) := by decide +kernel
theorem dL_law_22 : decode cL_law 22 = .ok (.sipush (-1001), 3) := by decide +kernel
theorem dL_law_25 : decode cL_law 25 = .ok (.if_icmp .ne 21, 3) := by decide +kernel
theorem dL_law_28 : decode cL_law 28 = .ok (.aload_n 1, 1) := by decide +kernel
theorem dL_law_29 : decode cL_law 29 = .ok (.invokevirtual 345, 3) := by decide +kernel
theorem dL_law_32 : decode cL_law 32 = .ok (.ifCond .ne 14, 3) := by decide +kernel
theorem dL_law_35 : decode cL_law 35 = .ok (.aload_n 1, 1) := by decide +kernel
theorem dL_law_36 : decode cL_law 36 = .ok (.bipush 20, 2) := by decide +kernel
theorem dL_law_38 : decode cL_law 38 = .ok (.invokestatic 188, 3) := by decide +kernel
theorem dL_law_41 : decode cL_law 41 = .ok (.bipush 20, 2) := by decide +kernel
theorem dL_law_43 : decode cL_law 43 = .ok (.if_icmp .eq 5, 3) := by decide +kernel
theorem dL_law_46 : decode cL_law 46 = .ok (.iconst 0, 1) := by decide +kernel
theorem dL_law_47 : decode cL_law 47 = .ok (.ireturn, 1) := by decide +kernel
theorem dL_law_48 : decode cL_law 48 = .ok (.iconst 0, 1) := by decide +kernel
theorem dL_law_49 : decode cL_law 49 = .ok (.istore_n 2, 1) := by decide +kernel
theorem dL_law_50 : decode cL_law 50 = .ok (.iload_n 2, 1) := by decide +kernel
theorem dL_law_51 : decode cL_law 51 = .ok (.bipush 60, 2) := by decide +kernel
theorem dL_law_53 : decode cL_law 53 = .ok (.if_icmp .ge 26, 3) := by decide +kernel
theorem dL_law_56 : decode cL_law 56 = .ok (.aload_n 1, 1) := by decide +kernel
theorem dL_law_57 : decode cL_law 57 = .ok (.bipush 65, 2) := by decide +kernel
theorem dL_law_59 : decode cL_law 59 = .ok (.iload_n 2, 1) := by decide +kernel
theorem dL_law_60 : decode cL_law 60 = .ok (.iadd, 1) := by decide +kernel
theorem dL_law_61 : decode cL_law 61 = .ok (.i2c, 1) := by decide +kernel
theorem dL_law_62 : decode cL_law 62 = .ok (.invokestatic 158, 3) := by decide +kernel
theorem dL_law_65 : decode cL_law 65 = .ok (.iload_n 2, 1) := by decide +kernel
theorem dL_law_66 : decode cL_law 66 = .ok (.iconst 1, 1) := by decide +kernel
theorem dL_law_67 : decode cL_law 67 = .ok (.iadd, 1) := by decide +kernel
theorem dL_law_68 : decode cL_law 68 = .ok (.if_icmp .eq 5, 3) := by decide +kernel
theorem dL_law_71 : decode cL_law 71 = .ok (.iconst 0, 1) := by decide +kernel
theorem dL_law_72 : decode cL_law 72 = .ok (.ireturn, 1) := by decide +kernel
theorem dL_law_73 : decode cL_law 73 = .ok (.iinc 2 1, 3) := by decide +kernel
theorem dL_law_76 : decode cL_law 76 = .ok (.goto (-26), 3) := by decide +kernel
theorem dL_law_79 : decode cL_law 79 = .ok (.aload_n 1, 1) := by decide +kernel
theorem dL_law_80 : decode cL_law 80 = .ok (.bipush 109, 2) := by decide +kernel
theorem dL_law_82 : decode cL_law 82 = .ok (.invokestatic 158, 3) := by decide +kernel
theorem dL_law_85 : decode cL_law 85 = .ok (.sipush (-1001), 3) := by decide +kernel
theorem dL_law_88 : decode cL_law 88 = .ok (.if_icmp .ne 48, 3) := by decide +kernel
theorem dL_law_91 : decode cL_law 91 = .ok (.aload_n 1, 1) := by decide +kernel
theorem dL_law_92 : decode cL_law 92 = .ok (.invokestatic 163, 3) := by decide +kernel
theorem dL_law_95 : decode cL_law 95 = .ok (.sipush (-1001), 3) := by decide +kernel
theorem dL_law_98 : decode cL_law 98 = .ok (.if_icmp .ne 38, 3) := by decide +kernel
theorem dL_law_101 : decode cL_law 101 = .ok (.aload_n 1, 1) := by decide +kernel
theorem dL_law_102 : decode cL_law 102 = .ok (.invokestatic 332, 3) := by decide +kernel
theorem dL_law_105 : decode cL_law 105 = .ok (.ifCond .ne 31, 3) := by decide +kernel
theorem dL_law_108 : decode cL_law 108 = .ok (.aload_n 1, 1) := by decide +kernel
theorem dL_law_109 : decode cL_law 109 = .ok (.bipush 109, 2) := by decide +kernel
theorem dL_law_111 : decode cL_law 111 = .ok (.invokestatic 158, 3) := by decide +kernel
theorem dL_law_114 : decode cL_law 114 = .ok (.iconst 1, 1) := by decide +kernel
theorem dL_law_115 : decode cL_law 115 = .ok (.if_icmp .ne 21, 3) := by decide +kernel
theorem dL_law_118 : decode cL_law 118 = .ok (.aload_n 1, 1) := by decide +kernel
theorem dL_law_119 : decode cL_law 119 = .ok (.invokestatic 163, 3) := by decide +kernel
theorem dL_law_122 : decode cL_law 122 = .ok (.sipush (-1001), 3) := by decide +kernel
theorem dL_law_125 : decode cL_law 125 = .ok (.if_icmp .ne 11, 3) := by decide +kernel
theorem dL_law_128 : decode cL_law 128 = .ok (.aload_n 1, 1) := by decide +kernel
theorem dL_law_129 : decode cL_law 129 = .ok (.invokestatic 332, 3) := by decide +kernel
theorem dL_law_132 : decode cL_law 132 = .ok (.iconst 1, 1) := by decide +kernel
theorem dL_law_133 : decode cL_law 133 = .ok (.if_icmp .eq 5, 3) := by decide +kernel
theorem dL_law_136 : decode cL_law 136 = .ok (.iconst 0, 1) := by decide +kernel
theorem dL_law_137 : decode cL_law 137 = .ok (.ireturn, 1) := by decide +kernel
theorem dL_law_138 : decode cL_law 138 = .ok (.iconst 0, 1) := by decide +kernel
theorem dL_law_139 : decode cL_law 139 = .ok (.istore_n 2, 1) := by decide +kernel
theorem dL_law_140 : decode cL_law 140 = .ok (.iload_n 2, 1) := by decide +kernel
theorem dL_law_141 : decode cL_law 141 = .ok (.bipush 9, 2) := by decide +kernel
theorem dL_law_143 : decode cL_law 143 = .ok (.if_icmp .ge 25, 3) := by decide +kernel
theorem dL_law_146 : decode cL_law 146 = .ok (.aload_n 1, 1) := by decide +kernel
theorem dL_law_147 : decode cL_law 147 = .ok (.iload_n 2, 1) := by decide +kernel
theorem dL_law_148 : decode cL_law 148 = .ok (.iload_n 2, 1) := by decide +kernel
theorem dL_law_149 : decode cL_law 149 = .ok (.iload_n 2, 1) := by decide +kernel
theorem dL_law_150 : decode cL_law 150 = .ok (.iload_n 2, 1) := by decide +kernel
theorem dL_law_151 : decode cL_law 151 = .ok (.bipush 99, 2) := by decide +kernel
theorem dL_law_153 : decode cL_law 153 = .ok (.invokestatic 179, 3) := by decide +kernel
theorem dL_law_156 : decode cL_law 156 = .ok (.iload_n 2, 1) := by decide +kernel
theorem dL_law_157 : decode cL_law 157 = .ok (.if_icmp .eq 5, 3) := by decide +kernel
theorem dL_law_160 : decode cL_law 160 = .ok (.iconst 0, 1) := by decide +kernel
theorem dL_law_161 : decode cL_law 161 = .ok (.ireturn, 1) := by decide +kernel
theorem dL_law_162 : decode cL_law 162 = .ok (.iinc 2 1, 3) := by decide +kernel
theorem dL_law_165 : decode cL_law 165 = .ok (.goto (-25), 3) := by decide +kernel
theorem dL_law_168 : decode cL_law 168 = .ok (.aload_n 1, 1) := by decide +kernel
theorem dL_law_169 : decode cL_law 169 = .ok (.iconst 0, 1) := by decide +kernel
theorem dL_law_170 : decode cL_law 170 = .ok (.iconst 0, 1) := by decide +kernel
theorem dL_law_171 : decode cL_law 171 = .ok (.iconst 0, 1) := by decide +kernel
theorem dL_law_172 : decode cL_law 172 = .ok (.iconst 0, 1) := by decide +kernel
theorem dL_law_173 : decode cL_law 173 = .ok (.bipush 99, 2) := by decide +kernel
theorem dL_law_175 : decode cL_law 175 = .ok (.invokestatic 179, 3) := by decide +kernel
theorem dL_law_178 : decode cL_law 178 = .ok (.sipush (-1002), 3) := by decide +kernel
theorem dL_law_181 : decode cL_law 181 = .ok (.if_icmp .eq 5, 3) := by decide +kernel
theorem dL_law_184 : decode cL_law 184 = .ok (.iconst 0, 1) := by decide +kernel
theorem dL_law_185 : decode cL_law 185 = .ok (.ireturn, 1) := by decide +kernel
theorem dL_law_186 : decode cL_law 186 = .ok (.iconst 0, 1) := by decide +kernel
theorem dL_law_187 : decode cL_law 187 = .ok (.istore_n 2, 1) := by decide +kernel
theorem dL_law_188 : decode cL_law 188 = .ok (.iload_n 2, 1) := by decide +kernel
theorem dL_law_189 : decode cL_law 189 = .ok (.bipush 6, 2) := by decide +kernel
theorem dL_law_191 : decode cL_law 191 = .ok (.if_icmp .ge 25, 3) := by decide +kernel
theorem dL_law_194 : decode cL_law 194 = .ok (.aload_n 1, 1) := by decide +kernel
theorem dL_law_195 : decode cL_law 195 = .ok (.bipush 8, 2) := by decide +kernel
theorem dL_law_197 : decode cL_law 197 = .ok (.bipush 118, 2) := by decide +kernel
theorem dL_law_199 : decode cL_law 199 = .ok (.invokestatic 182, 3) := by decide +kernel
theorem dL_law_202 : decode cL_law 202 = .ok (.iload_n 2, 1) := by decide +kernel
theorem dL_law_203 : decode cL_law 203 = .ok (.iconst 1, 1) := by decide +kernel
theorem dL_law_204 : decode cL_law 204 = .ok (.iadd, 1) := by decide +kernel
theorem dL_law_205 : decode cL_law 205 = .ok (.if_icmp .eq 5, 3) := by decide +kernel
theorem dL_law_208 : decode cL_law 208 = .ok (.iconst 0, 1) := by decide +kernel
theorem dL_law_209 : decode cL_law 209 = .ok (.ireturn, 1) := by decide +kernel
theorem dL_law_210 : decode cL_law 210 = .ok (.iinc 2 1, 3) := by decide +kernel
theorem dL_law_213 : decode cL_law 213 = .ok (.goto (-25), 3) := by decide +kernel
theorem dL_law_216 : decode cL_law 216 = .ok (.aload_n 1, 1) := by decide +kernel
theorem dL_law_217 : decode cL_law 217 = .ok (.bipush 8, 2) := by decide +kernel
theorem dL_law_219 : decode cL_law 219 = .ok (.bipush 109, 2) := by decide +kernel
theorem dL_law_221 : decode cL_law 221 = .ok (.invokestatic 182, 3) := by decide +kernel
theorem dL_law_224 : decode cL_law 224 = .ok (.sipush (-1003), 3) := by decide +kernel
theorem dL_law_227 : decode cL_law 227 = .ok (.if_icmp .ne 106, 3) := by decide +kernel
theorem dL_law_230 : decode cL_law 230 = .ok (.aload_n 1, 1) := by decide +kernel
theorem dL_law_231 : decode cL_law 231 = .ok (.bipush 8, 2) := by decide +kernel
theorem dL_law_233 : decode cL_law 233 = .ok (.invokestatic 252, 3) := by decide +kernel
theorem dL_law_236 : decode cL_law 236 = .ok (.bipush 6, 2) := by decide +kernel
theorem dL_law_238 : decode cL_law 238 = .ok (.if_icmp .ne 95, 3) := by decide +kernel
theorem dL_law_241 : decode cL_law 241 = .ok (.aload_n 1, 1) := by decide +kernel
theorem dL_law_242 : decode cL_law 242 = .ok (.bipush 8, 2) := by decide +kernel
theorem dL_law_244 : decode cL_law 244 = .ok (.invokestatic 254, 3) := by decide +kernel
theorem dL_law_247 : decode cL_law 247 = .ok (.bipush 9, 2) := by decide +kernel
theorem dL_law_249 : decode cL_law 249 = .ok (.if_icmp .ne 84, 3) := by decide +kernel
theorem dL_law_252 : decode cL_law 252 = .ok (.aload_n 1, 1) := by decide +kernel
theorem dL_law_253 : decode cL_law 253 = .ok (.bipush 8, 2) := by decide +kernel
theorem dL_law_255 : decode cL_law 255 = .ok (.invokestatic 256, 3) := by decide +kernel
theorem dL_law_258 : decode cL_law 258 = .ok (.bipush 14, 2) := by decide +kernel
theorem dL_law_260 : decode cL_law 260 = .ok (.if_icmp .ne 73, 3) := by decide +kernel
theorem dL_law_263 : decode cL_law 263 = .ok (.aload_n 1, 1) := by decide +kernel
theorem dL_law_264 : decode cL_law 264 = .ok (.bipush 8, 2) := by decide +kernel
theorem dL_law_266 : decode cL_law 266 = .ok (.iconst 4, 1) := by decide +kernel
theorem dL_law_267 : decode cL_law 267 = .ok (.iconst 3, 1) := by decide +kernel
theorem dL_law_268 : decode cL_law 268 = .ok (.invokestatic 185, 3) := by decide +kernel
theorem dL_law_271 : decode cL_law 271 = .ok (.ifCond .ne 62, 3) := by decide +kernel
theorem dL_law_274 : decode cL_law 274 = .ok (.aload_n 1, 1) := by decide +kernel
theorem dL_law_275 : decode cL_law 275 = .ok (.bipush 7, 2) := by decide +kernel
theorem dL_law_277 : decode cL_law 277 = .ok (.iconst 4, 1) := by decide +kernel
theorem dL_law_278 : decode cL_law 278 = .ok (.iconst 0, 1) := by decide +kernel
theorem dL_law_279 : decode cL_law 279 = .ok (.invokestatic 185, 3) := by decide +kernel
theorem dL_law_282 : decode cL_law 282 = .ok (.sipush (-1003), 3) := by decide +kernel
theorem dL_law_285 : decode cL_law 285 = .ok (.if_icmp .ne 48, 3) := by decide +kernel
theorem dL_law_288 : decode cL_law 288 = .ok (.aload_n 1, 1) := by decide +kernel
theorem dL_law_289 : decode cL_law 289 = .ok (.bipush 7, 2) := by decide +kernel
theorem dL_law_291 : decode cL_law 291 = .ok (.iconst 5, 1) := by decide +kernel
theorem dL_law_292 : decode cL_law 292 = .ok (.iconst 0, 1) := by decide +kernel
theorem dL_law_293 : decode cL_law 293 = .ok (.invokestatic 185, 3) := by decide +kernel
theorem dL_law_296 : decode cL_law 296 = .ok (.sipush (-1004), 3) := by decide +kernel
theorem dL_law_299 : decode cL_law 299 = .ok (.if_icmp .ne 34, 3) := by decide +kernel
theorem dL_law_302 : decode cL_law 302 = .ok (.aload_n 1, 1) := by decide +kernel
theorem dL_law_303 : decode cL_law 303 = .ok (.bipush 7, 2) := by decide +kernel
theorem dL_law_305 : decode cL_law 305 = .ok (.bipush 8, 2) := by decide +kernel
theorem dL_law_307 : decode cL_law 307 = .ok (.iconst 2, 1) := by decide +kernel
theorem dL_law_308 : decode cL_law 308 = .ok (.invokestatic 185, 3) := by decide +kernel
theorem dL_law_311 : decode cL_law 311 = .ok (.ifCond .ne 22, 3) := by decide +kernel
theorem dL_law_314 : decode cL_law 314 = .ok (.aload_n 1, 1) := by decide +kernel
theorem dL_law_315 : decode cL_law 315 = .ok (.iconst 4, 1) := by decide +kernel
theorem dL_law_316 : decode cL_law 316 = .ok (.invokestatic 258, 3) := by decide +kernel
theorem dL_law_319 : decode cL_law 319 = .ok (.bipush 8, 2) := by decide +kernel
theorem dL_law_321 : decode cL_law 321 = .ok (.if_icmp .ne 12, 3) := by decide +kernel
theorem dL_law_324 : decode cL_law 324 = .ok (.aload_n 1, 1) := by decide +kernel
theorem dL_law_325 : decode cL_law 325 = .ok (.invokevirtual 288, 3) := by decide +kernel
theorem dL_law_328 : decode cL_law 328 = .ok (.bipush 8, 2) := by decide +kernel
theorem dL_law_330 : decode cL_law 330 = .ok (.if_icmp .eq 5, 3) := by decide +kernel
theorem dL_law_333 : decode cL_law 333 = .ok (.iconst 0, 1) := by decide +kernel
theorem dL_law_334 : decode cL_law 334 = .ok (.ireturn, 1) := by decide +kernel
theorem dL_law_335 : decode cL_law 335 = .ok (.aload_n 1, 1) := by decide +kernel
theorem dL_law_336 : decode cL_law 336 = .ok (.invokestatic 341, 3) := by decide +kernel
theorem dL_law_339 : decode cL_law 339 = .ok (.bipush 7, 2) := by decide +kernel
theorem dL_law_341 : decode cL_law 341 = .ok (.if_icmp .ne 168, 3) := by decide +kernel
theorem dL_law_344 : decode cL_law 344 = .ok (.aload_n 1, 1) := by decide +kernel
theorem dL_law_345 : decode cL_law 345 = .ok (.iconst 4, 1) := by decide +kernel
theorem dL_law_346 : decode cL_law 346 = .ok (.invokestatic 307, 3) := by decide +kernel
theorem dL_law_349 : decode cL_law 349 = .ok (.bipush 8, 2) := by decide +kernel
theorem dL_law_351 : decode cL_law 351 = .ok (.if_icmp .ne 158, 3) := by decide +kernel
theorem dL_law_354 : decode cL_law 354 = .ok (.aload_n 1, 1) := by decide +kernel
theorem dL_law_355 : decode cL_law 355 = .ok (.iconst 4, 1) := by decide +kernel
theorem dL_law_356 : decode cL_law 356 = .ok (.invokestatic 309, 3) := by decide +kernel
theorem dL_law_359 : decode cL_law 359 = .ok (.iconst 3, 1) := by decide +kernel
theorem dL_law_360 : decode cL_law 360 = .ok (.if_icmp .ne 149, 3) := by decide +kernel
theorem dL_law_363 : decode cL_law 363 = .ok (.aload_n 1, 1) := by decide +kernel
theorem dL_law_364 : decode cL_law 364 = .ok (.invokestatic 341, 3) := by decide +kernel
theorem dL_law_367 : decode cL_law 367 = .ok (.bipush 6, 2) := by decide +kernel
theorem dL_law_369 : decode cL_law 369 = .ok (.if_icmp .ne 140, 3) := by decide +kernel
theorem dL_law_372 : decode cL_law 372 = .ok (.aload_n 1, 1) := by decide +kernel
theorem dL_law_373 : decode cL_law 373 = .ok (.bipush 8, 2) := by decide +kernel
theorem dL_law_375 : decode cL_law 375 = .ok (.invokestatic 307, 3) := by decide +kernel
theorem dL_law_378 : decode cL_law 378 = .ok (.sipush (-1002), 3) := by decide +kernel
theorem dL_law_381 : decode cL_law 381 = .ok (.if_icmp .ne 128, 3) := by decide +kernel
theorem dL_law_384 : decode cL_law 384 = .ok (.aload_n 1, 1) := by decide +kernel
theorem dL_law_385 : decode cL_law 385 = .ok (.invokestatic 341, 3) := by decide +kernel
theorem dL_law_388 : decode cL_law 388 = .ok (.iconst 5, 1) := by decide +kernel
theorem dL_law_389 : decode cL_law 389 = .ok (.if_icmp .ne 120, 3) := by decide +kernel
theorem dL_law_392 : decode cL_law 392 = .ok (.aload_n 1, 1) := by decide +kernel
theorem dL_law_393 : decode cL_law 393 = .ok (.iconst 4, 1) := by decide +kernel
theorem dL_law_394 : decode cL_law 394 = .ok (.invokestatic 307, 3) := by decide +kernel
theorem dL_law_397 : decode cL_law 397 = .ok (.sipush (-1002), 3) := by decide +kernel
theorem dL_law_400 : decode cL_law 400 = .ok (.if_icmp .ne 109, 3) := by decide +kernel
theorem dL_law_403 : decode cL_law 403 = .ok (.aload_n 1, 1) := by decide +kernel
theorem dL_law_404 : decode cL_law 404 = .ok (.invokestatic 341, 3) := by decide +kernel
theorem dL_law_407 : decode cL_law 407 = .ok (.iconst 4, 1) := by decide +kernel
theorem dL_law_408 : decode cL_law 408 = .ok (.if_icmp .ne 101, 3) := by decide +kernel
theorem dL_law_411 : decode cL_law 411 = .ok (.aload_n 1, 1) := by decide +kernel
theorem dL_law_412 : decode cL_law 412 = .ok (.bipush 8, 2) := by decide +kernel
theorem dL_law_414 : decode cL_law 414 = .ok (.invokestatic 295, 3) := by decide +kernel
theorem dL_law_417 : decode cL_law 417 = .ok (.bipush 6, 2) := by decide +kernel
theorem dL_law_419 : decode cL_law 419 = .ok (.if_icmp .ne 90, 3) := by decide +kernel
theorem dL_law_422 : decode cL_law 422 = .ok (.aload_n 1, 1) := by decide +kernel
theorem dL_law_423 : decode cL_law 423 = .ok (.invokevirtual 214, 3) := by decide +kernel
theorem dL_law_426 : decode cL_law 426 = .ok (.bipush 20, 2) := by decide +kernel
theorem dL_law_428 : decode cL_law 428 = .ok (.if_icmp .ne 81, 3) := by decide +kernel
theorem dL_law_431 : decode cL_law 431 = .ok (.aload_n 1, 1) := by decide +kernel
theorem dL_law_432 : decode cL_law 432 = .ok (.invokestatic 341, 3) := by decide +kernel
theorem dL_law_435 : decode cL_law 435 = .ok (.iconst 3, 1) := by decide +kernel
theorem dL_law_436 : decode cL_law 436 = .ok (.if_icmp .ne 73, 3) := by decide +kernel
theorem dL_law_439 : decode cL_law 439 = .ok (.aload_n 1, 1) := by decide +kernel
theorem dL_law_440 : decode cL_law 440 = .ok (.bipush 8, 2) := by decide +kernel
theorem dL_law_442 : decode cL_law 442 = .ok (.invokestatic 291, 3) := by decide +kernel
theorem dL_law_445 : decode cL_law 445 = .ok (.iconst 1, 1) := by decide +kernel
theorem dL_law_446 : decode cL_law 446 = .ok (.if_icmp .ne 63, 3) := by decide +kernel
theorem dL_law_449 : decode cL_law 449 = .ok (.aload_n 1, 1) := by decide +kernel
theorem dL_law_450 : decode cL_law 450 = .ok (.invokestatic 341, 3) := by decide +kernel
theorem dL_law_453 : decode cL_law 453 = .ok (.iconst 2, 1) := by decide +kernel
theorem dL_law_454 : decode cL_law 454 = .ok (.if_icmp .ne 55, 3) := by decide +kernel
theorem dL_law_457 : decode cL_law 457 = .ok (.aload_n 1, 1) := by decide +kernel
theorem dL_law_458 : decode cL_law 458 = .ok (.invokevirtual 217, 3) := by decide +kernel
theorem dL_law_461 : decode cL_law 461 = .ok (.ifCond .ne 48, 3) := by decide +kernel
theorem dL_law_464 : decode cL_law 464 = .ok (.aload_n 1, 1) := by decide +kernel
theorem dL_law_465 : decode cL_law 465 = .ok (.invokestatic 341, 3) := by decide +kernel
theorem dL_law_468 : decode cL_law 468 = .ok (.iconst 1, 1) := by decide +kernel
theorem dL_law_469 : decode cL_law 469 = .ok (.if_icmp .ne 40, 3) := by decide +kernel
theorem dL_law_472 : decode cL_law 472 = .ok (.aload_n 1, 1) := by decide +kernel
theorem dL_law_473 : decode cL_law 473 = .ok (.bipush 8, 2) := by decide +kernel
theorem dL_law_475 : decode cL_law 475 = .ok (.invokestatic 242, 3) := by decide +kernel
theorem dL_law_478 : decode cL_law 478 = .ok (.iconst 5, 1) := by decide +kernel
theorem dL_law_479 : decode cL_law 479 = .ok (.if_icmp .ne 30, 3) := by decide +kernel
theorem dL_law_482 : decode cL_law 482 = .ok (.aload_n 1, 1) := by decide +kernel
theorem dL_law_483 : decode cL_law 483 = .ok (.invokestatic 341, 3) := by decide +kernel
theorem dL_law_486 : decode cL_law 486 = .ok (.ifCond .ne 23, 3) := by decide +kernel
theorem dL_law_489 : decode cL_law 489 = .ok (.aload_n 1, 1) := by decide +kernel
theorem dL_law_490 : decode cL_law 490 = .ok (.bipush 8, 2) := by decide +kernel
theorem dL_law_492 : decode cL_law 492 = .ok (.invokestatic 242, 3) := by decide +kernel
theorem dL_law_495 : decode cL_law 495 = .ok (.iconst 4, 1) := by decide +kernel
theorem dL_law_496 : decode cL_law 496 = .ok (.if_icmp .ne 13, 3) := by decide +kernel
theorem dL_law_499 : decode cL_law 499 = .ok (.aload_n 1, 1) := by decide +kernel
theorem dL_law_500 : decode cL_law 500 = .ok (.invokestatic 341, 3) := by decide +kernel
theorem dL_law_503 : decode cL_law 503 = .ok (.sipush (-1001), 3) := by decide +kernel
theorem dL_law_506 : decode cL_law 506 = .ok (.if_icmp .eq 5, 3) := by decide +kernel
theorem dL_law_509 : decode cL_law 509 = .ok (.iconst 0, 1) := by decide +kernel
theorem dL_law_510 : decode cL_law 510 = .ok (.ireturn, 1) := by decide +kernel
theorem dL_law_511 : decode cL_law 511 = .ok (.aload_n 1, 1) := by decide +kernel
theorem dL_law_512 : decode cL_law 512 = .ok (.invokestatic 343, 3) := by decide +kernel
theorem dL_law_515 : decode cL_law 515 = .ok (.ifCond .ne 27, 3) := by decide +kernel
theorem dL_law_518 : decode cL_law 518 = .ok (.aload_n 1, 1) := by decide +kernel
theorem dL_law_519 : decode cL_law 519 = .ok (.invokevirtual 190, 3) := by decide +kernel
theorem dL_law_522 : decode cL_law 522 = .ok (.ifCond .ne 20, 3) := by decide +kernel
theorem dL_law_525 : decode cL_law 525 = .ok (.aload_n 1, 1) := by decide +kernel
theorem dL_law_526 : decode cL_law 526 = .ok (.invokevirtual 214, 3) := by decide +kernel
theorem dL_law_529 : decode cL_law 529 = .ok (.ifCond .ne 13, 3) := by decide +kernel
theorem dL_law_532 : decode cL_law 532 = .ok (.aload_n 1, 1) := by decide +kernel
theorem dL_law_533 : decode cL_law 533 = .ok (.invokestatic 341, 3) := by decide +kernel
theorem dL_law_536 : decode cL_law 536 = .ok (.sipush (-1001), 3) := by decide +kernel
theorem dL_law_539 : decode cL_law 539 = .ok (.if_icmp .eq 5, 3) := by decide +kernel
theorem dL_law_542 : decode cL_law 542 = .ok (.iconst 0, 1) := by decide +kernel
theorem dL_law_543 : decode cL_law 543 = .ok (.ireturn, 1) := by decide +kernel
theorem dL_law_544 : decode cL_law 544 = .ok (.new 8, 3) := by decide +kernel
theorem dL_law_547 : decode cL_law 547 = .ok (.dup, 1) := by decide +kernel
theorem dL_law_548 : decode cL_law 548 = .ok (.invokespecial 340, 3) := by decide +kernel
theorem dL_law_551 : decode cL_law 551 = .ok (.astore_n 2, 1) := by decide +kernel
theorem dL_law_552 : decode cL_law 552 = .ok (.aload_n 2, 1) := by decide +kernel
theorem dL_law_553 : decode cL_law 553 = .ok (.aload_n 0, 1) := by decide +kernel
theorem dL_law_554 : decode cL_law 554 = .ok (.invokestatic 348, 3) := by decide +kernel
theorem dL_law_557 : decode cL_law 557 = .ok (.ifCond .ne 5, 3) := by decide +kernel
theorem dL_law_560 : decode cL_law 560 = .ok (.iconst 0, 1) := by decide +kernel
theorem dL_law_561 : decode cL_law 561 = .ok (.ireturn, 1) := by decide +kernel
theorem dL_law_562 : decode cL_law 562 = .ok (.aload_n 2, 1) := by decide +kernel
theorem dL_law_563 : decode cL_law 563 = .ok (.invokestatic 284, 3) := by decide +kernel
theorem dL_law_566 : decode cL_law 566 = .ok (.lstore_n 3, 1) := by decide +kernel
theorem dL_law_567 : decode cL_law 567 = .ok (.aload_n 2, 1) := by decide +kernel
theorem dL_law_568 : decode cL_law 568 = .ok (.invokestatic 284, 3) := by decide +kernel
theorem dL_law_571 : decode cL_law 571 = .ok (.lload_n 3, 1) := by decide +kernel
theorem dL_law_572 : decode cL_law 572 = .ok (.lcmp, 1) := by decide +kernel
theorem dL_law_573 : decode cL_law 573 = .ok (.ifCond .ne 10, 3) := by decide +kernel
theorem dL_law_576 : decode cL_law 576 = .ok (.aload_n 2, 1) := by decide +kernel
theorem dL_law_577 : decode cL_law 577 = .ok (.invokestatic 352, 3) := by decide +kernel
theorem dL_law_580 : decode cL_law 580 = .ok (.ifCond .ne 5, 3) := by decide +kernel
theorem dL_law_583 : decode cL_law 583 = .ok (.iconst 0, 1) := by decide +kernel
theorem dL_law_584 : decode cL_law 584 = .ok (.ireturn, 1) := by decide +kernel
theorem dL_law_585 : decode cL_law 585 = .ok (.aload_n 2, 1) := by decide +kernel
theorem dL_law_586 : decode cL_law 586 = .ok (.invokevirtual 345, 3) := by decide +kernel
theorem dL_law_589 : decode cL_law 589 = .ok (.istore 5, 2) := by decide +kernel
theorem dL_law_591 : decode cL_law 591 = .ok (.iload 5, 2) := by decide +kernel
theorem dL_law_593 : decode cL_law 593 = .ok (.aload_n 2, 1) := by decide +kernel
theorem dL_law_594 : decode cL_law 594 = .ok (.invokevirtual 190, 3) := by decide +kernel
theorem dL_law_597 : decode cL_law 597 = .ok (.if_icmp .ne 28, 3) := by decide +kernel
theorem dL_law_600 : decode cL_law 600 = .ok (.aload_n 2, 1) := by decide +kernel
theorem dL_law_601 : decode cL_law 601 = .ok (.invokestatic 284, 3) := by decide +kernel
theorem dL_law_604 : decode cL_law 604 = .ok (.lload_n 3, 1) := by decide +kernel
theorem dL_law_605 : decode cL_law 605 = .ok (.lcmp, 1) := by decide +kernel
theorem dL_law_606 : decode cL_law 606 = .ok (.ifCond .ne 19, 3) := by decide +kernel
theorem dL_law_609 : decode cL_law 609 = .ok (.aload_n 2, 1) := by decide +kernel
theorem dL_law_610 : decode cL_law 610 = .ok (.invokestatic 343, 3) := by decide +kernel
theorem dL_law_613 : decode cL_law 613 = .ok (.iload 5, 2) := by decide +kernel
theorem dL_law_615 : decode cL_law 615 = .ok (.if_icmp .ne 10, 3) := by decide +kernel
theorem dL_law_618 : decode cL_law 618 = .ok (.aload_n 2, 1) := by decide +kernel
theorem dL_law_619 : decode cL_law 619 = .ok (.invokevirtual 288, 3) := by decide +kernel
theorem dL_law_622 : decode cL_law 622 = .ok (.ifCond .eq 5, 3) := by decide +kernel
theorem dL_law_625 : decode cL_law 625 = .ok (.iconst 0, 1) := by decide +kernel
theorem dL_law_626 : decode cL_law 626 = .ok (.ireturn, 1) := by decide +kernel
theorem dL_law_627 : decode cL_law 627 = .ok (.bipush 9, 2) := by decide +kernel
theorem dL_law_629 : decode cL_law 629 = .ok (.newarray .long, 2) := by decide +kernel
theorem dL_law_631 : decode cL_law 631 = .ok (.astore 6, 2) := by decide +kernel
theorem dL_law_633 : decode cL_law 633 = .ok (.iconst 0, 1) := by decide +kernel
theorem dL_law_634 : decode cL_law 634 = .ok (.istore 7, 2) := by decide +kernel
theorem dL_law_636 : decode cL_law 636 = .ok (.iconst 0, 1) := by decide +kernel
theorem dL_law_637 : decode cL_law 637 = .ok (.istore 8, 2) := by decide +kernel
theorem dL_law_639 : decode cL_law 639 = .ok (.iload 8, 2) := by decide +kernel
theorem dL_law_641 : decode cL_law 641 = .ok (.bipush 8, 2) := by decide +kernel
theorem dL_law_643 : decode cL_law 643 = .ok (.if_icmp .ge 74, 3) := by decide +kernel
theorem dL_law_646 : decode cL_law 646 = .ok (.aload_n 2, 1) := by decide +kernel
theorem dL_law_647 : decode cL_law 647 = .ok (.invokestatic 284, 3) := by decide +kernel
theorem dL_law_650 : decode cL_law 650 = .ok (.lstore 9, 2) := by decide +kernel
theorem dL_law_652 : decode cL_law 652 = .ok (.aload_n 2, 1) := by decide +kernel
theorem dL_law_653 : decode cL_law 653 = .ok (.aload_n 0, 1) := by decide +kernel
theorem dL_law_654 : decode cL_law 654 = .ok (.bipush 20, 2) := by decide +kernel
theorem dL_law_656 : decode cL_law 656 = .ok (.iload 8, 2) := by decide +kernel
theorem dL_law_658 : decode cL_law 658 = .ok (.iadd, 1) := by decide +kernel
theorem dL_law_659 : decode cL_law 659 = .ok (.invokestatic 170, 3) := by decide +kernel
theorem dL_law_662 : decode cL_law 662 = .ok (.iload 8, 2) := by decide +kernel
theorem dL_law_664 : decode cL_law 664 = .ok (.sipush 977, 3) := by decide +kernel
theorem dL_law_667 : decode cL_law 667 = .ok (.imul, 1) := by decide +kernel
theorem dL_law_668 : decode cL_law 668 = .ok (.ixor, 1) := by decide +kernel
theorem dL_law_669 : decode cL_law 669 = .ok (.invokestatic 356, 3) := by decide +kernel
theorem dL_law_672 : decode cL_law 672 = .ok (.ifCond .eq 16, 3) := by decide +kernel
theorem dL_law_675 : decode cL_law 675 = .ok (.aload 6, 2) := by decide +kernel
theorem dL_law_677 : decode cL_law 677 = .ok (.iload 7, 2) := by decide +kernel
theorem dL_law_679 : decode cL_law 679 = .ok (.iinc 7 1, 3) := by decide +kernel
theorem dL_law_682 : decode cL_law 682 = .ok (.lload 9, 2) := by decide +kernel
theorem dL_law_684 : decode cL_law 684 = .ok (.lastore, 1) := by decide +kernel
theorem dL_law_685 : decode cL_law 685 = .ok (.goto 15, 3) := by decide +kernel
theorem dL_law_688 : decode cL_law 688 = .ok (.aload_n 2, 1) := by decide +kernel
theorem dL_law_689 : decode cL_law 689 = .ok (.invokestatic 284, 3) := by decide +kernel
theorem dL_law_692 : decode cL_law 692 = .ok (.lload 9, 2) := by decide +kernel
theorem dL_law_694 : decode cL_law 694 = .ok (.lcmp, 1) := by decide +kernel
theorem dL_law_695 : decode cL_law 695 = .ok (.ifCond .eq 5, 3) := by decide +kernel
theorem dL_law_698 : decode cL_law 698 = .ok (.iconst 0, 1) := by decide +kernel
theorem dL_law_699 : decode cL_law 699 = .ok (.ireturn, 1) := by decide +kernel
theorem dL_law_700 : decode cL_law 700 = .ok (.aload_n 2, 1) := by decide +kernel
theorem dL_law_701 : decode cL_law 701 = .ok (.invokevirtual 288, 3) := by decide +kernel
theorem dL_law_704 : decode cL_law 704 = .ok (.iload 7, 2) := by decide +kernel
theorem dL_law_706 : decode cL_law 706 = .ok (.if_icmp .eq 5, 3) := by decide +kernel
theorem dL_law_709 : decode cL_law 709 = .ok (.iconst 0, 1) := by decide +kernel
theorem dL_law_710 : decode cL_law 710 = .ok (.ireturn, 1) := by decide +kernel
theorem dL_law_711 : decode cL_law 711 = .ok (.iinc 8 1, 3) := by decide +kernel
theorem dL_law_714 : decode cL_law 714 = .ok (.goto (-75), 3) := by decide +kernel
theorem dL_law_717 : decode cL_law 717 = .ok (.iconst 1, 1) := by decide +kernel
theorem dL_law_718 : decode cL_law 718 = .ok (.istore 8, 2) := by decide +kernel
theorem dL_law_720 : decode cL_law 720 = .ok (.iload 8, 2) := by decide +kernel
theorem dL_law_722 : decode cL_law 722 = .ok (.iload 7, 2) := by decide +kernel
theorem dL_law_724 : decode cL_law 724 = .ok (.if_icmp .gt 39, 3) := by decide +kernel
theorem dL_law_727 : decode cL_law 727 = .ok (.aload_n 2, 1) := by decide +kernel
theorem dL_law_728 : decode cL_law 728 = .ok (.invokestatic 341, 3) := by decide +kernel
theorem dL_law_731 : decode cL_law 731 = .ok (.iload 7, 2) := by decide +kernel
theorem dL_law_733 : decode cL_law 733 = .ok (.iload 8, 2) := by decide +kernel
theorem dL_law_735 : decode cL_law 735 = .ok (.isub, 1) := by decide +kernel
theorem dL_law_736 : decode cL_law 736 = .ok (.if_icmp .ne 19, 3) := by decide +kernel
theorem dL_law_739 : decode cL_law 739 = .ok (.aload_n 2, 1) := by decide +kernel
theorem dL_law_740 : decode cL_law 740 = .ok (.invokestatic 284, 3) := by decide +kernel
theorem dL_law_743 : decode cL_law 743 = .ok (.aload 6, 2) := by decide +kernel
theorem dL_law_745 : decode cL_law 745 = .ok (.iload 7, 2) := by decide +kernel
theorem dL_law_747 : decode cL_law 747 = .ok (.iload 8, 2) := by decide +kernel
theorem dL_law_749 : decode cL_law 749 = .ok (.isub, 1) := by decide +kernel
theorem dL_law_750 : decode cL_law 750 = .ok (.laload, 1) := by decide +kernel
theorem dL_law_751 : decode cL_law 751 = .ok (.lcmp, 1) := by decide +kernel
theorem dL_law_752 : decode cL_law 752 = .ok (.ifCond .eq 5, 3) := by decide +kernel
theorem dL_law_755 : decode cL_law 755 = .ok (.iconst 0, 1) := by decide +kernel
theorem dL_law_756 : decode cL_law 756 = .ok (.ireturn, 1) := by decide +kernel
theorem dL_law_757 : decode cL_law 757 = .ok (.iinc 8 1, 3) := by decide +kernel
theorem dL_law_760 : decode cL_law 760 = .ok (.goto (-40), 3) := by decide +kernel
theorem dL_law_763 : decode cL_law 763 = .ok (.aload_n 2, 1) := by decide +kernel
theorem dL_law_764 : decode cL_law 764 = .ok (.invokestatic 341, 3) := by decide +kernel
theorem dL_law_767 : decode cL_law 767 = .ok (.sipush (-1001), 3) := by decide +kernel
theorem dL_law_770 : decode cL_law 770 = .ok (.if_icmp .ne 35, 3) := by decide +kernel
theorem dL_law_773 : decode cL_law 773 = .ok (.aload_n 2, 1) := by decide +kernel
theorem dL_law_774 : decode cL_law 774 = .ok (.invokestatic 343, 3) := by decide +kernel
theorem dL_law_777 : decode cL_law 777 = .ok (.iload 5, 2) := by decide +kernel
theorem dL_law_779 : decode cL_law 779 = .ok (.if_icmp .ne 26, 3) := by decide +kernel
theorem dL_law_782 : decode cL_law 782 = .ok (.aload_n 2, 1) := by decide +kernel
theorem dL_law_783 : decode cL_law 783 = .ok (.invokestatic 284, 3) := by decide +kernel
theorem dL_law_786 : decode cL_law 786 = .ok (.lload_n 3, 1) := by decide +kernel
theorem dL_law_787 : decode cL_law 787 = .ok (.lcmp, 1) := by decide +kernel
theorem dL_law_788 : decode cL_law 788 = .ok (.ifCond .ne 17, 3) := by decide +kernel
theorem dL_law_791 : decode cL_law 791 = .ok (.aload_n 2, 1) := by decide +kernel
theorem dL_law_792 : decode cL_law 792 = .ok (.invokestatic 341, 3) := by decide +kernel
theorem dL_law_795 : decode cL_law 795 = .ok (.sipush (-1001), 3) := by decide +kernel
theorem dL_law_798 : decode cL_law 798 = .ok (.if_icmp .ne 7, 3) := by decide +kernel
theorem dL_law_801 : decode cL_law 801 = .ok (.iconst 1, 1) := by decide +kernel
theorem dL_law_802 : decode cL_law 802 = .ok (.goto 4, 3) := by decide +kernel
theorem dL_law_805 : decode cL_law 805 = .ok (.iconst 0, 1) := by decide +kernel
theorem dL_law_806 : decode cL_law 806 = .ok (.ireturn, 1) := by decide +kernel
theorem dJ5_init_d00df_0 : decode cJ5_init_d00df 0 = .ok (.aload_n 0, 1) := by decide +kernel
theorem dJ5_init_d00df_1 : decode cJ5_init_d00df 1 = .ok (.invokespecial 3, 3) := by decide +kernel
theorem dJ5_init_d00df_4 : decode cJ5_init_d00df 4 = .ok (.getstatic 18, 3) := by decide +kernel
theorem dJ5_init_d00df_7 : decode cJ5_init_d00df 7 = .ok (.ifCond .eq 18, 3) := by decide +kernel
theorem dJ5_init_d00df_10 : decode cJ5_init_d00df 10 = .ok (.aload_n 0, 1) := by decide +kernel
theorem dJ5_init_d00df_11 : decode cJ5_init_d00df 11 = .ok (.iload_n 1, 1) := by decide +kernel
theorem dJ5_init_d00df_12 : decode cJ5_init_d00df 12 = .ok (.newarray .byte, 2) := by decide +kernel
theorem dJ5_init_d00df_14 : decode cJ5_init_d00df 14 = .ok (.putfield 15, 3) := by decide +kernel
theorem dJ5_init_d00df_17 : decode cJ5_init_d00df 17 = .ok (.aload_n 0, 1) := by decide +kernel
theorem dJ5_init_d00df_18 : decode cJ5_init_d00df 18 = .ok (.iconst 0, 1) := by decide +kernel
theorem dJ5_init_d00df_19 : decode cJ5_init_d00df 19 = .ok (.putfield 22, 3) := by decide +kernel
theorem dJ5_init_d00df_22 : decode cJ5_init_d00df 22 = .ok (.goto 16, 3) := by decide +kernel
theorem dJ5_init_d00df_25 : decode cJ5_init_d00df 25 = .ok (.aload_n 0, 1) := by decide +kernel
theorem dJ5_init_d00df_26 : decode cJ5_init_d00df 26 = .ok (.iload_n 1, 1) := by decide +kernel
theorem dJ5_init_d00df_27 : decode cJ5_init_d00df 27 = .ok (.invokestatic 26, 3) := by decide +kernel
theorem dJ5_init_d00df_30 : decode cJ5_init_d00df 30 = .ok (.putfield 15, 3) := by decide +kernel
theorem dJ5_init_d00df_33 : decode cJ5_init_d00df 33 = .ok (.aload_n 0, 1) := by decide +kernel
theorem dJ5_init_d00df_34 : decode cJ5_init_d00df 34 = .ok (.iconst 1, 1) := by decide +kernel
theorem dJ5_init_d00df_35 : decode cJ5_init_d00df 35 = .ok (.putfield 22, 3) := by decide +kernel
theorem dJ5_init_d00df_38 : decode cJ5_init_d00df 38 = .ok (.return_, 1) := by decide +kernel
theorem dJ5_length_8abf5_0 : decode cJ5_length_8abf5 0 = .ok (.aload_n 0, 1) := by decide +kernel
theorem dJ5_length_8abf5_1 : decode cJ5_length_8abf5 1 = .ok (.getfield 79, 3) := by decide +kernel
theorem dJ5_length_8abf5_4 : decode cJ5_length_8abf5 4 = .ok (.ireturn, 1) := by decide +kernel
theorem dJ5_ensureCapacityInternal_d00df_0 : decode cJ5_ensureCapacityInternal_d00df 0 = .ok (.aload_n 0, 1) := by decide +kernel
theorem dJ5_ensureCapacityInternal_d00df_1 : decode cJ5_ensureCapacityInternal_d00df 1 = .ok (.getfield 15, 3) := by decide +kernel
theorem dJ5_ensureCapacityInternal_d00df_4 : decode cJ5_ensureCapacityInternal_d00df 4 = .ok (.arraylength, 1) := by decide +kernel
theorem dJ5_ensureCapacityInternal_d00df_5 : decode cJ5_ensureCapacityInternal_d00df 5 = .ok (.aload_n 0, 1) := by decide +kernel
theorem dJ5_ensureCapacityInternal_d00df_6 : decode cJ5_ensureCapacityInternal_d00df 6 = .ok (.getfield 22, 3) := by decide +kernel
theorem dJ5_ensureCapacityInternal_d00df_9 : decode cJ5_ensureCapacityInternal_d00df 9 = .ok (.ishr, 1) := by decide +kernel
theorem dJ5_ensureCapacityInternal_d00df_10 : decode cJ5_ensureCapacityInternal_d00df 10 = .ok (.istore_n 2, 1) := by decide +kernel
theorem dJ5_ensureCapacityInternal_d00df_11 : decode cJ5_ensureCapacityInternal_d00df 11 = .ok (.iload_n 1, 1) := by decide +kernel
theorem dJ5_ensureCapacityInternal_d00df_12 : decode cJ5_ensureCapacityInternal_d00df 12 = .ok (.iload_n 2, 1) := by decide +kernel
theorem dJ5_ensureCapacityInternal_d00df_13 : decode cJ5_ensureCapacityInternal_d00df 13 = .ok (.isub, 1) := by decide +kernel
theorem dJ5_ensureCapacityInternal_d00df_14 : decode cJ5_ensureCapacityInternal_d00df 14 = .ok (.ifCond .le 24, 3) := by decide +kernel
theorem dJ5_ensureCapacityInternal_d00df_17 : decode cJ5_ensureCapacityInternal_d00df 17 = .ok (.aload_n 0, 1) := by decide +kernel
theorem dJ5_ensureCapacityInternal_d00df_18 : decode cJ5_ensureCapacityInternal_d00df 18 = .ok (.aload_n 0, 1) := by decide +kernel
theorem dJ5_ensureCapacityInternal_d00df_19 : decode cJ5_ensureCapacityInternal_d00df 19 = .ok (.getfield 15, 3) := by decide +kernel
theorem dJ5_ensureCapacityInternal_d00df_22 : decode cJ5_ensureCapacityInternal_d00df 22 = .ok (.aload_n 0, 1) := by decide +kernel
theorem dJ5_ensureCapacityInternal_d00df_23 : decode cJ5_ensureCapacityInternal_d00df 23 = .ok (.iload_n 1, 1) := by decide +kernel
theorem dJ5_ensureCapacityInternal_d00df_24 : decode cJ5_ensureCapacityInternal_d00df 24 = .ok (.invokevirtual 104, 3) := by decide +kernel
theorem dJ5_ensureCapacityInternal_d00df_27 : decode cJ5_ensureCapacityInternal_d00df 27 = .ok (.aload_n 0, 1) := by decide +kernel
theorem dJ5_ensureCapacityInternal_d00df_28 : decode cJ5_ensureCapacityInternal_d00df 28 = .ok (.getfield 22, 3) := by decide +kernel
theorem dJ5_ensureCapacityInternal_d00df_31 : decode cJ5_ensureCapacityInternal_d00df 31 = .ok (.ishl, 1) := by decide +kernel
theorem dJ5_ensureCapacityInternal_d00df_32 : decode cJ5_ensureCapacityInternal_d00df 32 = .ok (.invokestatic 108, 3) := by decide +kernel
theorem dJ5_ensureCapacityInternal_d00df_35 : decode cJ5_ensureCapacityInternal_d00df 35 = .ok (.putfield 15, 3) := by decide +kernel
theorem dJ5_ensureCapacityInternal_d00df_38 : decode cJ5_ensureCapacityInternal_d00df 38 = .ok (.return_, 1) := by decide +kernel
theorem dJ5_newCapacity_0f7a4_0 : decode cJ5_newCapacity_0f7a4 0 = .ok (.aload_n 0, 1) := by decide +kernel
theorem dJ5_newCapacity_0f7a4_1 : decode cJ5_newCapacity_0f7a4 1 = .ok (.getfield 15, 3) := by decide +kernel
theorem dJ5_newCapacity_0f7a4_4 : decode cJ5_newCapacity_0f7a4 4 = .ok (.arraylength, 1) := by decide +kernel
theorem dJ5_newCapacity_0f7a4_5 : decode cJ5_newCapacity_0f7a4 5 = .ok (.istore_n 2, 1) := by decide +kernel
theorem dJ5_newCapacity_0f7a4_6 : decode cJ5_newCapacity_0f7a4 6 = .ok (.iload_n 1, 1) := by decide +kernel
theorem dJ5_newCapacity_0f7a4_7 : decode cJ5_newCapacity_0f7a4 7 = .ok (.aload_n 0, 1) := by decide +kernel
theorem dJ5_newCapacity_0f7a4_8 : decode cJ5_newCapacity_0f7a4 8 = .ok (.getfield 22, 3) := by decide +kernel
theorem dJ5_newCapacity_0f7a4_11 : decode cJ5_newCapacity_0f7a4 11 = .ok (.ishl, 1) := by decide +kernel
theorem dJ5_newCapacity_0f7a4_12 : decode cJ5_newCapacity_0f7a4 12 = .ok (.istore_n 3, 1) := by decide +kernel
theorem dJ5_newCapacity_0f7a4_13 : decode cJ5_newCapacity_0f7a4 13 = .ok (.iload_n 3, 1) := by decide +kernel
theorem dJ5_newCapacity_0f7a4_14 : decode cJ5_newCapacity_0f7a4 14 = .ok (.iload_n 2, 1) := by decide +kernel
theorem dJ5_newCapacity_0f7a4_15 : decode cJ5_newCapacity_0f7a4 15 = .ok (.isub, 1) := by decide +kernel
theorem dJ5_newCapacity_0f7a4_16 : decode cJ5_newCapacity_0f7a4 16 = .ok (.istore 4, 2) := by decide +kernel
theorem dJ5_newCapacity_0f7a4_18 : decode cJ5_newCapacity_0f7a4 18 = .ok (.iload_n 2, 1) := by decide +kernel
theorem dJ5_newCapacity_0f7a4_19 : decode cJ5_newCapacity_0f7a4 19 = .ok (.iload 4, 2) := by decide +kernel
theorem dJ5_newCapacity_0f7a4_21 : decode cJ5_newCapacity_0f7a4 21 = .ok (.iload_n 2, 1) := by decide +kernel
theorem dJ5_newCapacity_0f7a4_22 : decode cJ5_newCapacity_0f7a4 22 = .ok (.iconst 2, 1) := by decide +kernel
theorem dJ5_newCapacity_0f7a4_23 : decode cJ5_newCapacity_0f7a4 23 = .ok (.aload_n 0, 1) := by decide +kernel
theorem dJ5_newCapacity_0f7a4_24 : decode cJ5_newCapacity_0f7a4 24 = .ok (.getfield 22, 3) := by decide +kernel
theorem dJ5_newCapacity_0f7a4_27 : decode cJ5_newCapacity_0f7a4 27 = .ok (.ishl, 1) := by decide +kernel
theorem dJ5_newCapacity_0f7a4_28 : decode cJ5_newCapacity_0f7a4 28 = .ok (.iadd, 1) := by decide +kernel
theorem dJ5_newCapacity_0f7a4_29 : decode cJ5_newCapacity_0f7a4 29 = .ok (.invokestatic 114, 3) := by decide +kernel
theorem dJ5_newCapacity_0f7a4_32 : decode cJ5_newCapacity_0f7a4 32 = .ok (.istore 5, 2) := by decide +kernel
theorem dJ5_newCapacity_0f7a4_34 : decode cJ5_newCapacity_0f7a4 34 = .ok (.iload 5, 2) := by decide +kernel
theorem dJ5_newCapacity_0f7a4_36 : decode cJ5_newCapacity_0f7a4 36 = .ok (.ldc 39, 2) := by decide +kernel
theorem dJ5_newCapacity_0f7a4_38 : decode cJ5_newCapacity_0f7a4 38 = .ok (.if_icmp .ne 13, 3) := by decide +kernel
theorem dJ5_newCapacity_0f7a4_41 : decode cJ5_newCapacity_0f7a4 41 = .ok (.new 120, 3) := by decide +kernel
theorem dJ5_newCapacity_0f7a4_44 : decode cJ5_newCapacity_0f7a4 44 = .ok (.dup, 1) := by decide +kernel
theorem dJ5_newCapacity_0f7a4_45 : decode cJ5_newCapacity_0f7a4 45 = .ok (.ldc 122, 2) := by decide +kernel
theorem dJ5_newCapacity_0f7a4_47 : decode cJ5_newCapacity_0f7a4 47 = .ok (.invokespecial 124, 3) := by decide +kernel
theorem dJ5_newCapacity_0f7a4_50 : decode cJ5_newCapacity_0f7a4 50 = .ok (.athrow, 1) := by decide +kernel
theorem dJ5_newCapacity_0f7a4_51 : decode cJ5_newCapacity_0f7a4 51 = .ok (.iload 5, 2) := by decide +kernel
theorem dJ5_newCapacity_0f7a4_53 : decode cJ5_newCapacity_0f7a4 53 = .ok (.aload_n 0, 1) := by decide +kernel
theorem dJ5_newCapacity_0f7a4_54 : decode cJ5_newCapacity_0f7a4 54 = .ok (.getfield 22, 3) := by decide +kernel
theorem dJ5_newCapacity_0f7a4_57 : decode cJ5_newCapacity_0f7a4 57 = .ok (.ishr, 1) := by decide +kernel
theorem dJ5_newCapacity_0f7a4_58 : decode cJ5_newCapacity_0f7a4 58 = .ok (.ireturn, 1) := by decide +kernel
theorem dJ5_inflate_da8c8_0 : decode cJ5_inflate_da8c8 0 = .ok (.aload_n 0, 1) := by decide +kernel
theorem dJ5_inflate_da8c8_1 : decode cJ5_inflate_da8c8 1 = .ok (.invokevirtual 83, 3) := by decide +kernel
theorem dJ5_inflate_da8c8_4 : decode cJ5_inflate_da8c8 4 = .ok (.ifCond .ne 4, 3) := by decide +kernel
theorem dJ5_inflate_da8c8_7 : decode cJ5_inflate_da8c8 7 = .ok (.return_, 1) := by decide +kernel
theorem dJ5_inflate_da8c8_8 : decode cJ5_inflate_da8c8 8 = .ok (.aload_n 0, 1) := by decide +kernel
theorem dJ5_inflate_da8c8_9 : decode cJ5_inflate_da8c8 9 = .ok (.getfield 15, 3) := by decide +kernel
theorem dJ5_inflate_da8c8_12 : decode cJ5_inflate_da8c8 12 = .ok (.arraylength, 1) := by decide +kernel
theorem dJ5_inflate_da8c8_13 : decode cJ5_inflate_da8c8 13 = .ok (.invokestatic 26, 3) := by decide +kernel
theorem dJ5_inflate_da8c8_16 : decode cJ5_inflate_da8c8 16 = .ok (.astore_n 1, 1) := by decide +kernel
theorem dJ5_inflate_da8c8_17 : decode cJ5_inflate_da8c8 17 = .ok (.aload_n 0, 1) := by decide +kernel
theorem dJ5_inflate_da8c8_18 : decode cJ5_inflate_da8c8 18 = .ok (.getfield 15, 3) := by decide +kernel
theorem dJ5_inflate_da8c8_21 : decode cJ5_inflate_da8c8 21 = .ok (.iconst 0, 1) := by decide +kernel
theorem dJ5_inflate_da8c8_22 : decode cJ5_inflate_da8c8 22 = .ok (.aload_n 1, 1) := by decide +kernel
theorem dJ5_inflate_da8c8_23 : decode cJ5_inflate_da8c8 23 = .ok (.iconst 0, 1) := by decide +kernel
theorem dJ5_inflate_da8c8_24 : decode cJ5_inflate_da8c8 24 = .ok (.aload_n 0, 1) := by decide +kernel
theorem dJ5_inflate_da8c8_25 : decode cJ5_inflate_da8c8 25 = .ok (.getfield 79, 3) := by decide +kernel
theorem dJ5_inflate_da8c8_28 : decode cJ5_inflate_da8c8 28 = .ok (.invokestatic 125, 3) := by decide +kernel
theorem dJ5_inflate_da8c8_31 : decode cJ5_inflate_da8c8 31 = .ok (.aload_n 0, 1) := by decide +kernel
theorem dJ5_inflate_da8c8_32 : decode cJ5_inflate_da8c8 32 = .ok (.aload_n 1, 1) := by decide +kernel
theorem dJ5_inflate_da8c8_33 : decode cJ5_inflate_da8c8 33 = .ok (.putfield 15, 3) := by decide +kernel
theorem dJ5_inflate_da8c8_36 : decode cJ5_inflate_da8c8 36 = .ok (.aload_n 0, 1) := by decide +kernel
theorem dJ5_inflate_da8c8_37 : decode cJ5_inflate_da8c8 37 = .ok (.iconst 1, 1) := by decide +kernel
theorem dJ5_inflate_da8c8_38 : decode cJ5_inflate_da8c8 38 = .ok (.putfield 22, 3) := by decide +kernel
theorem dJ5_inflate_da8c8_41 : decode cJ5_inflate_da8c8 41 = .ok (.return_, 1) := by decide +kernel
theorem dJ5_append_cf1ce_0 : decode cJ5_append_cf1ce 0 = .ok (.aload_n 1, 1) := by decide +kernel
theorem dJ5_append_cf1ce_1 : decode cJ5_append_cf1ce 1 = .ok (.ifnonnull 8, 3) := by decide +kernel
theorem dJ5_append_cf1ce_4 : decode cJ5_append_cf1ce 4 = .ok (.aload_n 0, 1) := by decide +kernel
theorem dJ5_append_cf1ce_5 : decode cJ5_append_cf1ce 5 = .ok (.invokevirtual 204, 3) := by decide +kernel
theorem dJ5_append_cf1ce_8 : decode cJ5_append_cf1ce 8 = .ok (.areturn, 1) := by decide +kernel
theorem dJ5_append_cf1ce_9 : decode cJ5_append_cf1ce 9 = .ok (.aload_n 1, 1) := by decide +kernel
theorem dJ5_append_cf1ce_10 : decode cJ5_append_cf1ce 10 = .ok (.invokevirtual 32, 3) := by decide +kernel
theorem dJ5_append_cf1ce_13 : decode cJ5_append_cf1ce 13 = .ok (.istore_n 2, 1) := by decide +kernel
theorem dJ5_append_cf1ce_14 : decode cJ5_append_cf1ce 14 = .ok (.aload_n 0, 1) := by decide +kernel
theorem dJ5_append_cf1ce_15 : decode cJ5_append_cf1ce 15 = .ok (.aload_n 0, 1) := by decide +kernel
theorem dJ5_append_cf1ce_16 : decode cJ5_append_cf1ce 16 = .ok (.getfield 79, 3) := by decide +kernel
theorem dJ5_append_cf1ce_19 : decode cJ5_append_cf1ce 19 = .ok (.iload_n 2, 1) := by decide +kernel
theorem dJ5_append_cf1ce_20 : decode cJ5_append_cf1ce 20 = .ok (.iadd, 1) := by decide +kernel
theorem dJ5_append_cf1ce_21 : decode cJ5_append_cf1ce 21 = .ok (.invokevirtual 100, 3) := by decide +kernel
theorem dJ5_append_cf1ce_24 : decode cJ5_append_cf1ce 24 = .ok (.aload_n 0, 1) := by decide +kernel
theorem dJ5_append_cf1ce_25 : decode cJ5_append_cf1ce 25 = .ok (.aload_n 0, 1) := by decide +kernel
theorem dJ5_append_cf1ce_26 : decode cJ5_append_cf1ce 26 = .ok (.getfield 79, 3) := by decide +kernel
theorem dJ5_append_cf1ce_29 : decode cJ5_append_cf1ce 29 = .ok (.aload_n 1, 1) := by decide +kernel
theorem dJ5_append_cf1ce_30 : decode cJ5_append_cf1ce 30 = .ok (.invokevirtual 208, 3) := by decide +kernel
theorem dJ5_append_cf1ce_33 : decode cJ5_append_cf1ce 33 = .ok (.aload_n 0, 1) := by decide +kernel
theorem dJ5_append_cf1ce_34 : decode cJ5_append_cf1ce 34 = .ok (.dup, 1) := by decide +kernel
theorem dJ5_append_cf1ce_35 : decode cJ5_append_cf1ce 35 = .ok (.getfield 79, 3) := by decide +kernel
theorem dJ5_append_cf1ce_38 : decode cJ5_append_cf1ce 38 = .ok (.iload_n 2, 1) := by decide +kernel
theorem dJ5_append_cf1ce_39 : decode cJ5_append_cf1ce 39 = .ok (.iadd, 1) := by decide +kernel
theorem dJ5_append_cf1ce_40 : decode cJ5_append_cf1ce 40 = .ok (.putfield 79, 3) := by decide +kernel
theorem dJ5_append_cf1ce_43 : decode cJ5_append_cf1ce 43 = .ok (.aload_n 0, 1) := by decide +kernel
theorem dJ5_append_cf1ce_44 : decode cJ5_append_cf1ce 44 = .ok (.areturn, 1) := by decide +kernel
theorem dJ5_appendNull_278bc_0 : decode cJ5_appendNull_278bc 0 = .ok (.aload_n 0, 1) := by decide +kernel
theorem dJ5_appendNull_278bc_1 : decode cJ5_appendNull_278bc 1 = .ok (.aload_n 0, 1) := by decide +kernel
theorem dJ5_appendNull_278bc_2 : decode cJ5_appendNull_278bc 2 = .ok (.getfield 79, 3) := by decide +kernel
theorem dJ5_appendNull_278bc_5 : decode cJ5_appendNull_278bc 5 = .ok (.iconst 4, 1) := by decide +kernel
theorem dJ5_appendNull_278bc_6 : decode cJ5_appendNull_278bc 6 = .ok (.iadd, 1) := by decide +kernel
theorem dJ5_appendNull_278bc_7 : decode cJ5_appendNull_278bc 7 = .ok (.invokevirtual 100, 3) := by decide +kernel
theorem dJ5_appendNull_278bc_10 : decode cJ5_appendNull_278bc 10 = .ok (.aload_n 0, 1) := by decide +kernel
theorem dJ5_appendNull_278bc_11 : decode cJ5_appendNull_278bc 11 = .ok (.getfield 79, 3) := by decide +kernel
theorem dJ5_appendNull_278bc_14 : decode cJ5_appendNull_278bc 14 = .ok (.istore_n 1, 1) := by decide +kernel
theorem dJ5_appendNull_278bc_15 : decode cJ5_appendNull_278bc 15 = .ok (.aload_n 0, 1) := by decide +kernel
theorem dJ5_appendNull_278bc_16 : decode cJ5_appendNull_278bc 16 = .ok (.getfield 15, 3) := by decide +kernel
theorem dJ5_appendNull_278bc_19 : decode cJ5_appendNull_278bc 19 = .ok (.astore_n 2, 1) := by decide +kernel
theorem dJ5_appendNull_278bc_20 : decode cJ5_appendNull_278bc 20 = .ok (.aload_n 0, 1) := by decide +kernel
theorem dJ5_appendNull_278bc_21 : decode cJ5_appendNull_278bc 21 = .ok (.invokevirtual 83, 3) := by decide +kernel
theorem dJ5_appendNull_278bc_24 : decode cJ5_appendNull_278bc 24 = .ok (.ifCond .eq 38, 3) := by decide +kernel
theorem dJ5_appendNull_278bc_27 : decode cJ5_appendNull_278bc 27 = .ok (.aload_n 2, 1) := by decide +kernel
theorem dJ5_appendNull_278bc_28 : decode cJ5_appendNull_278bc 28 = .ok (.iload_n 1, 1) := by decide +kernel
theorem dJ5_appendNull_278bc_29 : decode cJ5_appendNull_278bc 29 = .ok (.iinc 1 1, 3) := by decide +kernel
theorem dJ5_appendNull_278bc_32 : decode cJ5_appendNull_278bc 32 = .ok (.bipush 110, 2) := by decide +kernel
theorem dJ5_appendNull_278bc_34 : decode cJ5_appendNull_278bc 34 = .ok (.bastore, 1) := by decide +kernel
theorem dJ5_appendNull_278bc_35 : decode cJ5_appendNull_278bc 35 = .ok (.aload_n 2, 1) := by decide +kernel
theorem dJ5_appendNull_278bc_36 : decode cJ5_appendNull_278bc 36 = .ok (.iload_n 1, 1) := by decide +kernel
theorem dJ5_appendNull_278bc_37 : decode cJ5_appendNull_278bc 37 = .ok (.iinc 1 1, 3) := by decide +kernel
theorem dJ5_appendNull_278bc_40 : decode cJ5_appendNull_278bc 40 = .ok (.bipush 117, 2) := by decide +kernel
theorem dJ5_appendNull_278bc_42 : decode cJ5_appendNull_278bc 42 = .ok (.bastore, 1) := by decide +kernel
theorem dJ5_appendNull_278bc_43 : decode cJ5_appendNull_278bc 43 = .ok (.aload_n 2, 1) := by decide +kernel
theorem dJ5_appendNull_278bc_44 : decode cJ5_appendNull_278bc 44 = .ok (.iload_n 1, 1) := by decide +kernel
theorem dJ5_appendNull_278bc_45 : decode cJ5_appendNull_278bc 45 = .ok (.iinc 1 1, 3) := by decide +kernel
theorem dJ5_appendNull_278bc_48 : decode cJ5_appendNull_278bc 48 = .ok (.bipush 108, 2) := by decide +kernel
theorem dJ5_appendNull_278bc_50 : decode cJ5_appendNull_278bc 50 = .ok (.bastore, 1) := by decide +kernel
theorem dJ5_appendNull_278bc_51 : decode cJ5_appendNull_278bc 51 = .ok (.aload_n 2, 1) := by decide +kernel
theorem dJ5_appendNull_278bc_52 : decode cJ5_appendNull_278bc 52 = .ok (.iload_n 1, 1) := by decide +kernel
theorem dJ5_appendNull_278bc_53 : decode cJ5_appendNull_278bc 53 = .ok (.iinc 1 1, 3) := by decide +kernel
theorem dJ5_appendNull_278bc_56 : decode cJ5_appendNull_278bc 56 = .ok (.bipush 108, 2) := by decide +kernel
theorem dJ5_appendNull_278bc_58 : decode cJ5_appendNull_278bc 58 = .ok (.bastore, 1) := by decide +kernel
theorem dJ5_appendNull_278bc_59 : decode cJ5_appendNull_278bc 59 = .ok (.goto 17, 3) := by decide +kernel
theorem dJ5_appendNull_278bc_62 : decode cJ5_appendNull_278bc 62 = .ok (.aload_n 2, 1) := by decide +kernel
theorem dJ5_appendNull_278bc_63 : decode cJ5_appendNull_278bc 63 = .ok (.iload_n 1, 1) := by decide +kernel
theorem dJ5_appendNull_278bc_64 : decode cJ5_appendNull_278bc 64 = .ok (.bipush 110, 2) := by decide +kernel
theorem dJ5_appendNull_278bc_66 : decode cJ5_appendNull_278bc 66 = .ok (.bipush 117, 2) := by decide +kernel
theorem dJ5_appendNull_278bc_68 : decode cJ5_appendNull_278bc 68 = .ok (.bipush 108, 2) := by decide +kernel
theorem dJ5_appendNull_278bc_70 : decode cJ5_appendNull_278bc 70 = .ok (.bipush 108, 2) := by decide +kernel
theorem dJ5_appendNull_278bc_72 : decode cJ5_appendNull_278bc 72 = .ok (.invokestatic 226, 3) := by decide +kernel
theorem dJ5_appendNull_278bc_75 : decode cJ5_appendNull_278bc 75 = .ok (.istore_n 1, 1) := by decide +kernel
theorem dJ5_appendNull_278bc_76 : decode cJ5_appendNull_278bc 76 = .ok (.aload_n 0, 1) := by decide +kernel
theorem dJ5_appendNull_278bc_77 : decode cJ5_appendNull_278bc 77 = .ok (.iload_n 1, 1) := by decide +kernel
theorem dJ5_appendNull_278bc_78 : decode cJ5_appendNull_278bc 78 = .ok (.putfield 79, 3) := by decide +kernel
theorem dJ5_appendNull_278bc_81 : decode cJ5_appendNull_278bc 81 = .ok (.aload_n 0, 1) := by decide +kernel
theorem dJ5_appendNull_278bc_82 : decode cJ5_appendNull_278bc 82 = .ok (.areturn, 1) := by decide +kernel
theorem dJ5_append_c97b9_0 : decode cJ5_append_c97b9 0 = .ok (.aload_n 0, 1) := by decide +kernel
theorem dJ5_append_c97b9_1 : decode cJ5_append_c97b9 1 = .ok (.getfield 79, 3) := by decide +kernel
theorem dJ5_append_c97b9_4 : decode cJ5_append_c97b9 4 = .ok (.istore_n 2, 1) := by decide +kernel
theorem dJ5_append_c97b9_5 : decode cJ5_append_c97b9 5 = .ok (.iload_n 2, 1) := by decide +kernel
theorem dJ5_append_c97b9_6 : decode cJ5_append_c97b9 6 = .ok (.iload_n 1, 1) := by decide +kernel
theorem dJ5_append_c97b9_7 : decode cJ5_append_c97b9 7 = .ok (.invokestatic 245, 3) := by decide +kernel
theorem dJ5_append_c97b9_10 : decode cJ5_append_c97b9 10 = .ok (.iadd, 1) := by decide +kernel
theorem dJ5_append_c97b9_11 : decode cJ5_append_c97b9 11 = .ok (.istore_n 3, 1) := by decide +kernel
theorem dJ5_append_c97b9_12 : decode cJ5_append_c97b9 12 = .ok (.aload_n 0, 1) := by decide +kernel
theorem dJ5_append_c97b9_13 : decode cJ5_append_c97b9 13 = .ok (.iload_n 3, 1) := by decide +kernel
theorem dJ5_append_c97b9_14 : decode cJ5_append_c97b9 14 = .ok (.invokevirtual 100, 3) := by decide +kernel
theorem dJ5_append_c97b9_17 : decode cJ5_append_c97b9 17 = .ok (.aload_n 0, 1) := by decide +kernel
theorem dJ5_append_c97b9_18 : decode cJ5_append_c97b9 18 = .ok (.invokevirtual 83, 3) := by decide +kernel
theorem dJ5_append_c97b9_21 : decode cJ5_append_c97b9 21 = .ok (.ifCond .eq 16, 3) := by decide +kernel
theorem dJ5_append_c97b9_24 : decode cJ5_append_c97b9 24 = .ok (.iload_n 1, 1) := by decide +kernel
theorem dJ5_append_c97b9_25 : decode cJ5_append_c97b9 25 = .ok (.iload_n 3, 1) := by decide +kernel
theorem dJ5_append_c97b9_26 : decode cJ5_append_c97b9 26 = .ok (.aload_n 0, 1) := by decide +kernel
theorem dJ5_append_c97b9_27 : decode cJ5_append_c97b9 27 = .ok (.getfield 15, 3) := by decide +kernel
theorem dJ5_append_c97b9_30 : decode cJ5_append_c97b9 30 = .ok (.invokestatic 248, 3) := by decide +kernel
theorem dJ5_append_c97b9_33 : decode cJ5_append_c97b9 33 = .ok (.pop, 1) := by decide +kernel
theorem dJ5_append_c97b9_34 : decode cJ5_append_c97b9 34 = .ok (.goto 14, 3) := by decide +kernel
theorem dJ5_append_c97b9_37 : decode cJ5_append_c97b9 37 = .ok (.iload_n 1, 1) := by decide +kernel
theorem dJ5_append_c97b9_38 : decode cJ5_append_c97b9 38 = .ok (.iload_n 2, 1) := by decide +kernel
theorem dJ5_append_c97b9_39 : decode cJ5_append_c97b9 39 = .ok (.iload_n 3, 1) := by decide +kernel
theorem dJ5_append_c97b9_40 : decode cJ5_append_c97b9 40 = .ok (.aload_n 0, 1) := by decide +kernel
theorem dJ5_append_c97b9_41 : decode cJ5_append_c97b9 41 = .ok (.getfield 15, 3) := by decide +kernel
theorem dJ5_append_c97b9_44 : decode cJ5_append_c97b9 44 = .ok (.invokestatic 251, 3) := by decide +kernel
theorem dJ5_append_c97b9_47 : decode cJ5_append_c97b9 47 = .ok (.pop, 1) := by decide +kernel
theorem dJ5_append_c97b9_48 : decode cJ5_append_c97b9 48 = .ok (.aload_n 0, 1) := by decide +kernel
theorem dJ5_append_c97b9_49 : decode cJ5_append_c97b9 49 = .ok (.iload_n 3, 1) := by decide +kernel
theorem dJ5_append_c97b9_50 : decode cJ5_append_c97b9 50 = .ok (.putfield 79, 3) := by decide +kernel
theorem dJ5_append_c97b9_53 : decode cJ5_append_c97b9 53 = .ok (.aload_n 0, 1) := by decide +kernel
theorem dJ5_append_c97b9_54 : decode cJ5_append_c97b9 54 = .ok (.areturn, 1) := by decide +kernel
theorem dJ5_getValue_6d5f1_0 : decode cJ5_getValue_6d5f1 0 = .ok (.aload_n 0, 1) := by decide +kernel
theorem dJ5_getValue_6d5f1_1 : decode cJ5_getValue_6d5f1 1 = .ok (.getfield 15, 3) := by decide +kernel
theorem dJ5_getValue_6d5f1_4 : decode cJ5_getValue_6d5f1 4 = .ok (.areturn, 1) := by decide +kernel
theorem dJ5_isLatin1_aae02_0 : decode cJ5_isLatin1_aae02 0 = .ok (.getstatic 18, 3) := by decide +kernel
theorem dJ5_isLatin1_aae02_3 : decode cJ5_isLatin1_aae02 3 = .ok (.ifCond .eq 14, 3) := by decide +kernel
theorem dJ5_isLatin1_aae02_6 : decode cJ5_isLatin1_aae02 6 = .ok (.aload_n 0, 1) := by decide +kernel
theorem dJ5_isLatin1_aae02_7 : decode cJ5_isLatin1_aae02 7 = .ok (.getfield 22, 3) := by decide +kernel
theorem dJ5_isLatin1_aae02_10 : decode cJ5_isLatin1_aae02 10 = .ok (.ifCond .ne 7, 3) := by decide +kernel
theorem dJ5_isLatin1_aae02_13 : decode cJ5_isLatin1_aae02 13 = .ok (.iconst 1, 1) := by decide +kernel
theorem dJ5_isLatin1_aae02_14 : decode cJ5_isLatin1_aae02 14 = .ok (.goto 4, 3) := by decide +kernel
theorem dJ5_isLatin1_aae02_17 : decode cJ5_isLatin1_aae02 17 = .ok (.iconst 0, 1) := by decide +kernel
theorem dJ5_isLatin1_aae02_18 : decode cJ5_isLatin1_aae02 18 = .ok (.ireturn, 1) := by decide +kernel
theorem dJ5_inflateIfNeededFor_a7421_0 : decode cJ5_inflateIfNeededFor_a7421 0 = .ok (.getstatic 18, 3) := by decide +kernel
theorem dJ5_inflateIfNeededFor_a7421_3 : decode cJ5_inflateIfNeededFor_a7421 3 = .ok (.ifCond .eq 18, 3) := by decide +kernel
theorem dJ5_inflateIfNeededFor_a7421_6 : decode cJ5_inflateIfNeededFor_a7421 6 = .ok (.aload_n 0, 1) := by decide +kernel
theorem dJ5_inflateIfNeededFor_a7421_7 : decode cJ5_inflateIfNeededFor_a7421 7 = .ok (.getfield 22, 3) := by decide +kernel
theorem dJ5_inflateIfNeededFor_a7421_10 : decode cJ5_inflateIfNeededFor_a7421 10 = .ok (.aload_n 1, 1) := by decide +kernel
theorem dJ5_inflateIfNeededFor_a7421_11 : decode cJ5_inflateIfNeededFor_a7421 11 = .ok (.invokevirtual 40, 3) := by decide +kernel
theorem dJ5_inflateIfNeededFor_a7421_14 : decode cJ5_inflateIfNeededFor_a7421 14 = .ok (.if_icmp .eq 7, 3) := by decide +kernel
theorem dJ5_inflateIfNeededFor_a7421_17 : decode cJ5_inflateIfNeededFor_a7421 17 = .ok (.aload_n 0, 1) := by decide +kernel
theorem dJ5_inflateIfNeededFor_a7421_18 : decode cJ5_inflateIfNeededFor_a7421 18 = .ok (.invokevirtual 195, 3) := by decide +kernel
theorem dJ5_inflateIfNeededFor_a7421_21 : decode cJ5_inflateIfNeededFor_a7421 21 = .ok (.return_, 1) := by decide +kernel
theorem dJ5_putStringAt_47b60_0 : decode cJ5_putStringAt_47b60 0 = .ok (.aload_n 0, 1) := by decide +kernel
theorem dJ5_putStringAt_47b60_1 : decode cJ5_putStringAt_47b60 1 = .ok (.aload_n 2, 1) := by decide +kernel
theorem dJ5_putStringAt_47b60_2 : decode cJ5_putStringAt_47b60 2 = .ok (.invokevirtual 397, 3) := by decide +kernel
theorem dJ5_putStringAt_47b60_5 : decode cJ5_putStringAt_47b60 5 = .ok (.aload_n 2, 1) := by decide +kernel
theorem dJ5_putStringAt_47b60_6 : decode cJ5_putStringAt_47b60 6 = .ok (.aload_n 0, 1) := by decide +kernel
theorem dJ5_putStringAt_47b60_7 : decode cJ5_putStringAt_47b60 7 = .ok (.getfield 15, 3) := by decide +kernel
theorem dJ5_putStringAt_47b60_10 : decode cJ5_putStringAt_47b60 10 = .ok (.iload_n 1, 1) := by decide +kernel
theorem dJ5_putStringAt_47b60_11 : decode cJ5_putStringAt_47b60 11 = .ok (.aload_n 0, 1) := by decide +kernel
theorem dJ5_putStringAt_47b60_12 : decode cJ5_putStringAt_47b60 12 = .ok (.getfield 22, 3) := by decide +kernel
theorem dJ5_putStringAt_47b60_15 : decode cJ5_putStringAt_47b60 15 = .ok (.invokevirtual 399, 3) := by decide +kernel
theorem dJ5_putStringAt_47b60_18 : decode cJ5_putStringAt_47b60 18 = .ok (.return_, 1) := by decide +kernel
theorem dJx00060_init_a7421_0 : decode cJx00060_init_a7421 0 = .ok (.aload_n 0, 1) := by decide +kernel
theorem dJx00060_init_a7421_1 : decode cJx00060_init_a7421 1 = .ok (.aload_n 1, 1) := by decide +kernel
theorem dJx00060_init_a7421_2 : decode cJx00060_init_a7421 2 = .ok (.invokespecial 7, 3) := by decide +kernel
theorem dJx00060_init_a7421_5 : decode cJx00060_init_a7421 5 = .ok (.return_, 1) := by decide +kernel
theorem dJxe99ae_isNaN_b9ae7_0 : decode cJxe99ae_isNaN_b9ae7 0 = .ok (.dload_n 0, 1) := by decide +kernel
theorem dJxe99ae_isNaN_b9ae7_1 : decode cJxe99ae_isNaN_b9ae7 1 = .ok (.dload_n 0, 1) := by decide +kernel
theorem dJxe99ae_isNaN_b9ae7_2 : decode cJxe99ae_isNaN_b9ae7 2 = .ok (.dcmp .l, 1) := by decide +kernel
theorem dJxe99ae_isNaN_b9ae7_3 : decode cJxe99ae_isNaN_b9ae7 3 = .ok (.ifCond .eq 7, 3) := by decide +kernel
theorem dJxe99ae_isNaN_b9ae7_6 : decode cJxe99ae_isNaN_b9ae7 6 = .ok (.iconst 1, 1) := by decide +kernel
theorem dJxe99ae_isNaN_b9ae7_7 : decode cJxe99ae_isNaN_b9ae7 7 = .ok (.goto 4, 3) := by decide +kernel
theorem dJxe99ae_isNaN_b9ae7_10 : decode cJxe99ae_isNaN_b9ae7 10 = .ok (.iconst 0, 1) := by decide +kernel
theorem dJxe99ae_isNaN_b9ae7_11 : decode cJxe99ae_isNaN_b9ae7 11 = .ok (.ireturn, 1) := by decide +kernel
theorem dJxe99ae_doubleToLongBits_ccdee_0 : decode cJxe99ae_doubleToLongBits_ccdee 0 = .ok (.dload_n 0, 1) := by decide +kernel
theorem dJxe99ae_doubleToLongBits_ccdee_1 : decode cJxe99ae_doubleToLongBits_ccdee 1 = .ok (.invokestatic 122, 3) := by decide +kernel
theorem dJxe99ae_doubleToLongBits_ccdee_4 : decode cJxe99ae_doubleToLongBits_ccdee 4 = .ok (.ifCond .ne 8, 3) := by decide +kernel
theorem dJxe99ae_doubleToLongBits_ccdee_7 : decode cJxe99ae_doubleToLongBits_ccdee 7 = .ok (.dload_n 0, 1) := by decide +kernel
theorem dJxe99ae_doubleToLongBits_ccdee_8 : decode cJxe99ae_doubleToLongBits_ccdee 8 = .ok (.invokestatic 134, 3) := by decide +kernel
theorem dJxe99ae_doubleToLongBits_ccdee_11 : decode cJxe99ae_doubleToLongBits_ccdee 11 = .ok (.lreturn, 1) := by decide +kernel
theorem dJxe99ae_doubleToLongBits_ccdee_12 : decode cJxe99ae_doubleToLongBits_ccdee 12 = .ok (.ldc2_w 137, 3) := by decide +kernel
theorem dJxe99ae_doubleToLongBits_ccdee_15 : decode cJxe99ae_doubleToLongBits_ccdee 15 = .ok (.lreturn, 1) := by decide +kernel
theorem dJx29ce0_ordinal_8abf5_0 : decode cJx29ce0_ordinal_8abf5 0 = .ok (.aload_n 0, 1) := by decide +kernel
theorem dJx29ce0_ordinal_8abf5_1 : decode cJx29ce0_ordinal_8abf5 1 = .ok (.getfield 7, 3) := by decide +kernel
theorem dJx29ce0_ordinal_8abf5_4 : decode cJx29ce0_ordinal_8abf5 4 = .ok (.ireturn, 1) := by decide +kernel
theorem dJxf58ca_isNaN_12338_0 : decode cJxf58ca_isNaN_12338 0 = .ok (.fload_n 0, 1) := by decide +kernel
theorem dJxf58ca_isNaN_12338_1 : decode cJxf58ca_isNaN_12338 1 = .ok (.fload_n 0, 1) := by decide +kernel
theorem dJxf58ca_isNaN_12338_2 : decode cJxf58ca_isNaN_12338 2 = .ok (.fcmp .l, 1) := by decide +kernel
theorem dJxf58ca_isNaN_12338_3 : decode cJxf58ca_isNaN_12338 3 = .ok (.ifCond .eq 7, 3) := by decide +kernel
theorem dJxf58ca_isNaN_12338_6 : decode cJxf58ca_isNaN_12338 6 = .ok (.iconst 1, 1) := by decide +kernel
theorem dJxf58ca_isNaN_12338_7 : decode cJxf58ca_isNaN_12338 7 = .ok (.goto 4, 3) := by decide +kernel
theorem dJxf58ca_isNaN_12338_10 : decode cJxf58ca_isNaN_12338 10 = .ok (.iconst 0, 1) := by decide +kernel
theorem dJxf58ca_isNaN_12338_11 : decode cJxf58ca_isNaN_12338 11 = .ok (.ireturn, 1) := by decide +kernel
theorem dJxf58ca_floatToIntBits_5c35a_0 : decode cJxf58ca_floatToIntBits_5c35a 0 = .ok (.fload_n 0, 1) := by decide +kernel
theorem dJxf58ca_floatToIntBits_5c35a_1 : decode cJxf58ca_floatToIntBits_5c35a 1 = .ok (.invokestatic 59, 3) := by decide +kernel
theorem dJxf58ca_floatToIntBits_5c35a_4 : decode cJxf58ca_floatToIntBits_5c35a 4 = .ok (.ifCond .ne 8, 3) := by decide +kernel
theorem dJxf58ca_floatToIntBits_5c35a_7 : decode cJxf58ca_floatToIntBits_5c35a 7 = .ok (.fload_n 0, 1) := by decide +kernel
theorem dJxf58ca_floatToIntBits_5c35a_8 : decode cJxf58ca_floatToIntBits_5c35a 8 = .ok (.invokestatic 74, 3) := by decide +kernel
theorem dJxf58ca_floatToIntBits_5c35a_11 : decode cJxf58ca_floatToIntBits_5c35a 11 = .ok (.ireturn, 1) := by decide +kernel
theorem dJxf58ca_floatToIntBits_5c35a_12 : decode cJxf58ca_floatToIntBits_5c35a 12 = .ok (.ldc 77, 2) := by decide +kernel
theorem dJxf58ca_floatToIntBits_5c35a_14 : decode cJxf58ca_floatToIntBits_5c35a 14 = .ok (.ireturn, 1) := by decide +kernel
theorem dJ6_getChars_ba4f3_0 : decode cJ6_getChars_ba4f3 0 = .ok (.iload_n 1, 1) := by decide +kernel
theorem dJ6_getChars_ba4f3_1 : decode cJ6_getChars_ba4f3 1 = .ok (.istore 5, 2) := by decide +kernel
theorem dJ6_getChars_ba4f3_3 : decode cJ6_getChars_ba4f3 3 = .ok (.iload_n 0, 1) := by decide +kernel
theorem dJ6_getChars_ba4f3_4 : decode cJ6_getChars_ba4f3 4 = .ok (.ifCond .ge 7, 3) := by decide +kernel
theorem dJ6_getChars_ba4f3_7 : decode cJ6_getChars_ba4f3 7 = .ok (.iconst 1, 1) := by decide +kernel
theorem dJ6_getChars_ba4f3_8 : decode cJ6_getChars_ba4f3 8 = .ok (.goto 4, 3) := by decide +kernel
theorem dJ6_getChars_ba4f3_11 : decode cJ6_getChars_ba4f3 11 = .ok (.iconst 0, 1) := by decide +kernel
theorem dJ6_getChars_ba4f3_12 : decode cJ6_getChars_ba4f3 12 = .ok (.istore 6, 2) := by decide +kernel
theorem dJ6_getChars_ba4f3_14 : decode cJ6_getChars_ba4f3 14 = .ok (.iload 6, 2) := by decide +kernel
theorem dJ6_getChars_ba4f3_16 : decode cJ6_getChars_ba4f3 16 = .ok (.ifCond .ne 6, 3) := by decide +kernel
theorem dJ6_getChars_ba4f3_19 : decode cJ6_getChars_ba4f3 19 = .ok (.iload_n 0, 1) := by decide +kernel
theorem dJ6_getChars_ba4f3_20 : decode cJ6_getChars_ba4f3 20 = .ok (.ineg, 1) := by decide +kernel
theorem dJ6_getChars_ba4f3_21 : decode cJ6_getChars_ba4f3 21 = .ok (.istore_n 0, 1) := by decide +kernel
theorem dJ6_getChars_ba4f3_22 : decode cJ6_getChars_ba4f3 22 = .ok (.iload_n 0, 1) := by decide +kernel
theorem dJ6_getChars_ba4f3_23 : decode cJ6_getChars_ba4f3 23 = .ok (.bipush (-100), 2) := by decide +kernel
theorem dJ6_getChars_ba4f3_25 : decode cJ6_getChars_ba4f3 25 = .ok (.if_icmp .gt 47, 3) := by decide +kernel
theorem dJ6_getChars_ba4f3_28 : decode cJ6_getChars_ba4f3 28 = .ok (.iload_n 0, 1) := by decide +kernel
theorem dJ6_getChars_ba4f3_29 : decode cJ6_getChars_ba4f3 29 = .ok (.bipush 100, 2) := by decide +kernel
theorem dJ6_getChars_ba4f3_31 : decode cJ6_getChars_ba4f3 31 = .ok (.idiv, 1) := by decide +kernel
theorem dJ6_getChars_ba4f3_32 : decode cJ6_getChars_ba4f3 32 = .ok (.istore_n 3, 1) := by decide +kernel
theorem dJ6_getChars_ba4f3_33 : decode cJ6_getChars_ba4f3 33 = .ok (.iload_n 3, 1) := by decide +kernel
theorem dJ6_getChars_ba4f3_34 : decode cJ6_getChars_ba4f3 34 = .ok (.bipush 100, 2) := by decide +kernel
theorem dJ6_getChars_ba4f3_36 : decode cJ6_getChars_ba4f3 36 = .ok (.imul, 1) := by decide +kernel
theorem dJ6_getChars_ba4f3_37 : decode cJ6_getChars_ba4f3 37 = .ok (.iload_n 0, 1) := by decide +kernel
theorem dJ6_getChars_ba4f3_38 : decode cJ6_getChars_ba4f3 38 = .ok (.isub, 1) := by decide +kernel
theorem dJ6_getChars_ba4f3_39 : decode cJ6_getChars_ba4f3 39 = .ok (.istore 4, 2) := by decide +kernel
theorem dJ6_getChars_ba4f3_41 : decode cJ6_getChars_ba4f3 41 = .ok (.iload_n 3, 1) := by decide +kernel
theorem dJ6_getChars_ba4f3_42 : decode cJ6_getChars_ba4f3 42 = .ok (.istore_n 0, 1) := by decide +kernel
theorem dJ6_getChars_ba4f3_43 : decode cJ6_getChars_ba4f3 43 = .ok (.aload_n 2, 1) := by decide +kernel
theorem dJ6_getChars_ba4f3_44 : decode cJ6_getChars_ba4f3 44 = .ok (.iinc 5 (-1), 3) := by decide +kernel
theorem dJ6_getChars_ba4f3_47 : decode cJ6_getChars_ba4f3 47 = .ok (.iload 5, 2) := by decide +kernel
theorem dJ6_getChars_ba4f3_49 : decode cJ6_getChars_ba4f3 49 = .ok (.getstatic 83, 3) := by decide +kernel
theorem dJ6_getChars_ba4f3_52 : decode cJ6_getChars_ba4f3 52 = .ok (.iload 4, 2) := by decide +kernel
theorem dJ6_getChars_ba4f3_54 : decode cJ6_getChars_ba4f3 54 = .ok (.baload, 1) := by decide +kernel
theorem dJ6_getChars_ba4f3_55 : decode cJ6_getChars_ba4f3 55 = .ok (.bastore, 1) := by decide +kernel
theorem dJ6_getChars_ba4f3_56 : decode cJ6_getChars_ba4f3 56 = .ok (.aload_n 2, 1) := by decide +kernel
theorem dJ6_getChars_ba4f3_57 : decode cJ6_getChars_ba4f3 57 = .ok (.iinc 5 (-1), 3) := by decide +kernel
theorem dJ6_getChars_ba4f3_60 : decode cJ6_getChars_ba4f3 60 = .ok (.iload 5, 2) := by decide +kernel
theorem dJ6_getChars_ba4f3_62 : decode cJ6_getChars_ba4f3 62 = .ok (.getstatic 87, 3) := by decide +kernel
theorem dJ6_getChars_ba4f3_65 : decode cJ6_getChars_ba4f3 65 = .ok (.iload 4, 2) := by decide +kernel
theorem dJ6_getChars_ba4f3_67 : decode cJ6_getChars_ba4f3 67 = .ok (.baload, 1) := by decide +kernel
theorem dJ6_getChars_ba4f3_68 : decode cJ6_getChars_ba4f3 68 = .ok (.bastore, 1) := by decide +kernel
theorem dJ6_getChars_ba4f3_69 : decode cJ6_getChars_ba4f3 69 = .ok (.goto (-47), 3) := by decide +kernel
theorem dJ6_getChars_ba4f3_72 : decode cJ6_getChars_ba4f3 72 = .ok (.aload_n 2, 1) := by decide +kernel
theorem dJ6_getChars_ba4f3_73 : decode cJ6_getChars_ba4f3 73 = .ok (.iinc 5 (-1), 3) := by decide +kernel
theorem dJ6_getChars_ba4f3_76 : decode cJ6_getChars_ba4f3 76 = .ok (.iload 5, 2) := by decide +kernel
theorem dJ6_getChars_ba4f3_78 : decode cJ6_getChars_ba4f3 78 = .ok (.getstatic 83, 3) := by decide +kernel
theorem dJ6_getChars_ba4f3_81 : decode cJ6_getChars_ba4f3 81 = .ok (.iload_n 0, 1) := by decide +kernel
theorem dJ6_getChars_ba4f3_82 : decode cJ6_getChars_ba4f3 82 = .ok (.ineg, 1) := by decide +kernel
theorem dJ6_getChars_ba4f3_83 : decode cJ6_getChars_ba4f3 83 = .ok (.baload, 1) := by decide +kernel
theorem dJ6_getChars_ba4f3_84 : decode cJ6_getChars_ba4f3 84 = .ok (.bastore, 1) := by decide +kernel
theorem dJ6_getChars_ba4f3_85 : decode cJ6_getChars_ba4f3 85 = .ok (.iload_n 0, 1) := by decide +kernel
theorem dJ6_getChars_ba4f3_86 : decode cJ6_getChars_ba4f3 86 = .ok (.bipush (-9), 2) := by decide +kernel
theorem dJ6_getChars_ba4f3_88 : decode cJ6_getChars_ba4f3 88 = .ok (.if_icmp .ge 16, 3) := by decide +kernel
theorem dJ6_getChars_ba4f3_91 : decode cJ6_getChars_ba4f3 91 = .ok (.aload_n 2, 1) := by decide +kernel
theorem dJ6_getChars_ba4f3_92 : decode cJ6_getChars_ba4f3 92 = .ok (.iinc 5 (-1), 3) := by decide +kernel
theorem dJ6_getChars_ba4f3_95 : decode cJ6_getChars_ba4f3 95 = .ok (.iload 5, 2) := by decide +kernel
theorem dJ6_getChars_ba4f3_97 : decode cJ6_getChars_ba4f3 97 = .ok (.getstatic 87, 3) := by decide +kernel
theorem dJ6_getChars_ba4f3_100 : decode cJ6_getChars_ba4f3 100 = .ok (.iload_n 0, 1) := by decide +kernel
theorem dJ6_getChars_ba4f3_101 : decode cJ6_getChars_ba4f3 101 = .ok (.ineg, 1) := by decide +kernel
theorem dJ6_getChars_ba4f3_102 : decode cJ6_getChars_ba4f3 102 = .ok (.baload, 1) := by decide +kernel
theorem dJ6_getChars_ba4f3_103 : decode cJ6_getChars_ba4f3 103 = .ok (.bastore, 1) := by decide +kernel
theorem dJ6_getChars_ba4f3_104 : decode cJ6_getChars_ba4f3 104 = .ok (.iload 6, 2) := by decide +kernel
theorem dJ6_getChars_ba4f3_106 : decode cJ6_getChars_ba4f3 106 = .ok (.ifCond .eq 12, 3) := by decide +kernel
theorem dJ6_getChars_ba4f3_109 : decode cJ6_getChars_ba4f3 109 = .ok (.aload_n 2, 1) := by decide +kernel
theorem dJ6_getChars_ba4f3_110 : decode cJ6_getChars_ba4f3 110 = .ok (.iinc 5 (-1), 3) := by decide +kernel
theorem dJ6_getChars_ba4f3_113 : decode cJ6_getChars_ba4f3 113 = .ok (.iload 5, 2) := by decide +kernel
theorem dJ6_getChars_ba4f3_115 : decode cJ6_getChars_ba4f3 115 = .ok (.bipush 45, 2) := by decide +kernel
theorem dJ6_getChars_ba4f3_117 : decode cJ6_getChars_ba4f3 117 = .ok (.bastore, 1) := by decide +kernel
theorem dJ6_getChars_ba4f3_118 : decode cJ6_getChars_ba4f3 118 = .ok (.iload 5, 2) := by decide +kernel
theorem dJ6_getChars_ba4f3_120 : decode cJ6_getChars_ba4f3 120 = .ok (.ireturn, 1) := by decide +kernel
theorem dJ6_stringSize_0f7a4_0 : decode cJ6_stringSize_0f7a4 0 = .ok (.iconst 1, 1) := by decide +kernel
theorem dJ6_stringSize_0f7a4_1 : decode cJ6_stringSize_0f7a4 1 = .ok (.istore_n 1, 1) := by decide +kernel
theorem dJ6_stringSize_0f7a4_2 : decode cJ6_stringSize_0f7a4 2 = .ok (.iload_n 0, 1) := by decide +kernel
theorem dJ6_stringSize_0f7a4_3 : decode cJ6_stringSize_0f7a4 3 = .ok (.ifCond .lt 8, 3) := by decide +kernel
theorem dJ6_stringSize_0f7a4_6 : decode cJ6_stringSize_0f7a4 6 = .ok (.iconst 0, 1) := by decide +kernel
theorem dJ6_stringSize_0f7a4_7 : decode cJ6_stringSize_0f7a4 7 = .ok (.istore_n 1, 1) := by decide +kernel
theorem dJ6_stringSize_0f7a4_8 : decode cJ6_stringSize_0f7a4 8 = .ok (.iload_n 0, 1) := by decide +kernel
theorem dJ6_stringSize_0f7a4_9 : decode cJ6_stringSize_0f7a4 9 = .ok (.ineg, 1) := by decide +kernel
theorem dJ6_stringSize_0f7a4_10 : decode cJ6_stringSize_0f7a4 10 = .ok (.istore_n 0, 1) := by decide +kernel
theorem dJ6_stringSize_0f7a4_11 : decode cJ6_stringSize_0f7a4 11 = .ok (.bipush (-10), 2) := by decide +kernel
theorem dJ6_stringSize_0f7a4_13 : decode cJ6_stringSize_0f7a4 13 = .ok (.istore_n 2, 1) := by decide +kernel
theorem dJ6_stringSize_0f7a4_14 : decode cJ6_stringSize_0f7a4 14 = .ok (.iconst 1, 1) := by decide +kernel
theorem dJ6_stringSize_0f7a4_15 : decode cJ6_stringSize_0f7a4 15 = .ok (.istore_n 3, 1) := by decide +kernel
theorem dJ6_stringSize_0f7a4_16 : decode cJ6_stringSize_0f7a4 16 = .ok (.iload_n 3, 1) := by decide +kernel
theorem dJ6_stringSize_0f7a4_17 : decode cJ6_stringSize_0f7a4 17 = .ok (.bipush 10, 2) := by decide +kernel
theorem dJ6_stringSize_0f7a4_19 : decode cJ6_stringSize_0f7a4 19 = .ok (.if_icmp .ge 23, 3) := by decide +kernel
theorem dJ6_stringSize_0f7a4_22 : decode cJ6_stringSize_0f7a4 22 = .ok (.iload_n 0, 1) := by decide +kernel
theorem dJ6_stringSize_0f7a4_23 : decode cJ6_stringSize_0f7a4 23 = .ok (.iload_n 2, 1) := by decide +kernel
theorem dJ6_stringSize_0f7a4_24 : decode cJ6_stringSize_0f7a4 24 = .ok (.if_icmp .le 7, 3) := by decide +kernel
theorem dJ6_stringSize_0f7a4_27 : decode cJ6_stringSize_0f7a4 27 = .ok (.iload_n 3, 1) := by decide +kernel
theorem dJ6_stringSize_0f7a4_28 : decode cJ6_stringSize_0f7a4 28 = .ok (.iload_n 1, 1) := by decide +kernel
theorem dJ6_stringSize_0f7a4_29 : decode cJ6_stringSize_0f7a4 29 = .ok (.iadd, 1) := by decide +kernel
theorem dJ6_stringSize_0f7a4_30 : decode cJ6_stringSize_0f7a4 30 = .ok (.ireturn, 1) := by decide +kernel
theorem dJ6_stringSize_0f7a4_31 : decode cJ6_stringSize_0f7a4 31 = .ok (.bipush 10, 2) := by decide +kernel
theorem dJ6_stringSize_0f7a4_33 : decode cJ6_stringSize_0f7a4 33 = .ok (.iload_n 2, 1) := by decide +kernel
theorem dJ6_stringSize_0f7a4_34 : decode cJ6_stringSize_0f7a4 34 = .ok (.imul, 1) := by decide +kernel
theorem dJ6_stringSize_0f7a4_35 : decode cJ6_stringSize_0f7a4 35 = .ok (.istore_n 2, 1) := by decide +kernel
theorem dJ6_stringSize_0f7a4_36 : decode cJ6_stringSize_0f7a4 36 = .ok (.iinc 3 1, 3) := by decide +kernel
theorem dJ6_stringSize_0f7a4_39 : decode cJ6_stringSize_0f7a4 39 = .ok (.goto (-23), 3) := by decide +kernel
theorem dJ6_stringSize_0f7a4_42 : decode cJ6_stringSize_0f7a4 42 = .ok (.bipush 10, 2) := by decide +kernel
theorem dJ6_stringSize_0f7a4_44 : decode cJ6_stringSize_0f7a4 44 = .ok (.iload_n 1, 1) := by decide +kernel
theorem dJ6_stringSize_0f7a4_45 : decode cJ6_stringSize_0f7a4 45 = .ok (.iadd, 1) := by decide +kernel
theorem dJ6_stringSize_0f7a4_46 : decode cJ6_stringSize_0f7a4 46 = .ok (.ireturn, 1) := by decide +kernel
theorem dJ6_bitCount_0f7a4_0 : decode cJ6_bitCount_0f7a4 0 = .ok (.iload_n 0, 1) := by decide +kernel
theorem dJ6_bitCount_0f7a4_1 : decode cJ6_bitCount_0f7a4 1 = .ok (.iload_n 0, 1) := by decide +kernel
theorem dJ6_bitCount_0f7a4_2 : decode cJ6_bitCount_0f7a4 2 = .ok (.iconst 1, 1) := by decide +kernel
theorem dJ6_bitCount_0f7a4_3 : decode cJ6_bitCount_0f7a4 3 = .ok (.iushr, 1) := by decide +kernel
theorem dJ6_bitCount_0f7a4_4 : decode cJ6_bitCount_0f7a4 4 = .ok (.ldc_w 265, 3) := by decide +kernel
theorem dJ6_bitCount_0f7a4_7 : decode cJ6_bitCount_0f7a4 7 = .ok (.iand, 1) := by decide +kernel
theorem dJ6_bitCount_0f7a4_8 : decode cJ6_bitCount_0f7a4 8 = .ok (.isub, 1) := by decide +kernel
theorem dJ6_bitCount_0f7a4_9 : decode cJ6_bitCount_0f7a4 9 = .ok (.istore_n 0, 1) := by decide +kernel
theorem dJ6_bitCount_0f7a4_10 : decode cJ6_bitCount_0f7a4 10 = .ok (.iload_n 0, 1) := by decide +kernel
theorem dJ6_bitCount_0f7a4_11 : decode cJ6_bitCount_0f7a4 11 = .ok (.ldc_w 266, 3) := by decide +kernel
theorem dJ6_bitCount_0f7a4_14 : decode cJ6_bitCount_0f7a4 14 = .ok (.iand, 1) := by decide +kernel
theorem dJ6_bitCount_0f7a4_15 : decode cJ6_bitCount_0f7a4 15 = .ok (.iload_n 0, 1) := by decide +kernel
theorem dJ6_bitCount_0f7a4_16 : decode cJ6_bitCount_0f7a4 16 = .ok (.iconst 2, 1) := by decide +kernel
theorem dJ6_bitCount_0f7a4_17 : decode cJ6_bitCount_0f7a4 17 = .ok (.iushr, 1) := by decide +kernel
theorem dJ6_bitCount_0f7a4_18 : decode cJ6_bitCount_0f7a4 18 = .ok (.ldc_w 266, 3) := by decide +kernel
theorem dJ6_bitCount_0f7a4_21 : decode cJ6_bitCount_0f7a4 21 = .ok (.iand, 1) := by decide +kernel
theorem dJ6_bitCount_0f7a4_22 : decode cJ6_bitCount_0f7a4 22 = .ok (.iadd, 1) := by decide +kernel
theorem dJ6_bitCount_0f7a4_23 : decode cJ6_bitCount_0f7a4 23 = .ok (.istore_n 0, 1) := by decide +kernel
theorem dJ6_bitCount_0f7a4_24 : decode cJ6_bitCount_0f7a4 24 = .ok (.iload_n 0, 1) := by decide +kernel
theorem dJ6_bitCount_0f7a4_25 : decode cJ6_bitCount_0f7a4 25 = .ok (.iload_n 0, 1) := by decide +kernel
theorem dJ6_bitCount_0f7a4_26 : decode cJ6_bitCount_0f7a4 26 = .ok (.iconst 4, 1) := by decide +kernel
theorem dJ6_bitCount_0f7a4_27 : decode cJ6_bitCount_0f7a4 27 = .ok (.iushr, 1) := by decide +kernel
theorem dJ6_bitCount_0f7a4_28 : decode cJ6_bitCount_0f7a4 28 = .ok (.iadd, 1) := by decide +kernel
theorem dJ6_bitCount_0f7a4_29 : decode cJ6_bitCount_0f7a4 29 = .ok (.ldc_w 267, 3) := by decide +kernel
theorem dJ6_bitCount_0f7a4_32 : decode cJ6_bitCount_0f7a4 32 = .ok (.iand, 1) := by decide +kernel
theorem dJ6_bitCount_0f7a4_33 : decode cJ6_bitCount_0f7a4 33 = .ok (.istore_n 0, 1) := by decide +kernel
theorem dJ6_bitCount_0f7a4_34 : decode cJ6_bitCount_0f7a4 34 = .ok (.iload_n 0, 1) := by decide +kernel
theorem dJ6_bitCount_0f7a4_35 : decode cJ6_bitCount_0f7a4 35 = .ok (.iload_n 0, 1) := by decide +kernel
theorem dJ6_bitCount_0f7a4_36 : decode cJ6_bitCount_0f7a4 36 = .ok (.bipush 8, 2) := by decide +kernel
theorem dJ6_bitCount_0f7a4_38 : decode cJ6_bitCount_0f7a4 38 = .ok (.iushr, 1) := by decide +kernel
theorem dJ6_bitCount_0f7a4_39 : decode cJ6_bitCount_0f7a4 39 = .ok (.iadd, 1) := by decide +kernel
theorem dJ6_bitCount_0f7a4_40 : decode cJ6_bitCount_0f7a4 40 = .ok (.istore_n 0, 1) := by decide +kernel
theorem dJ6_bitCount_0f7a4_41 : decode cJ6_bitCount_0f7a4 41 = .ok (.iload_n 0, 1) := by decide +kernel
theorem dJ6_bitCount_0f7a4_42 : decode cJ6_bitCount_0f7a4 42 = .ok (.iload_n 0, 1) := by decide +kernel
theorem dJ6_bitCount_0f7a4_43 : decode cJ6_bitCount_0f7a4 43 = .ok (.bipush 16, 2) := by decide +kernel
theorem dJ6_bitCount_0f7a4_45 : decode cJ6_bitCount_0f7a4 45 = .ok (.iushr, 1) := by decide +kernel
theorem dJ6_bitCount_0f7a4_46 : decode cJ6_bitCount_0f7a4 46 = .ok (.iadd, 1) := by decide +kernel
theorem dJ6_bitCount_0f7a4_47 : decode cJ6_bitCount_0f7a4 47 = .ok (.istore_n 0, 1) := by decide +kernel
theorem dJ6_bitCount_0f7a4_48 : decode cJ6_bitCount_0f7a4 48 = .ok (.iload_n 0, 1) := by decide +kernel
theorem dJ6_bitCount_0f7a4_49 : decode cJ6_bitCount_0f7a4 49 = .ok (.bipush 63, 2) := by decide +kernel
theorem dJ6_bitCount_0f7a4_51 : decode cJ6_bitCount_0f7a4 51 = .ok (.iand, 1) := by decide +kernel
theorem dJ6_bitCount_0f7a4_52 : decode cJ6_bitCount_0f7a4 52 = .ok (.ireturn, 1) := by decide +kernel
theorem dJ9_floorMod_7cf53_0 : decode cJ9_floorMod_7cf53 0 = .ok (.iload_n 0, 1) := by decide +kernel
theorem dJ9_floorMod_7cf53_1 : decode cJ9_floorMod_7cf53 1 = .ok (.iload_n 1, 1) := by decide +kernel
theorem dJ9_floorMod_7cf53_2 : decode cJ9_floorMod_7cf53 2 = .ok (.irem, 1) := by decide +kernel
theorem dJ9_floorMod_7cf53_3 : decode cJ9_floorMod_7cf53 3 = .ok (.istore_n 2, 1) := by decide +kernel
theorem dJ9_floorMod_7cf53_4 : decode cJ9_floorMod_7cf53 4 = .ok (.iload_n 0, 1) := by decide +kernel
theorem dJ9_floorMod_7cf53_5 : decode cJ9_floorMod_7cf53 5 = .ok (.iload_n 1, 1) := by decide +kernel
theorem dJ9_floorMod_7cf53_6 : decode cJ9_floorMod_7cf53 6 = .ok (.ixor, 1) := by decide +kernel
theorem dJ9_floorMod_7cf53_7 : decode cJ9_floorMod_7cf53 7 = .ok (.ifCond .ge 11, 3) := by decide +kernel
theorem dJ9_floorMod_7cf53_10 : decode cJ9_floorMod_7cf53 10 = .ok (.iload_n 2, 1) := by decide +kernel
theorem dJ9_floorMod_7cf53_11 : decode cJ9_floorMod_7cf53 11 = .ok (.ifCond .eq 7, 3) := by decide +kernel
theorem dJ9_floorMod_7cf53_14 : decode cJ9_floorMod_7cf53 14 = .ok (.iload_n 2, 1) := by decide +kernel
theorem dJ9_floorMod_7cf53_15 : decode cJ9_floorMod_7cf53 15 = .ok (.iload_n 1, 1) := by decide +kernel
theorem dJ9_floorMod_7cf53_16 : decode cJ9_floorMod_7cf53 16 = .ok (.iadd, 1) := by decide +kernel
theorem dJ9_floorMod_7cf53_17 : decode cJ9_floorMod_7cf53 17 = .ok (.ireturn, 1) := by decide +kernel
theorem dJ9_floorMod_7cf53_18 : decode cJ9_floorMod_7cf53 18 = .ok (.iload_n 2, 1) := by decide +kernel
theorem dJ9_floorMod_7cf53_19 : decode cJ9_floorMod_7cf53 19 = .ok (.ireturn, 1) := by decide +kernel
theorem dJ9_max_7cf53_0 : decode cJ9_max_7cf53 0 = .ok (.iload_n 0, 1) := by decide +kernel
theorem dJ9_max_7cf53_1 : decode cJ9_max_7cf53 1 = .ok (.iload_n 1, 1) := by decide +kernel
theorem dJ9_max_7cf53_2 : decode cJ9_max_7cf53 2 = .ok (.if_icmp .lt 7, 3) := by decide +kernel
theorem dJ9_max_7cf53_5 : decode cJ9_max_7cf53 5 = .ok (.iload_n 0, 1) := by decide +kernel
theorem dJ9_max_7cf53_6 : decode cJ9_max_7cf53 6 = .ok (.goto 4, 3) := by decide +kernel
theorem dJ9_max_7cf53_9 : decode cJ9_max_7cf53 9 = .ok (.iload_n 1, 1) := by decide +kernel
theorem dJ9_max_7cf53_10 : decode cJ9_max_7cf53 10 = .ok (.ireturn, 1) := by decide +kernel
theorem dJ9_min_7cf53_0 : decode cJ9_min_7cf53 0 = .ok (.iload_n 0, 1) := by decide +kernel
theorem dJ9_min_7cf53_1 : decode cJ9_min_7cf53 1 = .ok (.iload_n 1, 1) := by decide +kernel
theorem dJ9_min_7cf53_2 : decode cJ9_min_7cf53 2 = .ok (.if_icmp .gt 7, 3) := by decide +kernel
theorem dJ9_min_7cf53_5 : decode cJ9_min_7cf53 5 = .ok (.iload_n 0, 1) := by decide +kernel
theorem dJ9_min_7cf53_6 : decode cJ9_min_7cf53 6 = .ok (.goto 4, 3) := by decide +kernel
theorem dJ9_min_7cf53_9 : decode cJ9_min_7cf53 9 = .ok (.iload_n 1, 1) := by decide +kernel
theorem dJ9_min_7cf53_10 : decode cJ9_min_7cf53 10 = .ok (.ireturn, 1) := by decide +kernel
theorem dJ0_init_81219_0 : decode cJ0_init_81219 0 = .ok (.aload_n 0, 1) := by decide +kernel
theorem dJ0_init_81219_1 : decode cJ0_init_81219 1 = .ok (.aload_n 1, 1) := by decide +kernel
theorem dJ0_init_81219_2 : decode cJ0_init_81219 2 = .ok (.aconst_null, 1) := by decide +kernel
theorem dJ0_init_81219_3 : decode cJ0_init_81219 3 = .ok (.invokespecial 489, 3) := by decide +kernel
theorem dJ0_init_81219_6 : decode cJ0_init_81219 6 = .ok (.return_, 1) := by decide +kernel
theorem dJ0_length_8abf5_0 : decode cJ0_length_8abf5 0 = .ok (.aload_n 0, 1) := by decide +kernel
theorem dJ0_length_8abf5_1 : decode cJ0_length_8abf5 1 = .ok (.getfield 9, 3) := by decide +kernel
theorem dJ0_length_8abf5_4 : decode cJ0_length_8abf5 4 = .ok (.arraylength, 1) := by decide +kernel
theorem dJ0_length_8abf5_5 : decode cJ0_length_8abf5 5 = .ok (.aload_n 0, 1) := by decide +kernel
theorem dJ0_length_8abf5_6 : decode cJ0_length_8abf5 6 = .ok (.invokevirtual 335, 3) := by decide +kernel
theorem dJ0_length_8abf5_9 : decode cJ0_length_8abf5 9 = .ok (.ishr, 1) := by decide +kernel
theorem dJ0_length_8abf5_10 : decode cJ0_length_8abf5 10 = .ok (.ireturn, 1) := by decide +kernel
theorem dJ0_charAt_5068e_0 : decode cJ0_charAt_5068e 0 = .ok (.aload_n 0, 1) := by decide +kernel
theorem dJ0_charAt_5068e_1 : decode cJ0_charAt_5068e 1 = .ok (.invokevirtual 492, 3) := by decide +kernel
theorem dJ0_charAt_5068e_4 : decode cJ0_charAt_5068e 4 = .ok (.ifCond .eq 12, 3) := by decide +kernel
theorem dJ0_charAt_5068e_7 : decode cJ0_charAt_5068e 7 = .ok (.aload_n 0, 1) := by decide +kernel
theorem dJ0_charAt_5068e_8 : decode cJ0_charAt_5068e 8 = .ok (.getfield 9, 3) := by decide +kernel
theorem dJ0_charAt_5068e_11 : decode cJ0_charAt_5068e 11 = .ok (.iload_n 1, 1) := by decide +kernel
theorem dJ0_charAt_5068e_12 : decode cJ0_charAt_5068e 12 = .ok (.invokestatic 495, 3) := by decide +kernel
theorem dJ0_charAt_5068e_15 : decode cJ0_charAt_5068e 15 = .ok (.ireturn, 1) := by decide +kernel
theorem dJ0_charAt_5068e_16 : decode cJ0_charAt_5068e 16 = .ok (.aload_n 0, 1) := by decide +kernel
theorem dJ0_charAt_5068e_17 : decode cJ0_charAt_5068e 17 = .ok (.getfield 9, 3) := by decide +kernel
theorem dJ0_charAt_5068e_20 : decode cJ0_charAt_5068e 20 = .ok (.iload_n 1, 1) := by decide +kernel
theorem dJ0_charAt_5068e_21 : decode cJ0_charAt_5068e 21 = .ok (.invokestatic 498, 3) := by decide +kernel
theorem dJ0_charAt_5068e_24 : decode cJ0_charAt_5068e 24 = .ok (.ireturn, 1) := by decide +kernel
theorem dJ0_getBytes_840e7_0 : decode cJ0_getBytes_840e7 0 = .ok (.aload_n 0, 1) := by decide +kernel
theorem dJ0_getBytes_840e7_1 : decode cJ0_getBytes_840e7 1 = .ok (.invokevirtual 335, 3) := by decide +kernel
theorem dJ0_getBytes_840e7_4 : decode cJ0_getBytes_840e7 4 = .ok (.iload_n 3, 1) := by decide +kernel
theorem dJ0_getBytes_840e7_5 : decode cJ0_getBytes_840e7 5 = .ok (.if_icmp .ne 23, 3) := by decide +kernel
theorem dJ0_getBytes_840e7_8 : decode cJ0_getBytes_840e7 8 = .ok (.aload_n 0, 1) := by decide +kernel
theorem dJ0_getBytes_840e7_9 : decode cJ0_getBytes_840e7 9 = .ok (.getfield 9, 3) := by decide +kernel
theorem dJ0_getBytes_840e7_12 : decode cJ0_getBytes_840e7 12 = .ok (.iconst 0, 1) := by decide +kernel
theorem dJ0_getBytes_840e7_13 : decode cJ0_getBytes_840e7 13 = .ok (.aload_n 1, 1) := by decide +kernel
theorem dJ0_getBytes_840e7_14 : decode cJ0_getBytes_840e7 14 = .ok (.iload_n 2, 1) := by decide +kernel
theorem dJ0_getBytes_840e7_15 : decode cJ0_getBytes_840e7 15 = .ok (.iload_n 3, 1) := by decide +kernel
theorem dJ0_getBytes_840e7_16 : decode cJ0_getBytes_840e7 16 = .ok (.ishl, 1) := by decide +kernel
theorem dJ0_getBytes_840e7_17 : decode cJ0_getBytes_840e7 17 = .ok (.aload_n 0, 1) := by decide +kernel
theorem dJ0_getBytes_840e7_18 : decode cJ0_getBytes_840e7 18 = .ok (.getfield 9, 3) := by decide +kernel
theorem dJ0_getBytes_840e7_21 : decode cJ0_getBytes_840e7 21 = .ok (.arraylength, 1) := by decide +kernel
theorem dJ0_getBytes_840e7_22 : decode cJ0_getBytes_840e7 22 = .ok (.invokestatic 212, 3) := by decide +kernel
theorem dJ0_getBytes_840e7_25 : decode cJ0_getBytes_840e7 25 = .ok (.goto 18, 3) := by decide +kernel
theorem dJ0_getBytes_840e7_28 : decode cJ0_getBytes_840e7 28 = .ok (.aload_n 0, 1) := by decide +kernel
theorem dJ0_getBytes_840e7_29 : decode cJ0_getBytes_840e7 29 = .ok (.getfield 9, 3) := by decide +kernel
theorem dJ0_getBytes_840e7_32 : decode cJ0_getBytes_840e7 32 = .ok (.iconst 0, 1) := by decide +kernel
theorem dJ0_getBytes_840e7_33 : decode cJ0_getBytes_840e7 33 = .ok (.aload_n 1, 1) := by decide +kernel
theorem dJ0_getBytes_840e7_34 : decode cJ0_getBytes_840e7 34 = .ok (.iload_n 2, 1) := by decide +kernel
theorem dJ0_getBytes_840e7_35 : decode cJ0_getBytes_840e7 35 = .ok (.aload_n 0, 1) := by decide +kernel
theorem dJ0_getBytes_840e7_36 : decode cJ0_getBytes_840e7 36 = .ok (.getfield 9, 3) := by decide +kernel
theorem dJ0_getBytes_840e7_39 : decode cJ0_getBytes_840e7 39 = .ok (.arraylength, 1) := by decide +kernel
theorem dJ0_getBytes_840e7_40 : decode cJ0_getBytes_840e7 40 = .ok (.invokestatic 106, 3) := by decide +kernel
theorem dJ0_getBytes_840e7_43 : decode cJ0_getBytes_840e7 43 = .ok (.return_, 1) := by decide +kernel
theorem dJ0_init_db425_0 : decode cJ0_init_db425 0 = .ok (.aload_n 0, 1) := by decide +kernel
theorem dJ0_init_db425_1 : decode cJ0_init_db425 1 = .ok (.invokespecial 1, 3) := by decide +kernel
theorem dJ0_init_db425_4 : decode cJ0_init_db425 4 = .ok (.aload_n 1, 1) := by decide +kernel
theorem dJ0_init_db425_5 : decode cJ0_init_db425 5 = .ok (.invokevirtual 552, 3) := by decide +kernel
theorem dJ0_init_db425_8 : decode cJ0_init_db425 8 = .ok (.astore_n 3, 1) := by decide +kernel
theorem dJ0_init_db425_9 : decode cJ0_init_db425 9 = .ok (.aload_n 1, 1) := by decide +kernel
theorem dJ0_init_db425_10 : decode cJ0_init_db425 10 = .ok (.invokevirtual 549, 3) := by decide +kernel
theorem dJ0_init_db425_13 : decode cJ0_init_db425 13 = .ok (.istore 4, 2) := by decide +kernel
theorem dJ0_init_db425_15 : decode cJ0_init_db425 15 = .ok (.aload_n 1, 1) := by decide +kernel
theorem dJ0_init_db425_16 : decode cJ0_init_db425 16 = .ok (.invokevirtual 1047, 3) := by decide +kernel
theorem dJ0_init_db425_19 : decode cJ0_init_db425 19 = .ok (.ifCond .eq 22, 3) := by decide +kernel
theorem dJ0_init_db425_22 : decode cJ0_init_db425 22 = .ok (.aload_n 0, 1) := by decide +kernel
theorem dJ0_init_db425_23 : decode cJ0_init_db425 23 = .ok (.iconst 0, 1) := by decide +kernel
theorem dJ0_init_db425_24 : decode cJ0_init_db425 24 = .ok (.putfield 15, 3) := by decide +kernel
theorem dJ0_init_db425_27 : decode cJ0_init_db425 27 = .ok (.aload_n 0, 1) := by decide +kernel
theorem dJ0_init_db425_28 : decode cJ0_init_db425 28 = .ok (.aload_n 3, 1) := by decide +kernel
theorem dJ0_init_db425_29 : decode cJ0_init_db425 29 = .ok (.iconst 0, 1) := by decide +kernel
theorem dJ0_init_db425_30 : decode cJ0_init_db425 30 = .ok (.iload 4, 2) := by decide +kernel
theorem dJ0_init_db425_32 : decode cJ0_init_db425 32 = .ok (.invokestatic 54, 3) := by decide +kernel
theorem dJ0_init_db425_35 : decode cJ0_init_db425 35 = .ok (.putfield 9, 3) := by decide +kernel
theorem dJ0_init_db425_38 : decode cJ0_init_db425 38 = .ok (.goto 59, 3) := by decide +kernel
theorem dJ0_init_db425_41 : decode cJ0_init_db425 41 = .ok (.getstatic 38, 3) := by decide +kernel
theorem dJ0_init_db425_44 : decode cJ0_init_db425 44 = .ok (.ifCond .eq 35, 3) := by decide +kernel
theorem dJ0_init_db425_47 : decode cJ0_init_db425 47 = .ok (.aload_n 1, 1) := by decide +kernel
theorem dJ0_init_db425_48 : decode cJ0_init_db425 48 = .ok (.getfield 1048, 3) := by decide +kernel
theorem dJ0_init_db425_51 : decode cJ0_init_db425 51 = .ok (.ifCond .eq 28, 3) := by decide +kernel
theorem dJ0_init_db425_54 : decode cJ0_init_db425 54 = .ok (.aload_n 0, 1) := by decide +kernel
theorem dJ0_init_db425_55 : decode cJ0_init_db425 55 = .ok (.aload_n 3, 1) := by decide +kernel
theorem dJ0_init_db425_56 : decode cJ0_init_db425 56 = .ok (.iconst 0, 1) := by decide +kernel
theorem dJ0_init_db425_57 : decode cJ0_init_db425 57 = .ok (.iload 4, 2) := by decide +kernel
theorem dJ0_init_db425_59 : decode cJ0_init_db425 59 = .ok (.invokestatic 1051, 3) := by decide +kernel
theorem dJ0_init_db425_62 : decode cJ0_init_db425 62 = .ok (.putfield 9, 3) := by decide +kernel
theorem dJ0_init_db425_65 : decode cJ0_init_db425 65 = .ok (.aload_n 0, 1) := by decide +kernel
theorem dJ0_init_db425_66 : decode cJ0_init_db425 66 = .ok (.aload_n 0, 1) := by decide +kernel
theorem dJ0_init_db425_67 : decode cJ0_init_db425 67 = .ok (.getfield 9, 3) := by decide +kernel
theorem dJ0_init_db425_70 : decode cJ0_init_db425 70 = .ok (.iload 4, 2) := by decide +kernel
theorem dJ0_init_db425_72 : decode cJ0_init_db425 72 = .ok (.invokestatic 47, 3) := by decide +kernel
theorem dJ0_init_db425_75 : decode cJ0_init_db425 75 = .ok (.putfield 15, 3) := by decide +kernel
theorem dJ0_init_db425_78 : decode cJ0_init_db425 78 = .ok (.return_, 1) := by decide +kernel
theorem dJ0_init_db425_79 : decode cJ0_init_db425 79 = .ok (.aload_n 0, 1) := by decide +kernel
theorem dJ0_init_db425_80 : decode cJ0_init_db425 80 = .ok (.iconst 1, 1) := by decide +kernel
theorem dJ0_init_db425_81 : decode cJ0_init_db425 81 = .ok (.putfield 15, 3) := by decide +kernel
theorem dJ0_init_db425_84 : decode cJ0_init_db425 84 = .ok (.aload_n 0, 1) := by decide +kernel
theorem dJ0_init_db425_85 : decode cJ0_init_db425 85 = .ok (.aload_n 3, 1) := by decide +kernel
theorem dJ0_init_db425_86 : decode cJ0_init_db425 86 = .ok (.iconst 0, 1) := by decide +kernel
theorem dJ0_init_db425_87 : decode cJ0_init_db425 87 = .ok (.iload 4, 2) := by decide +kernel
theorem dJ0_init_db425_89 : decode cJ0_init_db425 89 = .ok (.iconst 1, 1) := by decide +kernel
theorem dJ0_init_db425_90 : decode cJ0_init_db425 90 = .ok (.ishl, 1) := by decide +kernel
theorem dJ0_init_db425_91 : decode cJ0_init_db425 91 = .ok (.invokestatic 54, 3) := by decide +kernel
theorem dJ0_init_db425_94 : decode cJ0_init_db425 94 = .ok (.putfield 9, 3) := by decide +kernel
theorem dJ0_init_db425_97 : decode cJ0_init_db425 97 = .ok (.return_, 1) := by decide +kernel
theorem dJ0_coder_7d493_0 : decode cJ0_coder_7d493 0 = .ok (.getstatic 38, 3) := by decide +kernel
theorem dJ0_coder_7d493_3 : decode cJ0_coder_7d493 3 = .ok (.ifCond .eq 10, 3) := by decide +kernel
theorem dJ0_coder_7d493_6 : decode cJ0_coder_7d493 6 = .ok (.aload_n 0, 1) := by decide +kernel
theorem dJ0_coder_7d493_7 : decode cJ0_coder_7d493 7 = .ok (.getfield 15, 3) := by decide +kernel
theorem dJ0_coder_7d493_10 : decode cJ0_coder_7d493 10 = .ok (.goto 4, 3) := by decide +kernel
theorem dJ0_coder_7d493_13 : decode cJ0_coder_7d493 13 = .ok (.iconst 1, 1) := by decide +kernel
theorem dJ0_coder_7d493_14 : decode cJ0_coder_7d493 14 = .ok (.ireturn, 1) := by decide +kernel
theorem dJ0_isLatin1_aae02_0 : decode cJ0_isLatin1_aae02 0 = .ok (.getstatic 38, 3) := by decide +kernel
theorem dJ0_isLatin1_aae02_3 : decode cJ0_isLatin1_aae02 3 = .ok (.ifCond .eq 14, 3) := by decide +kernel
theorem dJ0_isLatin1_aae02_6 : decode cJ0_isLatin1_aae02 6 = .ok (.aload_n 0, 1) := by decide +kernel
theorem dJ0_isLatin1_aae02_7 : decode cJ0_isLatin1_aae02 7 = .ok (.getfield 15, 3) := by decide +kernel
theorem dJ0_isLatin1_aae02_10 : decode cJ0_isLatin1_aae02 10 = .ok (.ifCond .ne 7, 3) := by decide +kernel
theorem dJ0_isLatin1_aae02_13 : decode cJ0_isLatin1_aae02 13 = .ok (.iconst 1, 1) := by decide +kernel
theorem dJ0_isLatin1_aae02_14 : decode cJ0_isLatin1_aae02 14 = .ok (.goto 4, 3) := by decide +kernel
theorem dJ0_isLatin1_aae02_17 : decode cJ0_isLatin1_aae02 17 = .ok (.iconst 0, 1) := by decide +kernel
theorem dJ0_isLatin1_aae02_18 : decode cJ0_isLatin1_aae02 18 = .ok (.ireturn, 1) := by decide +kernel
theorem dJ0_checkIndex_df160_0 : decode cJ0_checkIndex_df160 0 = .ok (.iload_n 0, 1) := by decide +kernel
theorem dJ0_checkIndex_df160_1 : decode cJ0_checkIndex_df160 1 = .ok (.iload_n 1, 1) := by decide +kernel
theorem dJ0_checkIndex_df160_2 : decode cJ0_checkIndex_df160 2 = .ok (.getstatic 1053, 3) := by decide +kernel
theorem dJ0_checkIndex_df160_5 : decode cJ0_checkIndex_df160 5 = .ok (.invokestatic 1059, 3) := by decide +kernel
theorem dJ0_checkIndex_df160_8 : decode cJ0_checkIndex_df160 8 = .ok (.pop, 1) := by decide +kernel
theorem dJ0_checkIndex_df160_9 : decode cJ0_checkIndex_df160 9 = .ok (.return_, 1) := by decide +kernel
theorem dJ0_checkBoundsOffCount_cabcc_0 : decode cJ0_checkBoundsOffCount_cabcc 0 = .ok (.iload_n 0, 1) := by decide +kernel
theorem dJ0_checkBoundsOffCount_cabcc_1 : decode cJ0_checkBoundsOffCount_cabcc 1 = .ok (.iload_n 1, 1) := by decide +kernel
theorem dJ0_checkBoundsOffCount_cabcc_2 : decode cJ0_checkBoundsOffCount_cabcc 2 = .ok (.iload_n 2, 1) := by decide +kernel
theorem dJ0_checkBoundsOffCount_cabcc_3 : decode cJ0_checkBoundsOffCount_cabcc 3 = .ok (.getstatic 1053, 3) := by decide +kernel
theorem dJ0_checkBoundsOffCount_cabcc_6 : decode cJ0_checkBoundsOffCount_cabcc 6 = .ok (.invokestatic 1065, 3) := by decide +kernel
theorem dJ0_checkBoundsOffCount_cabcc_9 : decode cJ0_checkBoundsOffCount_cabcc 9 = .ok (.ireturn, 1) := by decide +kernel
theorem dJ0_checkBoundsBeginEnd_23922_0 : decode cJ0_checkBoundsBeginEnd_23922 0 = .ok (.iload_n 0, 1) := by decide +kernel
theorem dJ0_checkBoundsBeginEnd_23922_1 : decode cJ0_checkBoundsBeginEnd_23922 1 = .ok (.iload_n 1, 1) := by decide +kernel
theorem dJ0_checkBoundsBeginEnd_23922_2 : decode cJ0_checkBoundsBeginEnd_23922 2 = .ok (.iload_n 2, 1) := by decide +kernel
theorem dJ0_checkBoundsBeginEnd_23922_3 : decode cJ0_checkBoundsBeginEnd_23922 3 = .ok (.getstatic 1053, 3) := by decide +kernel
theorem dJ0_checkBoundsBeginEnd_23922_6 : decode cJ0_checkBoundsBeginEnd_23922 6 = .ok (.invokestatic 1062, 3) := by decide +kernel
theorem dJ0_checkBoundsBeginEnd_23922_9 : decode cJ0_checkBoundsBeginEnd_23922 9 = .ok (.pop, 1) := by decide +kernel
theorem dJ0_checkBoundsBeginEnd_23922_10 : decode cJ0_checkBoundsBeginEnd_23922 10 = .ok (.return_, 1) := by decide +kernel
theorem dJ4_init_da8c8_0 : decode cJ4_init_da8c8 0 = .ok (.aload_n 0, 1) := by decide +kernel
theorem dJ4_init_da8c8_1 : decode cJ4_init_da8c8 1 = .ok (.bipush 16, 2) := by decide +kernel
theorem dJ4_init_da8c8_3 : decode cJ4_init_da8c8 3 = .ok (.invokespecial 1, 3) := by decide +kernel
theorem dJ4_init_da8c8_6 : decode cJ4_init_da8c8 6 = .ok (.return_, 1) := by decide +kernel
theorem dJ4_append_15ec4_0 : decode cJ4_append_15ec4 0 = .ok (.aload_n 0, 1) := by decide +kernel
theorem dJ4_append_15ec4_1 : decode cJ4_append_15ec4 1 = .ok (.aload_n 1, 1) := by decide +kernel
theorem dJ4_append_15ec4_2 : decode cJ4_append_15ec4 2 = .ok (.invokespecial 29, 3) := by decide +kernel
theorem dJ4_append_15ec4_5 : decode cJ4_append_15ec4 5 = .ok (.pop, 1) := by decide +kernel
theorem dJ4_append_15ec4_6 : decode cJ4_append_15ec4 6 = .ok (.aload_n 0, 1) := by decide +kernel
theorem dJ4_append_15ec4_7 : decode cJ4_append_15ec4 7 = .ok (.areturn, 1) := by decide +kernel
theorem dJ4_append_bf812_0 : decode cJ4_append_bf812 0 = .ok (.aload_n 0, 1) := by decide +kernel
theorem dJ4_append_bf812_1 : decode cJ4_append_bf812 1 = .ok (.iload_n 1, 1) := by decide +kernel
theorem dJ4_append_bf812_2 : decode cJ4_append_bf812 2 = .ok (.invokespecial 53, 3) := by decide +kernel
theorem dJ4_append_bf812_5 : decode cJ4_append_bf812 5 = .ok (.pop, 1) := by decide +kernel
theorem dJ4_append_bf812_6 : decode cJ4_append_bf812 6 = .ok (.aload_n 0, 1) := by decide +kernel
theorem dJ4_append_bf812_7 : decode cJ4_append_bf812 7 = .ok (.areturn, 1) := by decide +kernel
theorem dJ4_toString_0e30d_0 : decode cJ4_toString_0e30d 0 = .ok (.new 18, 3) := by decide +kernel
theorem dJ4_toString_0e30d_3 : decode cJ4_toString_0e30d 3 = .ok (.dup, 1) := by decide +kernel
theorem dJ4_toString_0e30d_4 : decode cJ4_toString_0e30d 4 = .ok (.aload_n 0, 1) := by decide +kernel
theorem dJ4_toString_0e30d_5 : decode cJ4_toString_0e30d 5 = .ok (.invokespecial 137, 3) := by decide +kernel
theorem dJ4_toString_0e30d_8 : decode cJ4_toString_0e30d 8 = .ok (.areturn, 1) := by decide +kernel
theorem dJ4_length_8abf5_0 : decode cJ4_length_8abf5 0 = .ok (.aload_n 0, 1) := by decide +kernel
theorem dJ4_length_8abf5_1 : decode cJ4_length_8abf5 1 = .ok (.invokespecial 343, 3) := by decide +kernel
theorem dJ4_length_8abf5_4 : decode cJ4_length_8abf5 4 = .ok (.ireturn, 1) := by decide +kernel
theorem dJ1_charAt_3b067_0 : decode cJ1_charAt_3b067 0 = .ok (.iload_n 1, 1) := by decide +kernel
theorem dJ1_charAt_3b067_1 : decode cJ1_charAt_3b067 1 = .ok (.aload_n 0, 1) := by decide +kernel
theorem dJ1_charAt_3b067_2 : decode cJ1_charAt_3b067 2 = .ok (.arraylength, 1) := by decide +kernel
theorem dJ1_charAt_3b067_3 : decode cJ1_charAt_3b067 3 = .ok (.invokestatic 9, 3) := by decide +kernel
theorem dJ1_charAt_3b067_6 : decode cJ1_charAt_3b067 6 = .ok (.aload_n 0, 1) := by decide +kernel
theorem dJ1_charAt_3b067_7 : decode cJ1_charAt_3b067 7 = .ok (.iload_n 1, 1) := by decide +kernel
theorem dJ1_charAt_3b067_8 : decode cJ1_charAt_3b067 8 = .ok (.baload, 1) := by decide +kernel
theorem dJ1_charAt_3b067_9 : decode cJ1_charAt_3b067 9 = .ok (.sipush 255, 3) := by decide +kernel
theorem dJ1_charAt_3b067_12 : decode cJ1_charAt_3b067 12 = .ok (.iand, 1) := by decide +kernel
theorem dJ1_charAt_3b067_13 : decode cJ1_charAt_3b067 13 = .ok (.i2c, 1) := by decide +kernel
theorem dJ1_charAt_3b067_14 : decode cJ1_charAt_3b067 14 = .ok (.ireturn, 1) := by decide +kernel
theorem dJ1_inflate_0e8fd_0 : decode cJ1_inflate_0e8fd 0 = .ok (.aload_n 0, 1) := by decide +kernel
theorem dJ1_inflate_0e8fd_1 : decode cJ1_inflate_0e8fd 1 = .ok (.iload_n 1, 1) := by decide +kernel
theorem dJ1_inflate_0e8fd_2 : decode cJ1_inflate_0e8fd 2 = .ok (.aload_n 2, 1) := by decide +kernel
theorem dJ1_inflate_0e8fd_3 : decode cJ1_inflate_0e8fd 3 = .ok (.iload_n 3, 1) := by decide +kernel
theorem dJ1_inflate_0e8fd_4 : decode cJ1_inflate_0e8fd 4 = .ok (.iload 4, 2) := by decide +kernel
theorem dJ1_inflate_0e8fd_6 : decode cJ1_inflate_0e8fd 6 = .ok (.invokestatic 240, 3) := by decide +kernel
theorem dJ1_inflate_0e8fd_9 : decode cJ1_inflate_0e8fd 9 = .ok (.return_, 1) := by decide +kernel
theorem dJ2_newBytesFor_77867_0 : decode cJ2_newBytesFor_77867 0 = .ok (.iload_n 0, 1) := by decide +kernel
theorem dJ2_newBytesFor_77867_1 : decode cJ2_newBytesFor_77867 1 = .ok (.invokestatic 11, 3) := by decide +kernel
theorem dJ2_newBytesFor_77867_4 : decode cJ2_newBytesFor_77867 4 = .ok (.newarray .byte, 2) := by decide +kernel
theorem dJ2_newBytesFor_77867_6 : decode cJ2_newBytesFor_77867 6 = .ok (.areturn, 1) := by decide +kernel
theorem dJ2_newBytesLength_0f7a4_0 : decode cJ2_newBytesLength_0f7a4 0 = .ok (.iload_n 0, 1) := by decide +kernel
theorem dJ2_newBytesLength_0f7a4_1 : decode cJ2_newBytesLength_0f7a4 1 = .ok (.ifCond .ge 11, 3) := by decide +kernel
theorem dJ2_newBytesLength_0f7a4_4 : decode cJ2_newBytesLength_0f7a4 4 = .ok (.new 17, 3) := by decide +kernel
theorem dJ2_newBytesLength_0f7a4_7 : decode cJ2_newBytesLength_0f7a4 7 = .ok (.dup, 1) := by decide +kernel
theorem dJ2_newBytesLength_0f7a4_8 : decode cJ2_newBytesLength_0f7a4 8 = .ok (.invokespecial 19, 3) := by decide +kernel
theorem dJ2_newBytesLength_0f7a4_11 : decode cJ2_newBytesLength_0f7a4 11 = .ok (.athrow, 1) := by decide +kernel
theorem dJ2_newBytesLength_0f7a4_12 : decode cJ2_newBytesLength_0f7a4 12 = .ok (.iload_n 0, 1) := by decide +kernel
theorem dJ2_newBytesLength_0f7a4_13 : decode cJ2_newBytesLength_0f7a4 13 = .ok (.ldc 20, 2) := by decide +kernel
theorem dJ2_newBytesLength_0f7a4_15 : decode cJ2_newBytesLength_0f7a4 15 = .ok (.if_icmp .lt 40, 3) := by decide +kernel
theorem dJ2_newBytesLength_0f7a4_18 : decode cJ2_newBytesLength_0f7a4 18 = .ok (.new 21, 3) := by decide +kernel
theorem dJ2_newBytesLength_0f7a4_21 : decode cJ2_newBytesLength_0f7a4 21 = .ok (.dup, 1) := by decide +kernel
theorem dJ2_newBytesLength_0f7a4_22 : decode cJ2_newBytesLength_0f7a4 22 = .ok (.new 23, 3) := by decide +kernel
theorem dJ2_newBytesLength_0f7a4_25 : decode cJ2_newBytesLength_0f7a4 25 = .ok (.dup, 1) := by decide +kernel
theorem dJ2_newBytesLength_0f7a4_26 : decode cJ2_newBytesLength_0f7a4 26 = .ok (.invokespecial 25, 3) := by decide +kernel
theorem dJ2_newBytesLength_0f7a4_29 : decode cJ2_newBytesLength_0f7a4 29 = .ok (.ldc 26, 2) := by decide +kernel
theorem dJ2_newBytesLength_0f7a4_31 : decode cJ2_newBytesLength_0f7a4 31 = .ok (.invokevirtual 28, 3) := by decide +kernel
theorem dJ2_newBytesLength_0f7a4_34 : decode cJ2_newBytesLength_0f7a4 34 = .ok (.iload_n 0, 1) := by decide +kernel
theorem dJ2_newBytesLength_0f7a4_35 : decode cJ2_newBytesLength_0f7a4 35 = .ok (.invokevirtual 32, 3) := by decide +kernel
theorem dJ2_newBytesLength_0f7a4_38 : decode cJ2_newBytesLength_0f7a4 38 = .ok (.ldc 35, 2) := by decide +kernel
theorem dJ2_newBytesLength_0f7a4_40 : decode cJ2_newBytesLength_0f7a4 40 = .ok (.invokevirtual 28, 3) := by decide +kernel
theorem dJ2_newBytesLength_0f7a4_43 : decode cJ2_newBytesLength_0f7a4 43 = .ok (.ldc 20, 2) := by decide +kernel
theorem dJ2_newBytesLength_0f7a4_45 : decode cJ2_newBytesLength_0f7a4 45 = .ok (.invokevirtual 32, 3) := by decide +kernel
theorem dJ2_newBytesLength_0f7a4_48 : decode cJ2_newBytesLength_0f7a4 48 = .ok (.invokevirtual 37, 3) := by decide +kernel
theorem dJ2_newBytesLength_0f7a4_51 : decode cJ2_newBytesLength_0f7a4 51 = .ok (.invokespecial 41, 3) := by decide +kernel
theorem dJ2_newBytesLength_0f7a4_54 : decode cJ2_newBytesLength_0f7a4 54 = .ok (.athrow, 1) := by decide +kernel
theorem dJ2_newBytesLength_0f7a4_55 : decode cJ2_newBytesLength_0f7a4 55 = .ok (.iload_n 0, 1) := by decide +kernel
theorem dJ2_newBytesLength_0f7a4_56 : decode cJ2_newBytesLength_0f7a4 56 = .ok (.iconst 1, 1) := by decide +kernel
theorem dJ2_newBytesLength_0f7a4_57 : decode cJ2_newBytesLength_0f7a4 57 = .ok (.ishl, 1) := by decide +kernel
theorem dJ2_newBytesLength_0f7a4_58 : decode cJ2_newBytesLength_0f7a4 58 = .ok (.ireturn, 1) := by decide +kernel
theorem dJ2_putChar_b72d1_0 : decode cJ2_putChar_b72d1 0 = .ok (.getstatic 44, 3) := by decide +kernel
theorem dJ2_putChar_b72d1_3 : decode cJ2_putChar_b72d1 3 = .ok (.ifCond .ne 25, 3) := by decide +kernel
theorem dJ2_putChar_b72d1_6 : decode cJ2_putChar_b72d1 6 = .ok (.iload_n 1, 1) := by decide +kernel
theorem dJ2_putChar_b72d1_7 : decode cJ2_putChar_b72d1 7 = .ok (.ifCond .lt 11, 3) := by decide +kernel
theorem dJ2_putChar_b72d1_10 : decode cJ2_putChar_b72d1 10 = .ok (.iload_n 1, 1) := by decide +kernel
theorem dJ2_putChar_b72d1_11 : decode cJ2_putChar_b72d1 11 = .ok (.aload_n 0, 1) := by decide +kernel
theorem dJ2_putChar_b72d1_12 : decode cJ2_putChar_b72d1 12 = .ok (.invokestatic 48, 3) := by decide +kernel
theorem dJ2_putChar_b72d1_15 : decode cJ2_putChar_b72d1 15 = .ok (.if_icmp .lt 13, 3) := by decide +kernel
theorem dJ2_putChar_b72d1_18 : decode cJ2_putChar_b72d1 18 = .ok (.new 52, 3) := by decide +kernel
theorem dJ2_putChar_b72d1_21 : decode cJ2_putChar_b72d1 21 = .ok (.dup, 1) := by decide +kernel
theorem dJ2_putChar_b72d1_22 : decode cJ2_putChar_b72d1 22 = .ok (.ldc 54, 2) := by decide +kernel
theorem dJ2_putChar_b72d1_24 : decode cJ2_putChar_b72d1 24 = .ok (.invokespecial 56, 3) := by decide +kernel
theorem dJ2_putChar_b72d1_27 : decode cJ2_putChar_b72d1 27 = .ok (.athrow, 1) := by decide +kernel
theorem dJ2_putChar_b72d1_28 : decode cJ2_putChar_b72d1 28 = .ok (.iload_n 1, 1) := by decide +kernel
theorem dJ2_putChar_b72d1_29 : decode cJ2_putChar_b72d1 29 = .ok (.iconst 1, 1) := by decide +kernel
theorem dJ2_putChar_b72d1_30 : decode cJ2_putChar_b72d1 30 = .ok (.ishl, 1) := by decide +kernel
theorem dJ2_putChar_b72d1_31 : decode cJ2_putChar_b72d1 31 = .ok (.istore_n 1, 1) := by decide +kernel
theorem dJ2_putChar_b72d1_32 : decode cJ2_putChar_b72d1 32 = .ok (.aload_n 0, 1) := by decide +kernel
theorem dJ2_putChar_b72d1_33 : decode cJ2_putChar_b72d1 33 = .ok (.iload_n 1, 1) := by decide +kernel
theorem dJ2_putChar_b72d1_34 : decode cJ2_putChar_b72d1 34 = .ok (.iinc 1 1, 3) := by decide +kernel
theorem dJ2_putChar_b72d1_37 : decode cJ2_putChar_b72d1 37 = .ok (.iload_n 2, 1) := by decide +kernel
theorem dJ2_putChar_b72d1_38 : decode cJ2_putChar_b72d1 38 = .ok (.getstatic 59, 3) := by decide +kernel
theorem dJ2_putChar_b72d1_41 : decode cJ2_putChar_b72d1 41 = .ok (.ishr, 1) := by decide +kernel
theorem dJ2_putChar_b72d1_42 : decode cJ2_putChar_b72d1 42 = .ok (.i2b, 1) := by decide +kernel
theorem dJ2_putChar_b72d1_43 : decode cJ2_putChar_b72d1 43 = .ok (.bastore, 1) := by decide +kernel
theorem dJ2_putChar_b72d1_44 : decode cJ2_putChar_b72d1 44 = .ok (.aload_n 0, 1) := by decide +kernel
theorem dJ2_putChar_b72d1_45 : decode cJ2_putChar_b72d1 45 = .ok (.iload_n 1, 1) := by decide +kernel
theorem dJ2_putChar_b72d1_46 : decode cJ2_putChar_b72d1 46 = .ok (.iload_n 2, 1) := by decide +kernel
theorem dJ2_putChar_b72d1_47 : decode cJ2_putChar_b72d1 47 = .ok (.getstatic 63, 3) := by decide +kernel
theorem dJ2_putChar_b72d1_50 : decode cJ2_putChar_b72d1 50 = .ok (.ishr, 1) := by decide +kernel
theorem dJ2_putChar_b72d1_51 : decode cJ2_putChar_b72d1 51 = .ok (.i2b, 1) := by decide +kernel
theorem dJ2_putChar_b72d1_52 : decode cJ2_putChar_b72d1 52 = .ok (.bastore, 1) := by decide +kernel
theorem dJ2_putChar_b72d1_53 : decode cJ2_putChar_b72d1 53 = .ok (.return_, 1) := by decide +kernel
theorem dJ2_getChar_3b067_0 : decode cJ2_getChar_3b067 0 = .ok (.getstatic 44, 3) := by decide +kernel
theorem dJ2_getChar_3b067_3 : decode cJ2_getChar_3b067 3 = .ok (.ifCond .ne 25, 3) := by decide +kernel
theorem dJ2_getChar_3b067_6 : decode cJ2_getChar_3b067 6 = .ok (.iload_n 1, 1) := by decide +kernel
theorem dJ2_getChar_3b067_7 : decode cJ2_getChar_3b067 7 = .ok (.ifCond .lt 11, 3) := by decide +kernel
theorem dJ2_getChar_3b067_10 : decode cJ2_getChar_3b067 10 = .ok (.iload_n 1, 1) := by decide +kernel
theorem dJ2_getChar_3b067_11 : decode cJ2_getChar_3b067 11 = .ok (.aload_n 0, 1) := by decide +kernel
theorem dJ2_getChar_3b067_12 : decode cJ2_getChar_3b067 12 = .ok (.invokestatic 48, 3) := by decide +kernel
theorem dJ2_getChar_3b067_15 : decode cJ2_getChar_3b067 15 = .ok (.if_icmp .lt 13, 3) := by decide +kernel
theorem dJ2_getChar_3b067_18 : decode cJ2_getChar_3b067 18 = .ok (.new 52, 3) := by decide +kernel
theorem dJ2_getChar_3b067_21 : decode cJ2_getChar_3b067 21 = .ok (.dup, 1) := by decide +kernel
theorem dJ2_getChar_3b067_22 : decode cJ2_getChar_3b067 22 = .ok (.ldc 54, 2) := by decide +kernel
theorem dJ2_getChar_3b067_24 : decode cJ2_getChar_3b067 24 = .ok (.invokespecial 56, 3) := by decide +kernel
theorem dJ2_getChar_3b067_27 : decode cJ2_getChar_3b067 27 = .ok (.athrow, 1) := by decide +kernel
theorem dJ2_getChar_3b067_28 : decode cJ2_getChar_3b067 28 = .ok (.iload_n 1, 1) := by decide +kernel
theorem dJ2_getChar_3b067_29 : decode cJ2_getChar_3b067 29 = .ok (.iconst 1, 1) := by decide +kernel
theorem dJ2_getChar_3b067_30 : decode cJ2_getChar_3b067 30 = .ok (.ishl, 1) := by decide +kernel
theorem dJ2_getChar_3b067_31 : decode cJ2_getChar_3b067 31 = .ok (.istore_n 1, 1) := by decide +kernel
theorem dJ2_getChar_3b067_32 : decode cJ2_getChar_3b067 32 = .ok (.aload_n 0, 1) := by decide +kernel
theorem dJ2_getChar_3b067_33 : decode cJ2_getChar_3b067 33 = .ok (.iload_n 1, 1) := by decide +kernel
theorem dJ2_getChar_3b067_34 : decode cJ2_getChar_3b067 34 = .ok (.iinc 1 1, 3) := by decide +kernel
theorem dJ2_getChar_3b067_37 : decode cJ2_getChar_3b067 37 = .ok (.baload, 1) := by decide +kernel
theorem dJ2_getChar_3b067_38 : decode cJ2_getChar_3b067 38 = .ok (.sipush 255, 3) := by decide +kernel
theorem dJ2_getChar_3b067_41 : decode cJ2_getChar_3b067 41 = .ok (.iand, 1) := by decide +kernel
theorem dJ2_getChar_3b067_42 : decode cJ2_getChar_3b067 42 = .ok (.getstatic 59, 3) := by decide +kernel
theorem dJ2_getChar_3b067_45 : decode cJ2_getChar_3b067 45 = .ok (.ishl, 1) := by decide +kernel
theorem dJ2_getChar_3b067_46 : decode cJ2_getChar_3b067 46 = .ok (.aload_n 0, 1) := by decide +kernel
theorem dJ2_getChar_3b067_47 : decode cJ2_getChar_3b067 47 = .ok (.iload_n 1, 1) := by decide +kernel
theorem dJ2_getChar_3b067_48 : decode cJ2_getChar_3b067 48 = .ok (.baload, 1) := by decide +kernel
theorem dJ2_getChar_3b067_49 : decode cJ2_getChar_3b067 49 = .ok (.sipush 255, 3) := by decide +kernel
theorem dJ2_getChar_3b067_52 : decode cJ2_getChar_3b067 52 = .ok (.iand, 1) := by decide +kernel
theorem dJ2_getChar_3b067_53 : decode cJ2_getChar_3b067 53 = .ok (.getstatic 63, 3) := by decide +kernel
theorem dJ2_getChar_3b067_56 : decode cJ2_getChar_3b067 56 = .ok (.ishl, 1) := by decide +kernel
theorem dJ2_getChar_3b067_57 : decode cJ2_getChar_3b067 57 = .ok (.ior, 1) := by decide +kernel
theorem dJ2_getChar_3b067_58 : decode cJ2_getChar_3b067 58 = .ok (.i2c, 1) := by decide +kernel
theorem dJ2_getChar_3b067_59 : decode cJ2_getChar_3b067 59 = .ok (.ireturn, 1) := by decide +kernel
theorem dJ2_length_9d52b_0 : decode cJ2_length_9d52b 0 = .ok (.aload_n 0, 1) := by decide +kernel
theorem dJ2_length_9d52b_1 : decode cJ2_length_9d52b 1 = .ok (.arraylength, 1) := by decide +kernel
theorem dJ2_length_9d52b_2 : decode cJ2_length_9d52b 2 = .ok (.iconst 1, 1) := by decide +kernel
theorem dJ2_length_9d52b_3 : decode cJ2_length_9d52b 3 = .ok (.ishr, 1) := by decide +kernel
theorem dJ2_length_9d52b_4 : decode cJ2_length_9d52b 4 = .ok (.ireturn, 1) := by decide +kernel
theorem dJ2_coderFromArrayLen_85cad_0 : decode cJ2_coderFromArrayLen_85cad 0 = .ok (.iload_n 1, 1) := by decide +kernel
theorem dJ2_coderFromArrayLen_85cad_1 : decode cJ2_coderFromArrayLen_85cad 1 = .ok (.aload_n 0, 1) := by decide +kernel
theorem dJ2_coderFromArrayLen_85cad_2 : decode cJ2_coderFromArrayLen_85cad 2 = .ok (.arraylength, 1) := by decide +kernel
theorem dJ2_coderFromArrayLen_85cad_3 : decode cJ2_coderFromArrayLen_85cad 3 = .ok (.isub, 1) := by decide +kernel
theorem dJ2_coderFromArrayLen_85cad_4 : decode cJ2_coderFromArrayLen_85cad 4 = .ok (.bipush 31, 2) := by decide +kernel
theorem dJ2_coderFromArrayLen_85cad_6 : decode cJ2_coderFromArrayLen_85cad 6 = .ok (.iushr, 1) := by decide +kernel
theorem dJ2_coderFromArrayLen_85cad_7 : decode cJ2_coderFromArrayLen_85cad 7 = .ok (.i2b, 1) := by decide +kernel
theorem dJ2_coderFromArrayLen_85cad_8 : decode cJ2_coderFromArrayLen_85cad 8 = .ok (.ireturn, 1) := by decide +kernel
theorem dJ2_compress_39247_0 : decode cJ2_compress_39247 0 = .ok (.iload_n 2, 1) := by decide +kernel
theorem dJ2_compress_39247_1 : decode cJ2_compress_39247 1 = .ok (.newarray .byte, 2) := by decide +kernel
theorem dJ2_compress_39247_3 : decode cJ2_compress_39247 3 = .ok (.astore_n 3, 1) := by decide +kernel
theorem dJ2_compress_39247_4 : decode cJ2_compress_39247 4 = .ok (.aload_n 0, 1) := by decide +kernel
theorem dJ2_compress_39247_5 : decode cJ2_compress_39247 5 = .ok (.iload_n 1, 1) := by decide +kernel
theorem dJ2_compress_39247_6 : decode cJ2_compress_39247 6 = .ok (.aload_n 3, 1) := by decide +kernel
theorem dJ2_compress_39247_7 : decode cJ2_compress_39247 7 = .ok (.iconst 0, 1) := by decide +kernel
theorem dJ2_compress_39247_8 : decode cJ2_compress_39247 8 = .ok (.iload_n 2, 1) := by decide +kernel
theorem dJ2_compress_39247_9 : decode cJ2_compress_39247 9 = .ok (.invokestatic 123, 3) := by decide +kernel
theorem dJ2_compress_39247_12 : decode cJ2_compress_39247 12 = .ok (.istore 4, 2) := by decide +kernel
theorem dJ2_compress_39247_14 : decode cJ2_compress_39247 14 = .ok (.iload 4, 2) := by decide +kernel
theorem dJ2_compress_39247_16 : decode cJ2_compress_39247 16 = .ok (.iload_n 2, 1) := by decide +kernel
theorem dJ2_compress_39247_17 : decode cJ2_compress_39247 17 = .ok (.if_icmp .eq 47, 3) := by decide +kernel
theorem dJ2_compress_39247_20 : decode cJ2_compress_39247 20 = .ok (.aload_n 0, 1) := by decide +kernel
theorem dJ2_compress_39247_21 : decode cJ2_compress_39247 21 = .ok (.iload_n 1, 1) := by decide +kernel
theorem dJ2_compress_39247_22 : decode cJ2_compress_39247 22 = .ok (.iconst 1, 1) := by decide +kernel
theorem dJ2_compress_39247_23 : decode cJ2_compress_39247 23 = .ok (.ishl, 1) := by decide +kernel
theorem dJ2_compress_39247_24 : decode cJ2_compress_39247 24 = .ok (.iload_n 1, 1) := by decide +kernel
theorem dJ2_compress_39247_25 : decode cJ2_compress_39247 25 = .ok (.iload_n 2, 1) := by decide +kernel
theorem dJ2_compress_39247_26 : decode cJ2_compress_39247 26 = .ok (.iadd, 1) := by decide +kernel
theorem dJ2_compress_39247_27 : decode cJ2_compress_39247 27 = .ok (.invokestatic 11, 3) := by decide +kernel
theorem dJ2_compress_39247_30 : decode cJ2_compress_39247 30 = .ok (.invokestatic 126, 3) := by decide +kernel
theorem dJ2_compress_39247_33 : decode cJ2_compress_39247 33 = .ok (.astore 5, 2) := by decide +kernel
theorem dJ2_compress_39247_35 : decode cJ2_compress_39247 35 = .ok (.aload 5, 2) := by decide +kernel
theorem dJ2_compress_39247_37 : decode cJ2_compress_39247 37 = .ok (.iload 4, 2) := by decide +kernel
theorem dJ2_compress_39247_39 : decode cJ2_compress_39247 39 = .ok (.invokestatic 71, 3) := by decide +kernel
theorem dJ2_compress_39247_42 : decode cJ2_compress_39247 42 = .ok (.sipush 255, 3) := by decide +kernel
theorem dJ2_compress_39247_45 : decode cJ2_compress_39247 45 = .ok (.if_icmp .gt 16, 3) := by decide +kernel
theorem dJ2_compress_39247_48 : decode cJ2_compress_39247 48 = .ok (.aload 5, 2) := by decide +kernel
theorem dJ2_compress_39247_50 : decode cJ2_compress_39247 50 = .ok (.iconst 0, 1) := by decide +kernel
theorem dJ2_compress_39247_51 : decode cJ2_compress_39247 51 = .ok (.aload_n 3, 1) := by decide +kernel
theorem dJ2_compress_39247_52 : decode cJ2_compress_39247 52 = .ok (.iconst 0, 1) := by decide +kernel
theorem dJ2_compress_39247_53 : decode cJ2_compress_39247 53 = .ok (.iload_n 2, 1) := by decide +kernel
theorem dJ2_compress_39247_54 : decode cJ2_compress_39247 54 = .ok (.invokestatic 123, 3) := by decide +kernel
theorem dJ2_compress_39247_57 : decode cJ2_compress_39247 57 = .ok (.iload_n 2, 1) := by decide +kernel
theorem dJ2_compress_39247_58 : decode cJ2_compress_39247 58 = .ok (.if_icmp .eq 6, 3) := by decide +kernel
theorem dJ2_compress_39247_61 : decode cJ2_compress_39247 61 = .ok (.aload 5, 2) := by decide +kernel
theorem dJ2_compress_39247_63 : decode cJ2_compress_39247 63 = .ok (.areturn, 1) := by decide +kernel
theorem dJ2_compress_39247_64 : decode cJ2_compress_39247 64 = .ok (.aload_n 3, 1) := by decide +kernel
theorem dJ2_compress_39247_65 : decode cJ2_compress_39247 65 = .ok (.areturn, 1) := by decide +kernel
theorem dJ2_compress_5af95_0 : decode cJ2_compress_5af95 0 = .ok (.iload_n 1, 1) := by decide +kernel
theorem dJ2_compress_5af95_1 : decode cJ2_compress_5af95 1 = .ok (.iload 4, 2) := by decide +kernel
theorem dJ2_compress_5af95_3 : decode cJ2_compress_5af95 3 = .ok (.aload_n 0, 1) := by decide +kernel
theorem dJ2_compress_5af95_4 : decode cJ2_compress_5af95 4 = .ok (.invokestatic 173, 3) := by decide +kernel
theorem dJ2_compress_5af95_7 : decode cJ2_compress_5af95 7 = .ok (.iconst 0, 1) := by decide +kernel
theorem dJ2_compress_5af95_8 : decode cJ2_compress_5af95 8 = .ok (.istore 5, 2) := by decide +kernel
theorem dJ2_compress_5af95_10 : decode cJ2_compress_5af95 10 = .ok (.iload 5, 2) := by decide +kernel
theorem dJ2_compress_5af95_12 : decode cJ2_compress_5af95 12 = .ok (.iload 4, 2) := by decide +kernel
theorem dJ2_compress_5af95_14 : decode cJ2_compress_5af95 14 = .ok (.if_icmp .ge 39, 3) := by decide +kernel
theorem dJ2_compress_5af95_17 : decode cJ2_compress_5af95 17 = .ok (.aload_n 0, 1) := by decide +kernel
theorem dJ2_compress_5af95_18 : decode cJ2_compress_5af95 18 = .ok (.iload_n 1, 1) := by decide +kernel
theorem dJ2_compress_5af95_19 : decode cJ2_compress_5af95 19 = .ok (.invokestatic 71, 3) := by decide +kernel
theorem dJ2_compress_5af95_22 : decode cJ2_compress_5af95 22 = .ok (.istore 6, 2) := by decide +kernel
theorem dJ2_compress_5af95_24 : decode cJ2_compress_5af95 24 = .ok (.iload 6, 2) := by decide +kernel
theorem dJ2_compress_5af95_26 : decode cJ2_compress_5af95 26 = .ok (.sipush 255, 3) := by decide +kernel
theorem dJ2_compress_5af95_29 : decode cJ2_compress_5af95 29 = .ok (.if_icmp .le 6, 3) := by decide +kernel
theorem dJ2_compress_5af95_32 : decode cJ2_compress_5af95 32 = .ok (.iload 5, 2) := by decide +kernel
theorem dJ2_compress_5af95_34 : decode cJ2_compress_5af95 34 = .ok (.ireturn, 1) := by decide +kernel
theorem dJ2_compress_5af95_35 : decode cJ2_compress_5af95 35 = .ok (.aload_n 2, 1) := by decide +kernel
theorem dJ2_compress_5af95_36 : decode cJ2_compress_5af95 36 = .ok (.iload_n 3, 1) := by decide +kernel
theorem dJ2_compress_5af95_37 : decode cJ2_compress_5af95 37 = .ok (.iload 6, 2) := by decide +kernel
theorem dJ2_compress_5af95_39 : decode cJ2_compress_5af95 39 = .ok (.i2b, 1) := by decide +kernel
theorem dJ2_compress_5af95_40 : decode cJ2_compress_5af95 40 = .ok (.bastore, 1) := by decide +kernel
theorem dJ2_compress_5af95_41 : decode cJ2_compress_5af95 41 = .ok (.iinc 1 1, 3) := by decide +kernel
theorem dJ2_compress_5af95_44 : decode cJ2_compress_5af95 44 = .ok (.iinc 3 1, 3) := by decide +kernel
theorem dJ2_compress_5af95_47 : decode cJ2_compress_5af95 47 = .ok (.iinc 5 1, 3) := by decide +kernel
theorem dJ2_compress_5af95_50 : decode cJ2_compress_5af95 50 = .ok (.goto (-40), 3) := by decide +kernel
theorem dJ2_compress_5af95_53 : decode cJ2_compress_5af95 53 = .ok (.iload 4, 2) := by decide +kernel
theorem dJ2_compress_5af95_55 : decode cJ2_compress_5af95 55 = .ok (.ireturn, 1) := by decide +kernel
theorem dJ2_getChars_46870_0 : decode cJ2_getChars_46870 0 = .ok (.iload_n 1, 1) := by decide +kernel
theorem dJ2_getChars_46870_1 : decode cJ2_getChars_46870 1 = .ok (.iload_n 2, 1) := by decide +kernel
theorem dJ2_getChars_46870_2 : decode cJ2_getChars_46870 2 = .ok (.aload_n 3, 1) := by decide +kernel
theorem dJ2_getChars_46870_3 : decode cJ2_getChars_46870 3 = .ok (.invokestatic 96, 3) := by decide +kernel
theorem dJ2_getChars_46870_6 : decode cJ2_getChars_46870 6 = .ok (.iload_n 0, 1) := by decide +kernel
theorem dJ2_getChars_46870_7 : decode cJ2_getChars_46870 7 = .ok (.iload_n 2, 1) := by decide +kernel
theorem dJ2_getChars_46870_8 : decode cJ2_getChars_46870 8 = .ok (.aload_n 3, 1) := by decide +kernel
theorem dJ2_getChars_46870_9 : decode cJ2_getChars_46870 9 = .ok (.invokestatic 393, 3) := by decide +kernel
theorem dJ2_getChars_46870_12 : decode cJ2_getChars_46870 12 = .ok (.istore 4, 2) := by decide +kernel
theorem dJ2_getChars_46870_14 : decode cJ2_getChars_46870 14 = .ok (.getstatic 44, 3) := by decide +kernel
theorem dJ2_getChars_46870_17 : decode cJ2_getChars_46870 17 = .ok (.ifCond .ne 17, 3) := by decide +kernel
theorem dJ2_getChars_46870_20 : decode cJ2_getChars_46870 20 = .ok (.iload_n 1, 1) := by decide +kernel
theorem dJ2_getChars_46870_21 : decode cJ2_getChars_46870 21 = .ok (.iload 4, 2) := by decide +kernel
theorem dJ2_getChars_46870_23 : decode cJ2_getChars_46870 23 = .ok (.if_icmp .eq 11, 3) := by decide +kernel
theorem dJ2_getChars_46870_26 : decode cJ2_getChars_46870 26 = .ok (.new 52, 3) := by decide +kernel
theorem dJ2_getChars_46870_29 : decode cJ2_getChars_46870 29 = .ok (.dup, 1) := by decide +kernel
theorem dJ2_getChars_46870_30 : decode cJ2_getChars_46870 30 = .ok (.invokespecial 66, 3) := by decide +kernel
theorem dJ2_getChars_46870_33 : decode cJ2_getChars_46870 33 = .ok (.athrow, 1) := by decide +kernel
theorem dJ2_getChars_46870_34 : decode cJ2_getChars_46870 34 = .ok (.iload 4, 2) := by decide +kernel
theorem dJ2_getChars_46870_36 : decode cJ2_getChars_46870 36 = .ok (.ireturn, 1) := by decide +kernel
theorem dJ2_putCharsAt_cd4e5_0 : decode cJ2_putCharsAt_cd4e5 0 = .ok (.iload_n 1, 1) := by decide +kernel
theorem dJ2_putCharsAt_cd4e5_1 : decode cJ2_putCharsAt_cd4e5 1 = .ok (.iconst 4, 1) := by decide +kernel
theorem dJ2_putCharsAt_cd4e5_2 : decode cJ2_putCharsAt_cd4e5 2 = .ok (.iadd, 1) := by decide +kernel
theorem dJ2_putCharsAt_cd4e5_3 : decode cJ2_putCharsAt_cd4e5 3 = .ok (.istore 6, 2) := by decide +kernel
theorem dJ2_putCharsAt_cd4e5_5 : decode cJ2_putCharsAt_cd4e5 5 = .ok (.iload_n 1, 1) := by decide +kernel
theorem dJ2_putCharsAt_cd4e5_6 : decode cJ2_putCharsAt_cd4e5 6 = .ok (.iload 6, 2) := by decide +kernel
theorem dJ2_putCharsAt_cd4e5_8 : decode cJ2_putCharsAt_cd4e5 8 = .ok (.aload_n 0, 1) := by decide +kernel
theorem dJ2_putCharsAt_cd4e5_9 : decode cJ2_putCharsAt_cd4e5 9 = .ok (.invokestatic 96, 3) := by decide +kernel
theorem dJ2_putCharsAt_cd4e5_12 : decode cJ2_putCharsAt_cd4e5 12 = .ok (.aload_n 0, 1) := by decide +kernel
theorem dJ2_putCharsAt_cd4e5_13 : decode cJ2_putCharsAt_cd4e5 13 = .ok (.iload_n 1, 1) := by decide +kernel
theorem dJ2_putCharsAt_cd4e5_14 : decode cJ2_putCharsAt_cd4e5 14 = .ok (.iinc 1 1, 3) := by decide +kernel
theorem dJ2_putCharsAt_cd4e5_17 : decode cJ2_putCharsAt_cd4e5 17 = .ok (.iload_n 2, 1) := by decide +kernel
theorem dJ2_putCharsAt_cd4e5_18 : decode cJ2_putCharsAt_cd4e5 18 = .ok (.invokestatic 111, 3) := by decide +kernel
theorem dJ2_putCharsAt_cd4e5_21 : decode cJ2_putCharsAt_cd4e5 21 = .ok (.aload_n 0, 1) := by decide +kernel
theorem dJ2_putCharsAt_cd4e5_22 : decode cJ2_putCharsAt_cd4e5 22 = .ok (.iload_n 1, 1) := by decide +kernel
theorem dJ2_putCharsAt_cd4e5_23 : decode cJ2_putCharsAt_cd4e5 23 = .ok (.iinc 1 1, 3) := by decide +kernel
theorem dJ2_putCharsAt_cd4e5_26 : decode cJ2_putCharsAt_cd4e5 26 = .ok (.iload_n 3, 1) := by decide +kernel
theorem dJ2_putCharsAt_cd4e5_27 : decode cJ2_putCharsAt_cd4e5 27 = .ok (.invokestatic 111, 3) := by decide +kernel
theorem dJ2_putCharsAt_cd4e5_30 : decode cJ2_putCharsAt_cd4e5 30 = .ok (.aload_n 0, 1) := by decide +kernel
theorem dJ2_putCharsAt_cd4e5_31 : decode cJ2_putCharsAt_cd4e5 31 = .ok (.iload_n 1, 1) := by decide +kernel
theorem dJ2_putCharsAt_cd4e5_32 : decode cJ2_putCharsAt_cd4e5 32 = .ok (.iinc 1 1, 3) := by decide +kernel
theorem dJ2_putCharsAt_cd4e5_35 : decode cJ2_putCharsAt_cd4e5 35 = .ok (.iload 4, 2) := by decide +kernel
theorem dJ2_putCharsAt_cd4e5_37 : decode cJ2_putCharsAt_cd4e5 37 = .ok (.invokestatic 111, 3) := by decide +kernel
theorem dJ2_putCharsAt_cd4e5_40 : decode cJ2_putCharsAt_cd4e5 40 = .ok (.aload_n 0, 1) := by decide +kernel
theorem dJ2_putCharsAt_cd4e5_41 : decode cJ2_putCharsAt_cd4e5 41 = .ok (.iload_n 1, 1) := by decide +kernel
theorem dJ2_putCharsAt_cd4e5_42 : decode cJ2_putCharsAt_cd4e5 42 = .ok (.iinc 1 1, 3) := by decide +kernel
theorem dJ2_putCharsAt_cd4e5_45 : decode cJ2_putCharsAt_cd4e5 45 = .ok (.iload 5, 2) := by decide +kernel
theorem dJ2_putCharsAt_cd4e5_47 : decode cJ2_putCharsAt_cd4e5 47 = .ok (.invokestatic 111, 3) := by decide +kernel
theorem dJ2_putCharsAt_cd4e5_50 : decode cJ2_putCharsAt_cd4e5 50 = .ok (.getstatic 44, 3) := by decide +kernel
theorem dJ2_putCharsAt_cd4e5_53 : decode cJ2_putCharsAt_cd4e5 53 = .ok (.ifCond .ne 17, 3) := by decide +kernel
theorem dJ2_putCharsAt_cd4e5_56 : decode cJ2_putCharsAt_cd4e5 56 = .ok (.iload_n 1, 1) := by decide +kernel
theorem dJ2_putCharsAt_cd4e5_57 : decode cJ2_putCharsAt_cd4e5 57 = .ok (.iload 6, 2) := by decide +kernel
theorem dJ2_putCharsAt_cd4e5_59 : decode cJ2_putCharsAt_cd4e5 59 = .ok (.if_icmp .eq 11, 3) := by decide +kernel
theorem dJ2_putCharsAt_cd4e5_62 : decode cJ2_putCharsAt_cd4e5 62 = .ok (.new 52, 3) := by decide +kernel
theorem dJ2_putCharsAt_cd4e5_65 : decode cJ2_putCharsAt_cd4e5 65 = .ok (.dup, 1) := by decide +kernel
theorem dJ2_putCharsAt_cd4e5_66 : decode cJ2_putCharsAt_cd4e5 66 = .ok (.invokespecial 66, 3) := by decide +kernel
theorem dJ2_putCharsAt_cd4e5_69 : decode cJ2_putCharsAt_cd4e5 69 = .ok (.athrow, 1) := by decide +kernel
theorem dJ2_putCharsAt_cd4e5_70 : decode cJ2_putCharsAt_cd4e5 70 = .ok (.iload 6, 2) := by decide +kernel
theorem dJ2_putCharsAt_cd4e5_72 : decode cJ2_putCharsAt_cd4e5 72 = .ok (.ireturn, 1) := by decide +kernel
theorem dJ2_charAt_3b067_0 : decode cJ2_charAt_3b067 0 = .ok (.iload_n 1, 1) := by decide +kernel
theorem dJ2_charAt_3b067_1 : decode cJ2_charAt_3b067 1 = .ok (.aload_n 0, 1) := by decide +kernel
theorem dJ2_charAt_3b067_2 : decode cJ2_charAt_3b067 2 = .ok (.invokestatic 67, 3) := by decide +kernel
theorem dJ2_charAt_3b067_5 : decode cJ2_charAt_3b067 5 = .ok (.aload_n 0, 1) := by decide +kernel
theorem dJ2_charAt_3b067_6 : decode cJ2_charAt_3b067 6 = .ok (.iload_n 1, 1) := by decide +kernel
theorem dJ2_charAt_3b067_7 : decode cJ2_charAt_3b067 7 = .ok (.invokestatic 71, 3) := by decide +kernel
theorem dJ2_charAt_3b067_10 : decode cJ2_charAt_3b067 10 = .ok (.ireturn, 1) := by decide +kernel
theorem dJ2_inflate_0e8fd_0 : decode cJ2_inflate_0e8fd 0 = .ok (.iload_n 3, 1) := by decide +kernel
theorem dJ2_inflate_0e8fd_1 : decode cJ2_inflate_0e8fd 1 = .ok (.iload 4, 2) := by decide +kernel
theorem dJ2_inflate_0e8fd_3 : decode cJ2_inflate_0e8fd 3 = .ok (.aload_n 2, 1) := by decide +kernel
theorem dJ2_inflate_0e8fd_4 : decode cJ2_inflate_0e8fd 4 = .ok (.invokestatic 173, 3) := by decide +kernel
theorem dJ2_inflate_0e8fd_7 : decode cJ2_inflate_0e8fd 7 = .ok (.iconst 0, 1) := by decide +kernel
theorem dJ2_inflate_0e8fd_8 : decode cJ2_inflate_0e8fd 8 = .ok (.istore 5, 2) := by decide +kernel
theorem dJ2_inflate_0e8fd_10 : decode cJ2_inflate_0e8fd 10 = .ok (.iload 5, 2) := by decide +kernel
theorem dJ2_inflate_0e8fd_12 : decode cJ2_inflate_0e8fd 12 = .ok (.iload 4, 2) := by decide +kernel
theorem dJ2_inflate_0e8fd_14 : decode cJ2_inflate_0e8fd 14 = .ok (.if_icmp .ge 27, 3) := by decide +kernel
theorem dJ2_inflate_0e8fd_17 : decode cJ2_inflate_0e8fd 17 = .ok (.aload_n 2, 1) := by decide +kernel
theorem dJ2_inflate_0e8fd_18 : decode cJ2_inflate_0e8fd 18 = .ok (.iload_n 3, 1) := by decide +kernel
theorem dJ2_inflate_0e8fd_19 : decode cJ2_inflate_0e8fd 19 = .ok (.iinc 3 1, 3) := by decide +kernel
theorem dJ2_inflate_0e8fd_22 : decode cJ2_inflate_0e8fd 22 = .ok (.aload_n 0, 1) := by decide +kernel
theorem dJ2_inflate_0e8fd_23 : decode cJ2_inflate_0e8fd 23 = .ok (.iload_n 1, 1) := by decide +kernel
theorem dJ2_inflate_0e8fd_24 : decode cJ2_inflate_0e8fd 24 = .ok (.iinc 1 1, 3) := by decide +kernel
theorem dJ2_inflate_0e8fd_27 : decode cJ2_inflate_0e8fd 27 = .ok (.baload, 1) := by decide +kernel
theorem dJ2_inflate_0e8fd_28 : decode cJ2_inflate_0e8fd 28 = .ok (.sipush 255, 3) := by decide +kernel
theorem dJ2_inflate_0e8fd_31 : decode cJ2_inflate_0e8fd 31 = .ok (.iand, 1) := by decide +kernel
theorem dJ2_inflate_0e8fd_32 : decode cJ2_inflate_0e8fd 32 = .ok (.invokestatic 111, 3) := by decide +kernel
theorem dJ2_inflate_0e8fd_35 : decode cJ2_inflate_0e8fd 35 = .ok (.iinc 5 1, 3) := by decide +kernel
theorem dJ2_inflate_0e8fd_38 : decode cJ2_inflate_0e8fd 38 = .ok (.goto (-28), 3) := by decide +kernel
theorem dJ2_inflate_0e8fd_41 : decode cJ2_inflate_0e8fd 41 = .ok (.return_, 1) := by decide +kernel
theorem dJ2_getChars_ba4f3_0 : decode cJ2_getChars_ba4f3 0 = .ok (.iload_n 1, 1) := by decide +kernel
theorem dJ2_getChars_ba4f3_1 : decode cJ2_getChars_ba4f3 1 = .ok (.istore 5, 2) := by decide +kernel
theorem dJ2_getChars_ba4f3_3 : decode cJ2_getChars_ba4f3 3 = .ok (.iload_n 0, 1) := by decide +kernel
theorem dJ2_getChars_ba4f3_4 : decode cJ2_getChars_ba4f3 4 = .ok (.ifCond .ge 7, 3) := by decide +kernel
theorem dJ2_getChars_ba4f3_7 : decode cJ2_getChars_ba4f3 7 = .ok (.iconst 1, 1) := by decide +kernel
theorem dJ2_getChars_ba4f3_8 : decode cJ2_getChars_ba4f3 8 = .ok (.goto 4, 3) := by decide +kernel
theorem dJ2_getChars_ba4f3_11 : decode cJ2_getChars_ba4f3 11 = .ok (.iconst 0, 1) := by decide +kernel
theorem dJ2_getChars_ba4f3_12 : decode cJ2_getChars_ba4f3 12 = .ok (.istore 6, 2) := by decide +kernel
theorem dJ2_getChars_ba4f3_14 : decode cJ2_getChars_ba4f3 14 = .ok (.iload 6, 2) := by decide +kernel
theorem dJ2_getChars_ba4f3_16 : decode cJ2_getChars_ba4f3 16 = .ok (.ifCond .ne 6, 3) := by decide +kernel
theorem dJ2_getChars_ba4f3_19 : decode cJ2_getChars_ba4f3 19 = .ok (.iload_n 0, 1) := by decide +kernel
theorem dJ2_getChars_ba4f3_20 : decode cJ2_getChars_ba4f3 20 = .ok (.ineg, 1) := by decide +kernel
theorem dJ2_getChars_ba4f3_21 : decode cJ2_getChars_ba4f3 21 = .ok (.istore_n 0, 1) := by decide +kernel
theorem dJ2_getChars_ba4f3_22 : decode cJ2_getChars_ba4f3 22 = .ok (.iload_n 0, 1) := by decide +kernel
theorem dJ2_getChars_ba4f3_23 : decode cJ2_getChars_ba4f3 23 = .ok (.bipush (-100), 2) := by decide +kernel
theorem dJ2_getChars_ba4f3_25 : decode cJ2_getChars_ba4f3 25 = .ok (.if_icmp .gt 51, 3) := by decide +kernel
theorem dJ2_getChars_ba4f3_28 : decode cJ2_getChars_ba4f3 28 = .ok (.iload_n 0, 1) := by decide +kernel
theorem dJ2_getChars_ba4f3_29 : decode cJ2_getChars_ba4f3 29 = .ok (.bipush 100, 2) := by decide +kernel
theorem dJ2_getChars_ba4f3_31 : decode cJ2_getChars_ba4f3 31 = .ok (.idiv, 1) := by decide +kernel
theorem dJ2_getChars_ba4f3_32 : decode cJ2_getChars_ba4f3 32 = .ok (.istore_n 3, 1) := by decide +kernel
theorem dJ2_getChars_ba4f3_33 : decode cJ2_getChars_ba4f3 33 = .ok (.iload_n 3, 1) := by decide +kernel
theorem dJ2_getChars_ba4f3_34 : decode cJ2_getChars_ba4f3 34 = .ok (.bipush 100, 2) := by decide +kernel
theorem dJ2_getChars_ba4f3_36 : decode cJ2_getChars_ba4f3 36 = .ok (.imul, 1) := by decide +kernel
theorem dJ2_getChars_ba4f3_37 : decode cJ2_getChars_ba4f3 37 = .ok (.iload_n 0, 1) := by decide +kernel
theorem dJ2_getChars_ba4f3_38 : decode cJ2_getChars_ba4f3 38 = .ok (.isub, 1) := by decide +kernel
theorem dJ2_getChars_ba4f3_39 : decode cJ2_getChars_ba4f3 39 = .ok (.istore 4, 2) := by decide +kernel
theorem dJ2_getChars_ba4f3_41 : decode cJ2_getChars_ba4f3 41 = .ok (.iload_n 3, 1) := by decide +kernel
theorem dJ2_getChars_ba4f3_42 : decode cJ2_getChars_ba4f3 42 = .ok (.istore_n 0, 1) := by decide +kernel
theorem dJ2_getChars_ba4f3_43 : decode cJ2_getChars_ba4f3 43 = .ok (.aload_n 2, 1) := by decide +kernel
theorem dJ2_getChars_ba4f3_44 : decode cJ2_getChars_ba4f3 44 = .ok (.iinc 5 (-1), 3) := by decide +kernel
theorem dJ2_getChars_ba4f3_47 : decode cJ2_getChars_ba4f3 47 = .ok (.iload 5, 2) := by decide +kernel
theorem dJ2_getChars_ba4f3_49 : decode cJ2_getChars_ba4f3 49 = .ok (.getstatic 403, 3) := by decide +kernel
theorem dJ2_getChars_ba4f3_52 : decode cJ2_getChars_ba4f3 52 = .ok (.iload 4, 2) := by decide +kernel
theorem dJ2_getChars_ba4f3_54 : decode cJ2_getChars_ba4f3 54 = .ok (.baload, 1) := by decide +kernel
theorem dJ2_getChars_ba4f3_55 : decode cJ2_getChars_ba4f3 55 = .ok (.invokestatic 111, 3) := by decide +kernel
theorem dJ2_getChars_ba4f3_58 : decode cJ2_getChars_ba4f3 58 = .ok (.aload_n 2, 1) := by decide +kernel
theorem dJ2_getChars_ba4f3_59 : decode cJ2_getChars_ba4f3 59 = .ok (.iinc 5 (-1), 3) := by decide +kernel
theorem dJ2_getChars_ba4f3_62 : decode cJ2_getChars_ba4f3 62 = .ok (.iload 5, 2) := by decide +kernel
theorem dJ2_getChars_ba4f3_64 : decode cJ2_getChars_ba4f3 64 = .ok (.getstatic 407, 3) := by decide +kernel
theorem dJ2_getChars_ba4f3_67 : decode cJ2_getChars_ba4f3 67 = .ok (.iload 4, 2) := by decide +kernel
theorem dJ2_getChars_ba4f3_69 : decode cJ2_getChars_ba4f3 69 = .ok (.baload, 1) := by decide +kernel
theorem dJ2_getChars_ba4f3_70 : decode cJ2_getChars_ba4f3 70 = .ok (.invokestatic 111, 3) := by decide +kernel
theorem dJ2_getChars_ba4f3_73 : decode cJ2_getChars_ba4f3 73 = .ok (.goto (-51), 3) := by decide +kernel
theorem dJ2_getChars_ba4f3_76 : decode cJ2_getChars_ba4f3 76 = .ok (.aload_n 2, 1) := by decide +kernel
theorem dJ2_getChars_ba4f3_77 : decode cJ2_getChars_ba4f3 77 = .ok (.iinc 5 (-1), 3) := by decide +kernel
theorem dJ2_getChars_ba4f3_80 : decode cJ2_getChars_ba4f3 80 = .ok (.iload 5, 2) := by decide +kernel
theorem dJ2_getChars_ba4f3_82 : decode cJ2_getChars_ba4f3 82 = .ok (.getstatic 403, 3) := by decide +kernel
theorem dJ2_getChars_ba4f3_85 : decode cJ2_getChars_ba4f3 85 = .ok (.iload_n 0, 1) := by decide +kernel
theorem dJ2_getChars_ba4f3_86 : decode cJ2_getChars_ba4f3 86 = .ok (.ineg, 1) := by decide +kernel
theorem dJ2_getChars_ba4f3_87 : decode cJ2_getChars_ba4f3 87 = .ok (.baload, 1) := by decide +kernel
theorem dJ2_getChars_ba4f3_88 : decode cJ2_getChars_ba4f3 88 = .ok (.invokestatic 111, 3) := by decide +kernel
theorem dJ2_getChars_ba4f3_91 : decode cJ2_getChars_ba4f3 91 = .ok (.iload_n 0, 1) := by decide +kernel
theorem dJ2_getChars_ba4f3_92 : decode cJ2_getChars_ba4f3 92 = .ok (.bipush (-9), 2) := by decide +kernel
theorem dJ2_getChars_ba4f3_94 : decode cJ2_getChars_ba4f3 94 = .ok (.if_icmp .ge 18, 3) := by decide +kernel
theorem dJ2_getChars_ba4f3_97 : decode cJ2_getChars_ba4f3 97 = .ok (.aload_n 2, 1) := by decide +kernel
theorem dJ2_getChars_ba4f3_98 : decode cJ2_getChars_ba4f3 98 = .ok (.iinc 5 (-1), 3) := by decide +kernel
theorem dJ2_getChars_ba4f3_101 : decode cJ2_getChars_ba4f3 101 = .ok (.iload 5, 2) := by decide +kernel
theorem dJ2_getChars_ba4f3_103 : decode cJ2_getChars_ba4f3 103 = .ok (.getstatic 407, 3) := by decide +kernel
theorem dJ2_getChars_ba4f3_106 : decode cJ2_getChars_ba4f3 106 = .ok (.iload_n 0, 1) := by decide +kernel
theorem dJ2_getChars_ba4f3_107 : decode cJ2_getChars_ba4f3 107 = .ok (.ineg, 1) := by decide +kernel
theorem dJ2_getChars_ba4f3_108 : decode cJ2_getChars_ba4f3 108 = .ok (.baload, 1) := by decide +kernel
theorem dJ2_getChars_ba4f3_109 : decode cJ2_getChars_ba4f3 109 = .ok (.invokestatic 111, 3) := by decide +kernel
theorem dJ2_getChars_ba4f3_112 : decode cJ2_getChars_ba4f3 112 = .ok (.iload 6, 2) := by decide +kernel
theorem dJ2_getChars_ba4f3_114 : decode cJ2_getChars_ba4f3 114 = .ok (.ifCond .eq 14, 3) := by decide +kernel
theorem dJ2_getChars_ba4f3_117 : decode cJ2_getChars_ba4f3 117 = .ok (.aload_n 2, 1) := by decide +kernel
theorem dJ2_getChars_ba4f3_118 : decode cJ2_getChars_ba4f3 118 = .ok (.iinc 5 (-1), 3) := by decide +kernel
theorem dJ2_getChars_ba4f3_121 : decode cJ2_getChars_ba4f3 121 = .ok (.iload 5, 2) := by decide +kernel
theorem dJ2_getChars_ba4f3_123 : decode cJ2_getChars_ba4f3 123 = .ok (.bipush 45, 2) := by decide +kernel
theorem dJ2_getChars_ba4f3_125 : decode cJ2_getChars_ba4f3 125 = .ok (.invokestatic 111, 3) := by decide +kernel
theorem dJ2_getChars_ba4f3_128 : decode cJ2_getChars_ba4f3 128 = .ok (.iload 5, 2) := by decide +kernel
theorem dJ2_getChars_ba4f3_130 : decode cJ2_getChars_ba4f3 130 = .ok (.ireturn, 1) := by decide +kernel
theorem dJ2_checkIndex_2214a_0 : decode cJ2_checkIndex_2214a 0 = .ok (.iload_n 0, 1) := by decide +kernel
theorem dJ2_checkIndex_2214a_1 : decode cJ2_checkIndex_2214a 1 = .ok (.aload_n 1, 1) := by decide +kernel
theorem dJ2_checkIndex_2214a_2 : decode cJ2_checkIndex_2214a 2 = .ok (.invokestatic 48, 3) := by decide +kernel
theorem dJ2_checkIndex_2214a_5 : decode cJ2_checkIndex_2214a 5 = .ok (.invokestatic 414, 3) := by decide +kernel
theorem dJ2_checkIndex_2214a_8 : decode cJ2_checkIndex_2214a 8 = .ok (.return_, 1) := by decide +kernel
theorem dJ2_checkBoundsBeginEnd_d044e_0 : decode cJ2_checkBoundsBeginEnd_d044e 0 = .ok (.iload_n 0, 1) := by decide +kernel
theorem dJ2_checkBoundsBeginEnd_d044e_1 : decode cJ2_checkBoundsBeginEnd_d044e 1 = .ok (.iload_n 1, 1) := by decide +kernel
theorem dJ2_checkBoundsBeginEnd_d044e_2 : decode cJ2_checkBoundsBeginEnd_d044e 2 = .ok (.aload_n 2, 1) := by decide +kernel
theorem dJ2_checkBoundsBeginEnd_d044e_3 : decode cJ2_checkBoundsBeginEnd_d044e 3 = .ok (.invokestatic 48, 3) := by decide +kernel
theorem dJ2_checkBoundsBeginEnd_d044e_6 : decode cJ2_checkBoundsBeginEnd_d044e 6 = .ok (.invokestatic 241, 3) := by decide +kernel
theorem dJ2_checkBoundsBeginEnd_d044e_9 : decode cJ2_checkBoundsBeginEnd_d044e 9 = .ok (.return_, 1) := by decide +kernel
theorem dJ2_checkBoundsOffCount_d044e_0 : decode cJ2_checkBoundsOffCount_d044e 0 = .ok (.iload_n 0, 1) := by decide +kernel
theorem dJ2_checkBoundsOffCount_d044e_1 : decode cJ2_checkBoundsOffCount_d044e 1 = .ok (.iload_n 1, 1) := by decide +kernel
theorem dJ2_checkBoundsOffCount_d044e_2 : decode cJ2_checkBoundsOffCount_d044e 2 = .ok (.aload_n 2, 1) := by decide +kernel
theorem dJ2_checkBoundsOffCount_d044e_3 : decode cJ2_checkBoundsOffCount_d044e 3 = .ok (.invokestatic 48, 3) := by decide +kernel
theorem dJ2_checkBoundsOffCount_d044e_6 : decode cJ2_checkBoundsOffCount_d044e 6 = .ok (.invokestatic 419, 3) := by decide +kernel
theorem dJ2_checkBoundsOffCount_d044e_9 : decode cJ2_checkBoundsOffCount_d044e 9 = .ok (.pop, 1) := by decide +kernel
theorem dJ2_checkBoundsOffCount_d044e_10 : decode cJ2_checkBoundsOffCount_d044e 10 = .ok (.return_, 1) := by decide +kernel
theorem dJ7_copyOf_9075b_0 : decode cJ7_copyOf_9075b 0 = .ok (.iload_n 1, 1) := by decide +kernel
theorem dJ7_copyOf_9075b_1 : decode cJ7_copyOf_9075b 1 = .ok (.aload_n 0, 1) := by decide +kernel
theorem dJ7_copyOf_9075b_2 : decode cJ7_copyOf_9075b 2 = .ok (.arraylength, 1) := by decide +kernel
theorem dJ7_copyOf_9075b_3 : decode cJ7_copyOf_9075b 3 = .ok (.if_icmp .ne 11, 3) := by decide +kernel
theorem dJ7_copyOf_9075b_6 : decode cJ7_copyOf_9075b 6 = .ok (.aload_n 0, 1) := by decide +kernel
theorem dJ7_copyOf_9075b_7 : decode cJ7_copyOf_9075b 7 = .ok (.invokevirtual 310, 3) := by decide +kernel
theorem dJ7_copyOf_9075b_10 : decode cJ7_copyOf_9075b 10 = .ok (.checkcast 311, 3) := by decide +kernel
theorem dJ7_copyOf_9075b_13 : decode cJ7_copyOf_9075b 13 = .ok (.areturn, 1) := by decide +kernel
theorem dJ7_copyOf_9075b_14 : decode cJ7_copyOf_9075b 14 = .ok (.iload_n 1, 1) := by decide +kernel
theorem dJ7_copyOf_9075b_15 : decode cJ7_copyOf_9075b 15 = .ok (.newarray .byte, 2) := by decide +kernel
theorem dJ7_copyOf_9075b_17 : decode cJ7_copyOf_9075b 17 = .ok (.astore_n 2, 1) := by decide +kernel
theorem dJ7_copyOf_9075b_18 : decode cJ7_copyOf_9075b 18 = .ok (.aload_n 0, 1) := by decide +kernel
theorem dJ7_copyOf_9075b_19 : decode cJ7_copyOf_9075b 19 = .ok (.iconst 0, 1) := by decide +kernel
theorem dJ7_copyOf_9075b_20 : decode cJ7_copyOf_9075b 20 = .ok (.aload_n 2, 1) := by decide +kernel
theorem dJ7_copyOf_9075b_21 : decode cJ7_copyOf_9075b 21 = .ok (.iconst 0, 1) := by decide +kernel
theorem dJ7_copyOf_9075b_22 : decode cJ7_copyOf_9075b 22 = .ok (.aload_n 0, 1) := by decide +kernel
theorem dJ7_copyOf_9075b_23 : decode cJ7_copyOf_9075b 23 = .ok (.arraylength, 1) := by decide +kernel
theorem dJ7_copyOf_9075b_24 : decode cJ7_copyOf_9075b 24 = .ok (.iload_n 1, 1) := by decide +kernel
theorem dJ7_copyOf_9075b_25 : decode cJ7_copyOf_9075b 25 = .ok (.invokestatic 304, 3) := by decide +kernel
theorem dJ7_copyOf_9075b_28 : decode cJ7_copyOf_9075b 28 = .ok (.invokestatic 150, 3) := by decide +kernel
theorem dJ7_copyOf_9075b_31 : decode cJ7_copyOf_9075b 31 = .ok (.aload_n 2, 1) := by decide +kernel
theorem dJ7_copyOf_9075b_32 : decode cJ7_copyOf_9075b 32 = .ok (.areturn, 1) := by decide +kernel
theorem dJ7_checkLength_df160_0 : decode cJ7_checkLength_df160 0 = .ok (.iload_n 1, 1) := by decide +kernel
theorem dJ7_checkLength_df160_1 : decode cJ7_checkLength_df160 1 = .ok (.iload_n 0, 1) := by decide +kernel
theorem dJ7_checkLength_df160_2 : decode cJ7_checkLength_df160 2 = .ok (.if_icmp .ge 35, 3) := by decide +kernel
theorem dJ7_checkLength_df160_5 : decode cJ7_checkLength_df160 5 = .ok (.new 43, 3) := by decide +kernel
theorem dJ7_checkLength_df160_8 : decode cJ7_checkLength_df160 8 = .ok (.dup, 1) := by decide +kernel
theorem dJ7_checkLength_df160_9 : decode cJ7_checkLength_df160 9 = .ok (.new 45, 3) := by decide +kernel
theorem dJ7_checkLength_df160_12 : decode cJ7_checkLength_df160 12 = .ok (.dup, 1) := by decide +kernel
theorem dJ7_checkLength_df160_13 : decode cJ7_checkLength_df160 13 = .ok (.invokespecial 47, 3) := by decide +kernel
theorem dJ7_checkLength_df160_16 : decode cJ7_checkLength_df160 16 = .ok (.iload_n 0, 1) := by decide +kernel
theorem dJ7_checkLength_df160_17 : decode cJ7_checkLength_df160 17 = .ok (.invokevirtual 54, 3) := by decide +kernel
theorem dJ7_checkLength_df160_20 : decode cJ7_checkLength_df160 20 = .ok (.ldc_w 337, 3) := by decide +kernel
theorem dJ7_checkLength_df160_23 : decode cJ7_checkLength_df160 23 = .ok (.invokevirtual 50, 3) := by decide +kernel
theorem dJ7_checkLength_df160_26 : decode cJ7_checkLength_df160 26 = .ok (.iload_n 1, 1) := by decide +kernel
theorem dJ7_checkLength_df160_27 : decode cJ7_checkLength_df160 27 = .ok (.invokevirtual 54, 3) := by decide +kernel
theorem dJ7_checkLength_df160_30 : decode cJ7_checkLength_df160 30 = .ok (.invokevirtual 61, 3) := by decide +kernel
theorem dJ7_checkLength_df160_33 : decode cJ7_checkLength_df160 33 = .ok (.invokespecial 65, 3) := by decide +kernel
theorem dJ7_checkLength_df160_36 : decode cJ7_checkLength_df160 36 = .ok (.athrow, 1) := by decide +kernel
theorem dJ7_checkLength_df160_37 : decode cJ7_checkLength_df160 37 = .ok (.return_, 1) := by decide +kernel
theorem dJ7_copyOfRange_39247_0 : decode cJ7_copyOfRange_39247 0 = .ok (.iload_n 1, 1) := by decide +kernel
theorem dJ7_copyOfRange_39247_1 : decode cJ7_copyOfRange_39247 1 = .ok (.ifCond .ne 9, 3) := by decide +kernel
theorem dJ7_copyOfRange_39247_4 : decode cJ7_copyOfRange_39247 4 = .ok (.iload_n 2, 1) := by decide +kernel
theorem dJ7_copyOfRange_39247_5 : decode cJ7_copyOfRange_39247 5 = .ok (.aload_n 0, 1) := by decide +kernel
theorem dJ7_copyOfRange_39247_6 : decode cJ7_copyOfRange_39247 6 = .ok (.arraylength, 1) := by decide +kernel
theorem dJ7_copyOfRange_39247_7 : decode cJ7_copyOfRange_39247 7 = .ok (.if_icmp .eq 10, 3) := by decide +kernel
theorem dJ7_copyOfRange_39247_10 : decode cJ7_copyOfRange_39247 10 = .ok (.aload_n 0, 1) := by decide +kernel
theorem dJ7_copyOfRange_39247_11 : decode cJ7_copyOfRange_39247 11 = .ok (.iload_n 1, 1) := by decide +kernel
theorem dJ7_copyOfRange_39247_12 : decode cJ7_copyOfRange_39247 12 = .ok (.iload_n 2, 1) := by decide +kernel
theorem dJ7_copyOfRange_39247_13 : decode cJ7_copyOfRange_39247 13 = .ok (.invokestatic 339, 3) := by decide +kernel
theorem dJ7_copyOfRange_39247_16 : decode cJ7_copyOfRange_39247 16 = .ok (.areturn, 1) := by decide +kernel
theorem dJ7_copyOfRange_39247_17 : decode cJ7_copyOfRange_39247 17 = .ok (.aload_n 0, 1) := by decide +kernel
theorem dJ7_copyOfRange_39247_18 : decode cJ7_copyOfRange_39247 18 = .ok (.invokevirtual 310, 3) := by decide +kernel
theorem dJ7_copyOfRange_39247_21 : decode cJ7_copyOfRange_39247 21 = .ok (.checkcast 311, 3) := by decide +kernel
theorem dJ7_copyOfRange_39247_24 : decode cJ7_copyOfRange_39247 24 = .ok (.areturn, 1) := by decide +kernel
theorem dJ7_copyOfRangeByte_39247_0 : decode cJ7_copyOfRangeByte_39247 0 = .ok (.iload_n 1, 1) := by decide +kernel
theorem dJ7_copyOfRangeByte_39247_1 : decode cJ7_copyOfRangeByte_39247 1 = .ok (.iload_n 2, 1) := by decide +kernel
theorem dJ7_copyOfRangeByte_39247_2 : decode cJ7_copyOfRangeByte_39247 2 = .ok (.invokestatic 343, 3) := by decide +kernel
theorem dJ7_copyOfRangeByte_39247_5 : decode cJ7_copyOfRangeByte_39247 5 = .ok (.iload_n 2, 1) := by decide +kernel
theorem dJ7_copyOfRangeByte_39247_6 : decode cJ7_copyOfRangeByte_39247 6 = .ok (.iload_n 1, 1) := by decide +kernel
theorem dJ7_copyOfRangeByte_39247_7 : decode cJ7_copyOfRangeByte_39247 7 = .ok (.isub, 1) := by decide +kernel
theorem dJ7_copyOfRangeByte_39247_8 : decode cJ7_copyOfRangeByte_39247 8 = .ok (.istore_n 3, 1) := by decide +kernel
theorem dJ7_copyOfRangeByte_39247_9 : decode cJ7_copyOfRangeByte_39247 9 = .ok (.iload_n 3, 1) := by decide +kernel
theorem dJ7_copyOfRangeByte_39247_10 : decode cJ7_copyOfRangeByte_39247 10 = .ok (.newarray .byte, 2) := by decide +kernel
theorem dJ7_copyOfRangeByte_39247_12 : decode cJ7_copyOfRangeByte_39247 12 = .ok (.astore 4, 2) := by decide +kernel
theorem dJ7_copyOfRangeByte_39247_14 : decode cJ7_copyOfRangeByte_39247 14 = .ok (.aload_n 0, 1) := by decide +kernel
theorem dJ7_copyOfRangeByte_39247_15 : decode cJ7_copyOfRangeByte_39247 15 = .ok (.iload_n 1, 1) := by decide +kernel
theorem dJ7_copyOfRangeByte_39247_16 : decode cJ7_copyOfRangeByte_39247 16 = .ok (.aload 4, 2) := by decide +kernel
theorem dJ7_copyOfRangeByte_39247_18 : decode cJ7_copyOfRangeByte_39247 18 = .ok (.iconst 0, 1) := by decide +kernel
theorem dJ7_copyOfRangeByte_39247_19 : decode cJ7_copyOfRangeByte_39247 19 = .ok (.aload_n 0, 1) := by decide +kernel
theorem dJ7_copyOfRangeByte_39247_20 : decode cJ7_copyOfRangeByte_39247 20 = .ok (.arraylength, 1) := by decide +kernel
theorem dJ7_copyOfRangeByte_39247_21 : decode cJ7_copyOfRangeByte_39247 21 = .ok (.iload_n 1, 1) := by decide +kernel
theorem dJ7_copyOfRangeByte_39247_22 : decode cJ7_copyOfRangeByte_39247 22 = .ok (.isub, 1) := by decide +kernel
theorem dJ7_copyOfRangeByte_39247_23 : decode cJ7_copyOfRangeByte_39247 23 = .ok (.iload_n 3, 1) := by decide +kernel
theorem dJ7_copyOfRangeByte_39247_24 : decode cJ7_copyOfRangeByte_39247 24 = .ok (.invokestatic 304, 3) := by decide +kernel
theorem dJ7_copyOfRangeByte_39247_27 : decode cJ7_copyOfRangeByte_39247 27 = .ok (.invokestatic 150, 3) := by decide +kernel
theorem dJ7_copyOfRangeByte_39247_30 : decode cJ7_copyOfRangeByte_39247 30 = .ok (.aload 4, 2) := by decide +kernel
theorem dJ7_copyOfRangeByte_39247_32 : decode cJ7_copyOfRangeByte_39247 32 = .ok (.areturn, 1) := by decide +kernel
theorem dJ8_newLength_cabcc_0 : decode cJ8_newLength_cabcc 0 = .ok (.iload_n 0, 1) := by decide +kernel
theorem dJ8_newLength_cabcc_1 : decode cJ8_newLength_cabcc 1 = .ok (.iload_n 1, 1) := by decide +kernel
theorem dJ8_newLength_cabcc_2 : decode cJ8_newLength_cabcc 2 = .ok (.iload_n 2, 1) := by decide +kernel
theorem dJ8_newLength_cabcc_3 : decode cJ8_newLength_cabcc 3 = .ok (.invokestatic 194, 3) := by decide +kernel
theorem dJ8_newLength_cabcc_6 : decode cJ8_newLength_cabcc 6 = .ok (.iadd, 1) := by decide +kernel
theorem dJ8_newLength_cabcc_7 : decode cJ8_newLength_cabcc 7 = .ok (.istore_n 3, 1) := by decide +kernel
theorem dJ8_newLength_cabcc_8 : decode cJ8_newLength_cabcc 8 = .ok (.iconst 0, 1) := by decide +kernel
theorem dJ8_newLength_cabcc_9 : decode cJ8_newLength_cabcc 9 = .ok (.iload_n 3, 1) := by decide +kernel
theorem dJ8_newLength_cabcc_10 : decode cJ8_newLength_cabcc 10 = .ok (.if_icmp .ge 11, 3) := by decide +kernel
theorem dJ8_newLength_cabcc_13 : decode cJ8_newLength_cabcc 13 = .ok (.iload_n 3, 1) := by decide +kernel
theorem dJ8_newLength_cabcc_14 : decode cJ8_newLength_cabcc 14 = .ok (.ldc 200, 2) := by decide +kernel
theorem dJ8_newLength_cabcc_16 : decode cJ8_newLength_cabcc 16 = .ok (.if_icmp .gt 5, 3) := by decide +kernel
theorem dJ8_newLength_cabcc_19 : decode cJ8_newLength_cabcc 19 = .ok (.iload_n 3, 1) := by decide +kernel
theorem dJ8_newLength_cabcc_20 : decode cJ8_newLength_cabcc 20 = .ok (.ireturn, 1) := by decide +kernel
theorem dJ8_newLength_cabcc_21 : decode cJ8_newLength_cabcc 21 = .ok (.iload_n 0, 1) := by decide +kernel
theorem dJ8_newLength_cabcc_22 : decode cJ8_newLength_cabcc 22 = .ok (.iload_n 1, 1) := by decide +kernel
theorem dJ8_newLength_cabcc_23 : decode cJ8_newLength_cabcc 23 = .ok (.invokestatic 201, 3) := by decide +kernel
theorem dJ8_newLength_cabcc_26 : decode cJ8_newLength_cabcc 26 = .ok (.ireturn, 1) := by decide +kernel
theorem dJ8_hugeLength_7cf53_0 : decode cJ8_hugeLength_7cf53 0 = .ok (.iload_n 0, 1) := by decide +kernel
theorem dJ8_hugeLength_7cf53_1 : decode cJ8_hugeLength_7cf53 1 = .ok (.iload_n 1, 1) := by decide +kernel
theorem dJ8_hugeLength_7cf53_2 : decode cJ8_hugeLength_7cf53 2 = .ok (.iadd, 1) := by decide +kernel
theorem dJ8_hugeLength_7cf53_3 : decode cJ8_hugeLength_7cf53 3 = .ok (.istore_n 2, 1) := by decide +kernel
theorem dJ8_hugeLength_7cf53_4 : decode cJ8_hugeLength_7cf53 4 = .ok (.iload_n 2, 1) := by decide +kernel
theorem dJ8_hugeLength_7cf53_5 : decode cJ8_hugeLength_7cf53 5 = .ok (.ifCond .ge 44, 3) := by decide +kernel
theorem dJ8_hugeLength_7cf53_8 : decode cJ8_hugeLength_7cf53 8 = .ok (.new 204, 3) := by decide +kernel
theorem dJ8_hugeLength_7cf53_11 : decode cJ8_hugeLength_7cf53 11 = .ok (.dup, 1) := by decide +kernel
theorem dJ8_hugeLength_7cf53_12 : decode cJ8_hugeLength_7cf53 12 = .ok (.new 89, 3) := by decide +kernel
theorem dJ8_hugeLength_7cf53_15 : decode cJ8_hugeLength_7cf53 15 = .ok (.dup, 1) := by decide +kernel
theorem dJ8_hugeLength_7cf53_16 : decode cJ8_hugeLength_7cf53 16 = .ok (.invokespecial 91, 3) := by decide +kernel
theorem dJ8_hugeLength_7cf53_19 : decode cJ8_hugeLength_7cf53 19 = .ok (.ldc 206, 2) := by decide +kernel
theorem dJ8_hugeLength_7cf53_21 : decode cJ8_hugeLength_7cf53 21 = .ok (.invokevirtual 94, 3) := by decide +kernel
theorem dJ8_hugeLength_7cf53_24 : decode cJ8_hugeLength_7cf53 24 = .ok (.iload_n 0, 1) := by decide +kernel
theorem dJ8_hugeLength_7cf53_25 : decode cJ8_hugeLength_7cf53 25 = .ok (.invokevirtual 98, 3) := by decide +kernel
theorem dJ8_hugeLength_7cf53_28 : decode cJ8_hugeLength_7cf53 28 = .ok (.ldc 208, 2) := by decide +kernel
theorem dJ8_hugeLength_7cf53_30 : decode cJ8_hugeLength_7cf53 30 = .ok (.invokevirtual 94, 3) := by decide +kernel
theorem dJ8_hugeLength_7cf53_33 : decode cJ8_hugeLength_7cf53 33 = .ok (.iload_n 1, 1) := by decide +kernel
theorem dJ8_hugeLength_7cf53_34 : decode cJ8_hugeLength_7cf53 34 = .ok (.invokevirtual 98, 3) := by decide +kernel
theorem dJ8_hugeLength_7cf53_37 : decode cJ8_hugeLength_7cf53 37 = .ok (.ldc 210, 2) := by decide +kernel
theorem dJ8_hugeLength_7cf53_39 : decode cJ8_hugeLength_7cf53 39 = .ok (.invokevirtual 94, 3) := by decide +kernel
theorem dJ8_hugeLength_7cf53_42 : decode cJ8_hugeLength_7cf53 42 = .ok (.invokevirtual 101, 3) := by decide +kernel
theorem dJ8_hugeLength_7cf53_45 : decode cJ8_hugeLength_7cf53 45 = .ok (.invokespecial 212, 3) := by decide +kernel
theorem dJ8_hugeLength_7cf53_48 : decode cJ8_hugeLength_7cf53 48 = .ok (.athrow, 1) := by decide +kernel
theorem dJ8_hugeLength_7cf53_49 : decode cJ8_hugeLength_7cf53 49 = .ok (.iload_n 2, 1) := by decide +kernel
theorem dJ8_hugeLength_7cf53_50 : decode cJ8_hugeLength_7cf53 50 = .ok (.ldc 200, 2) := by decide +kernel
theorem dJ8_hugeLength_7cf53_52 : decode cJ8_hugeLength_7cf53 52 = .ok (.if_icmp .gt 6, 3) := by decide +kernel
theorem dJ8_hugeLength_7cf53_55 : decode cJ8_hugeLength_7cf53 55 = .ok (.ldc 200, 2) := by decide +kernel
theorem dJ8_hugeLength_7cf53_57 : decode cJ8_hugeLength_7cf53 57 = .ok (.ireturn, 1) := by decide +kernel
theorem dJ8_hugeLength_7cf53_58 : decode cJ8_hugeLength_7cf53 58 = .ok (.iload_n 2, 1) := by decide +kernel
theorem dJ8_hugeLength_7cf53_59 : decode cJ8_hugeLength_7cf53 59 = .ok (.ireturn, 1) := by decide +kernel
theorem dJ3_checkIndex_8e157_0 : decode cJ3_checkIndex_8e157 0 = .ok (.iload_n 0, 1) := by decide +kernel
theorem dJ3_checkIndex_8e157_1 : decode cJ3_checkIndex_8e157 1 = .ok (.ifCond .lt 8, 3) := by decide +kernel
theorem dJ3_checkIndex_8e157_4 : decode cJ3_checkIndex_8e157 4 = .ok (.iload_n 0, 1) := by decide +kernel
theorem dJ3_checkIndex_8e157_5 : decode cJ3_checkIndex_8e157 5 = .ok (.iload_n 1, 1) := by decide +kernel
theorem dJ3_checkIndex_8e157_6 : decode cJ3_checkIndex_8e157 6 = .ok (.if_icmp .lt 10, 3) := by decide +kernel
theorem dJ3_checkIndex_8e157_9 : decode cJ3_checkIndex_8e157 9 = .ok (.aload_n 2, 1) := by decide +kernel
theorem dJ3_checkIndex_8e157_10 : decode cJ3_checkIndex_8e157 10 = .ok (.iload_n 0, 1) := by decide +kernel
theorem dJ3_checkIndex_8e157_11 : decode cJ3_checkIndex_8e157 11 = .ok (.iload_n 1, 1) := by decide +kernel
theorem dJ3_checkIndex_8e157_12 : decode cJ3_checkIndex_8e157 12 = .ok (.invokestatic 95, 3) := by decide +kernel
theorem dJ3_checkIndex_8e157_15 : decode cJ3_checkIndex_8e157 15 = .ok (.athrow, 1) := by decide +kernel
theorem dJ3_checkIndex_8e157_16 : decode cJ3_checkIndex_8e157 16 = .ok (.iload_n 0, 1) := by decide +kernel
theorem dJ3_checkIndex_8e157_17 : decode cJ3_checkIndex_8e157 17 = .ok (.ireturn, 1) := by decide +kernel
theorem dJ3_checkFromToIndex_8c36e_0 : decode cJ3_checkFromToIndex_8c36e 0 = .ok (.iload_n 0, 1) := by decide +kernel
theorem dJ3_checkFromToIndex_8c36e_1 : decode cJ3_checkFromToIndex_8c36e 1 = .ok (.ifCond .lt 13, 3) := by decide +kernel
theorem dJ3_checkFromToIndex_8c36e_4 : decode cJ3_checkFromToIndex_8c36e 4 = .ok (.iload_n 0, 1) := by decide +kernel
theorem dJ3_checkFromToIndex_8c36e_5 : decode cJ3_checkFromToIndex_8c36e 5 = .ok (.iload_n 1, 1) := by decide +kernel
theorem dJ3_checkFromToIndex_8c36e_6 : decode cJ3_checkFromToIndex_8c36e 6 = .ok (.if_icmp .gt 8, 3) := by decide +kernel
theorem dJ3_checkFromToIndex_8c36e_9 : decode cJ3_checkFromToIndex_8c36e 9 = .ok (.iload_n 1, 1) := by decide +kernel
theorem dJ3_checkFromToIndex_8c36e_10 : decode cJ3_checkFromToIndex_8c36e 10 = .ok (.iload_n 2, 1) := by decide +kernel
theorem dJ3_checkFromToIndex_8c36e_11 : decode cJ3_checkFromToIndex_8c36e 11 = .ok (.if_icmp .le 11, 3) := by decide +kernel
theorem dJ3_checkFromToIndex_8c36e_14 : decode cJ3_checkFromToIndex_8c36e 14 = .ok (.aload_n 3, 1) := by decide +kernel
theorem dJ3_checkFromToIndex_8c36e_15 : decode cJ3_checkFromToIndex_8c36e 15 = .ok (.iload_n 0, 1) := by decide +kernel
theorem dJ3_checkFromToIndex_8c36e_16 : decode cJ3_checkFromToIndex_8c36e 16 = .ok (.iload_n 1, 1) := by decide +kernel
theorem dJ3_checkFromToIndex_8c36e_17 : decode cJ3_checkFromToIndex_8c36e 17 = .ok (.iload_n 2, 1) := by decide +kernel
theorem dJ3_checkFromToIndex_8c36e_18 : decode cJ3_checkFromToIndex_8c36e 18 = .ok (.invokestatic 99, 3) := by decide +kernel
theorem dJ3_checkFromToIndex_8c36e_21 : decode cJ3_checkFromToIndex_8c36e 21 = .ok (.athrow, 1) := by decide +kernel
theorem dJ3_checkFromToIndex_8c36e_22 : decode cJ3_checkFromToIndex_8c36e 22 = .ok (.iload_n 0, 1) := by decide +kernel
theorem dJ3_checkFromToIndex_8c36e_23 : decode cJ3_checkFromToIndex_8c36e 23 = .ok (.ireturn, 1) := by decide +kernel
theorem dJ3_checkFromIndexSize_8c36e_0 : decode cJ3_checkFromIndexSize_8c36e 0 = .ok (.iload_n 2, 1) := by decide +kernel
theorem dJ3_checkFromIndexSize_8c36e_1 : decode cJ3_checkFromIndexSize_8c36e 1 = .ok (.iload_n 0, 1) := by decide +kernel
theorem dJ3_checkFromIndexSize_8c36e_2 : decode cJ3_checkFromIndexSize_8c36e 2 = .ok (.ior, 1) := by decide +kernel
theorem dJ3_checkFromIndexSize_8c36e_3 : decode cJ3_checkFromIndexSize_8c36e 3 = .ok (.iload_n 1, 1) := by decide +kernel
theorem dJ3_checkFromIndexSize_8c36e_4 : decode cJ3_checkFromIndexSize_8c36e 4 = .ok (.ior, 1) := by decide +kernel
theorem dJ3_checkFromIndexSize_8c36e_5 : decode cJ3_checkFromIndexSize_8c36e 5 = .ok (.ifCond .lt 10, 3) := by decide +kernel
theorem dJ3_checkFromIndexSize_8c36e_8 : decode cJ3_checkFromIndexSize_8c36e 8 = .ok (.iload_n 1, 1) := by decide +kernel
theorem dJ3_checkFromIndexSize_8c36e_9 : decode cJ3_checkFromIndexSize_8c36e 9 = .ok (.iload_n 2, 1) := by decide +kernel
theorem dJ3_checkFromIndexSize_8c36e_10 : decode cJ3_checkFromIndexSize_8c36e 10 = .ok (.iload_n 0, 1) := by decide +kernel
theorem dJ3_checkFromIndexSize_8c36e_11 : decode cJ3_checkFromIndexSize_8c36e 11 = .ok (.isub, 1) := by decide +kernel
theorem dJ3_checkFromIndexSize_8c36e_12 : decode cJ3_checkFromIndexSize_8c36e 12 = .ok (.if_icmp .le 11, 3) := by decide +kernel
theorem dJ3_checkFromIndexSize_8c36e_15 : decode cJ3_checkFromIndexSize_8c36e 15 = .ok (.aload_n 3, 1) := by decide +kernel
theorem dJ3_checkFromIndexSize_8c36e_16 : decode cJ3_checkFromIndexSize_8c36e 16 = .ok (.iload_n 0, 1) := by decide +kernel
theorem dJ3_checkFromIndexSize_8c36e_17 : decode cJ3_checkFromIndexSize_8c36e 17 = .ok (.iload_n 1, 1) := by decide +kernel
theorem dJ3_checkFromIndexSize_8c36e_18 : decode cJ3_checkFromIndexSize_8c36e 18 = .ok (.iload_n 2, 1) := by decide +kernel
theorem dJ3_checkFromIndexSize_8c36e_19 : decode cJ3_checkFromIndexSize_8c36e 19 = .ok (.invokestatic 103, 3) := by decide +kernel
theorem dJ3_checkFromIndexSize_8c36e_22 : decode cJ3_checkFromIndexSize_8c36e 22 = .ok (.athrow, 1) := by decide +kernel
theorem dJ3_checkFromIndexSize_8c36e_23 : decode cJ3_checkFromIndexSize_8c36e 23 = .ok (.iload_n 0, 1) := by decide +kernel
theorem dJ3_checkFromIndexSize_8c36e_24 : decode cJ3_checkFromIndexSize_8c36e 24 = .ok (.ireturn, 1) := by decide +kernel
end
section
/-! ===== the layer: a memory of cells with numbers for addresses; a frame's walk over it ===== -/
/-- the good words of the tables -/
def wsG : List Cond := lw_tbl.filter goodWord
theorem wsG_of {w : Cond} (h : w ∈ lw_tbl) (g : goodWord w = true) : w ∈ wsG := List.mem_filter.mpr ⟨h, g⟩
theorem wsG_good {w : Cond} (h : w ∈ wsG) : (w.onTables && w.keeps) = true ∨ ∃ ty, w = .arrayClass ty := good_of_word (List.mem_filter.mp h).2
theorem wsG_at {ws : List Cond} (h : ∀ w ∈ ws, w ∈ wsG) (i : Nat) {w : Cond} (hi : ws[i]? = some w) : w ∈ wsG := h w (List.mem_of_getElem? hi)
theorem wsG_all (ws : List Cond) (ps : List Nat) (hp : ws = ps.filterMap (fun i => lw_tbl[i]?)) (hg : ws.all goodWord = true) : ∀ w ∈ ws, w ∈ wsG := by
  intro w hw
  refine wsG_of ?_ (List.all_eq_true.mp hg w hw)
  rw [hp] at hw
  obtain ⟨i, -, hi⟩ := List.mem_filterMap.mp hw
  exact List.mem_of_getElem? hi
/-- a memory: how many cells; kind and length of each; whole numbers; long numbers; references -/
abbrev Mem : Type := Nat × (Nat → Nat × Nat) × (Nat → Nat → Int32) × (Nat → Nat → Int64) × (Nat → Nat → Value)
def mN (M : Mem) : Nat := M.1
def mS (M : Mem) (k : Nat) : Nat × Nat := M.2.1 k
def mI (M : Mem) (k j : Nat) : Int32 := M.2.2.1 k j
def mL (M : Mem) (k j : Nat) : Int64 := M.2.2.2.1 k j
def mP (M : Mem) (k j : Nat) : Value := M.2.2.2.2 k j
def u2 {α : Type} (f : Nat → Nat → α) (k j : Nat) (x : α) : Nat → Nat → α := fun a b => if a = k ∧ b = j then x else f a b
def mUI (M : Mem) (k j : Nat) (x : Int32) : Mem := (M.1, M.2.1, u2 M.2.2.1 k j x, M.2.2.2.1, M.2.2.2.2)
def mUL (M : Mem) (k j : Nat) (x : Int64) : Mem := (M.1, M.2.1, M.2.2.1, u2 M.2.2.2.1 k j x, M.2.2.2.2)
def mUP (M : Mem) (k j : Nat) (x : Value) : Mem := (M.1, M.2.1, M.2.2.1, M.2.2.2.1, u2 M.2.2.2.2 k j x)
theorem u2_s {α : Type} (f : Nat → Nat → α) (k j : Nat) (x : α) : u2 f k j x k j = x := by simp [u2]
theorem u2_n {α : Type} {f : Nat → Nat → α} {k j a b : Nat} {x : α} (h : a ≠ k ∨ b ≠ j) : u2 f k j x a b = f a b := by
  unfold u2
  rw [if_neg]
  rintro ⟨rfl, rfl⟩
  rcases h with h | h <;> exact h rfl
def cv (ad : Nat → Nat) (v : Value) : Value := match v with
  | .ref k => .ref (ad k)
  | v => v
def rv (ad : Nat → Nat) (v : Value) : Option Nat := match v with
  | .ref k => some (ad k)
  | _ => none
theorem cv_cat (ad : Nat → Nat) (v : Value) : (cv ad v).category = v.category := by cases v <;> rfl
theorem cv_rf (ad : Nat → Nat) {v : Value} (h : v = .null ∨ ∃ k, v = .ref k) : va_rf (rv ad v) = cv ad v := by
  rcases h with rfl | ⟨k, rfl⟩ <;> rfl
/-- which fields of the kinds of vwCl are references -/
def ftab : List (List Bool) := [[true, false, false, false], [true, false, false, false], [true, true, true, true, false, true], [true], [true, false, false], [true, false], [true, true, true, false, false], [true, true, false, false, false, false, false, false], [true], [true, true, false, false, false, false], [true, true, false, true, true, true, true, true, false, false]]
def isR (ci j : Nat) : Bool := (ftab.getD ci []).getD j false
def nF (ci : Nat) : Nat := (ftab.getD ci []).length
def fsM (ad : Nat → Nat) (M : Mem) (k : Nat) : List Value := (List.range (nF (mS M k).1)).map (fun j => if isR (mS M k).1 j then cv ad (mP M k j) else .int (mI M k j))
/-- a cell as the kit has it: kinds below 100 are those of vwCl; 100 int, 101 char, 102 byte, 110 long, 120, 121 references -/
def cn (CA : Nat → ClassId) (ad : Nat → Nat) (M : Mem) (k : Nat) : va_E :=
  if (mS M k).1 < 100 then .inr ((mS M k).1, fsM ad M k)
  else if (mS M k).1 < 110 then .inl (CA (mS M k).1, (mS M k).2, .inl (mI M k))
  else if (mS M k).1 < 120 then .inl (CA (mS M k).1, (mS M k).2, .inr (.inl (mL M k)))
  else .inl (CA (mS M k).1, (mS M k).2, .inr (.inr (.inr (.inr (fun j => rv ad (mP M k j))))))
def tyT : List (Nat × FieldType) := [(100, .int), (101, .char), (102, .byte), (110, .long), (120, .object "MapHall$Sheet"), (121, .object "MapHall$State")]
def tyL (CA : Nat → ClassId) : List (ClassId × FieldType) := tyT.map (fun q => (CA q.1, q.2))
def wsM (CA : Nat → ClassId) (ad : Nat → Nat) (M : Mem) : va_W := (List.range (mN M)).map (fun k => (ad k, cn CA ad M k))
theorem wsM_at {CA : Nat → ClassId} {ad : Nat → Nat} {M : Mem} {k : Nat} (h : k < mN M) : (wsM CA ad M)[k]? = some (ad k, cn CA ad M k) := by
  unfold wsM
  rw [List.getElem?_map, List.getElem?_range h]
  rfl
theorem wsM_len (CA : Nat → ClassId) (ad : Nat → Nat) (M : Mem) : (wsM CA ad M).length = mN M := by simp [wsM]
theorem wsM_lt {CA : Nat → ClassId} {ad : Nat → Nat} {M : Mem} {k : Nat} {q : Nat × va_E} (h : (wsM CA ad M)[k]? = some q) : k < mN M := by
  have := (List.getElem?_eq_some_iff.mp h).1
  rwa [wsM_len] at this
theorem wsM_set {CA : Nat → ClassId} {ad : Nat → Nat} {M M' : Mem} {k : Nat} {e : va_E} (hn : mN M' = mN M) (he : cn CA ad M' k = e) (ho : ∀ j, j ≠ k → cn CA ad M' j = cn CA ad M j) : (wsM CA ad M).set k (ad k, e) = wsM CA ad M' := by
  apply List.ext_getElem?
  intro i
  rw [List.getElem?_set]
  by_cases hi : i < mN M
  · rw [wsM_at (M := M') (by rw [hn]; exact hi)]
    by_cases hk : k = i
    · subst hk
      rw [if_pos rfl, if_pos (by rw [wsM_len]; exact hi), he]
    · rw [if_neg hk, wsM_at hi, ho i (fun z => hk z.symm)]
  · have h1 : (wsM CA ad M')[i]? = none := List.getElem?_eq_none_iff.mpr (by rw [wsM_len]; omega)
    have h2 : (wsM CA ad M)[i]? = none := List.getElem?_eq_none_iff.mpr (by rw [wsM_len]; omega)
    rw [h1, h2]
    by_cases hk : k = i
    · subst hk
      rw [if_pos rfl, if_neg (by rw [wsM_len]; omega)]
    · rw [if_neg hk]
/-- what is held by cells that nobody writes: statics, arrays, objects, their fields, texts; classes that can't be cast; words of the tables that speak of nests, casts, arrays -/
abbrev ROF : Type := List (String × String × String × Value) × List (FieldType × Nat × Nat × (Nat → Value)) × List (String × Nat) × List (String × String × String × Value × Nat) × List (String × Nat × String × Nat) × List (String × String) × List (String × Nat × MethodName × String) × List (String × Nat × String × String × String × String) × List (String × String) × List String × List MethodName
def fZ (F : ROF) : List (String × String × String × Value) := F.1
def fT (F : ROF) : List (FieldType × Nat × Nat × (Nat → Value)) := F.2.1
def fO (F : ROF) : List (String × Nat) := F.2.2.1
def fF (F : ROF) : List (String × String × String × Value × Nat) := F.2.2.2.1
def fS (F : ROF) : List (String × Nat × String × Nat) := F.2.2.2.2.1
def fN (F : ROF) : List (String × String) := F.2.2.2.2.2.1
def fM (F : ROF) : List (String × Nat × MethodName × String) := F.2.2.2.2.2.2.1
def fL (F : ROF) : List (String × Nat × String × String × String × String) := F.2.2.2.2.2.2.2.1
def fC (F : ROF) : List (String × String) := F.2.2.2.2.2.2.2.2.1
def fA (F : ROF) : List String := F.2.2.2.2.2.2.2.2.2.1
def fD (F : ROF) : List MethodName := F.2.2.2.2.2.2.2.2.2.2
def Zr (F : ROF) (ad : Nat → Nat) (A : Nat → Prop) (U : State) (H : Heap) : Prop :=
  vx_Zq Bundle.tN "UNASSIGNED_STACK" Bundle.steD A U H ∧ vx_Zq Bundle.tN "SUPPRESSED_SENTINEL" Bundle.listD A U H ∧
  (∀ q ∈ fZ F, va_Z q.1 q.2.1 q.2.2.1 (cv ad q.2.2.2) A U H) ∧
  (∀ q ∈ fT F, va_T q.1 (ad q.2.1) q.2.2.1 (fun j => cv ad (q.2.2.2 j)) A U H) ∧
  (∀ q ∈ fO F, va_O q.1 (ad q.2) A U H) ∧
  (∀ q ∈ fF F, va_OF q.1 q.2.1 q.2.2.1 (cv ad q.2.2.2.1) (ad q.2.2.2.2) A U H) ∧
  (∀ q ∈ fS F, vk_R q.1 q.2.1 q.2.2.1 (ad q.2.2.2) U) ∧
  (∀ q ∈ fN F, va_Nc q.1 q.2 U) ∧
  (∀ q ∈ fM F, va_Nw (.methodLinkNest q.1 q.2.1 q.2.2.1 q.2.2.2) U) ∧
  (∀ q ∈ fL F, va_Nw (.fieldLinkNest q.1 q.2.1 q.2.2.1 q.2.2.2.1 q.2.2.2.2.1 q.2.2.2.2.2) U) ∧
  (∀ q ∈ fC F, va_Nw (.castable q.1 q.2) U) ∧
  (∀ q ∈ fA F, va_AO q U) ∧
  (∀ q ∈ fD F, va_Nw (.declares q) U)
theorem Zr.warm {F : ROF} {ad : Nat → Nat} {A : Nat → Prop} {u U : State} {H : Heap} (hW : u.WarmedH U.vm) (h : Zr F ad A u H) : Zr F ad A U H := by
  obtain ⟨h1, h2, h3, h4, h5, h6, h7, h8, h9, h10, h11, h12, h13⟩ := h
  have hvm := hW.alike
  exact ⟨h1.moved hvm, h2.moved hvm, fun q hq => (h3 q hq).moved hvm, fun q hq => (h4 q hq).moved hvm, fun q hq => (h5 q hq).moved hvm, fun q hq => (h6 q hq).moved hvm, fun q hq => (h7 q hq).warm hW, fun q hq => (h8 q hq).moved hvm, fun q hq => (h9 q hq).warmM hW, fun q hq => (h10 q hq).warmF hW, fun q hq => (h11 q hq).warmC hW, fun q hq => (h12 q hq).moved hvm, fun q hq => (h13 q hq).warmD hW⟩
theorem Zr.kept {F : ROF} {ad : Nat → Nat} {A : Nat → Prop} {U : State} {H H1 : Heap} (h : Zr F ad A U H) (hq : ∀ a : Nat, a < H.size → ¬ A a → H1[a]? = H[a]?) : Zr F ad A U H1 := by
  obtain ⟨h1, h2, h3, h4, h5, h6, h7⟩ := h
  exact ⟨h1.kept hq, h2.kept hq, fun q h => (h3 q h).kept hq, fun q h => (h4 q h).kept hq, fun q h => (h5 q h).kept hq, fun q h => (h6 q h).kept hq, h7⟩
theorem Zr.narrow {F : ROF} {ad : Nat → Nat} {A B : Nat → Prop} {U : State} {H : Heap} (h : Zr F ad A U H) (hAB : ∀ q, B q → A q) : Zr F ad B U H := by
  obtain ⟨h1, h2, h3, h4, h5, h6, h7⟩ := h
  exact ⟨h1.narrow hAB, h2.narrow hAB, fun q h => (h3 q h).narrow hAB, fun q h => (h4 q h).narrow hAB, fun q h => (h5 q h).narrow hAB, fun q h => (h6 q h).narrow hAB, h7⟩
theorem Zr.calling {F : ROF} {ad : Nat → Nat} {A : Nat → Prop} {U : State} {H : Heap} {g : JFrame} {mk : MethodId} {a : Array Value} (h : Zr F ad A U H) : Zr F ad A (U.calling g mk a) H := by
  obtain ⟨h1, h2, h3, h4, h5, h6, h7, h8, h9, h10, h11, h12, h13⟩ := h
  have hvm : U.vm.Alike (U.calling g mk a).vm := Vm.Alike.refl U.vm
  exact ⟨h1.moved hvm, h2.moved hvm, fun q hq => (h3 q hq).moved hvm, fun q hq => (h4 q hq).moved hvm, fun q hq => (h5 q hq).moved hvm, fun q hq => (h6 q hq).moved hvm, fun q hq => (h7 q hq).same rfl, fun q hq => (h8 q hq).moved hvm, fun q hq => (h9 q hq).same rfl rfl, fun q hq => (h10 q hq).same rfl rfl, fun q hq => (h11 q hq).same rfl rfl, fun q hq => (h12 q hq).moved hvm, fun q hq => (h13 q hq).same rfl rfl⟩
/-- from this number on addresses name cells that nobody writes -/
abbrev ROB : Nat := 1000000
def clo (n : Nat) (v : Value) : Bool := match v with
  | .ref k => decide (k < n) || decide (ROB ≤ k)
  | _ => true
/-- not too many cells; they name cells that are there, or such as nobody writes -/
def Mok (M : Mem) : Prop := mN M ≤ ROB ∧ ∀ k j, k < mN M → clo (mN M) (mP M k j) = true
/-- the addresses' map may grow from n0 on (g), or stays -/
def agr (g : Bool) (n0 : Nat) (a b : Nat → Nat) : Prop := if g then ∀ i, i < n0 ∨ ROB ≤ i → a i = b i else a = b
theorem agr.rf (g : Bool) (n0 : Nat) (a : Nat → Nat) : agr g n0 a a := by cases g <;> simp [agr]
theorem agr.tr {g : Bool} {n0 n1 : Nat} {a b c : Nat → Nat} (hn : n0 ≤ n1) (h1 : agr g n1 a b) (h2 : agr g n0 b c) : agr g n0 a c := by
  cases g
  · exact Eq.trans h1 h2
  · intro i hi
    rw [h1 i (hi.elim (fun h => Or.inl (by omega)) Or.inr), h2 i hi]
abbrev Res : Type := Option Value ⊕ String
/-- a method: its name, bytes, places for locals, what it answers, its table of handlers -/
abbrev MD : Type := MethodName × ByteArray × Nat × Option FieldType × List (Nat × Nat × Nat × Nat)
def cdW (Y : MD) : Cond := if Y.2.2.2.2.isEmpty then .code Y.1 Y.2.1 Y.2.2.1 Y.2.2.2.1 else .codeWith Y.1 Y.2.1 Y.2.2.1 Y.2.2.2.1 Y.2.2.2.2
def wsY (Y : MD) : List Cond := cdW Y :: wsG
def rmG (d k : Nat) : Room := { frames := d, cells := k, slots := 64 * k, locals := 64 * d }
/-- the world behind a method -/
def Wt (D : va_G) (CA : Nat → ClassId) (ad : Nat → Nat) (A : Nat → Prop) (M : Mem) (t : State) : Prop := va_P D vwCl (wsM CA ad M) t.heap ∧ va_K D vwCl (tyL CA) t ∧ va_D A (wsM CA ad M) ∧ Mok M
def QcG (g : Bool) (n0 : Nat) (D : va_G) (CA : Nat → ClassId) (adE : Nat → Nat) (A : Nat → Prop) (P : Res → Mem → Prop) : Array Value → State → Outcome → State → Prop := fun _ st oc t =>
  (∃ (v : Option Value) (M' : Mem) (ad' : Nat → Nat), agr g n0 ad' adE ∧ n0 ≤ mN M' ∧ oc = .returned (v.map (cv ad')) ∧ P (.inl v) M' ∧ Wt D CA ad' A M' t) ∧ va_F A st t
def XcG (g : Bool) (n0 : Nat) (D : va_G) (CA : Nat → ClassId) (adE : Nat → Nat) (A : Nat → Prop) (P : Res → Mem → Prop) : String → State → State → Prop := fun E st t =>
  (∃ (M' : Mem) (ad' : Nat → Nat), agr g n0 ad' adE ∧ n0 ≤ mN M' ∧ P (.inr E) M' ∧ Wt D CA ad' A M' t) ∧ va_F A st t
/-- what a method's frame stands on -/
def Cx (Y : MD) (p : Program) (l : Launch) (s : State) (m : MethodId) (args : Array Value) (meth : Method) (c : Code) : Prop :=
  p.tables.exec = Jvm.exec ∧ c.code = Y.2.1 ∧ c.maxLocals = Y.2.2.1 ∧ s.vm.findClass Y.1.cls = some m.cls ∧ (∀ w ∈ wsG, w.before args s = true) ∧ meth.locks = false ∧ meth.sig.returnType = Y.2.2.2.1 ∧ c.exceptionTable.toList = tableOf Y.2.2.2.2 ∧ l.stackTraces = false ∧ meth.name = Y.1.name
def Wd (F : ROF) (D : va_G) (CA : Nat → ClassId) (ad : Nat → Nat) (A : Nat → Prop) (M : Mem) (s : State) (H : Heap) (locs : List Loc) : Prop :=
  va_K D vwCl (tyL CA) s ∧ Zr F ad A s s.heap ∧ va_P D vwCl (wsM CA ad M) H ∧ va_D A (wsM CA ad M) ∧ va_S A s.heap H locs ∧ (∀ q, s.heap.size ≤ q → A q) ∧ Mok M
def Rm (d k : Nat) (R : Room) (cells slots mc ms : Nat) : Prop := d ≤ R.frames ∧ 64 * d ≤ R.locals ∧ cells + k ≤ mc ∧ slots + 64 * k ≤ ms ∧ mc ≤ R.cells ∧ ms ≤ R.slots
def lvc (ad : Nat → Nat) (L : List (Nat × Value)) : List (Nat × Value) := L.map (fun q => (q.1, cv ad q.2))
theorem lvc_at {ad : Nat → Nat} {L : List (Nat × Value)} {ls : Array Slot} {nL : Nat} (h : lv_has ls nL (lvc ad L)) (j : Nat) {i : Nat} {v : Value} (hj : L[j]? = some (i, v)) : ls[i]? = some (.val (cv ad v)) := by
  refine lv_at h j ?_
  unfold lvc
  rw [List.getElem?_map, hj]
  rfl
def lins (L : List (Nat × Value)) (x : Nat × Value) : List (Nat × Value) := match L with
  | [] => [x]
  | q :: t => if x.1 < q.1 then x :: q :: t else q :: lins t x
theorem lins_mem (L : List (Nat × Value)) (x q : Nat × Value) : q ∈ lins L x → q = x ∨ q ∈ L := by
  induction L with
  | nil => intro h; simpa [lins] using h
  | cons y t ih =>
    intro h
    unfold lins at h
    split at h
    · simpa using h
    · rcases List.mem_cons.mp h with h | h
      · exact Or.inr (h ▸ List.mem_cons_self)
      · exact (ih h).elim Or.inl (fun z => Or.inr (List.mem_cons_of_mem _ z))
def lset (L : List (Nat × Value)) (i : Nat) (v : Value) : List (Nat × Value) := lins (L.filter (fun q => !(q.1 == i) && !(q.1 + 1 == i && q.2.category == 2))) (i, v)
def lset2 (L : List (Nat × Value)) (i : Nat) (v : Value) : List (Nat × Value) := lins (L.filter (fun q => !(q.1 == i) && (!(q.1 == i + 1) && !(q.1 + 1 == i && q.2.category == 2)))) (i, v)
theorem lset_has {ad : Nat → Nat} {L : List (Nat × Value)} {i nL : Nat} {v : Value} {ls : Array Slot} (h : lv_has ls nL ((i, cv ad v) :: (lvc ad L).filter (fun q => !(q.1 == i) && !(q.1 + 1 == i && q.2.category == 2)))) : lv_has ls nL (lvc ad (lset L i v)) := by
  refine ⟨h.1, h.2.1, fun q hq => ?_⟩
  obtain ⟨z, hz, rfl⟩ := List.mem_map.mp hq
  refine h.2.2 _ ?_
  rcases lins_mem _ _ _ hz with rfl | hz
  · exact List.mem_cons_self
  · obtain ⟨z1, z2⟩ := List.mem_filter.mp hz
    refine List.mem_cons_of_mem _ (List.mem_filter.mpr ⟨List.mem_map.mpr ⟨z, z1, rfl⟩, ?_⟩)
    simpa only [cv_cat] using z2
theorem lset2_has {ad : Nat → Nat} {L : List (Nat × Value)} {i nL : Nat} {v : Value} {ls : Array Slot} (h : lv_has ls nL ((i, cv ad v) :: (lvc ad L).filter (fun q => !(q.1 == i) && (!(q.1 == i + 1) && !(q.1 + 1 == i && q.2.category == 2))))) : lv_has ls nL (lvc ad (lset2 L i v)) := by
  refine ⟨h.1, h.2.1, fun q hq => ?_⟩
  obtain ⟨z, hz, rfl⟩ := List.mem_map.mp hq
  refine h.2.2 _ ?_
  rcases lins_mem _ _ _ hz with rfl | hz
  · exact List.mem_cons_self
  · obtain ⟨z1, z2⟩ := List.mem_filter.mp hz
    refine List.mem_cons_of_mem _ (List.mem_filter.mpr ⟨List.mem_map.mpr ⟨z, z1, rfl⟩, ?_⟩)
    simpa only [cv_cat] using z2
/-- from this place on, with these locals, this stack, this memory, the method comes to an end of which P holds: at most d frames deep, at most k cells made -/
def Fr (F : ROF) (g : Bool) (n0 : Nat) (Y : MD) (d k : Nat) (pc : Nat) (L : List (Nat × Value)) (S : List Value) (M : Mem) (P : Res → Mem → Prop) : Prop :=
  ∀ (p : Program) (l : Launch) (e : Env) (R : Room) (s : State) (m : MethodId) (args : Array Value) (below : List Frame) (meth : Method) (c : Code) (H : Heap) (locs : List Loc) (cells slots mc ms : Nat) (ls : Array Slot) (D : va_G) (CA : Nat → ClassId) (adE ad : Nat → Nat) (A : Nat → Prop),
    Cx Y p l s m args meth c → agr g n0 ad adE → n0 ≤ mN M → Wd F D CA ad A M s H locs → Rm d k R cells slots mc ms → lv_has ls Y.2.2.1 (lvc ad L) →
    W p l e R s m args below meth c H locs cells slots (vx_MQ below (QcG g n0 D CA adE A P) (XcG g n0 D CA adE A P) args s mc ms A) (F0 m pc ls (S.map (cv ad)))
/-- the same frame with something of class E thrown over it -/
def Fx (F : ROF) (g : Bool) (n0 : Nat) (Y : MD) (d k : Nat) (pc : Nat) (L : List (Nat × Value)) (M : Mem) (E : String) (P : Res → Mem → Prop) : Prop :=
  ∀ (p : Program) (l : Launch) (e : Env) (R : Room) (s : State) (m : MethodId) (args : Array Value) (below : List Frame) (meth : Method) (c : Code) (H : Heap) (locs : List Loc) (cells slots mc ms : Nat) (ls : Array Slot) (D : va_G) (CA : Nat → ClassId) (adE ad : Nat → Nat) (A : Nat → Prop) (S : List Value) (q : Addr) (ce : Cell),
    Cx Y p l s m args meth c → agr g n0 ad adE → n0 ≤ mN M → Wd F D CA ad A M s H locs → Rm d k R cells slots mc ms → lv_has ls Y.2.2.1 (lvc ad L) → H[q]? = some ce → ce.vm = .none → s.vm.findClass E = some ce.cls →
    vx_W p l e R s m args below meth c H locs cells slots (vx_MQ below (QcG g n0 D CA adE A P) (XcG g n0 D CA adE A P) args s mc ms A) (F0 m pc ls S) q
def PcG (F : ROF) (D : va_G) (CA : Nat → ClassId) (ad : Nat → Nat) (sz : Nat) (as : List Value) (M : Mem) : Array Value → State → Prop :=
  va_Pc (as.map (cv ad)) (fun U => U.heap.size = sz ∧ va_P D vwCl (wsM CA ad M) U.heap ∧ va_K D vwCl (tyL CA) U ∧ va_D (fun _ => True) (wsM CA ad M) ∧ Mok M ∧ Zr F ad (va_A (wsM CA ad M) sz) U U.heap)
/-- a method's contract: from its entry, whoever calls it -/
def Ev (F : ROF) (g : Bool) (Y : MD) (d k : Nat) (as : List Value) (M : Mem) (P : Res → Mem → Prop) : Prop :=
  ∀ (l : Launch) (D : va_G) (CA : Nat → ClassId) (ad : Nat → Nat) (sz : Nat), l.stackTraces = false →
    vx_Met l Y.1 (wsY Y) (rmG d k) (PcG F D CA ad sz as M) (QcG g (mN M) D CA ad (va_A (wsM CA ad M) sz) P) (XcG g (mN M) D CA ad (va_A (wsM CA ad M) sz) P) k (64 * k) (va_A (wsM CA ad M) sz)
theorem lv_args_cv (ad : Nat → Nat) (as : List Value) : ∀ i, lv_args i (as.map (cv ad)) = lvc ad (lv_args i as) := by
  induction as with
  | nil => intro i; rfl
  | cons v t ih => intro i; simp only [List.map_cons, lv_args, lvc, cv_cat]; rw [ih]; rfl
theorem lg_sl_cv (ad : Nat → Nat) (as : List Value) : (lg_sl (as.map (cv ad))).length = (lg_sl as).length := by
  induction as with
  | nil => rfl
  | cons v t ih => cases v <;> simp_all [lg_sl, cv, Value.category]
end
section
section RW
variable {F : ROF} {g : Bool} {n0 : Nat} {Y : MD} {d k pc : Nat} {L : List (Nat × Value)} {S : List Value} {M : Mem} {P : Res → Mem → Prop}
theorem fr_iconst {n : Int} {v : Int32} (hdg : decode Y.2.1 pc = .ok (.iconst n, 1)) (hv : Int32.ofInt n = v) (kk : Fr F g n0 Y d k (pc + 1) L (.int v :: S) M P) : Fr F g n0 Y d k pc L S M P := fun p l e R s m args below meth c H locs cells slots mc ms ls D CA adE ad A hc ha hn hw hr hl => lv_iconst hc.1 hc.2.1 hdg hv (kk p l e R s m args below meth c H locs cells slots mc ms ls D CA adE ad A hc ha hn hw hr hl)
theorem fr_bipush {n : Int} {v : Int32} (hdg : decode Y.2.1 pc = .ok (.bipush n, 2)) (hv : (Int8.ofInt n).toInt32 = v) (kk : Fr F g n0 Y d k (pc + 2) L (.int v :: S) M P) : Fr F g n0 Y d k pc L S M P := fun p l e R s m args below meth c H locs cells slots mc ms ls D CA adE ad A hc ha hn hw hr hl => lv_bipush hc.1 hc.2.1 hdg hv (kk p l e R s m args below meth c H locs cells slots mc ms ls D CA adE ad A hc ha hn hw hr hl)
theorem fr_sipush {n : Int} {v : Int32} (hdg : decode Y.2.1 pc = .ok (.sipush n, 3)) (hv : (Int16.ofInt n).toInt32 = v) (kk : Fr F g n0 Y d k (pc + 3) L (.int v :: S) M P) : Fr F g n0 Y d k pc L S M P := fun p l e R s m args below meth c H locs cells slots mc ms ls D CA adE ad A hc ha hn hw hr hl => lv_sipush hc.1 hc.2.1 hdg hv (kk p l e R s m args below meth c H locs cells slots mc ms ls D CA adE ad A hc ha hn hw hr hl)
theorem fr_lconst {n : Fin 2} {v : Int64} (hdg : decode Y.2.1 pc = .ok (.lconst n, 1)) (hv : Int64.ofNat (n : Nat) = v) (kk : Fr F g n0 Y d k (pc + 1) L (.long v :: S) M P) : Fr F g n0 Y d k pc L S M P := fun p l e R s m args below meth c H locs cells slots mc ms ls D CA adE ad A hc ha hn hw hr hl => lv_lconst hc.1 hc.2.1 hdg hv (kk p l e R s m args below meth c H locs cells slots mc ms ls D CA adE ad A hc ha hn hw hr hl)
theorem fr_ldc2 {n : Nat} {v : Int64} (hdg : decode Y.2.1 pc = .ok (.ldc2_w n, 3)) (hw9 : Jvm.Cond.constantLong Y.1.cls n v ∈ wsG) (kk : Fr F g n0 Y d k (pc + 3) L (.long v :: S) M P) : Fr F g n0 Y d k pc L S M P := fun p l e R s m args below meth c H locs cells slots mc ms ls D CA adE ad A hc ha hn hw hr hl => lv_ldc2 hc.1 hc.2.1 hc.2.2.2.1 (hc.2.2.2.2.1 _ hw9) hdg (kk p l e R s m args below meth c H locs cells slots mc ms ls D CA adE ad A hc ha hn hw hr hl)
theorem fr_iload_n {j : Fin 4} {x : Int32} (n : Nat) (hdg : decode Y.2.1 pc = .ok (.iload_n j, 1)) (hq : L[n]? = some ((j : Nat), .int x)) (kk : Fr F g n0 Y d k (pc + 1) L (.int x :: S) M P) : Fr F g n0 Y d k pc L S M P := fun p l e R s m args below meth c H locs cells slots mc ms ls D CA adE ad A hc ha hn hw hr hl => lv_iload_n hc.1 hc.2.1 hdg rfl (lvc_at hl n hq) (kk p l e R s m args below meth c H locs cells slots mc ms ls D CA adE ad A hc ha hn hw hr hl)
theorem fr_iload {j : Nat} {x : Int32} (n : Nat) (hdg : decode Y.2.1 pc = .ok (.iload j, 2)) (hq : L[n]? = some (j, .int x)) (kk : Fr F g n0 Y d k (pc + 2) L (.int x :: S) M P) : Fr F g n0 Y d k pc L S M P := fun p l e R s m args below meth c H locs cells slots mc ms ls D CA adE ad A hc ha hn hw hr hl => lv_iload hc.1 hc.2.1 hdg (lvc_at hl n hq) (kk p l e R s m args below meth c H locs cells slots mc ms ls D CA adE ad A hc ha hn hw hr hl)
theorem fr_lload_n {j : Fin 4} {x : Int64} (n : Nat) (hdg : decode Y.2.1 pc = .ok (.lload_n j, 1)) (hq : L[n]? = some ((j : Nat), .long x)) (kk : Fr F g n0 Y d k (pc + 1) L (.long x :: S) M P) : Fr F g n0 Y d k pc L S M P := fun p l e R s m args below meth c H locs cells slots mc ms ls D CA adE ad A hc ha hn hw hr hl => lv_lload_n hc.1 hc.2.1 hdg rfl (lvc_at hl n hq) (kk p l e R s m args below meth c H locs cells slots mc ms ls D CA adE ad A hc ha hn hw hr hl)
theorem fr_lload {j : Nat} {x : Int64} (n : Nat) (hdg : decode Y.2.1 pc = .ok (.lload j, 2)) (hq : L[n]? = some (j, .long x)) (kk : Fr F g n0 Y d k (pc + 2) L (.long x :: S) M P) : Fr F g n0 Y d k pc L S M P := fun p l e R s m args below meth c H locs cells slots mc ms ls D CA adE ad A hc ha hn hw hr hl => lv_lload hc.1 hc.2.1 hdg (lvc_at hl n hq) (kk p l e R s m args below meth c H locs cells slots mc ms ls D CA adE ad A hc ha hn hw hr hl)
theorem fr_dload_n {j : Fin 4} {x : UInt64} (n : Nat) (hdg : decode Y.2.1 pc = .ok (.dload_n j, 1)) (hq : L[n]? = some ((j : Nat), .double x)) (kk : Fr F g n0 Y d k (pc + 1) L (.double x :: S) M P) : Fr F g n0 Y d k pc L S M P := fun p l e R s m args below meth c H locs cells slots mc ms ls D CA adE ad A hc ha hn hw hr hl => lv_dload_n hc.1 hc.2.1 hdg rfl (lvc_at hl n hq) (kk p l e R s m args below meth c H locs cells slots mc ms ls D CA adE ad A hc ha hn hw hr hl)
theorem fr_dload {j : Nat} {x : UInt64} (n : Nat) (hdg : decode Y.2.1 pc = .ok (.dload j, 2)) (hq : L[n]? = some (j, .double x)) (kk : Fr F g n0 Y d k (pc + 2) L (.double x :: S) M P) : Fr F g n0 Y d k pc L S M P := fun p l e R s m args below meth c H locs cells slots mc ms ls D CA adE ad A hc ha hn hw hr hl => lv_dload hc.1 hc.2.1 hdg (lvc_at hl n hq) (kk p l e R s m args below meth c H locs cells slots mc ms ls D CA adE ad A hc ha hn hw hr hl)
theorem fr_fload_n {j : Fin 4} {x : UInt32} (n : Nat) (hdg : decode Y.2.1 pc = .ok (.fload_n j, 1)) (hq : L[n]? = some ((j : Nat), .float x)) (kk : Fr F g n0 Y d k (pc + 1) L (.float x :: S) M P) : Fr F g n0 Y d k pc L S M P := fun p l e R s m args below meth c H locs cells slots mc ms ls D CA adE ad A hc ha hn hw hr hl => lv_fload_n hc.1 hc.2.1 hdg rfl (lvc_at hl n hq) (kk p l e R s m args below meth c H locs cells slots mc ms ls D CA adE ad A hc ha hn hw hr hl)
theorem fr_fload {j : Nat} {x : UInt32} (n : Nat) (hdg : decode Y.2.1 pc = .ok (.fload j, 2)) (hq : L[n]? = some (j, .float x)) (kk : Fr F g n0 Y d k (pc + 2) L (.float x :: S) M P) : Fr F g n0 Y d k pc L S M P := fun p l e R s m args below meth c H locs cells slots mc ms ls D CA adE ad A hc ha hn hw hr hl => lv_fload hc.1 hc.2.1 hdg (lvc_at hl n hq) (kk p l e R s m args below meth c H locs cells slots mc ms ls D CA adE ad A hc ha hn hw hr hl)
theorem fr_aload_n {j : Fin 4} {x : Nat} (n : Nat) (hdg : decode Y.2.1 pc = .ok (.aload_n j, 1)) (hq : L[n]? = some ((j : Nat), .ref x)) (kk : Fr F g n0 Y d k (pc + 1) L (.ref x :: S) M P) : Fr F g n0 Y d k pc L S M P := fun p l e R s m args below meth c H locs cells slots mc ms ls D CA adE ad A hc ha hn hw hr hl => lv_aload_n hc.1 hc.2.1 hdg rfl (lvc_at hl n hq) (kk p l e R s m args below meth c H locs cells slots mc ms ls D CA adE ad A hc ha hn hw hr hl)
theorem fr_aload {j : Nat} {x : Nat} (n : Nat) (hdg : decode Y.2.1 pc = .ok (.aload j, 2)) (hq : L[n]? = some (j, .ref x)) (kk : Fr F g n0 Y d k (pc + 2) L (.ref x :: S) M P) : Fr F g n0 Y d k pc L S M P := fun p l e R s m args below meth c H locs cells slots mc ms ls D CA adE ad A hc ha hn hw hr hl => lv_aload hc.1 hc.2.1 hdg (lvc_at hl n hq) (kk p l e R s m args below meth c H locs cells slots mc ms ls D CA adE ad A hc ha hn hw hr hl)
theorem fr_istore_n {j : Fin 4} {x : Int32} {L' : List (Nat × Value)} (hdg : decode Y.2.1 pc = .ok (.istore_n j, 1)) (hj : (j : Nat) < Y.2.2.1) (hL : lset L (j : Nat) (.int x) = L') (kk : Fr F g n0 Y d k (pc + 1) L' S M P) : Fr F g n0 Y d k pc L (.int x :: S) M P := fun p l e R s m args below meth c H locs cells slots mc ms ls D CA adE ad A hc ha hn hw hr hl => lv_istore_n (i := (j : Nat)) hc.1 hc.2.1 hdg rfl hl hj rfl (fun ls hl2 => kk p l e R s m args below meth c H locs cells slots mc ms ls D CA adE ad A hc ha hn hw hr (hL ▸ lset_has hl2))
theorem fr_istore {j : Nat} {x : Int32} {L' : List (Nat × Value)} (hdg : decode Y.2.1 pc = .ok (.istore j, 2)) (hj : (j : Nat) < Y.2.2.1) (hL : lset L (j : Nat) (.int x) = L') (kk : Fr F g n0 Y d k (pc + 2) L' S M P) : Fr F g n0 Y d k pc L (.int x :: S) M P := fun p l e R s m args below meth c H locs cells slots mc ms ls D CA adE ad A hc ha hn hw hr hl => lv_istore hc.1 hc.2.1 hdg hl hj rfl (fun ls hl2 => kk p l e R s m args below meth c H locs cells slots mc ms ls D CA adE ad A hc ha hn hw hr (hL ▸ lset_has hl2))
theorem fr_astore_n {j : Fin 4} {x : Nat} {L' : List (Nat × Value)} (hdg : decode Y.2.1 pc = .ok (.astore_n j, 1)) (hj : (j : Nat) < Y.2.2.1) (hL : lset L (j : Nat) (.ref x) = L') (kk : Fr F g n0 Y d k (pc + 1) L' S M P) : Fr F g n0 Y d k pc L (.ref x :: S) M P := fun p l e R s m args below meth c H locs cells slots mc ms ls D CA adE ad A hc ha hn hw hr hl => lv_astore_n (i := (j : Nat)) hc.1 hc.2.1 hdg rfl hl hj rfl (fun ls hl2 => kk p l e R s m args below meth c H locs cells slots mc ms ls D CA adE ad A hc ha hn hw hr (hL ▸ lset_has hl2))
theorem fr_astore {j : Nat} {x : Nat} {L' : List (Nat × Value)} (hdg : decode Y.2.1 pc = .ok (.astore j, 2)) (hj : (j : Nat) < Y.2.2.1) (hL : lset L (j : Nat) (.ref x) = L') (kk : Fr F g n0 Y d k (pc + 2) L' S M P) : Fr F g n0 Y d k pc L (.ref x :: S) M P := fun p l e R s m args below meth c H locs cells slots mc ms ls D CA adE ad A hc ha hn hw hr hl => lv_astore hc.1 hc.2.1 hdg hl hj rfl (fun ls hl2 => kk p l e R s m args below meth c H locs cells slots mc ms ls D CA adE ad A hc ha hn hw hr (hL ▸ lset_has hl2))
theorem fr_lstore_n {j : Fin 4} {x : Int64} {L' : List (Nat × Value)} (hdg : decode Y.2.1 pc = .ok (.lstore_n j, 1)) (hj : (j : Nat) + 1 < Y.2.2.1) (hL : lset2 L (j : Nat) (.long x) = L') (kk : Fr F g n0 Y d k (pc + 1) L' S M P) : Fr F g n0 Y d k pc L (.long x :: S) M P := fun p l e R s m args below meth c H locs cells slots mc ms ls D CA adE ad A hc ha hn hw hr hl => lv_lstore_n (i := (j : Nat)) hc.1 hc.2.1 hdg rfl hl hj rfl (fun ls hl2 => kk p l e R s m args below meth c H locs cells slots mc ms ls D CA adE ad A hc ha hn hw hr (hL ▸ lset2_has hl2))
theorem fr_lstore {j : Nat} {x : Int64} {L' : List (Nat × Value)} (hdg : decode Y.2.1 pc = .ok (.lstore j, 2)) (hj : (j : Nat) + 1 < Y.2.2.1) (hL : lset2 L (j : Nat) (.long x) = L') (kk : Fr F g n0 Y d k (pc + 2) L' S M P) : Fr F g n0 Y d k pc L (.long x :: S) M P := fun p l e R s m args below meth c H locs cells slots mc ms ls D CA adE ad A hc ha hn hw hr hl => lv_lstore hc.1 hc.2.1 hdg hl hj rfl (fun ls hl2 => kk p l e R s m args below meth c H locs cells slots mc ms ls D CA adE ad A hc ha hn hw hr (hL ▸ lset2_has hl2))
theorem fr_iinc {j n9 : Nat} {n : Int} {x v : Int32} {L' : List (Nat × Value)} (n9 : Nat) (hdg : decode Y.2.1 pc = .ok (.iinc j n, 3)) (hq : L[n9]? = some (j, .int x)) (hv : x + Int32.ofInt n = v) (hj : j < Y.2.2.1) (hL : lset L j (.int v) = L') (kk : Fr F g n0 Y d k (pc + 3) L' S M P) : Fr F g n0 Y d k pc L S M P := fun p l e R s m args below meth c H locs cells slots mc ms ls D CA adE ad A hc ha hn hw hr hl => lv_iinc (k := n9) hc.1 hc.2.1 hdg hl (by unfold lvc; rw [List.getElem?_map, hq]; rfl) hv hj rfl (fun ls hl2 => kk p l e R s m args below meth c H locs cells slots mc ms ls D CA adE ad A hc ha hn hw hr (hL ▸ lset_has hl2))
theorem fr_iadd {x y : Int32} (hdg : decode Y.2.1 pc = .ok (.iadd, 1)) (kk : Fr F g n0 Y d k (pc + 1) L (.int (x + y) :: S) M P) : Fr F g n0 Y d k pc L (.int y :: .int x :: S) M P := fun p l e R s m args below meth c H locs cells slots mc ms ls D CA adE ad A hc ha hn hw hr hl => lv_iadd hc.1 hc.2.1 hdg (kk p l e R s m args below meth c H locs cells slots mc ms ls D CA adE ad A hc ha hn hw hr hl)
theorem fr_isub {x y : Int32} (hdg : decode Y.2.1 pc = .ok (.isub, 1)) (kk : Fr F g n0 Y d k (pc + 1) L (.int (x - y) :: S) M P) : Fr F g n0 Y d k pc L (.int y :: .int x :: S) M P := fun p l e R s m args below meth c H locs cells slots mc ms ls D CA adE ad A hc ha hn hw hr hl => lv_isub hc.1 hc.2.1 hdg (kk p l e R s m args below meth c H locs cells slots mc ms ls D CA adE ad A hc ha hn hw hr hl)
theorem fr_imul {x y : Int32} (hdg : decode Y.2.1 pc = .ok (.imul, 1)) (kk : Fr F g n0 Y d k (pc + 1) L (.int (x * y) :: S) M P) : Fr F g n0 Y d k pc L (.int y :: .int x :: S) M P := fun p l e R s m args below meth c H locs cells slots mc ms ls D CA adE ad A hc ha hn hw hr hl => lv_imul hc.1 hc.2.1 hdg (kk p l e R s m args below meth c H locs cells slots mc ms ls D CA adE ad A hc ha hn hw hr hl)
theorem fr_iand {x y : Int32} (hdg : decode Y.2.1 pc = .ok (.iand, 1)) (kk : Fr F g n0 Y d k (pc + 1) L (.int (x &&& y) :: S) M P) : Fr F g n0 Y d k pc L (.int y :: .int x :: S) M P := fun p l e R s m args below meth c H locs cells slots mc ms ls D CA adE ad A hc ha hn hw hr hl => lv_iand hc.1 hc.2.1 hdg (kk p l e R s m args below meth c H locs cells slots mc ms ls D CA adE ad A hc ha hn hw hr hl)
theorem fr_ior {x y : Int32} (hdg : decode Y.2.1 pc = .ok (.ior, 1)) (kk : Fr F g n0 Y d k (pc + 1) L (.int (x ||| y) :: S) M P) : Fr F g n0 Y d k pc L (.int y :: .int x :: S) M P := fun p l e R s m args below meth c H locs cells slots mc ms ls D CA adE ad A hc ha hn hw hr hl => lv_ior hc.1 hc.2.1 hdg (kk p l e R s m args below meth c H locs cells slots mc ms ls D CA adE ad A hc ha hn hw hr hl)
theorem fr_ixor {x y : Int32} (hdg : decode Y.2.1 pc = .ok (.ixor, 1)) (kk : Fr F g n0 Y d k (pc + 1) L (.int (x ^^^ y) :: S) M P) : Fr F g n0 Y d k pc L (.int y :: .int x :: S) M P := fun p l e R s m args below meth c H locs cells slots mc ms ls D CA adE ad A hc ha hn hw hr hl => lv_ixor hc.1 hc.2.1 hdg (kk p l e R s m args below meth c H locs cells slots mc ms ls D CA adE ad A hc ha hn hw hr hl)
theorem fr_ishl {x y : Int32} (hdg : decode Y.2.1 pc = .ok (.ishl, 1)) (kk : Fr F g n0 Y d k (pc + 1) L (.int (x <<< (y &&& 31)) :: S) M P) : Fr F g n0 Y d k pc L (.int y :: .int x :: S) M P := fun p l e R s m args below meth c H locs cells slots mc ms ls D CA adE ad A hc ha hn hw hr hl => lv_ishl hc.1 hc.2.1 hdg (kk p l e R s m args below meth c H locs cells slots mc ms ls D CA adE ad A hc ha hn hw hr hl)
theorem fr_ishr {x y : Int32} (hdg : decode Y.2.1 pc = .ok (.ishr, 1)) (kk : Fr F g n0 Y d k (pc + 1) L (.int (x >>> (y &&& 31)) :: S) M P) : Fr F g n0 Y d k pc L (.int y :: .int x :: S) M P := fun p l e R s m args below meth c H locs cells slots mc ms ls D CA adE ad A hc ha hn hw hr hl => lv_ishr hc.1 hc.2.1 hdg (kk p l e R s m args below meth c H locs cells slots mc ms ls D CA adE ad A hc ha hn hw hr hl)
theorem fr_iushr {x y : Int32} (hdg : decode Y.2.1 pc = .ok (.iushr, 1)) (kk : Fr F g n0 Y d k (pc + 1) L (.int ((x.toUInt32 >>> (y.toUInt32 &&& Int32.toUInt32 31)).toInt32) :: S) M P) : Fr F g n0 Y d k pc L (.int y :: .int x :: S) M P := fun p l e R s m args below meth c H locs cells slots mc ms ls D CA adE ad A hc ha hn hw hr hl => lv_iushr hc.1 hc.2.1 hdg rfl (kk p l e R s m args below meth c H locs cells slots mc ms ls D CA adE ad A hc ha hn hw hr hl)
theorem fr_idiv {x y : Int32} (hdg : decode Y.2.1 pc = .ok (.idiv, 1)) (hne : ¬ y = 0) (kk : Fr F g n0 Y d k (pc + 1) L (.int (x / y) :: S) M P) : Fr F g n0 Y d k pc L (.int y :: .int x :: S) M P := fun p l e R s m args below meth c H locs cells slots mc ms ls D CA adE ad A hc ha hn hw hr hl => lv_idiv hc.1 hc.2.1 hdg hne (kk p l e R s m args below meth c H locs cells slots mc ms ls D CA adE ad A hc ha hn hw hr hl)
theorem fr_irem {x y : Int32} (hdg : decode Y.2.1 pc = .ok (.irem, 1)) (hne : ¬ y = 0) (kk : Fr F g n0 Y d k (pc + 1) L (.int (x - x / y * y) :: S) M P) : Fr F g n0 Y d k pc L (.int y :: .int x :: S) M P := fun p l e R s m args below meth c H locs cells slots mc ms ls D CA adE ad A hc ha hn hw hr hl => lv_irem hc.1 hc.2.1 hdg hne (kk p l e R s m args below meth c H locs cells slots mc ms ls D CA adE ad A hc ha hn hw hr hl)
theorem fr_ineg {x : Int32} (hdg : decode Y.2.1 pc = .ok (.ineg, 1)) (kk : Fr F g n0 Y d k (pc + 1) L (.int (-x) :: S) M P) : Fr F g n0 Y d k pc L (.int x :: S) M P := fun p l e R s m args below meth c H locs cells slots mc ms ls D CA adE ad A hc ha hn hw hr hl => lv_ineg hc.1 hc.2.1 hdg (kk p l e R s m args below meth c H locs cells slots mc ms ls D CA adE ad A hc ha hn hw hr hl)
theorem fr_ladd {x y : Int64} (hdg : decode Y.2.1 pc = .ok (.ladd, 1)) (kk : Fr F g n0 Y d k (pc + 1) L (.long (x + y) :: S) M P) : Fr F g n0 Y d k pc L (.long y :: .long x :: S) M P := fun p l e R s m args below meth c H locs cells slots mc ms ls D CA adE ad A hc ha hn hw hr hl => lv_ladd hc.1 hc.2.1 hdg (kk p l e R s m args below meth c H locs cells slots mc ms ls D CA adE ad A hc ha hn hw hr hl)
theorem fr_lmul {x y : Int64} (hdg : decode Y.2.1 pc = .ok (.lmul, 1)) (kk : Fr F g n0 Y d k (pc + 1) L (.long (x * y) :: S) M P) : Fr F g n0 Y d k pc L (.long y :: .long x :: S) M P := fun p l e R s m args below meth c H locs cells slots mc ms ls D CA adE ad A hc ha hn hw hr hl => lv_lmul hc.1 hc.2.1 hdg (kk p l e R s m args below meth c H locs cells slots mc ms ls D CA adE ad A hc ha hn hw hr hl)
theorem fr_i2l {x : Int32} (hdg : decode Y.2.1 pc = .ok (.i2l, 1)) (kk : Fr F g n0 Y d k (pc + 1) L (.long x.toInt64 :: S) M P) : Fr F g n0 Y d k pc L (.int x :: S) M P := fun p l e R s m args below meth c H locs cells slots mc ms ls D CA adE ad A hc ha hn hw hr hl => lv_i2l hc.1 hc.2.1 hdg rfl (kk p l e R s m args below meth c H locs cells slots mc ms ls D CA adE ad A hc ha hn hw hr hl)
theorem fr_i2b {x : Int32} (hdg : decode Y.2.1 pc = .ok (.i2b, 1)) (kk : Fr F g n0 Y d k (pc + 1) L (.int x.toInt8.toInt32 :: S) M P) : Fr F g n0 Y d k pc L (.int x :: S) M P := fun p l e R s m args below meth c H locs cells slots mc ms ls D CA adE ad A hc ha hn hw hr hl => lv_i2b hc.1 hc.2.1 hdg rfl (kk p l e R s m args below meth c H locs cells slots mc ms ls D CA adE ad A hc ha hn hw hr hl)
theorem fr_i2c {x : Int32} (hdg : decode Y.2.1 pc = .ok (.i2c, 1)) (kk : Fr F g n0 Y d k (pc + 1) L (.int (x.toUInt32 % 65536).toInt32 :: S) M P) : Fr F g n0 Y d k pc L (.int x :: S) M P := fun p l e R s m args below meth c H locs cells slots mc ms ls D CA adE ad A hc ha hn hw hr hl => lv_i2c hc.1 hc.2.1 hdg rfl (kk p l e R s m args below meth c H locs cells slots mc ms ls D CA adE ad A hc ha hn hw hr hl)
theorem fr_i2d {x : Int32} (hdg : decode Y.2.1 pc = .ok (.i2d, 1)) (kk : Fr F g n0 Y d k (pc + 1) L (.double (FP.i2d x) :: S) M P) : Fr F g n0 Y d k pc L (.int x :: S) M P := fun p l e R s m args below meth c H locs cells slots mc ms ls D CA adE ad A hc ha hn hw hr hl => lv_i2d hc.1 hc.2.1 hdg (kk p l e R s m args below meth c H locs cells slots mc ms ls D CA adE ad A hc ha hn hw hr hl)
theorem fr_i2f {x : Int32} (hdg : decode Y.2.1 pc = .ok (.i2f, 1)) (kk : Fr F g n0 Y d k (pc + 1) L (.float (FP.i2f x) :: S) M P) : Fr F g n0 Y d k pc L (.int x :: S) M P := fun p l e R s m args below meth c H locs cells slots mc ms ls D CA adE ad A hc ha hn hw hr hl => lv_i2f hc.1 hc.2.1 hdg (kk p l e R s m args below meth c H locs cells slots mc ms ls D CA adE ad A hc ha hn hw hr hl)
theorem fr_ddiv {x y : UInt64} (hdg : decode Y.2.1 pc = .ok (.ddiv, 1)) (hne : vf_n64 (FP.ddiv x y)) (kk : Fr F g n0 Y d k (pc + 1) L (.double (FP.ddiv x y) :: S) M P) : Fr F g n0 Y d k pc L (.double y :: .double x :: S) M P := fun p l e R s m args below meth c H locs cells slots mc ms ls D CA adE ad A hc ha hn hw hr hl => lv_ddiv hc.1 hc.2.1 hdg hne (kk p l e R s m args below meth c H locs cells slots mc ms ls D CA adE ad A hc ha hn hw hr hl)
theorem fr_fdiv {x y : UInt32} (hdg : decode Y.2.1 pc = .ok (.fdiv, 1)) (hne : vf_n32 (FP.fdiv x y)) (kk : Fr F g n0 Y d k (pc + 1) L (.float (FP.fdiv x y) :: S) M P) : Fr F g n0 Y d k pc L (.float y :: .float x :: S) M P := fun p l e R s m args below meth c H locs cells slots mc ms ls D CA adE ad A hc ha hn hw hr hl => lv_fdiv hc.1 hc.2.1 hdg hne (kk p l e R s m args below meth c H locs cells slots mc ms ls D CA adE ad A hc ha hn hw hr hl)
theorem fr_dcmp {x y : UInt64} {op : CmpOp} (hdg : decode Y.2.1 pc = .ok (.dcmp op, 1)) (kk : Fr F g n0 Y d k (pc + 1) L (.int (Op.cmpValue (FP.dcmp x y) op) :: S) M P) : Fr F g n0 Y d k pc L (.double y :: .double x :: S) M P := fun p l e R s m args below meth c H locs cells slots mc ms ls D CA adE ad A hc ha hn hw hr hl => lv_dcmp hc.1 hc.2.1 hdg (kk p l e R s m args below meth c H locs cells slots mc ms ls D CA adE ad A hc ha hn hw hr hl)
theorem fr_fcmp {x y : UInt32} {op : CmpOp} (hdg : decode Y.2.1 pc = .ok (.fcmp op, 1)) (kk : Fr F g n0 Y d k (pc + 1) L (.int (Op.cmpValue (FP.fcmp x y) op) :: S) M P) : Fr F g n0 Y d k pc L (.float y :: .float x :: S) M P := fun p l e R s m args below meth c H locs cells slots mc ms ls D CA adE ad A hc ha hn hw hr hl => lv_fcmp hc.1 hc.2.1 hdg (kk p l e R s m args below meth c H locs cells slots mc ms ls D CA adE ad A hc ha hn hw hr hl)
theorem fr_dup {v : Value} (hdg : decode Y.2.1 pc = .ok (.dup, 1)) (hv : v.category = 1) (kk : Fr F g n0 Y d k (pc + 1) L (v :: v :: S) M P) : Fr F g n0 Y d k pc L (v :: S) M P := fun p l e R s m args below meth c H locs cells slots mc ms ls D CA adE ad A hc ha hn hw hr hl => lv_dup hc.1 hc.2.1 hdg ((cv_cat ad v).trans hv) (kk p l e R s m args below meth c H locs cells slots mc ms ls D CA adE ad A hc ha hn hw hr hl)
theorem fr_pop {v : Value} (hdg : decode Y.2.1 pc = .ok (.pop, 1)) (hv : v.category = 1) (kk : Fr F g n0 Y d k (pc + 1) L S M P) : Fr F g n0 Y d k pc L (v :: S) M P := fun p l e R s m args below meth c H locs cells slots mc ms ls D CA adE ad A hc ha hn hw hr hl => lv_pop hc.1 hc.2.1 hdg ((cv_cat ad v).trans hv) (kk p l e R s m args below meth c H locs cells slots mc ms ls D CA adE ad A hc ha hn hw hr hl)
theorem fr_dup2 {v w : Value} (hdg : decode Y.2.1 pc = .ok (.dup2, 1)) (hv : v.category = 1) (hw1 : w.category = 1) (kk : Fr F g n0 Y d k (pc + 1) L (v :: w :: v :: w :: S) M P) : Fr F g n0 Y d k pc L (v :: w :: S) M P := fun p l e R s m args below meth c H locs cells slots mc ms ls D CA adE ad A hc ha hn hw hr hl => lv_dup2_11 hc.1 hc.2.1 hdg ((cv_cat ad v).trans hv) ((cv_cat ad w).trans hw1) (kk p l e R s m args below meth c H locs cells slots mc ms ls D CA adE ad A hc ha hn hw hr hl)
theorem fr_if_eq {x : Int32} {off : Int} (tgt : Nat) (hdg : decode Y.2.1 pc = .ok (.ifCond .eq off, 3)) (ht : (pc : Int) + off = (tgt : Int)) (kt : x = 0 → Fr F g n0 Y d k tgt L S M P) (kf : ¬ x = 0 → Fr F g n0 Y d k (pc + 3) L S M P) : Fr F g n0 Y d k pc L (.int x :: S) M P := fun p l e R s m args below meth c H locs cells slots mc ms ls D CA adE ad A hc ha hn hw hr hl => lv_if_eq hc.1 hc.2.1 hdg ht (fun q => kt q p l e R s m args below meth c H locs cells slots mc ms ls D CA adE ad A hc ha hn hw hr hl) (fun q => kf q p l e R s m args below meth c H locs cells slots mc ms ls D CA adE ad A hc ha hn hw hr hl)
theorem fr_if_ne {x : Int32} {off : Int} (tgt : Nat) (hdg : decode Y.2.1 pc = .ok (.ifCond .ne off, 3)) (ht : (pc : Int) + off = (tgt : Int)) (kt : ¬ x = 0 → Fr F g n0 Y d k tgt L S M P) (kf : x = 0 → Fr F g n0 Y d k (pc + 3) L S M P) : Fr F g n0 Y d k pc L (.int x :: S) M P := fun p l e R s m args below meth c H locs cells slots mc ms ls D CA adE ad A hc ha hn hw hr hl => lv_if_ne hc.1 hc.2.1 hdg ht (fun q => kt q p l e R s m args below meth c H locs cells slots mc ms ls D CA adE ad A hc ha hn hw hr hl) (fun q => kf q p l e R s m args below meth c H locs cells slots mc ms ls D CA adE ad A hc ha hn hw hr hl)
theorem fr_if_lt {x : Int32} {off : Int} (tgt : Nat) (hdg : decode Y.2.1 pc = .ok (.ifCond .lt off, 3)) (ht : (pc : Int) + off = (tgt : Int)) (kt : x < 0 → Fr F g n0 Y d k tgt L S M P) (kf : ¬ x < 0 → Fr F g n0 Y d k (pc + 3) L S M P) : Fr F g n0 Y d k pc L (.int x :: S) M P := fun p l e R s m args below meth c H locs cells slots mc ms ls D CA adE ad A hc ha hn hw hr hl => lv_if_lt hc.1 hc.2.1 hdg ht (fun q => kt q p l e R s m args below meth c H locs cells slots mc ms ls D CA adE ad A hc ha hn hw hr hl) (fun q => kf q p l e R s m args below meth c H locs cells slots mc ms ls D CA adE ad A hc ha hn hw hr hl)
theorem fr_if_ge {x : Int32} {off : Int} (tgt : Nat) (hdg : decode Y.2.1 pc = .ok (.ifCond .ge off, 3)) (ht : (pc : Int) + off = (tgt : Int)) (kt : 0 ≤ x → Fr F g n0 Y d k tgt L S M P) (kf : ¬ 0 ≤ x → Fr F g n0 Y d k (pc + 3) L S M P) : Fr F g n0 Y d k pc L (.int x :: S) M P := fun p l e R s m args below meth c H locs cells slots mc ms ls D CA adE ad A hc ha hn hw hr hl => lv_if_ge hc.1 hc.2.1 hdg ht (fun q => kt q p l e R s m args below meth c H locs cells slots mc ms ls D CA adE ad A hc ha hn hw hr hl) (fun q => kf q p l e R s m args below meth c H locs cells slots mc ms ls D CA adE ad A hc ha hn hw hr hl)
theorem fr_if_gt {x : Int32} {off : Int} (tgt : Nat) (hdg : decode Y.2.1 pc = .ok (.ifCond .gt off, 3)) (ht : (pc : Int) + off = (tgt : Int)) (kt : 0 < x → Fr F g n0 Y d k tgt L S M P) (kf : ¬ 0 < x → Fr F g n0 Y d k (pc + 3) L S M P) : Fr F g n0 Y d k pc L (.int x :: S) M P := fun p l e R s m args below meth c H locs cells slots mc ms ls D CA adE ad A hc ha hn hw hr hl => lv_if_gt hc.1 hc.2.1 hdg ht (fun q => kt q p l e R s m args below meth c H locs cells slots mc ms ls D CA adE ad A hc ha hn hw hr hl) (fun q => kf q p l e R s m args below meth c H locs cells slots mc ms ls D CA adE ad A hc ha hn hw hr hl)
theorem fr_if_le {x : Int32} {off : Int} (tgt : Nat) (hdg : decode Y.2.1 pc = .ok (.ifCond .le off, 3)) (ht : (pc : Int) + off = (tgt : Int)) (kt : x ≤ 0 → Fr F g n0 Y d k tgt L S M P) (kf : ¬ x ≤ 0 → Fr F g n0 Y d k (pc + 3) L S M P) : Fr F g n0 Y d k pc L (.int x :: S) M P := fun p l e R s m args below meth c H locs cells slots mc ms ls D CA adE ad A hc ha hn hw hr hl => lv_if_le hc.1 hc.2.1 hdg ht (fun q => kt q p l e R s m args below meth c H locs cells slots mc ms ls D CA adE ad A hc ha hn hw hr hl) (fun q => kf q p l e R s m args below meth c H locs cells slots mc ms ls D CA adE ad A hc ha hn hw hr hl)
theorem fr_icmp_eq {x y : Int32} {off : Int} (tgt : Nat) (hdg : decode Y.2.1 pc = .ok (.if_icmp .eq off, 3)) (ht : (pc : Int) + off = (tgt : Int)) (kt : x = y → Fr F g n0 Y d k tgt L S M P) (kf : ¬ x = y → Fr F g n0 Y d k (pc + 3) L S M P) : Fr F g n0 Y d k pc L (.int y :: .int x :: S) M P := fun p l e R s m args below meth c H locs cells slots mc ms ls D CA adE ad A hc ha hn hw hr hl => lv_icmp_eq hc.1 hc.2.1 hdg ht (fun q => kt q p l e R s m args below meth c H locs cells slots mc ms ls D CA adE ad A hc ha hn hw hr hl) (fun q => kf q p l e R s m args below meth c H locs cells slots mc ms ls D CA adE ad A hc ha hn hw hr hl)
theorem fr_icmp_ne {x y : Int32} {off : Int} (tgt : Nat) (hdg : decode Y.2.1 pc = .ok (.if_icmp .ne off, 3)) (ht : (pc : Int) + off = (tgt : Int)) (kt : ¬ x = y → Fr F g n0 Y d k tgt L S M P) (kf : x = y → Fr F g n0 Y d k (pc + 3) L S M P) : Fr F g n0 Y d k pc L (.int y :: .int x :: S) M P := fun p l e R s m args below meth c H locs cells slots mc ms ls D CA adE ad A hc ha hn hw hr hl => lv_icmp_ne hc.1 hc.2.1 hdg ht (fun q => kt q p l e R s m args below meth c H locs cells slots mc ms ls D CA adE ad A hc ha hn hw hr hl) (fun q => kf q p l e R s m args below meth c H locs cells slots mc ms ls D CA adE ad A hc ha hn hw hr hl)
theorem fr_icmp_lt {x y : Int32} {off : Int} (tgt : Nat) (hdg : decode Y.2.1 pc = .ok (.if_icmp .lt off, 3)) (ht : (pc : Int) + off = (tgt : Int)) (kt : x < y → Fr F g n0 Y d k tgt L S M P) (kf : ¬ x < y → Fr F g n0 Y d k (pc + 3) L S M P) : Fr F g n0 Y d k pc L (.int y :: .int x :: S) M P := fun p l e R s m args below meth c H locs cells slots mc ms ls D CA adE ad A hc ha hn hw hr hl => lv_icmp_lt hc.1 hc.2.1 hdg ht (fun q => kt q p l e R s m args below meth c H locs cells slots mc ms ls D CA adE ad A hc ha hn hw hr hl) (fun q => kf q p l e R s m args below meth c H locs cells slots mc ms ls D CA adE ad A hc ha hn hw hr hl)
theorem fr_icmp_ge {x y : Int32} {off : Int} (tgt : Nat) (hdg : decode Y.2.1 pc = .ok (.if_icmp .ge off, 3)) (ht : (pc : Int) + off = (tgt : Int)) (kt : y ≤ x → Fr F g n0 Y d k tgt L S M P) (kf : ¬ y ≤ x → Fr F g n0 Y d k (pc + 3) L S M P) : Fr F g n0 Y d k pc L (.int y :: .int x :: S) M P := fun p l e R s m args below meth c H locs cells slots mc ms ls D CA adE ad A hc ha hn hw hr hl => lv_icmp_ge hc.1 hc.2.1 hdg ht (fun q => kt q p l e R s m args below meth c H locs cells slots mc ms ls D CA adE ad A hc ha hn hw hr hl) (fun q => kf q p l e R s m args below meth c H locs cells slots mc ms ls D CA adE ad A hc ha hn hw hr hl)
theorem fr_icmp_gt {x y : Int32} {off : Int} (tgt : Nat) (hdg : decode Y.2.1 pc = .ok (.if_icmp .gt off, 3)) (ht : (pc : Int) + off = (tgt : Int)) (kt : y < x → Fr F g n0 Y d k tgt L S M P) (kf : ¬ y < x → Fr F g n0 Y d k (pc + 3) L S M P) : Fr F g n0 Y d k pc L (.int y :: .int x :: S) M P := fun p l e R s m args below meth c H locs cells slots mc ms ls D CA adE ad A hc ha hn hw hr hl => lv_icmp_gt hc.1 hc.2.1 hdg ht (fun q => kt q p l e R s m args below meth c H locs cells slots mc ms ls D CA adE ad A hc ha hn hw hr hl) (fun q => kf q p l e R s m args below meth c H locs cells slots mc ms ls D CA adE ad A hc ha hn hw hr hl)
theorem fr_icmp_le {x y : Int32} {off : Int} (tgt : Nat) (hdg : decode Y.2.1 pc = .ok (.if_icmp .le off, 3)) (ht : (pc : Int) + off = (tgt : Int)) (kt : x ≤ y → Fr F g n0 Y d k tgt L S M P) (kf : ¬ x ≤ y → Fr F g n0 Y d k (pc + 3) L S M P) : Fr F g n0 Y d k pc L (.int y :: .int x :: S) M P := fun p l e R s m args below meth c H locs cells slots mc ms ls D CA adE ad A hc ha hn hw hr hl => lv_icmp_le hc.1 hc.2.1 hdg ht (fun q => kt q p l e R s m args below meth c H locs cells slots mc ms ls D CA adE ad A hc ha hn hw hr hl) (fun q => kf q p l e R s m args below meth c H locs cells slots mc ms ls D CA adE ad A hc ha hn hw hr hl)
theorem fr_goto {off : Int} (tgt : Nat) (hdg : decode Y.2.1 pc = .ok (.goto off, 3)) (ht : (pc : Int) + off = (tgt : Int)) (kk : Fr F g n0 Y d k tgt L S M P) : Fr F g n0 Y d k pc L S M P := fun p l e R s m args below meth c H locs cells slots mc ms ls D CA adE ad A hc ha hn hw hr hl => lv_goto hc.1 hc.2.1 hdg ht (kk p l e R s m args below meth c H locs cells slots mc ms ls D CA adE ad A hc ha hn hw hr hl)
theorem fr_swOut {dflt lo hi : Int} {offs : Array Int} {len : Nat} {x : Int32} (tgt : Nat) (hdg : decode Y.2.1 pc = .ok (.tableswitch dflt lo hi offs, len)) (h : x.toInt < lo ∨ hi < x.toInt) (ht : (pc : Int) + dflt = (tgt : Int)) (kk : Fr F g n0 Y d k tgt L S M P) : Fr F g n0 Y d k pc L (.int x :: S) M P := fun p l e R s m args below meth c H locs cells slots mc ms ls D CA adE ad A hc ha hn hw hr hl => lv_tableOut hc.1 hc.2.1 hdg h ht (kk p l e R s m args below meth c H locs cells slots mc ms ls D CA adE ad A hc ha hn hw hr hl)
theorem fr_swIn {dflt lo hi : Int} {offs : Array Int} {len : Nat} {x : Int32} {off : Int} (tgt : Nat) (hdg : decode Y.2.1 pc = .ok (.tableswitch dflt lo hi offs, len)) (h1 : ¬ x.toInt < lo) (h2 : ¬ hi < x.toInt) (ho : offs[(x.toInt - lo).toNat]? = some off) (ht : (pc : Int) + off = (tgt : Int)) (kk : Fr F g n0 Y d k tgt L S M P) : Fr F g n0 Y d k pc L (.int x :: S) M P := fun p l e R s m args below meth c H locs cells slots mc ms ls D CA adE ad A hc ha hn hw hr hl => lv_tableIn hc.1 hc.2.1 hdg h1 h2 ho ht (kk p l e R s m args below meth c H locs cells slots mc ms ls D CA adE ad A hc ha hn hw hr hl)
theorem fr_ifnonnull {x : Nat} {off : Int} (tgt : Nat) (hdg : decode Y.2.1 pc = .ok (.ifnonnull off, 3)) (ht : (pc : Int) + off = (tgt : Int)) (kk : Fr F g n0 Y d k tgt L S M P) : Fr F g n0 Y d k pc L (.ref x :: S) M P := fun p l e R s m args below meth c H locs cells slots mc ms ls D CA adE ad A hc ha hn hw hr hl => lv_ifnonnull hc.1 hc.2.1 hdg ht (kk p l e R s m args below meth c H locs cells slots mc ms ls D CA adE ad A hc ha hn hw hr hl)
theorem fr_loc {L' : List (Nat × Value)} (ks : List Nat) (h : lv_pick L ks = L') (kk : Fr F g n0 Y d k pc L' S M P) : Fr F g n0 Y d k pc L S M P := fun p l e R s m args below meth c H locs cells slots mc ms ls D CA adE ad A hc ha hn hw hr hl => kk p l e R s m args below meth c H locs cells slots mc ms ls D CA adE ad A hc ha hn hw hr (lv_sub hl ks (by subst h; simp only [lv_pick, lvc, List.map_filterMap, List.getElem?_map]))
theorem fr_room {d' k' : Nat} (hd : d' ≤ d) (hk : k' ≤ k) (kk : Fr F g n0 Y d' k' pc L S M P) : Fr F g n0 Y d k pc L S M P := fun p l e R s m args below meth c H locs cells slots mc ms ls D CA adE ad A hc ha hn hw hr hl => kk p l e R s m args below meth c H locs cells slots mc ms ls D CA adE ad A hc ha hn hw ⟨Nat.le_trans hd hr.1, Nat.le_trans (Nat.mul_le_mul_left 64 hd) hr.2.1, by have := hr.2.2.1; omega, by have := hr.2.2.2.1; omega, hr.2.2.2.2⟩ hl
theorem fr_iret {x : Int32} (hret : Y.2.2.2.1 = some .int) (hdg : decode Y.2.1 pc = .ok (.ireturn, 1)) (hP : P (.inl (some (.int x))) M) : Fr F g n0 Y d k pc L [.int x] M P := fun p l e R s m args below meth c H locs cells slots mc ms ls D CA adE ad A hc ha hn hw hr hl => W.widen (k := mc) (n := ms) (by have := hr.2.2.1; omega) (by have := hr.2.2.2.1; omega) (vx_ret (W.iret hc.1 hc.2.1 (hc.2.2.2.2.2.2.1.trans hret) (fun t ht hW => ⟨⟨(some (.int x)), M, ad, ha, hn, rfl, hP, by rw [ht]; exact hw.2.2.1, va_K.moved hW.alike hw.1, hw.2.2.2.1, hw.2.2.2.2.2.2⟩, hw.2.2.2.2.1.F ht⟩) hw.2.2.2.2.1.2.2 hdg hc.2.2.2.2.2.1))
theorem fr_zret {x : Int32} {ty : FieldType} (hn1 : narrow ty (.int x) = .int x) (hret : Y.2.2.2.1 = some ty) (hdg : decode Y.2.1 pc = .ok (.ireturn, 1)) (hP : P (.inl (some (.int x))) M) : Fr F g n0 Y d k pc L [.int x] M P := fun p l e R s m args below meth c H locs cells slots mc ms ls D CA adE ad A hc ha hn hw hr hl => W.widen (k := mc) (n := ms) (by have := hr.2.2.1; omega) (by have := hr.2.2.2.1; omega) (vx_ret (W.zret hc.1 hc.2.1 (hc.2.2.2.2.2.2.1.trans hret) hn1 (fun t ht hW => ⟨⟨(some (.int x)), M, ad, ha, hn, rfl, hP, by rw [ht]; exact hw.2.2.1, va_K.moved hW.alike hw.1, hw.2.2.2.1, hw.2.2.2.2.2.2⟩, hw.2.2.2.2.1.F ht⟩) hw.2.2.2.2.1.2.2 hdg hc.2.2.2.2.2.1))
theorem fr_lret {x : Int64} (hret : Y.2.2.2.1 = some .long) (hdg : decode Y.2.1 pc = .ok (.lreturn, 1)) (hP : P (.inl (some (.long x))) M) : Fr F g n0 Y d k pc L [.long x] M P := fun p l e R s m args below meth c H locs cells slots mc ms ls D CA adE ad A hc ha hn hw hr hl => W.widen (k := mc) (n := ms) (by have := hr.2.2.1; omega) (by have := hr.2.2.2.1; omega) (vx_ret (W.lret hc.1 hc.2.1 (hc.2.2.2.2.2.2.1.trans hret) (fun t ht hW => ⟨⟨(some (.long x)), M, ad, ha, hn, rfl, hP, by rw [ht]; exact hw.2.2.1, va_K.moved hW.alike hw.1, hw.2.2.2.1, hw.2.2.2.2.2.2⟩, hw.2.2.2.2.1.F ht⟩) hw.2.2.2.2.1.2.2 hdg hc.2.2.2.2.2.1))
theorem fr_dret {x : UInt64} (hret : Y.2.2.2.1 = some .double) (hdg : decode Y.2.1 pc = .ok (.dreturn, 1)) (hP : P (.inl (some (.double x))) M) : Fr F g n0 Y d k pc L [.double x] M P := fun p l e R s m args below meth c H locs cells slots mc ms ls D CA adE ad A hc ha hn hw hr hl => W.widen (k := mc) (n := ms) (by have := hr.2.2.1; omega) (by have := hr.2.2.2.1; omega) (vx_ret (W.dret hc.1 hc.2.1 (hc.2.2.2.2.2.2.1.trans hret) (fun t ht hW => ⟨⟨(some (.double x)), M, ad, ha, hn, rfl, hP, by rw [ht]; exact hw.2.2.1, va_K.moved hW.alike hw.1, hw.2.2.2.1, hw.2.2.2.2.2.2⟩, hw.2.2.2.2.1.F ht⟩) hw.2.2.2.2.1.2.2 hdg hc.2.2.2.2.2.1))
theorem fr_fret {x : UInt32} (hret : Y.2.2.2.1 = some .float) (hdg : decode Y.2.1 pc = .ok (.freturn, 1)) (hP : P (.inl (some (.float x))) M) : Fr F g n0 Y d k pc L [.float x] M P := fun p l e R s m args below meth c H locs cells slots mc ms ls D CA adE ad A hc ha hn hw hr hl => W.widen (k := mc) (n := ms) (by have := hr.2.2.1; omega) (by have := hr.2.2.2.1; omega) (vx_ret (W.fret hc.1 hc.2.1 (hc.2.2.2.2.2.2.1.trans hret) (fun t ht hW => ⟨⟨(some (.float x)), M, ad, ha, hn, rfl, hP, by rw [ht]; exact hw.2.2.1, va_K.moved hW.alike hw.1, hw.2.2.2.1, hw.2.2.2.2.2.2⟩, hw.2.2.2.2.1.F ht⟩) hw.2.2.2.2.1.2.2 hdg hc.2.2.2.2.2.1))
theorem fr_aret {x : Nat} {ty : FieldType} (hty : (∃ n, ty = .object n) ∨ ∃ t, ty = .array t) (hret : Y.2.2.2.1 = some ty) (hdg : decode Y.2.1 pc = .ok (.areturn, 1)) (hP : P (.inl (some (.ref x))) M) : Fr F g n0 Y d k pc L [.ref x] M P := fun p l e R s m args below meth c H locs cells slots mc ms ls D CA adE ad A hc ha hn hw hr hl => W.widen (k := mc) (n := ms) (by have := hr.2.2.1; omega) (by have := hr.2.2.2.1; omega) (vx_ret (W.aret hc.1 hc.2.1 (hc.2.2.2.2.2.2.1.trans hret) hty (Or.inr ⟨_, rfl⟩) (fun t ht hW => ⟨⟨(some (.ref x)), M, ad, ha, hn, rfl, hP, by rw [ht]; exact hw.2.2.1, va_K.moved hW.alike hw.1, hw.2.2.2.1, hw.2.2.2.2.2.2⟩, hw.2.2.2.2.1.F ht⟩) hw.2.2.2.2.1.2.2 hdg hc.2.2.2.2.2.1))
theorem fr_vret  (hret : Y.2.2.2.1 = none) (hdg : decode Y.2.1 pc = .ok (.return_, 1)) (hP : P (.inl none) M) : Fr F g n0 Y d k pc L [] M P := fun p l e R s m args below meth c H locs cells slots mc ms ls D CA adE ad A hc ha hn hw hr hl => W.widen (k := mc) (n := ms) (by have := hr.2.2.1; omega) (by have := hr.2.2.2.1; omega) (vx_ret (W.vret hc.1 hc.2.1 (hc.2.2.2.2.2.2.1.trans hret) (fun t ht hW => ⟨⟨none, M, ad, ha, hn, rfl, hP, by rw [ht]; exact hw.2.2.1, va_K.moved hW.alike hw.1, hw.2.2.2.1, hw.2.2.2.2.2.2⟩, hw.2.2.2.2.1.F ht⟩) hw.2.2.2.2.1.2.2 hdg hc.2.2.2.2.2.1))
end RW
end
section
/-! ===== rows over the cells ===== -/
/-- what a program decides of a kind -/
def Cb (ci : Nat) (C : String) (T : u_T) (N : Nat) (ty : Nat → FieldType) : Prop :=
  vwCl[ci]? = some (C, T, N) ∧ (∀ w ∈ u_ws C T N, w ∈ wsG) ∧ (∀ k, k < N → parseFieldDescriptor (T k).2.2.1 = some (ty k)) ∧ (∀ a, a < N → ∀ b, b < N → a ≠ b → (T a).2.1 ≠ (T b).2.1) ∧ nF ci = N ∧ ci < 100 ∧ ∀ j, j < N → defaultValue (ty j) = if isR ci j then .null else .int 0
theorem fsM_at {ad : Nat → Nat} {M : Mem} {a ci j : Nat} (hs : (mS M a).1 = ci) (hj : j < nF ci) : (fsM ad M a)[j]? = some (if isR ci j then cv ad (mP M a j) else .int (mI M a j)) := by
  unfold fsM
  rw [hs, List.getElem?_map, List.getElem?_range hj]
  rfl
theorem fsM_len {ad : Nat → Nat} {M : Mem} {a ci : Nat} (hs : (mS M a).1 = ci) : (fsM ad M a).length = nF ci := by
  unfold fsM
  rw [List.length_map, List.length_range, hs]
theorem ws_obj {CA : Nat → ClassId} {ad : Nat → Nat} {M : Mem} {a ci : Nat} (ha : a < mN M) (hs : (mS M a).1 = ci) (hc : ci < 100) : (wsM CA ad M)[a]? = some (ad a, .inr (ci, fsM ad M a)) := by
  rw [wsM_at ha]
  unfold cn
  rw [hs, if_pos hc]
theorem ws_int {CA : Nat → ClassId} {ad : Nat → Nat} {M : Mem} {a t n : Nat} (ha : a < mN M) (hs : mS M a = (t, n)) (h1 : 100 ≤ t) (h2 : t < 110) : (wsM CA ad M)[a]? = some (ad a, .inl (CA t, n, .inl (mI M a))) := by
  rw [wsM_at ha]
  unfold cn
  rw [hs, if_neg (show ¬ t < 100 by omega), if_pos h2]
theorem ws_long {CA : Nat → ClassId} {ad : Nat → Nat} {M : Mem} {a t n : Nat} (ha : a < mN M) (hs : mS M a = (t, n)) (h1 : 110 ≤ t) (h2 : t < 120) : (wsM CA ad M)[a]? = some (ad a, .inl (CA t, n, .inr (.inl (mL M a)))) := by
  rw [wsM_at ha]
  unfold cn
  rw [hs, if_neg (show ¬ t < 100 by omega), if_neg (show ¬ t < 110 by omega), if_pos h2]
theorem ws_ref {CA : Nat → ClassId} {ad : Nat → Nat} {M : Mem} {a t n : Nat} (ha : a < mN M) (hs : mS M a = (t, n)) (h1 : 120 ≤ t) : (wsM CA ad M)[a]? = some (ad a, .inl (CA t, n, .inr (.inr (.inr (.inr (fun j => rv ad (mP M a j))))))) := by
  rw [wsM_at ha]
  unfold cn
  rw [hs, if_neg (show ¬ t < 100 by omega), if_neg (show ¬ t < 110 by omega), if_neg (show ¬ t < 120 by omega)]
theorem cn_UI_n {CA : Nat → ClassId} {ad : Nat → Nat} {M : Mem} {a j i : Nat} {x : Int32} (h : i ≠ a) : cn CA ad (mUI M a j x) i = cn CA ad M i := by
  have e : mI (mUI M a j x) i = mI M i := funext fun b => u2_n (Or.inl h)
  unfold cn fsM
  rw [e]
  rfl
theorem cn_UL_n {CA : Nat → ClassId} {ad : Nat → Nat} {M : Mem} {a j i : Nat} {x : Int64} (h : i ≠ a) : cn CA ad (mUL M a j x) i = cn CA ad M i := by
  have e : mL (mUL M a j x) i = mL M i := funext fun b => u2_n (Or.inl h)
  unfold cn
  rw [e]
  rfl
theorem cn_UP_n {CA : Nat → ClassId} {ad : Nat → Nat} {M : Mem} {a j i : Nat} {x : Value} (h : i ≠ a) : cn CA ad (mUP M a j x) i = cn CA ad M i := by
  have e : mP (mUP M a j x) i = mP M i := funext fun b => u2_n (Or.inl h)
  unfold cn fsM
  rw [e]
  rfl
theorem fs_UI {ad : Nat → Nat} {M : Mem} {a ci j : Nat} {x : Int32} (hs : (mS M a).1 = ci) (hR : isR ci j = false) : fsM ad (mUI M a j x) a = (fsM ad M a).set j (.int x) := by
  apply List.ext_getElem?
  intro i
  rw [List.getElem?_set, fsM_len hs]
  by_cases hi : i < nF ci
  · rw [fsM_at (ci := ci) (show (mS (mUI M a j x) a).1 = ci from hs) hi, fsM_at hs hi]
    by_cases hj : j = i
    · subst hj
      rw [if_pos rfl, if_pos hi, hR]
      show some (Value.int (u2 _ a j x a j)) = _
      rw [u2_s]
    · rw [if_neg hj]
      show some (if isR ci i then cv ad (mP M a i) else Value.int (u2 _ a j x a i)) = _
      rw [u2_n (Or.inr (fun z => hj z.symm))]
      rfl
  · rw [List.getElem?_eq_none_iff.mpr (by rw [fsM_len (ci := ci) (show (mS (mUI M a j x) a).1 = ci from hs)]; omega), List.getElem?_eq_none_iff.mpr (by rw [fsM_len hs]; omega)]
    by_cases hj : j = i
    · subst hj; rw [if_pos rfl, if_neg hi]
    · rw [if_neg hj]
theorem fs_UP {ad : Nat → Nat} {M : Mem} {a ci j : Nat} {x : Value} (hs : (mS M a).1 = ci) (hR : isR ci j = true) : fsM ad (mUP M a j x) a = (fsM ad M a).set j (cv ad x) := by
  apply List.ext_getElem?
  intro i
  rw [List.getElem?_set, fsM_len hs]
  by_cases hi : i < nF ci
  · rw [fsM_at (ci := ci) (show (mS (mUP M a j x) a).1 = ci from hs) hi, fsM_at hs hi]
    by_cases hj : j = i
    · subst hj
      rw [if_pos rfl, if_pos hi, hR]
      show some (cv ad (u2 _ a j x a j)) = _
      rw [u2_s]
    · rw [if_neg hj]
      show some (if isR ci i then cv ad (u2 _ a j x a i) else Value.int (mI M a i)) = _
      rw [u2_n (Or.inr (fun z => hj z.symm))]
      rfl
  · rw [List.getElem?_eq_none_iff.mpr (by rw [fsM_len (ci := ci) (show (mS (mUP M a j x) a).1 = ci from hs)]; omega), List.getElem?_eq_none_iff.mpr (by rw [fsM_len hs]; omega)]
    by_cases hj : j = i
    · subst hj; rw [if_pos rfl, if_neg hi]
    · rw [if_neg hj]
theorem ws_UI_obj {CA : Nat → ClassId} {ad : Nat → Nat} {M : Mem} {a ci j : Nat} {x : Int32} (hs : (mS M a).1 = ci) (hc : ci < 100) (hR : isR ci j = false) : (wsM CA ad M).set a (ad a, .inr (ci, (fsM ad M a).set j (.int x))) = wsM CA ad (mUI M a j x) := by
  refine wsM_set rfl ?_ (fun i hi => cn_UI_n hi)
  rw [← fs_UI hs hR]
  unfold cn
  rw [show (mS (mUI M a j x) a).1 = ci from hs, if_pos hc]
theorem ws_UP_obj {CA : Nat → ClassId} {ad : Nat → Nat} {M : Mem} {a ci j : Nat} {x : Value} (hs : (mS M a).1 = ci) (hc : ci < 100) (hR : isR ci j = true) : (wsM CA ad M).set a (ad a, .inr (ci, (fsM ad M a).set j (cv ad x))) = wsM CA ad (mUP M a j x) := by
  refine wsM_set rfl ?_ (fun i hi => cn_UP_n hi)
  rw [← fs_UP hs hR]
  unfold cn
  rw [show (mS (mUP M a j x) a).1 = ci from hs, if_pos hc]
theorem ws_UI_arr {CA : Nat → ClassId} {ad : Nat → Nat} {M : Mem} {a t n j : Nat} {x : Int32} (hs : mS M a = (t, n)) (h1 : 100 ≤ t) (h2 : t < 110) : (wsM CA ad M).set a (ad a, .inl (CA t, n, .inl (upd (mI M a) j x))) = wsM CA ad (mUI M a j x) := by
  refine wsM_set rfl ?_ (fun i hi => cn_UI_n hi)
  unfold cn
  rw [show mS (mUI M a j x) a = (t, n) from hs, if_neg (show ¬ t < 100 by omega), if_pos h2]
  have e : mI (mUI M a j x) a = upd (mI M a) j x := by
    funext b
    show u2 _ a j x a b = upd (mI M a) j x b
    unfold u2 upd
    simp only [true_and]
    rfl
  rw [e]
theorem ws_UL_arr {CA : Nat → ClassId} {ad : Nat → Nat} {M : Mem} {a t n j : Nat} {x : Int64} (hs : mS M a = (t, n)) (h1 : 110 ≤ t) (h2 : t < 120) : (wsM CA ad M).set a (ad a, .inl (CA t, n, .inr (.inl (vp_updL (mL M a) j x)))) = wsM CA ad (mUL M a j x) := by
  refine wsM_set rfl ?_ (fun i hi => cn_UL_n hi)
  unfold cn
  rw [show mS (mUL M a j x) a = (t, n) from hs, if_neg (show ¬ t < 100 by omega), if_neg (show ¬ t < 110 by omega), if_pos h2]
  have e : mL (mUL M a j x) a = vp_updL (mL M a) j x := by
    funext b
    show u2 _ a j x a b = vp_updL (mL M a) j x b
    unfold u2 vp_updL
    simp only [true_and]
    rfl
  rw [e]
theorem ws_UP_arr {CA : Nat → ClassId} {ad : Nat → Nat} {M : Mem} {a t n j v : Nat} (hs : mS M a = (t, n)) (h1 : 120 ≤ t) : (wsM CA ad M).set a (ad a, .inl (CA t, n, .inr (.inr (.inr (.inr (va_up (fun i => rv ad (mP M a i)) j (some (ad v)))))))) = wsM CA ad (mUP M a j (.ref v)) := by
  refine wsM_set rfl ?_ (fun i hi => cn_UP_n hi)
  unfold cn
  rw [show mS (mUP M a j (.ref v)) a = (t, n) from hs, if_neg (show ¬ t < 100 by omega), if_neg (show ¬ t < 110 by omega), if_neg (show ¬ t < 120 by omega)]
  have e : (fun i => rv ad (mP (mUP M a j (.ref v)) a i)) = va_up (fun i => rv ad (mP M a i)) j (some (ad v)) := by
    funext b
    show rv ad (u2 _ a j (.ref v) a b) = va_up (fun i => rv ad (mP M a i)) j (some (ad v)) b
    unfold u2 va_up
    by_cases hb : b = j
    · simp [hb, rv]
    · simp [hb]
      rfl
  rw [e]
theorem Mok_UI {M : Mem} {a j : Nat} {x : Int32} (h : Mok M) : Mok (mUI M a j x) := h
theorem Mok_UL {M : Mem} {a j : Nat} {x : Int64} (h : Mok M) : Mok (mUL M a j x) := h
theorem Mok_UP {M : Mem} {a j : Nat} {x : Value} (h : Mok M) (hx : clo (mN M) x = true) : Mok (mUP M a j x) := by
  refine ⟨h.1, fun k i hk => ?_⟩
  show clo (mN M) (u2 _ a j x k i) = true
  unfold u2
  split
  · exact hx
  · exact h.2 k i hk
section HP
variable {F : ROF} {g : Bool} {n0 : Nat} {Y : MD} {d k pc : Nat} {L : List (Nat × Value)} {S : List Value} {M : Mem} {P : Res → Mem → Prop}
theorem fr_getf {ci N idx a : Nat} {C : String} {T : u_T} {ty : Nat → FieldType} (hB : Cb ci C T N ty) (j : Nat) {v : Value} (hs : (mS M a).1 = ci) (hM : a < mN M) (hj : j < N) (hk : Jvm.Cond.fieldLink Y.1.cls idx C (T j).2.1 (T j).2.2.1 ∈ wsG) (hC : (T j).1 = C) (hdg : decode Y.2.1 pc = .ok (.getfield idx, 3)) (hv : (if isR ci j then mP M a j else .int (mI M a j)) = v)
    (kk : Fr F g n0 Y d k (pc + 3) L (v :: S) M P) : Fr F g n0 Y d k pc L (.ref a :: S) M P := by
  intro p l e R s m args below meth c H locs cells slots mc ms ls D CA adE ad A hc ha hn hw hr hl
  obtain ⟨b1, b2, b3, b4, b5, b6, b7⟩ := hB
  refine va_get hc.1 hc.2.1 hc.2.2.2.2.1 b2 hc.2.2.2.1 hw.1 hw.2.2.1 a (ws_obj hM hs b6) b1 j hj (hc.2.2.2.2.1 _ hk) (by rw [hC]; exact fun x h => h) (v := cv ad v) ?_ hdg (kk p l e R s m args below meth c H locs cells slots mc ms ls D CA adE ad A hc ha hn hw hr hl)
  rw [fsM_at hs (by rw [b5]; exact hj), ← hv]
  cases isR ci j <;> rfl
theorem fr_putI {ci N idx a : Nat} {C : String} {T : u_T} {ty : Nat → FieldType} (hB : Cb ci C T N ty) (j : Nat) {x : Int32} (hs : (mS M a).1 = ci) (hM : a < mN M) (hj : j < N) (hk : Jvm.Cond.fieldLink Y.1.cls idx C (T j).2.1 (T j).2.2.1 ∈ wsG) (hC : (T j).1 = C) (hf : (T j).2.2.2 = false) (hR : isR ci j = false) (hn1 : narrow (ty j) (.int x) = .int x) (hf1 : fits (ty j) (.int x) = true) (hdg : decode Y.2.1 pc = .ok (.putfield idx, 3))
    (kk : Fr F g n0 Y d k (pc + 3) L S (mUI M a j x) P) : Fr F g n0 Y d k pc L (.int x :: .ref a :: S) M P := by
  intro p l e R s m args below meth c H locs cells slots mc ms ls D CA adE ad A hc ha hn hw hr hl
  obtain ⟨b1, b2, b3, b4, b5, b6, b7⟩ := hB
  refine va_put (v := .int x) hc.1 hc.2.1 hc.2.2.2.2.1 b2 ty b3 b4 hc.2.2.2.1 hw.1 hw.2.2.1 hw.2.2.2.1 hw.2.2.2.2.1 a (ws_obj hM hs b6) b1 j hj (hc.2.2.2.2.1 _ hk) (by rw [hC]; exact fun x h => h) hf (b3 j hj) hn1 hf1 (by rw [fsM_len hs, b5]; exact hj) hdg (fun H1 locs1 hP hD hS => ?_)
  rw [ws_UI_obj hs b6 hR] at hP hD
  exact kk p l e R s m args below meth c H1 locs1 cells slots mc ms ls D CA adE ad A hc ha hn ⟨hw.1, hw.2.1, hP, hD, hS, hw.2.2.2.2.2.1, Mok_UI hw.2.2.2.2.2.2⟩ hr hl
theorem fr_putP {ci N idx a : Nat} {C : String} {T : u_T} {ty : Nat → FieldType} (hB : Cb ci C T N ty) (j : Nat) {x : Value} (hs : (mS M a).1 = ci) (hM : a < mN M) (hj : j < N) (hk : Jvm.Cond.fieldLink Y.1.cls idx C (T j).2.1 (T j).2.2.1 ∈ wsG) (hC : (T j).1 = C) (hf : (T j).2.2.2 = true) (hin : Y.1.name = "<init>") (hdc : (T j).1 = Y.1.cls) (hR : isR ci j = true) (hn1 : ∀ q : Nat, narrow (ty j) (.ref q) = .ref q ∧ fits (ty j) (.ref q) = true) {v : Nat} (hx : x = .ref v) (hcl : clo (mN M) x = true) (hdg : decode Y.2.1 pc = .ok (.putfield idx, 3))
    (kk : Fr F g n0 Y d k (pc + 3) L S (mUP M a j x) P) : Fr F g n0 Y d k pc L (x :: .ref a :: S) M P := by
  intro p l e R s m args below meth c H locs cells slots mc ms ls D CA adE ad A hc ha hn hw hr hl
  obtain ⟨b1, b2, b3, b4, b5, b6, b7⟩ := hB
  refine va_putF (v := cv ad x) hc.1 hc.2.1 hc.2.2.2.2.1 b2 ty b3 b4 hc.2.2.2.1 hw.1 hw.2.2.1 hw.2.2.2.1 hw.2.2.2.2.1 a (ws_obj hM hs b6) b1 j hj (hc.2.2.2.2.1 _ hk) (by rw [hC]; exact fun x h => h) hf (hc.2.2.2.2.2.2.2.2.2.trans hin) hdc (b3 j hj) (by rw [hx]; exact (hn1 _).1) (by rw [hx]; exact (hn1 _).2) (by rw [fsM_len hs, b5]; exact hj) hdg (fun H1 locs1 hP hD hS => ?_)
  rw [ws_UP_obj hs b6 hR] at hP hD
  exact kk p l e R s m args below meth c H1 locs1 cells slots mc ms ls D CA adE ad A hc ha hn ⟨hw.1, hw.2.1, hP, hD, hS, hw.2.2.2.2.2.1, Mok_UP hw.2.2.2.2.2.2 hcl⟩ hr hl
theorem fr_iaload {a n : Nat} {i : Int32} (hs : mS M a = (100, n)) (hM : a < mN M) (hin : vp_in i n) (hdg : decode Y.2.1 pc = .ok (.iaload, 1)) (kk : Fr F g n0 Y d k (pc + 1) L (.int (mI M a i.toNatClampNeg) :: S) M P) : Fr F g n0 Y d k pc L (.int i :: .ref a :: S) M P := by
  intro p l e R s m args below meth c H locs cells slots mc ms ls D CA adE ad A hc ha hn hw hr hl
  exact va_iald hc.1 hc.2.1 hw.1 hw.2.2.1 a 0 (ws_int hM hs (by decide) (by decide)) rfl hin hdg (kk p l e R s m args below meth c H locs cells slots mc ms ls D CA adE ad A hc ha hn hw hr hl)
theorem fr_caload {a n : Nat} {i : Int32} (hs : mS M a = (101, n)) (hM : a < mN M) (hin : vp_in i n) (hdg : decode Y.2.1 pc = .ok (.caload, 1)) (kk : Fr F g n0 Y d k (pc + 1) L (.int (mI M a i.toNatClampNeg) :: S) M P) : Fr F g n0 Y d k pc L (.int i :: .ref a :: S) M P := by
  intro p l e R s m args below meth c H locs cells slots mc ms ls D CA adE ad A hc ha hn hw hr hl
  exact va_cald hc.1 hc.2.1 hw.1 hw.2.2.1 a 1 (ws_int hM hs (by decide) (by decide)) rfl hin hdg (kk p l e R s m args below meth c H locs cells slots mc ms ls D CA adE ad A hc ha hn hw hr hl)
theorem fr_baload {a n : Nat} {i : Int32} (hs : mS M a = (102, n)) (hM : a < mN M) (hin : vp_in i n) (hdg : decode Y.2.1 pc = .ok (.baload, 1)) (kk : Fr F g n0 Y d k (pc + 1) L (.int (mI M a i.toNatClampNeg) :: S) M P) : Fr F g n0 Y d k pc L (.int i :: .ref a :: S) M P := by
  intro p l e R s m args below meth c H locs cells slots mc ms ls D CA adE ad A hc ha hn hw hr hl
  exact va_bald hc.1 hc.2.1 hw.1 hw.2.2.1 a 2 (ws_int hM hs (by decide) (by decide)) rfl hin hdg (kk p l e R s m args below meth c H locs cells slots mc ms ls D CA adE ad A hc ha hn hw hr hl)
theorem fr_laload {a n : Nat} {i : Int32} (hs : mS M a = (110, n)) (hM : a < mN M) (hin : vp_in i n) (hdg : decode Y.2.1 pc = .ok (.laload, 1)) (kk : Fr F g n0 Y d k (pc + 1) L (.long (mL M a i.toNatClampNeg) :: S) M P) : Fr F g n0 Y d k pc L (.int i :: .ref a :: S) M P := by
  intro p l e R s m args below meth c H locs cells slots mc ms ls D CA adE ad A hc ha hn hw hr hl
  exact va_lald hc.1 hc.2.1 hw.1 hw.2.2.1 a 3 (ws_long hM hs (by decide) (by decide)) rfl hin hdg (kk p l e R s m args below meth c H locs cells slots mc ms ls D CA adE ad A hc ha hn hw hr hl)
theorem fr_aaload {a n t q : Nat} {i : Int32} (ht : t = 120 ∨ t = 121) (hs : mS M a = (t, n)) (hM : a < mN M) (hin : vp_in i n) (hv : mP M a i.toNatClampNeg = .ref q) (hdg : decode Y.2.1 pc = .ok (.aaload, 1)) (kk : Fr F g n0 Y d k (pc + 1) L (.ref q :: S) M P) : Fr F g n0 Y d k pc L (.int i :: .ref a :: S) M P := by
  intro p l e R s m args below meth c H locs cells slots mc ms ls D CA adE ad A hc ha hn hw hr hl
  have h1 := kk p l e R s m args below meth c H locs cells slots mc ms ls D CA adE ad A hc ha hn hw hr hl
  have e1 : va_rf (rv ad (mP M a i.toNatClampNeg)) = .ref (ad q) := by rw [hv]; rfl
  have h2 : W p l e R s m args below meth c H locs cells slots (vx_MQ below (QcG g n0 D CA adE A P) (XcG g n0 D CA adE A P) args s mc ms A) (F0 m (pc + 1) ls (va_rf (rv ad (mP M a i.toNatClampNeg)) :: S.map (cv ad))) := by rw [e1]; exact h1
  rcases ht with rfl | rfl
  · exact va_aldq hc.1 hc.2.1 hw.1 hw.2.2.1 a 4 (ws_ref hM hs (by decide)) rfl hin hdg h2
  · exact va_aldq hc.1 hc.2.1 hw.1 hw.2.2.1 a 5 (ws_ref hM hs (by decide)) rfl hin hdg h2
theorem fr_iastore {a n : Nat} {i x : Int32} (hs : mS M a = (100, n)) (hM : a < mN M) (hin : vp_in i n) (hdg : decode Y.2.1 pc = .ok (.iastore, 1)) (kk : Fr F g n0 Y d k (pc + 1) L S (mUI M a i.toNatClampNeg x) P) : Fr F g n0 Y d k pc L (.int x :: .int i :: .ref a :: S) M P := by
  intro p l e R s m args below meth c H locs cells slots mc ms ls D CA adE ad A hc ha hn hw hr hl
  refine va_iast hc.1 hc.2.1 hw.1 hw.2.2.1 hw.2.2.2.1 hw.2.2.2.2.1 a 0 (ws_int hM hs (by decide) (by decide)) rfl hin hdg (fun H1 locs1 hP hD hS => ?_)
  rw [ws_UI_arr hs (by decide) (by decide)] at hP hD
  exact kk p l e R s m args below meth c H1 locs1 cells slots mc ms ls D CA adE ad A hc ha hn ⟨hw.1, hw.2.1, hP, hD, hS, hw.2.2.2.2.2.1, Mok_UI hw.2.2.2.2.2.2⟩ hr hl
theorem fr_castore {a n : Nat} {i x y : Int32} (hs : mS M a = (101, n)) (hM : a < mN M) (hin : vp_in i n) (hy : vp_nar .char x = y) (hdg : decode Y.2.1 pc = .ok (.castore, 1)) (kk : Fr F g n0 Y d k (pc + 1) L S (mUI M a i.toNatClampNeg y) P) : Fr F g n0 Y d k pc L (.int x :: .int i :: .ref a :: S) M P := by
  intro p l e R s m args below meth c H locs cells slots mc ms ls D CA adE ad A hc ha hn hw hr hl
  refine va_cast hc.1 hc.2.1 hw.1 hw.2.2.1 hw.2.2.2.1 hw.2.2.2.2.1 a 1 (ws_int hM hs (by decide) (by decide)) rfl hin hdg (fun H1 locs1 hP hD hS => ?_)
  rw [ws_UI_arr hs (by decide) (by decide), hy] at hP hD
  exact kk p l e R s m args below meth c H1 locs1 cells slots mc ms ls D CA adE ad A hc ha hn ⟨hw.1, hw.2.1, hP, hD, hS, hw.2.2.2.2.2.1, Mok_UI hw.2.2.2.2.2.2⟩ hr hl
theorem fr_bastore {a n : Nat} {i x y : Int32} (hs : mS M a = (102, n)) (hM : a < mN M) (hin : vp_in i n) (hy : vp_nar .byte x = y) (hdg : decode Y.2.1 pc = .ok (.bastore, 1)) (kk : Fr F g n0 Y d k (pc + 1) L S (mUI M a i.toNatClampNeg y) P) : Fr F g n0 Y d k pc L (.int x :: .int i :: .ref a :: S) M P := by
  intro p l e R s m args below meth c H locs cells slots mc ms ls D CA adE ad A hc ha hn hw hr hl
  refine va_bast hc.1 hc.2.1 hw.1 hw.2.2.1 hw.2.2.2.1 hw.2.2.2.2.1 a 2 (ws_int hM hs (by decide) (by decide)) rfl hin hdg (fun H1 locs1 hP hD hS => ?_)
  rw [ws_UI_arr hs (by decide) (by decide), hy] at hP hD
  exact kk p l e R s m args below meth c H1 locs1 cells slots mc ms ls D CA adE ad A hc ha hn ⟨hw.1, hw.2.1, hP, hD, hS, hw.2.2.2.2.2.1, Mok_UI hw.2.2.2.2.2.2⟩ hr hl
theorem fr_lastore {a n : Nat} {i : Int32} {x : Int64} (hs : mS M a = (110, n)) (hM : a < mN M) (hin : vp_in i n) (hdg : decode Y.2.1 pc = .ok (.lastore, 1)) (kk : Fr F g n0 Y d k (pc + 1) L S (mUL M a i.toNatClampNeg x) P) : Fr F g n0 Y d k pc L (.long x :: .int i :: .ref a :: S) M P := by
  intro p l e R s m args below meth c H locs cells slots mc ms ls D CA adE ad A hc ha hn hw hr hl
  refine va_last hc.1 hc.2.1 hw.1 hw.2.2.1 hw.2.2.2.1 hw.2.2.2.2.1 a 3 (ws_long hM hs (by decide) (by decide)) rfl hin hdg (fun H1 locs1 hP hD hS => ?_)
  rw [ws_UL_arr hs (by decide) (by decide)] at hP hD
  exact kk p l e R s m args below meth c H1 locs1 cells slots mc ms ls D CA adE ad A hc ha hn ⟨hw.1, hw.2.1, hP, hD, hS, hw.2.2.2.2.2.1, Mok_UL hw.2.2.2.2.2.2⟩ hr hl
theorem fr_aastore {a n t v ci N : Nat} {i : Int32} {C : String} {T : u_T} {ty : Nat → FieldType} (hB : Cb ci C T N ty) (ht : (t = 120 ∧ C = "MapHall$Sheet") ∨ (t = 121 ∧ C = "MapHall$State")) (hs : mS M a = (t, n)) (hM : a < mN M) (hin : vp_in i n) (hv : (mS M v).1 = ci) (hMv : v < mN M) (hdg : decode Y.2.1 pc = .ok (.aastore, 1)) (kk : Fr F g n0 Y d k (pc + 1) L S (mUP M a i.toNatClampNeg (.ref v)) P) : Fr F g n0 Y d k pc L (.ref v :: .int i :: .ref a :: S) M P := by
  intro p l e R s m args below meth c H locs cells slots mc ms ls D CA adE ad A hc ha hn hw hr hl
  obtain ⟨b1, b2, b3, b4, b5, b6, b7⟩ := hB
  have hcl : clo (mN M) (.ref v) = true := by simp [clo, hMv]
  have key : ∀ t0 : Nat, (tyL CA)[t0]? = some (CA t, .object C) → 120 ≤ t → W p l e R s m args below meth c H locs cells slots (vx_MQ below (QcG g n0 D CA adE A P) (XcG g n0 D CA adE A P) args s mc ms A) (F0 m pc ls ((Value.ref v :: .int i :: .ref a :: S).map (cv ad))) := by
    intro t0 h0 h1
    refine va_astq (r := (C, T, N)) hc.1 hc.2.1 hw.1 hw.2.2.1 hw.2.2.2.1 hw.2.2.2.2.1 a t0 v ci (ws_ref hM hs h1) h0 (ws_obj hMv hv b6) b1 hin hdg (fun H1 locs1 hP hD hS => ?_)
    rw [ws_UP_arr hs h1] at hP hD
    exact kk p l e R s m args below meth c H1 locs1 cells slots mc ms ls D CA adE ad A hc ha hn ⟨hw.1, hw.2.1, hP, hD, hS, hw.2.2.2.2.2.1, Mok_UP hw.2.2.2.2.2.2 hcl⟩ hr hl
  rcases ht with ⟨rfl, rfl⟩ | ⟨rfl, rfl⟩
  · exact key 4 rfl (by decide)
  · exact key 5 rfl (by decide)
theorem fr_alen {a n t : Nat} {v : Int32} (t0 : Nat) {ty : FieldType} (ht : tyT[t0]? = some (t, ty)) (h1 : 100 ≤ t) (hs : mS M a = (t, n)) (hM : a < mN M) (hv : Int32.ofNat n = v) (hdg : decode Y.2.1 pc = .ok (.arraylength, 1)) (kk : Fr F g n0 Y d k (pc + 1) L (.int v :: S) M P) : Fr F g n0 Y d k pc L (.ref a :: S) M P := by
  intro p l e R s m args below meth c H locs cells slots mc ms ls D CA adE ad A hc ha hn hw hr hl
  have ht2 : (tyL CA)[t0]? = some (CA t, ty) := by unfold tyL; rw [List.getElem?_map, ht]; rfl
  have h2 := kk p l e R s m args below meth c H locs cells slots mc ms ls D CA adE ad A hc ha hn hw hr hl
  by_cases c1 : t < 110
  · exact va_alen (x := (n, .inl (mI M a))) hc.1 hc.2.1 hw.1 hw.2.2.1 a t0 (ws_int hM hs h1 c1) ht2 hv hdg h2
  · by_cases c2 : t < 120
    · exact va_alen (x := (n, .inr (.inl (mL M a)))) hc.1 hc.2.1 hw.1 hw.2.2.1 a t0 (ws_long hM hs (by omega) c2) ht2 hv hdg h2
    · exact va_alen (x := (n, .inr (.inr (.inr (.inr (fun j => rv ad (mP M a j))))))) hc.1 hc.2.1 hw.1 hw.2.2.1 a t0 (ws_ref hM hs (by omega)) ht2 hv hdg h2
end HP
end
section
/-! ===== calls, ends by a throw, handlers ===== -/
theorem PcG_blind (F : ROF) (D : va_G) (CA : Nat → ClassId) (ad : Nat → Nat) (sz : Nat) (as : List Value) (M : Mem) : FrameBlind (PcG F D CA ad sz as M) := by
  intro a U g mk q
  obtain ⟨q0, q1, qP, qK, qD, qO, qZ⟩ := q
  exact ⟨q0, q1, qP, va_K.moved (u := U) (U := U.calling g mk a) (Vm.Alike.refl U.vm) qK, qD, qO, qZ.calling⟩
theorem Wd_free {F : ROF} {D : va_G} {CA : Nat → ClassId} {ad : Nat → Nat} {A : Nat → Prop} {M : Mem} {s : State} {H : Heap} {locs : List Loc} (hw : Wd F D CA ad A M s H locs) : ∀ q, va_A (wsM CA ad M) H.size q → A q := by
  intro q h
  rcases h with ⟨k, e, h⟩ | h
  · exact hw.2.2.2.1.2 k _ h
  · exact hw.2.2.2.2.2.1 q (Nat.le_trans hw.2.2.2.2.1.1 h)
theorem PcG_now {F : ROF} {D : va_G} {CA : Nat → ClassId} {ad : Nat → Nat} {A : Nat → Prop} {M : Mem} {s : State} {H : Heap} {locs : List Loc} (as : List Value) (hw : Wd F D CA ad A M s H locs) : ∀ U : State, U.heap = H → s.WarmedH U.vm → PcG F D CA ad H.size as M (as.map (cv ad)).toArray U := by
  intro U hU hW
  refine ⟨rfl, by rw [hU], by rw [hU]; exact hw.2.2.1, va_K.moved hW.alike hw.1, hw.2.2.2.1.weaken (fun _ _ _ _ => trivial), hw.2.2.2.2.2.2, ?_⟩
  rw [hU]
  exact ((hw.2.1.kept hw.2.2.2.2.1.2.1).narrow (Wd_free hw)).warm hW
theorem wsY_good {Y : MD} (h : cdW Y ∈ wsG) : GoodIn wsG (wsY Y) := by
  intro w hw
  rcases List.mem_cons.mp hw with rfl | hw
  · exact ⟨h, wsG_good h⟩
  · exact ⟨hw, wsG_good hw⟩
theorem wsY_code {Y : MD} (h : Y.2.2.2.2 = []) : wsY Y = Cond.code Y.1 Y.2.1 Y.2.2.1 Y.2.2.2.1 :: wsG := by unfold wsY cdW; rw [h]; rfl
theorem wsY_codeWith {Y : MD} (h : Y.2.2.2.2.isEmpty = false) : wsY Y = Cond.codeWith Y.1 Y.2.1 Y.2.2.1 Y.2.2.2.1 Y.2.2.2.2 :: wsG := by unfold wsY cdW; rw [h]; rfl
def rob (v : Value) : Prop := match v with
  | .ref k => ROB ≤ k
  | _ => True
/-- all that nobody writes has numbers from ROB on -/
def Fok (F : ROF) : Prop := (∀ q ∈ fZ F, rob q.2.2.2) ∧ (∀ q ∈ fT F, ROB ≤ q.2.1 ∧ ∀ j, rob (q.2.2.2 j)) ∧ (∀ q ∈ fO F, ROB ≤ q.2) ∧ (∀ q ∈ fF F, rob q.2.2.2.1 ∧ ROB ≤ q.2.2.2.2) ∧ (∀ q ∈ fS F, ROB ≤ q.2.2.2)
theorem cv_rob {a b : Nat → Nat} {v : Value} (h : ∀ i, ROB ≤ i → a i = b i) (hv : rob v) : cv a v = cv b v := by
  cases v <;> try rfl
  exact congrArg Value.ref (h _ hv)
theorem Zr.ad {F : ROF} {a b : Nat → Nat} {A : Nat → Prop} {U : State} {H : Heap} (hF : Fok F) (h : ∀ i, ROB ≤ i → a i = b i) (hZ : Zr F b A U H) : Zr F a A U H := by
  obtain ⟨h1, h2, h3, h4, h5, h6, h7, h8⟩ := hZ
  obtain ⟨f1, f2, f3, f4, f5⟩ := hF
  refine ⟨h1, h2, fun q hq => ?_, fun q hq => ?_, fun q hq => ?_, fun q hq => ?_, fun q hq => ?_, h8⟩
  · rw [cv_rob h (f1 q hq)]; exact h3 q hq
  · rw [h _ (f2 q hq).1, show (fun j => cv a (q.2.2.2 j)) = (fun j => cv b (q.2.2.2 j)) from funext fun j => cv_rob h ((f2 q hq).2 j)]; exact h4 q hq
  · rw [h _ (f3 q hq)]; exact h5 q hq
  · rw [cv_rob h (f4 q hq).1, h _ (f4 q hq).2]; exact h6 q hq
  · rw [h _ (f5 q hq)]; exact h7 q hq
theorem cv_clo {a b : Nat → Nat} {n : Nat} {v : Value} (h : ∀ i, i < n ∨ ROB ≤ i → a i = b i) (hv : clo n v = true) : cv a v = cv b v := by
  cases v <;> try rfl
  rename_i k
  have : k < n ∨ ROB ≤ k := by simpa [clo] using hv
  exact congrArg Value.ref (h k this)
def clLS (n : Nat) (L : List (Nat × Value)) (S : List Value) : Bool := L.all (fun q => clo n q.2) && S.all (clo n)
theorem clLS_L {a b : Nat → Nat} {n : Nat} {L : List (Nat × Value)} {S : List Value} (h : ∀ i, i < n ∨ ROB ≤ i → a i = b i) (hc : clLS n L S = true) : lvc a L = lvc b L ∧ S.map (cv a) = S.map (cv b) := by
  simp only [clLS, Bool.and_eq_true, List.all_eq_true] at hc
  refine ⟨List.map_congr_left fun q hq => ?_, List.map_congr_left fun v hv => cv_clo h (hc.2 v hv)⟩
  rw [cv_clo h (hc.1 q hq)]
theorem agr.use {n0 : Nat} {a b : Nat → Nat} (h : agr true n0 a b) : ∀ i, i < n0 ∨ ROB ≤ i → a i = b i := h
/-- behind a call, whatever came of it -/
theorem fr_fin {F : ROF} {g g1 : Bool} {n0 : Nat} {Y : MD} {d k k1 k2 pc : Nat} {L : List (Nat × Value)} {S : List Value} {M : Mem} {P P1 : Res → Mem → Prop} {p : Program} {l : Launch} {e : Env} {R : Room} {s : State} {m : MethodId} {args : Array Value} {below : List Frame} {meth : Method} {c : Code} {H : Heap} {locs : List Loc} {cells slots mc ms : Nat} {ls : Array Slot} {D : va_G} {CA : Nat → ClassId} {adE ad : Nat → Nat} {A : Nat → Prop} {st0 : List Value} {a : Array Value}
    (hc : Cx Y p l s m args meth c) (ha : agr g n0 ad adE) (hn : n0 ≤ mN M) (hw : Wd F D CA ad A M s H locs) (hr : Rm d k R cells slots mc ms) (hl : lv_has ls Y.2.2.1 (lvc ad L)) (hk : k1 + k2 ≤ k)
    (hgr : g1 = false ∨ (g = true ∧ clLS (mN M) L S = true ∧ Fok F))
    (kr : ∀ v M', P1 (.inl v) M' → mN M ≤ mN M' → Fr F g n0 Y d k2 (pc + 3) L (v.toList ++ S) M' P) (kx : ∀ E M', P1 (.inr E) M' → mN M ≤ mN M' → Fx F g n0 Y d k2 pc L M' E P)
    (hrun : vx_Run p l e R s m args below meth c H locs cells slots k1 (64 * k1) (F0 m pc ls st0) (S.map (cv ad)) (QcG g1 (mN M) D CA ad (va_A (wsM CA ad M) H.size) P1 a) (XcG g1 (mN M) D CA ad (va_A (wsM CA ad M) H.size) P1) (va_A (wsM CA ad M) H.size)) :
    W p l e R s m args below meth c H locs cells slots (vx_MQ below (QcG g n0 D CA adE A P) (XcG g n0 D CA adE A P) args s mc ms A) (F0 m pc ls st0) := by
  have hA1 := Wd_free hw
  have hS := hw.2.2.2.2.1
  have hr2 : Rm d k2 R (cells + k1) (slots + 64 * k1) mc ms := ⟨hr.1, hr.2.1, by have := hr.2.2.1; omega, by have := hr.2.2.2.1; omega, hr.2.2.2.2⟩
  have key : ∀ ad', agr g1 (mN M) ad' ad → lvc ad' L = lvc ad L ∧ S.map (cv ad') = S.map (cv ad) ∧ agr g n0 ad' adE ∧ Zr F ad' A s s.heap := by
    intro ad' h1
    rcases hgr with rfl | ⟨rfl, hcl, hF⟩
    · have e1 : ad' = ad := h1
      subst e1
      exact ⟨rfl, rfl, ha, hw.2.1⟩
    · have h2 : ∀ i, i < mN M ∨ ROB ≤ i → ad' i = ad i := by
        cases g1
        · intro i _; rw [show ad' = ad from h1]
        · exact h1
      obtain ⟨e1, e2⟩ := clLS_L h2 hcl
      exact ⟨e1, e2, agr.tr (g := true) hn h2 ha, hw.2.1.ad hF (fun i hi => h2 i (Or.inr hi))⟩
  intro T hT X
  rcases hrun T hT X with ⟨v, st₀, t, T', Lx, h0, X', hL, e1, e2, ⟨⟨v', M', ad', q1, q2, hv, q3, q4, q5, q6, q7⟩, hF⟩, st⟩ | ⟨q, st₀, t, T', Lx, E, ce, h0, X', hL, e1, e2, ⟨⟨M', ad', q1, q2, q3, q4, q5, q6, q7⟩, hF⟩, hce, hcv, hcl, st⟩
  · cases hv
    obtain ⟨k1', k2', k3'⟩ := vx_keep h0 e1 hS (fun q _ h => hA1 q h) hA1 hL hF
    obtain ⟨y1, y2, y3, y4⟩ := key ad' q1
    have h9 := kr v' M' q3 q2 p l e R s m args below meth c T'.heap (locs ++ Lx) (cells + k1) (slots + 64 * k1) mc ms ls D CA adE ad' A hc y3 (Nat.le_trans hn q2) ⟨hw.1, y4, by rw [e1]; exact q4, q6.weaken (fun _ _ _ h => hA1 _ h), k3', hw.2.2.2.2.2.1, q7⟩ hr2 (by rw [y1]; exact hl)
    obtain ⟨t2, a1, b1⟩ := h9 T' rfl X'
    refine ⟨t2, st t2 ?_, b1⟩
    rw [List.map_append, y2] at a1
    cases v' <;> exact a1
  · obtain ⟨k1', k2', k3'⟩ := vx_keep h0 e1 hS (fun q _ h => hA1 q h) hA1 hL hF
    obtain ⟨y1, y2, y3, y4⟩ := key ad' q1
    have h9 := kx E M' q3 q2 p l e R s m args below meth c T'.heap (locs ++ Lx) (cells + k1) (slots + 64 * k1) mc ms ls D CA adE ad' A (S.map (cv ad)) q ce hc y3 (Nat.le_trans hn q2) ⟨hw.1, y4, by rw [e1]; exact q4, q6.weaken (fun _ _ _ h => hA1 _ h), k3', hw.2.2.2.2.2.1, q7⟩ hr2 (by rw [y1]; exact hl) (by rw [e1]; exact hce) hcv hcl
    obtain ⟨t2, a1, b1⟩ := h9 T' rfl X'
    exact ⟨t2, st.trans a1, b1⟩
/-- what a program decides of a callee -/
def Cy (Y1 : MD) (n : Nat) : Prop := (Y1.1.cls ≠ "java/lang/invoke/MethodHandle" ∧ Y1.1.cls ≠ "java/lang/invoke/VarHandle" ∧ (parseMethodDescriptor Y1.1.desc).map (fun d => d.parameters.length) = some n) ∧ cdW Y1 ∈ wsG ∧ Cond.initialized Y1.1.cls ∈ wsG ∧ Y1.2.2.1 ≤ 40 ∧ plainName Y1.1.cls = true
theorem rm_ok {d d1 k k1 k2 : Nat} {R : Room} {cells slots mc ms nL : Nat} (hr : Rm d k R cells slots mc ms) (hd : d1 + 1 ≤ d) (hk : k1 + k2 ≤ k) (hL : nL ≤ 40) : ((rmG d1 k1).frames + 1 ≤ R.frames ∧ 8 + (nL + 11) + (rmG d1 k1).locals ≤ R.locals) ∧ cells + k1 ≤ R.cells ∧ slots + 64 * k1 ≤ R.slots := by
  obtain ⟨h1, h2, h3, h4, h5, h6⟩ := hr
  refine ⟨⟨Nat.le_trans hd h1, ?_⟩, by omega, by omega⟩
  show 8 + (nL + 11) + 64 * d1 ≤ R.locals
  omega
theorem cat_map (ad : Nat → Nat) (S : List Value) : ((S.map (cv ad)).map fun v => v.category).sum = (S.map fun v => v.category).sum := by
  rw [List.map_map]
  congr 1
  exact List.map_congr_left fun v _ => cv_cat ad v
section CL
variable {F : ROF} {g g1 : Bool} {n0 : Nat} {Y Y1 : MD} {d d1 k k1 pc : Nat} {L : List (Nat × Value)} {S as st0 : List Value} {M : Mem} {P P1 : Res → Mem → Prop} {idx n : Nat}
theorem fr_callS (k2 : Nat) (hev : Ev F g1 Y1 d1 k1 as M P1) (hh : Y1.2.2.2.2 = []) (hy : Cy Y1 n) (hk1 : Cond.methodLink Y.1.cls idx Y1.1 ∈ wsG) (hk2 : Cond.static Y1.1 ∈ wsG) (hn1 : as.length = n) (hd : d1 + 1 ≤ d) (hkk : k1 + k2 ≤ k) (hst : st0 = as.reverse ++ S) (hS : (S.map fun v => v.category).sum ≤ 8) (hdg : decode Y.2.1 pc = .ok (.invokestatic idx, 3)) (hgr : g1 = false ∨ (g = true ∧ clLS (mN M) L S = true ∧ Fok F))
    (kr : ∀ v M', P1 (.inl v) M' → mN M ≤ mN M' → Fr F g n0 Y d k2 (pc + 3) L (v.toList ++ S) M' P) (kx : ∀ E M', P1 (.inr E) M' → mN M ≤ mN M' → Fx F g n0 Y d k2 pc L M' E P) : Fr F g n0 Y d k pc L st0 M P := by
  intro p l e R s m args below meth c H locs cells slots mc ms ls D CA adE ad A hc ha hn hw hr hl
  subst hst
  obtain ⟨r1, r2⟩ := rm_ok (nL := Y1.2.2.1) hr hd hkk hy.2.2.2.1
  have hts := hc.2.2.2.2.1
  refine fr_fin hc ha hn hw hr hl hkk hgr kr kx (vx_runS (y := Y1.1) (bytes := Y1.2.1) (maxL := Y1.2.2.1) (nL := Y.2.2.1) (ret := Y1.2.2.2.1) (Ts := wsG) (own := Y.1.cls) (As := as.map (cv ad)) (rest := S.map (cv ad)) (n := n) ⟨hc.1, hc.2.1, hc.2.2.1, hc.2.2.2.1, hts⟩ (hev l D CA ad H.size hc.2.2.2.2.2.2.2.2.1) ⟨callB_of n hts (wsY_good hy.2.1) (wsY_code hh) rfl rfl (hts _ hy.2.2.1) (hts _ hk1) hy.1 r1, hts _ hk2⟩ ⟨PcG_blind F D CA ad H.size as M, PcG_now as hw⟩ rfl (by rw [List.length_map]; exact hn1) hl.1 (by show List.map (cv ad) (as.reverse ++ S) = _; rw [List.map_append, List.map_reverse]) (by show 2 * 0 + _ ≤ 8; rw [cat_map]; omega) hdg r2)
theorem fr_callSN (k2 : Nat) (host : String) (hev : Ev F g1 Y1 d1 k1 as M P1) (hh : Y1.2.2.2.2 = []) (hy : Cy Y1 n) (hk1 : (Y.1.cls, idx, Y1.1, host) ∈ fM F) (hk2 : Cond.static Y1.1 ∈ wsG) (hn1 : as.length = n) (hd : d1 + 1 ≤ d) (hkk : k1 + k2 ≤ k) (hst : st0 = as.reverse ++ S) (hS : (S.map fun v => v.category).sum ≤ 8) (hdg : decode Y.2.1 pc = .ok (.invokestatic idx, 3)) (hgr : g1 = false ∨ (g = true ∧ clLS (mN M) L S = true ∧ Fok F))
    (kr : ∀ v M', P1 (.inl v) M' → mN M ≤ mN M' → Fr F g n0 Y d k2 (pc + 3) L (v.toList ++ S) M' P) (kx : ∀ E M', P1 (.inr E) M' → mN M ≤ mN M' → Fx F g n0 Y d k2 pc L M' E P) : Fr F g n0 Y d k pc L st0 M P := by
  intro p l e R s m args below meth c H locs cells slots mc ms ls D CA adE ad A hc ha hn hw hr hl
  subst hst
  obtain ⟨r1, r2⟩ := rm_ok (nL := Y1.2.2.1) hr hd hkk hy.2.2.2.1
  have hts := hc.2.2.2.2.1
  have hlink : va_Nw (.methodLinkNest Y.1.cls idx Y1.1 host) s := hw.2.1.2.2.2.2.2.2.2.2.1 (Y.1.cls, idx, Y1.1, host) hk1
  refine fr_fin hc ha hn hw hr hl hkk hgr kr kx (vx_runSN (y := Y1.1) (bytes := Y1.2.1) (maxL := Y1.2.2.1) (nL := Y.2.2.1) (ret := Y1.2.2.2.1) (Ts := wsG) (own := Y.1.cls) (host := host) (As := as.map (cv ad)) (rest := S.map (cv ad)) (n := n) ⟨hc.1, hc.2.1, hc.2.2.1, hc.2.2.2.1, hts⟩ (hev l D CA ad H.size hc.2.2.2.2.2.2.2.2.1) ⟨va_cnB n hts (wsY_good hy.2.1) (wsY_code hh) rfl rfl hlink (hts _ hy.2.2.1) hy.1 r1, hts _ hk2, trivial⟩ ⟨PcG_blind F D CA ad H.size as M, PcG_now as hw⟩ rfl (by rw [List.length_map]; exact hn1) hl.1 (by show List.map (cv ad) (as.reverse ++ S) = _; rw [List.map_append, List.map_reverse]) (by show 2 * 0 + _ ≤ 8; rw [cat_map]; omega) hdg r2)
theorem fr_callSX (k2 : Nat) (hev : Ev F g1 Y1 d1 k1 as M P1) (hh : Y1.2.2.2.2.isEmpty = false) (hy : Cy Y1 n) (hk1 : Cond.methodLink Y.1.cls idx Y1.1 ∈ wsG) (hk2 : Cond.static Y1.1 ∈ wsG) (hn1 : as.length = n) (hd : d1 + 1 ≤ d) (hkk : k1 + k2 ≤ k) (hst : st0 = as.reverse ++ S) (hS : (S.map fun v => v.category).sum ≤ 8) (hdg : decode Y.2.1 pc = .ok (.invokestatic idx, 3)) (hgr : g1 = false ∨ (g = true ∧ clLS (mN M) L S = true ∧ Fok F))
    (kr : ∀ v M', P1 (.inl v) M' → mN M ≤ mN M' → Fr F g n0 Y d k2 (pc + 3) L (v.toList ++ S) M' P) (kx : ∀ E M', P1 (.inr E) M' → mN M ≤ mN M' → Fx F g n0 Y d k2 pc L M' E P) : Fr F g n0 Y d k pc L st0 M P := by
  intro p l e R s m args below meth c H locs cells slots mc ms ls D CA adE ad A hc ha hn hw hr hl
  subst hst
  obtain ⟨r1, r2⟩ := rm_ok (nL := Y1.2.2.1) hr hd hkk hy.2.2.2.1
  have hts := hc.2.2.2.2.1
  have hG : GoodIn wsG (va_wsS Y.1.cls idx Y1.1 (wsY Y1)) := by
    intro w hw9
    unfold va_wsS at hw9
    rcases List.mem_append.mp hw9 with h | h
    · simp only [List.mem_cons, List.not_mem_nil, or_false] at h
      rcases h with rfl | rfl | rfl
      · exact ⟨hk1, wsG_good hk1⟩
      · exact ⟨hk2, wsG_good hk2⟩
      · exact ⟨hy.2.2.1, wsG_good hy.2.2.1⟩
    · exact wsY_good hy.2.1 w h
  refine fr_fin hc ha hn hw hr hl hkk hgr kr kx (vx_runSX (y := Y1.1) (bytes := Y1.2.1) (maxL := Y1.2.2.1) (nL := Y.2.2.1) (ret := Y1.2.2.2.1) (Ts := wsG) (own := Y.1.cls) (As := as.map (cv ad)) (rest := S.map (cv ad)) (n := n) ⟨hc.1, hc.2.1, hc.2.2.1, hc.2.2.2.1, hts⟩ (hev l D CA ad H.size hc.2.2.2.2.2.2.2.2.1) (vx_cwSW n hts hG (wsY_codeWith hh) rfl rfl hy.1 r1) ⟨PcG_blind F D CA ad H.size as M, PcG_now as hw⟩ rfl (by rw [List.length_map]; exact hn1) hl.1 (by show List.map (cv ad) (as.reverse ++ S) = _; rw [List.map_append, List.map_reverse]) (by show 2 * 0 + _ ≤ 8; rw [cat_map]; omega) hdg r2)
/-- whose method it is: an object of the memory, or one that nobody writes -/
def Rcv (F : ROF) (M : Mem) (C : String) (o : Nat) : Prop := (∃ ci T N, vwCl[ci]? = some (C, T, N) ∧ ci < 100 ∧ (mS M o).1 = ci ∧ o < mN M) ∨ (C, o) ∈ fO F
theorem Rcv.cell {C : String} {o : Nat} {D : va_G} {CA : Nat → ClassId} {ad : Nat → Nat} {A : Nat → Prop} {s : State} {H : Heap} {locs : List Loc} (h : Rcv F M C o) (hw : Wd F D CA ad A M s H locs) : ∃ cell : Cell, H[ad o]? = some cell ∧ cell.vm.isStatics = false ∧ s.vm.findClass C = some cell.cls := by
  rcases h with ⟨ci, T, N, h1, h2, h3, h4⟩ | h
  · exact va_recv hw.1 hw.2.2.1 h1 (ws_obj h4 h3 h2)
  · exact va_Orecv (hw.2.1.2.2.2.2.1 (C, o) h) hw.2.2.2.2.1
theorem fr_callV (k2 : Nat) {C : String} {o : Nat} (hev : Ev F g1 Y1 d1 k1 (.ref o :: as) M P1) (hh : Y1.2.2.2.2 = []) (hy : Cy Y1 n) (hk1 : Cond.methodLink Y.1.cls idx Y1.1 ∈ wsG) (hk2 : Cond.instanceMethod Y1.1 ∈ wsG) (hk3 : Cond.selects C Y1.1 Y1.1 ∈ wsG) (ho : Rcv F M C o) (hn1 : as.length = n) (hd : d1 + 1 ≤ d) (hkk : k1 + k2 ≤ k) (hst : st0 = as.reverse ++ .ref o :: S) (hS : (S.map fun v => v.category).sum ≤ 8) (hdg : decode Y.2.1 pc = .ok (.invokevirtual idx, 3)) (hgr : g1 = false ∨ (g = true ∧ clLS (mN M) L S = true ∧ Fok F))
    (kr : ∀ v M', P1 (.inl v) M' → mN M ≤ mN M' → Fr F g n0 Y d k2 (pc + 3) L (v.toList ++ S) M' P) (kx : ∀ E M', P1 (.inr E) M' → mN M ≤ mN M' → Fx F g n0 Y d k2 pc L M' E P) : Fr F g n0 Y d k pc L st0 M P := by
  intro p l e R s m args below meth c H locs cells slots mc ms ls D CA adE ad A hc ha hn hw hr hl
  subst hst
  obtain ⟨r1, r2⟩ := rm_ok (nL := Y1.2.2.1) hr hd hkk hy.2.2.2.1
  have hts := hc.2.2.2.2.1
  refine fr_fin hc ha hn hw hr hl hkk hgr kr kx (vx_runV (C := C) (b := ad o) (y := Y1.1) (bytes := Y1.2.1) (maxL := Y1.2.2.1) (nL := Y.2.2.1) (ret := Y1.2.2.2.1) (Ts := wsG) (own := Y.1.cls) (As := as.map (cv ad)) (rest := S.map (cv ad)) (n := n) ⟨hc.1, hc.2.1, hc.2.2.1, hc.2.2.2.1, hts⟩ (hev l D CA ad H.size hc.2.2.2.2.2.2.2.2.1) ⟨callB_of n hts (wsY_good hy.2.1) (wsY_code hh) rfl rfl (hts _ hy.2.2.1) (hts _ hk1) hy.1 r1, hts _ hk2, hts _ hk3⟩ ⟨PcG_blind F D CA ad H.size (.ref o :: as) M, ho.cell hw, PcG_now (.ref o :: as) hw⟩ rfl (by rw [List.length_map]; exact hn1) hl.1 (by show List.map (cv ad) (as.reverse ++ .ref o :: S) = _; rw [List.map_append, List.map_reverse]; rfl) (by show 2 * 0 + _ ≤ 8; rw [cat_map]; omega) hdg r2)
theorem fr_callI (k2 : Nat) {o : Nat} (hev : Ev F g1 Y1 d1 k1 (.ref o :: as) M P1) (hh : Y1.2.2.2.2 = []) (hy : Cy Y1 n) (hin : Y1.1.name = "<init>") (hrt : Y1.2.2.2.1 = none) (hk1 : Cond.methodLink Y.1.cls idx Y1.1 ∈ wsG) (hk2 : Cond.instanceMethod Y1.1 ∈ wsG) (hn1 : as.length = n) (hd : d1 + 1 ≤ d) (hkk : k1 + k2 ≤ k) (hst : st0 = as.reverse ++ .ref o :: S) (hS : (S.map fun v => v.category).sum ≤ 8) (hdg : decode Y.2.1 pc = .ok (.invokespecial idx, 3)) (hgr : g1 = false ∨ (g = true ∧ clLS (mN M) L S = true ∧ Fok F))
    (kr : ∀ v M', P1 (.inl v) M' → mN M ≤ mN M' → Fr F g n0 Y d k2 (pc + 3) L (v.toList ++ S) M' P) (kx : ∀ E M', P1 (.inr E) M' → mN M ≤ mN M' → Fx F g n0 Y d k2 pc L M' E P) : Fr F g n0 Y d k pc L st0 M P := by
  intro p l e R s m args below meth c H locs cells slots mc ms ls D CA adE ad A hc ha hn hw hr hl
  subst hst
  obtain ⟨r1, r2⟩ := rm_ok (nL := Y1.2.2.1) hr hd hkk hy.2.2.2.1
  have hts := hc.2.2.2.2.1
  refine fr_fin hc ha hn hw hr hl hkk hgr kr kx (vx_runI (b := ad o) (y := Y1.1) (bytes := Y1.2.1) (maxL := Y1.2.2.1) (nL := Y.2.2.1) (Ts := wsG) (own := Y.1.cls) (As := as.map (cv ad)) (rest := S.map (cv ad)) (n := n) ⟨hc.1, hc.2.1, hc.2.2.1, hc.2.2.2.1, hts⟩ (hev l D CA ad H.size hc.2.2.2.2.2.2.2.2.1) ⟨callB_of n hts (wsY_good hy.2.1) (by rw [wsY_code hh, hrt]) rfl rfl (hts _ hy.2.2.1) (hts _ hk1) hy.1 r1, hin, hts _ hk2⟩ ⟨PcG_blind F D CA ad H.size (.ref o :: as) M, PcG_now (.ref o :: as) hw⟩ rfl (by rw [List.length_map]; exact hn1) hl.1 (by show List.map (cv ad) (as.reverse ++ .ref o :: S) = _; rw [List.map_append, List.map_reverse]; rfl) (by show 2 * 0 + _ ≤ 8; rw [cat_map]; omega) hdg r2)
theorem fr_callIN (k2 : Nat) (host : String) {o : Nat} (hev : Ev F g1 Y1 d1 k1 (.ref o :: as) M P1) (hh : Y1.2.2.2.2 = []) (hy : Cy Y1 n) (hin : Y1.1.name = "<init>") (hrt : Y1.2.2.2.1 = none) (hk1 : (Y.1.cls, idx, Y1.1, host) ∈ fM F) (hk2 : Cond.instanceMethod Y1.1 ∈ wsG) (hn1 : as.length = n) (hd : d1 + 1 ≤ d) (hkk : k1 + k2 ≤ k) (hst : st0 = as.reverse ++ .ref o :: S) (hS : (S.map fun v => v.category).sum ≤ 8) (hdg : decode Y.2.1 pc = .ok (.invokespecial idx, 3)) (hgr : g1 = false ∨ (g = true ∧ clLS (mN M) L S = true ∧ Fok F))
    (kr : ∀ v M', P1 (.inl v) M' → mN M ≤ mN M' → Fr F g n0 Y d k2 (pc + 3) L (v.toList ++ S) M' P) (kx : ∀ E M', P1 (.inr E) M' → mN M ≤ mN M' → Fx F g n0 Y d k2 pc L M' E P) : Fr F g n0 Y d k pc L st0 M P := by
  intro p l e R s m args below meth c H locs cells slots mc ms ls D CA adE ad A hc ha hn hw hr hl
  subst hst
  obtain ⟨r1, r2⟩ := rm_ok (nL := Y1.2.2.1) hr hd hkk hy.2.2.2.1
  have hts := hc.2.2.2.2.1
  have hlink : va_Nw (.methodLinkNest Y.1.cls idx Y1.1 host) s := hw.2.1.2.2.2.2.2.2.2.2.1 (Y.1.cls, idx, Y1.1, host) hk1
  refine fr_fin hc ha hn hw hr hl hkk hgr kr kx (vx_runIN (b := ad o) (y := Y1.1) (bytes := Y1.2.1) (maxL := Y1.2.2.1) (nL := Y.2.2.1) (Ts := wsG) (own := Y.1.cls) (host := host) (As := as.map (cv ad)) (rest := S.map (cv ad)) (n := n) ⟨hc.1, hc.2.1, hc.2.2.1, hc.2.2.2.1, hts⟩ (hev l D CA ad H.size hc.2.2.2.2.2.2.2.2.1) ⟨va_cnB n hts (wsY_good hy.2.1) (by rw [wsY_code hh, hrt]) rfl rfl hlink (hts _ hy.2.2.1) hy.1 r1, hin, hts _ hk2⟩ ⟨PcG_blind F D CA ad H.size (.ref o :: as) M, PcG_now (.ref o :: as) hw⟩ rfl (by rw [List.length_map]; exact hn1) hl.1 (by show List.map (cv ad) (as.reverse ++ .ref o :: S) = _; rw [List.map_append, List.map_reverse]; rfl) (by show 2 * 0 + _ ≤ 8; rw [cat_map]; omega) hdg r2)
end CL
end
section
/-! ===== a contract out of a walk; throws and handlers ===== -/
theorem ev_of {F : ROF} {g : Bool} {Y : MD} {d k : Nat} {as : List Value} {M : Mem} {P : Res → Mem → Prop} (hpl : plainName Y.1.cls = true) (hlen : (lg_sl as).length ≤ Y.2.2.1) (h : Fr F g (mN M) Y d k 0 (lv_args 0 as) [] M P) : Ev F g Y d k as M P := by
  intro l D CA ad sz hfl
  have core : ∀ (p : Program) (e : Env) (s : State) (m : MethodId) (args : Array Value) (below : List Frame) (meth : Method) (c : Code) (s₁ : State), BodyLoose p l Y.1 (headSpec (wsY Y) (rmG d k)) Y.2.1 Y.2.2.1 Y.2.2.2.1 e s m args below meth c s₁ → c.maxLocals = Y.2.2.1 → c.exceptionTable.toList = tableOf Y.2.2.2.2 → PcG F D CA ad sz as M args s →
      W p l e (headSpec (wsY Y) (rmG d k)).room s m args below meth c s.heap [] 0 0 (vx_MQ below (QcG g (mN M) D CA ad (va_A (wsM CA ad M) sz) P) (XcG g (mN M) D CA ad (va_A (wsM CA ad M) sz) P) args s k (64 * k) (va_A (wsM CA ad M) sz)) (entryFrame m args Y.2.2.1) := by
    intro p e s m args below meth c s₁ B hml htab hv
    obtain ⟨rfl, hsz, hP, hK, hD0, hok, hZ⟩ := hv
    subst hsz
    have hts := atoms_spec (ws := wsY Y) B.pre
    have hl0 := lv_entry (as.map (cv ad)) (n := Y.2.2.1) (by rw [lg_sl_cv]; exact hlen)
    rw [lv_args_cv] at hl0
    rw [lg_entry_eq]
    exact h p l e _ s m _ below meth c s.heap [] 0 0 k (64 * k) _ D CA ad ad (va_A (wsM CA ad M) s.heap.size) ⟨B.exec, B.bytes, hml, findClass_of_methodNamed B.named, fun w hw => hts w (List.mem_cons_of_mem _ hw), B.notSynchronized, B.returns, htab, hfl, (name_of_methodNamed B.named B.method).1⟩ (agr.rf g (mN M) ad) (Nat.le_refl _) ⟨hK, hZ, hP, hD0.self, va_S.rf, fun q hq => Or.inr hq, hok⟩ ⟨Nat.le_refl _, Nat.le_refl _, by omega, by omega, Nat.le_refl _, Nat.le_refl _⟩ hl0
  by_cases hh : Y.2.2.2.2.isEmpty = true
  · have hh2 : Y.2.2.2.2 = [] := List.isEmpty_iff.mp hh
    refine vx_ofW (cc := Y.2.1) (maxL := Y.2.2.1) (ret := Y.2.2.2.1) (ws' := wsG) hpl (wsY_code hh2) ?_
    intro p e s m args below meth c s₁ B hml htab hv
    refine core p e s m args below meth c s₁ B hml ?_ hv
    rw [hh2]
    cases hx : c.exceptionTable.toList with
    | nil => rfl
    | cons x t => exact (htab x (by rw [hx]; exact List.mem_cons_self)).elim
  · have hh2 : Y.2.2.2.2.isEmpty = false := by simpa using hh
    refine vx_ofWH (cc := Y.2.1) (maxL := Y.2.2.1) (ret := Y.2.2.2.1) (ws' := wsG) (hh := Y.2.2.2.2) hpl (wsY_codeWith hh2) ?_
    intro p e s m args below meth c s₁ B hml hv
    have hts := atoms_spec (ws := wsY Y) B.pre
    refine core p e s m args below meth c s₁ B hml (vx_table (x := Y.1) B (hts (Cond.codeWith Y.1 Y.2.1 Y.2.2.1 Y.2.2.2.1 Y.2.2.2.2) (by rw [wsY_codeWith hh2]; exact List.mem_cons_self))) hv
theorem ev_mono {F : ROF} {g : Bool} {Y : MD} {d k d' k' : Nat} {as : List Value} {M : Mem} {P P' : Res → Mem → Prop} (hpl : plainName Y.1.cls = true) (hlen : (lg_sl as).length ≤ Y.2.2.1) (hd : d' ≤ d) (hk : k' ≤ k) (h : Fr F g (mN M) Y d' k' 0 (lv_args 0 as) [] M P) : Ev F g Y d k as M P := ev_of hpl hlen (fr_room hd hk h)
section TH
variable {F : ROF} {g g1 : Bool} {n0 : Nat} {Y : MD} {d k pc : Nat} {L : List (Nat × Value)} {S : List Value} {M : Mem} {P : Res → Mem → Prop}
/-- the words of a throw: the tables' good ones, and those of two lists -/
def thOk (own : String) (ic : Nat) (cls : String) (names : List String) (dl : List MethodName) (cl : List (String × String)) : Prop :=
  (∀ w ∈ (vx_atS own ic cls names).filter goodWord, w ∈ wsG) ∧ ((vx_atS own ic cls names).filter (fun w => !goodWord w)).all (fun w => match w with
    | .declares x => decide (x ∈ dl)
    | .castable a b => decide ((a, b) ∈ cl)
    | _ => false) = true ∧ Bundle.fit cls = true ∧ (∀ n ∈ names, Bundle.fit n = true) ∧ names.length ≤ 3
theorem th_words {own : String} {ic : Nat} {cls : String} {names : List String} {ad : Nat → Nat} {A : Nat → Prop} {s : State} {H : Heap} {args : Array Value} (h : thOk own ic cls names (fD F) (fC F)) (hts : ∀ w ∈ wsG, w.before args s = true) (hZ : Zr F ad A s H) : ∀ w ∈ vx_atS own ic cls names, w.before args s = true := by
  intro w hw
  by_cases hg : goodWord w = true
  · exact hts w (h.1 w (List.mem_filter.mpr ⟨hw, hg⟩))
  · have h2 := List.all_eq_true.mp h.2.1 w (List.mem_filter.mpr ⟨hw, by simpa using hg⟩)
    obtain ⟨-, -, -, -, -, -, -, -, -, -, z11, -, z13⟩ := hZ
    cases w with
    | declares x => exact (z13 x (of_decide_eq_true h2)).use rfl
    | castable a b => exact (z11 (a, b) (of_decide_eq_true h2)).use rfl
    | _ => simp at h2
theorem th_ot {own : String} {ic : Nat} {cls : String} {names : List String} {dl : List MethodName} {cl : List (String × String)} (h : thOk own ic cls names dl cl) : ∀ w ∈ vx_atS own ic cls names, vx_ot w = true := by
  intro w hw
  unfold vx_ot
  by_cases hg : goodWord w = true
  · rw [hg, Bool.or_true]
  · have h2 := List.all_eq_true.mp h.2.1 w (List.mem_filter.mpr ⟨hw, by simpa using hg⟩)
    cases w with
    | declares x => rfl
    | castable a b => rfl
    | _ => simp at h2
theorem Wd_grown {D : va_G} {CA : Nat → ClassId} {ad : Nat → Nat} {A : Nat → Prop} {s t : State} {H : Heap} {locs : List Loc} (hw : Wd F D CA ad A M s H locs) (hvm : s.vm.Alike t.vm) (h1 : H.size ≤ t.heap.size) (h2 : ∀ q : Nat, q < H.size → t.heap[q]? = H[q]?) : Wt D CA ad A M t ∧ va_F A s t := by
  obtain ⟨w1, w2, w3, w4, w5, w6, w7⟩ := hw
  refine ⟨⟨w3.kept (fun k q hq => h2 q.1 (w3 k q hq).lt), va_K.moved hvm w1, w4, w7⟩, Nat.le_trans w5.1 h1, fun q h3 h4 => ?_⟩
  rw [h2 q (Nat.lt_of_lt_of_le h3 w5.1)]
  exact w5.2.1 q h3 h4
theorem fr_throwW {cls text : String} {names : List String} {ik ia ic sa : Nat} (hY : Y.2.2.2.2 = []) (hT : thOk Y.1.cls ic cls names (fD F) (fC F)) (hk1 : Cond.classLink Y.1.cls ik cls ∈ wsG) (hk2 : Cond.initialized cls ∈ wsG) (hs : (Y.1.cls, ia, text, sa) ∈ fS F)
    (d0 : decode Y.2.1 pc = .ok (.new ik, 3)) (d3 : decode Y.2.1 (pc + 3) = .ok (.dup, 1)) (d4 : decode Y.2.1 (pc + 4) = .ok (.ldc_w ia, 3)) (d7 : decode Y.2.1 (pc + 7) = .ok (.invokespecial ic, 3)) (d10 : decode Y.2.1 (pc + 10) = .ok (.athrow, 1))
    (hd : 7 ≤ d) (hk : 1 ≤ k) (hS : (S.map fun v => v.category).sum ≤ 8) (hP : P (.inr cls) M) : Fr F g n0 Y d k pc L S M P := by
  intro p l e R s m args below meth c H locs cells slots mc ms ls D CA adE ad A hc ha hn hw hr hl
  have hts := hc.2.2.2.2.1
  obtain ⟨r1, r2, r3, r4, r5, r6⟩ := hr
  have hnl := hT.2.2.2.2
  refine vx_throwSW (A := A) (sa := ad sa) (names := names) hc.1 hc.2.1 hc.2.2.2.2.2.2.2.2.1 hc.2.2.2.1 hT.2.2.1 hT.2.2.2.1 (hts _ hk1) (hts _ hk2) (hw.2.1.2.2.2.2.2.2.1 (Y.1.cls, ia, text, sa) hs) (th_words hT hts hw.2.1) ?_ hw.2.1.1 hw.2.1.2.1 hw.2.2.2.2.1 (hl.1.trans hc.2.2.1.symm) d0 d3 d4 d7 d10 ?_ (by omega) (by rw [cat_map]; omega) (by omega) (by omega) hc.2.2.2.2.2.1 ?_ hw.2.2.2.2.1.2.2 (by omega) (by omega)
  · intro w hw9
    rcases List.mem_cons.mp hw9 with rfl | hw9
    · rfl
    rcases List.mem_cons.mp hw9 with rfl | hw9
    · rfl
    exact th_ot hT w hw9
  · rw [hc.2.2.2.2.2.2.2.1, hY]
    intro x hx
    cases hx
  · intro t h1 h2 h3
    obtain ⟨g1, g2⟩ := Wd_grown hw h1 h2 h3
    exact ⟨⟨M, ad, ha, hn, hP, g1⟩, g2⟩
theorem fr_throwS {cls text : String} {names : List String} {ik ia ic sa : Nat} (hY : Y.2.2.2.2 = []) (hT : thOk Y.1.cls ic cls names (fD F) (fC F)) (hk1 : Cond.classLink Y.1.cls ik cls ∈ wsG) (hk2 : Cond.initialized cls ∈ wsG) (hs : (Y.1.cls, ia, text, sa) ∈ fS F)
    (d0 : decode Y.2.1 pc = .ok (.new ik, 3)) (d3 : decode Y.2.1 (pc + 3) = .ok (.dup, 1)) (d4 : decode Y.2.1 (pc + 4) = .ok (.ldc ia, 2)) (d6 : decode Y.2.1 (pc + 6) = .ok (.invokespecial ic, 3)) (d9 : decode Y.2.1 (pc + 9) = .ok (.athrow, 1))
    (hd : 7 ≤ d) (hk : 1 ≤ k) (hS : (S.map fun v => v.category).sum ≤ 8) (hP : P (.inr cls) M) : Fr F g n0 Y d k pc L S M P := by
  intro p l e R s m args below meth c H locs cells slots mc ms ls D CA adE ad A hc ha hn hw hr hl
  have hts := hc.2.2.2.2.1
  obtain ⟨r1, r2, r3, r4, r5, r6⟩ := hr
  have hnl := hT.2.2.2.2
  refine vx_throwS (A := A) (sa := ad sa) (names := names) hc.1 hc.2.1 hc.2.2.2.2.2.2.2.2.1 hc.2.2.2.1 hT.2.2.1 hT.2.2.2.1 (hts _ hk1) (hts _ hk2) (hw.2.1.2.2.2.2.2.2.1 (Y.1.cls, ia, text, sa) hs) (th_words hT hts hw.2.1) ?_ hw.2.1.1 hw.2.1.2.1 hw.2.2.2.2.1 (hl.1.trans hc.2.2.1.symm) d0 d3 d4 d6 d9 ?_ (by omega) (by rw [cat_map]; omega) (by omega) (by omega) hc.2.2.2.2.2.1 ?_ hw.2.2.2.2.1.2.2 (by omega) (by omega)
  · intro w hw9
    rcases List.mem_cons.mp hw9 with rfl | hw9
    · rfl
    rcases List.mem_cons.mp hw9 with rfl | hw9
    · rfl
    exact th_ot hT w hw9
  · rw [hc.2.2.2.2.2.2.2.1, hY]
    intro x hx
    cases hx
  · intro t h1 h2 h3
    obtain ⟨g1, g2⟩ := Wd_grown hw h1 h2 h3
    exact ⟨⟨M, ad, ha, hn, hP, g1⟩, g2⟩
/-- a row of the table doesn't take what is thrown here -/
def passX (F : ROF) (own : String) (pc : Nat) (E : String) (z : ExceptionTableEntry) : Prop := covers z pc = false ∨ (z.catchType ≠ 0 ∧ ∃ nm : String, Cond.classLink own z.catchType nm ∈ wsG ∧ (E, nm) ∈ fN F)
/-- it leaves the method -/
theorem fx_out {E : String} (hp : ∀ z ∈ tableOf Y.2.2.2.2, passX F Y.1.cls pc E z) (hP : P (.inr E) M) : Fx F g n0 Y d k pc L M E P := by
  intro p l e R s m args below meth c H locs cells slots mc ms ls D CA adE ad A S q ce hc ha hn hw hr hl h1 h2 h3
  have hts := hc.2.2.2.2.1
  refine vx_outP (own := Y.1.cls) hc.2.2.2.1 hc.2.2.2.2.2.1 ?_ h1 h2 h3 (fun t ht hvm => ?_) hw.2.2.2.2.1.2.2 (by have := hr.2.2.1; omega) (by have := hr.2.2.2.1; omega)
  · rw [hc.2.2.2.2.2.2.2.1]
    intro z hz
    rcases hp z hz with h | ⟨h, nm, h4, h5⟩
    · exact Or.inl h
    · exact Or.inr ⟨h, nm, hts _ h4, hw.2.1.2.2.2.2.2.2.2.1 (E, nm) h5⟩
  · exact ⟨⟨M, ad, ha, hn, hP, by rw [ht]; exact hw.2.2.1, va_K.moved hvm hw.1, hw.2.2.2.1, hw.2.2.2.2.2.2⟩, hw.2.2.2.2.1.F ht⟩
theorem fx_no {E : String} (hY : Y.2.2.2.2 = []) (hP : P (.inr E) M) : Fx F g n0 Y d k pc L M E P := fx_out (by rw [hY]; intro z hz; cases hz) hP
/-- caught; the handler begins by putting it away, in a place that nobody reads -/
theorem fx_catch {E name : String} {L' : List (Nat × Value)} (pre : List ExceptionTableEntry) (x : ExceptionTableEntry) (suf : List ExceptionTableEntry) (hsp : tableOf Y.2.2.2.2 = pre ++ x :: suf) (hp : ∀ z ∈ pre, passX F Y.1.cls pc E z) (hx : covers x pc = true) (h0 : x.catchType ≠ 0) (hk : Cond.classLink Y.1.cls x.catchType name ∈ wsG) (hca : (E, name) ∈ fC F)
    (i len : Nat) (hi : i < Y.2.2.1) (hdg : (∃ j : Fin 4, (j : Nat) = i ∧ len = 1 ∧ decode Y.2.1 x.handlerPc = .ok (.astore_n j, 1)) ∨ (len = 2 ∧ decode Y.2.1 x.handlerPc = .ok (.astore i, 2))) (hL : L.filter (fun q => !(q.1 == i) && !(q.1 + 1 == i && q.2.category == 2)) = L') (kk : Fr F g n0 Y d k (x.handlerPc + len) L' [] M P) : Fx F g n0 Y d k pc L M E P := by
  intro p l e R s m args below meth c H locs cells slots mc ms ls D CA adE ad A S q ce hc ha hn hw hr hl h1 h2 h3
  have hts := hc.2.2.2.2.1
  refine vx_catch (own := Y.1.cls) (name := name) hc.2.2.2.1 pre x suf (hc.2.2.2.2.2.2.2.1.trans hsp) ?_ hx h0 (hts _ hk) ((hw.2.1.2.2.2.2.2.2.2.2.2.2.1 (E, name) hca).use rfl) h1 h2 h3 ?_
  · intro z hz
    rcases hp z hz with h | ⟨h, nm, h4, h5⟩
    · exact Or.inl h
    · exact Or.inr ⟨h, nm, hts _ h4, hw.2.1.2.2.2.2.2.2.2.1 (E, nm) h5⟩
  · have fin : ∀ ls' : Array Slot, lv_has ls' Y.2.2.1 ((i, Value.ref q) :: (lvc ad L).filter (fun q => !(q.1 == i) && !(q.1 + 1 == i && q.2.category == 2))) → lv_has ls' Y.2.2.1 (lvc ad L') := by
      intro ls' hh
      refine ⟨hh.1, hh.2.1, fun z hz => hh.2.2 z (List.mem_cons_of_mem _ ?_)⟩
      obtain ⟨y, hy, rfl⟩ := List.mem_map.mp hz
      rw [← hL] at hy
      obtain ⟨y1, y2⟩ := List.mem_filter.mp hy
      exact List.mem_filter.mpr ⟨List.mem_map.mpr ⟨y, y1, rfl⟩, by simpa only [cv_cat] using y2⟩
    rcases hdg with ⟨j, rfl, rfl, hdg⟩ | ⟨rfl, hdg⟩
    · exact lv_astore_n (i := (j : Nat)) hc.1 hc.2.1 hdg rfl hl hi rfl (fun ls' hl' => kk p l e R s m args below meth c H locs cells slots mc ms ls' D CA adE ad A hc ha hn hw hr (fin ls' hl'))
    · exact lv_astore hc.1 hc.2.1 hdg hl hi rfl (fun ls' hl' => kk p l e R s m args below meth c H locs cells slots mc ms ls' D CA adE ad A hc ha hn hw hr (fin ls' hl'))
end TH
end
