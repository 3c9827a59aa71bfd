/-! ===== a contract out of a walk; throws and handlers ===== -/
theorem vy_ofW {l : Launch} {y : MethodName} {ws ws' : List Cond} {rm : Room} {Pc : Array Value → State → Prop} {Qc : Array Value → State → Outcome → State → Prop} {XC : String → State → State → Prop} {mc ms : Nat} {free : Addr → Prop} {cc : ByteArray} {maxL : Nat} {ret : Option FieldType}
    (hy : plainFor y = true) (hw : ws = Cond.code y cc maxL ret :: ws')
    (body : ∀ p e s m args below meth c s₁, BodyLoose p l y (headSpec ws rm) cc maxL ret e s m args below meth c s₁ → c.maxLocals = maxL → (∀ x ∈ c.exceptionTable.toList, False) → Pc args s →
      W p l e (headSpec ws rm).room s m args below meth c s.heap [] 0 0 (vx_MQ below Qc XC args s mc ms free) (entryFrame m args maxL)) : vx_Met l y ws rm Pc Qc XC mc ms free := by
  refine MetFree.of_bodySF (code := cc) (maxLocals := maxL) (ret := ret) hy ?_ ?_
  · intro args s m h hn
    obtain ⟨meth, c, h1, h2, h3, h4, h5, h6, -, -⟩ := Cond.code_spec hn (atoms_spec (ws := ws) h _ (by rw [hw]; exact List.mem_cons_self))
    exact ⟨meth, c, h1, h2, h3, h4, h5, h6⟩
  · intro p e s m args below meth c s₁ B hml hP _
    have hh0 : s₁.heap = s.heap := by rw [B.state]; rfl
    have ht : ∀ x ∈ c.exceptionTable.toList, False := by
      obtain ⟨meth9, c9, h1, h2, -, -, -, -, h7, -⟩ := Cond.code_spec B.named (atoms_spec (ws := ws) B.pre _ (by rw [hw]; exact List.mem_cons_self))
      cases Option.some.inj (h1.symm.trans B.method)
      cases Option.some.inj (h2.symm.trans (Stand.of_body B).code)
      intro x hx
      rw [Array.isEmpty_iff.mp h7] at hx
      cases hx
    obtain ⟨t, a1, o, b1, b2, b3⟩ := body p e s m args below meth c s₁ B hml ht hP s₁ hh0 (Stand.of_body B)
    exact ⟨t, o, a1, b1, b2, b3⟩
theorem vy_ofWH {l : Launch} {y : MethodName} {ws ws' : List Cond} {rm : Room} {Pc : Array Value → State → Prop} {Qc : Array Value → State → Outcome → State → Prop} {XC : String → State → State → Prop} {mc ms : Nat} {free : Addr → Prop} {cc : ByteArray} {maxL : Nat} {ret : Option FieldType} {hh : List (Nat × Nat × Nat × Nat)}
    (hy : plainFor y = true) (hw : ws = Cond.codeWith y cc maxL ret hh :: ws')
    (body : ∀ p e s m args below meth c s₁, BodyLoose p l y (headSpec ws rm) cc maxL ret e s m args below meth c s₁ → c.maxLocals = maxL → Pc args s →
      W p l e (headSpec ws rm).room s m args below meth c s.heap [] 0 0 (vx_MQ below Qc XC args s mc ms free) (entryFrame m args maxL)) : vx_Met l y ws rm Pc Qc XC mc ms free := by
  refine MetFree.of_bodySF (code := cc) (maxLocals := maxL) (ret := ret) hy ?_ ?_
  · intro args s m h hn
    obtain ⟨m9, meth, c, hn9, h1, h2, h3, h4, -, h5, h6, -⟩ := Cond.codeWith_spec (atoms_spec (ws := ws) h _ (by rw [hw]; exact List.mem_cons_self))
    cases hn.symm.trans hn9
    exact ⟨meth, c, h1, h2, h3, h4, h5, h6⟩
  · intro p e s m args below meth c s₁ B hml hP _
    have hh0 : s₁.heap = s.heap := by rw [B.state]; rfl
    obtain ⟨t, a1, o, b1, b2, b3⟩ := body p e s m args below meth c s₁ B hml hP s₁ hh0 (Stand.of_body B)
    exact ⟨t, o, a1, b1, b2, b3⟩
theorem ev_of {F : ROF} {g : Bool} {Y : MD} {d k : Nat} {as : List Value} {M : Mem} {P : Res → Mem → Prop} (hpl : plainFor Y.1 = true) (hlen : (lg_sl as).length ≤ Y.2.2.1) (h : Fr F g (mN M) Y d k 0 (lv_args 0 as) [] M P) : Ev F g Y d k as M P := by
  intro l D CA ad sz hfl
  have core : ∀ (p : Program) (e : Env) (s : State) (m : MethodId) (args : Array Value) (below : List Frame) (meth : Method) (c : Code) (s₁ : State), BodyLoose p l Y.1 (headSpec (wsY Y) (rmG d k)) Y.2.1 Y.2.2.1 Y.2.2.2.1 e s m args below meth c s₁ → c.maxLocals = Y.2.2.1 → c.exceptionTable.toList = tableOf Y.2.2.2.2 → PcG F D CA ad sz as M args s →
      W p l e (headSpec (wsY Y) (rmG d k)).room s m args below meth c s.heap [] 0 0 (vx_MQ below (QcG g (mN M) D CA ad (va_A (wsM CA ad M) sz) P) (XcG g (mN M) D CA ad (va_A (wsM CA ad M) sz) P) args s k (64 * k) (va_A (wsM CA ad M) sz)) (entryFrame m args Y.2.2.1) := by
    intro p e s m args below meth c s₁ B hml htab hv
    obtain ⟨rfl, hsz, hP, hK, hD0, hok, hZ⟩ := hv
    subst hsz
    have hts := atoms_spec (ws := wsY Y) B.pre
    have hl0 := lv_entry (as.map (cv ad)) (n := Y.2.2.1) (by rw [lg_sl_cv]; exact hlen)
    rw [lv_args_cv] at hl0
    rw [lg_entry_eq]
    exact h p l e _ s m _ below meth c s.heap [] 0 0 k (64 * k) _ D CA ad ad (va_A (wsM CA ad M) s.heap.size) ⟨B.exec, B.bytes, hml, findClass_of_methodNamed B.named, fun w hw => hts w (List.mem_cons_of_mem _ hw), B.notSynchronized, B.returns, htab, hfl, (name_of_methodNamed B.named B.method).1⟩ (agr.rf g (mN M) ad) (Nat.le_refl _) ⟨hK, hZ, hP, hD0.self, va_S.rf, fun q hq => Or.inr hq, hok⟩ ⟨Nat.le_refl _, Nat.le_refl _, by omega, by omega, Nat.le_refl _, Nat.le_refl _⟩ hl0
  by_cases hh : Y.2.2.2.2.isEmpty = true
  · have hh2 : Y.2.2.2.2 = [] := List.isEmpty_iff.mp hh
    refine vy_ofW (cc := Y.2.1) (maxL := Y.2.2.1) (ret := Y.2.2.2.1) (ws' := wsG) hpl (wsY_code hh2) ?_
    intro p e s m args below meth c s₁ B hml htab hv
    refine core p e s m args below meth c s₁ B hml ?_ hv
    rw [hh2]
    cases hx : c.exceptionTable.toList with
    | nil => rfl
    | cons x t => exact (htab x (by rw [hx]; exact List.mem_cons_self)).elim
  · have hh2 : Y.2.2.2.2.isEmpty = false := by simpa using hh
    refine vy_ofWH (cc := Y.2.1) (maxL := Y.2.2.1) (ret := Y.2.2.2.1) (ws' := wsG) (hh := Y.2.2.2.2) hpl (wsY_codeWith hh2) ?_
    intro p e s m args below meth c s₁ B hml hv
    have hts := atoms_spec (ws := wsY Y) B.pre
    refine core p e s m args below meth c s₁ B hml (vx_table (x := Y.1) B (hts (Cond.codeWith Y.1 Y.2.1 Y.2.2.1 Y.2.2.2.1 Y.2.2.2.2) (by rw [wsY_codeWith hh2]; exact List.mem_cons_self))) hv
theorem ev_mono {F : ROF} {g : Bool} {Y : MD} {d k d' k' : Nat} {as : List Value} {M : Mem} {P P' : Res → Mem → Prop} (hpl : plainFor Y.1 = true) (hlen : (lg_sl as).length ≤ Y.2.2.1) (hd : d' ≤ d) (hk : k' ≤ k) (h : Fr F g (mN M) Y d' k' 0 (lv_args 0 as) [] M P) : Ev F g Y d k as M P := ev_of hpl hlen (fr_room hd hk h)
section TH
variable {F : ROF} {g g1 : Bool} {n0 : Nat} {Y : MD} {d k pc : Nat} {L : List (Nat × Value)} {S : List Value} {M : Mem} {P : Res → Mem → Prop}
/-- the words of a throw: the tables' good ones, and those of two lists -/
def thOk (own : String) (ic : Nat) (cls : String) (names : List String) (dl : List MethodName) (cl : List (String × String)) : Prop :=
  (∀ w ∈ (vx_atS own ic cls names).filter goodWord, w ∈ wsG) ∧ ((vx_atS own ic cls names).filter (fun w => !goodWord w)).all (fun w => match w with
    | .declares x => decide (x ∈ dl)
    | .castable a b => decide ((a, b) ∈ cl)
    | _ => false) = true ∧ Bundle.fit cls = true ∧ (∀ n ∈ names, Bundle.fit n = true) ∧ names.length ≤ 3
theorem th_words {own : String} {ic : Nat} {cls : String} {names : List String} {ad : Nat → Nat} {A : Nat → Prop} {s : State} {H : Heap} {args : Array Value} (h : thOk own ic cls names (fD F) (fC F)) (hts : ∀ w ∈ wsG, w.before args s = true) (hZ : Zr F ad A s H) : ∀ w ∈ vx_atS own ic cls names, w.before args s = true := by
  intro w hw
  by_cases hg : goodWord w = true
  · exact hts w (h.1 w (List.mem_filter.mpr ⟨hw, hg⟩))
  · have h2 := List.all_eq_true.mp h.2.1 w (List.mem_filter.mpr ⟨hw, by simpa using hg⟩)
    obtain ⟨-, -, -, -, -, -, -, -, -, -, z11, -, z13⟩ := hZ
    cases w with
    | declares x => exact (z13 x (of_decide_eq_true h2)).use rfl
    | castable a b => exact (z11 (a, b) (of_decide_eq_true h2)).use rfl
    | _ => simp at h2
theorem th_ot {own : String} {ic : Nat} {cls : String} {names : List String} {dl : List MethodName} {cl : List (String × String)} (h : thOk own ic cls names dl cl) : ∀ w ∈ vx_atS own ic cls names, vx_ot w = true := by
  intro w hw
  unfold vx_ot
  by_cases hg : goodWord w = true
  · rw [hg, Bool.or_true]
  · have h2 := List.all_eq_true.mp h.2.1 w (List.mem_filter.mpr ⟨hw, by simpa using hg⟩)
    cases w with
    | declares x => rfl
    | castable a b => rfl
    | _ => simp at h2
theorem Wd_grown {D : va_G} {CA : Nat → ClassId} {ad : Nat → Nat} {A : Nat → Prop} {s t : State} {H : Heap} {locs : List Loc} (hw : Wd F D CA ad A M s H locs) (hvm : s.vm.Alike t.vm) (h1 : H.size ≤ t.heap.size) (h2 : ∀ q : Nat, q < H.size → t.heap[q]? = H[q]?) : Wt D CA ad A M t ∧ va_F A s t := by
  obtain ⟨w1, w2, w3, w4, w5, w6, w7⟩ := hw
  refine ⟨⟨w3.kept (fun k q hq => h2 q.1 (w3 k q hq).lt), va_K.moved hvm w1, w4, w7⟩, Nat.le_trans w5.1 h1, fun q h3 h4 => ?_⟩
  rw [h2 q (Nat.lt_of_lt_of_le h3 w5.1)]
  exact w5.2.1 q h3 h4
theorem fr_throwW {cls text : String} {names : List String} {ik ia ic sa : Nat} (hY : Y.2.2.2.2 = []) (hT : thOk Y.1.cls ic cls names (fD F) (fC F)) (hk1 : Cond.classLink Y.1.cls ik cls ∈ wsG) (hk2 : Cond.initialized cls ∈ wsG) (hs : (Y.1.cls, ia, text, sa) ∈ fS F)
    (d0 : decode Y.2.1 pc = .ok (.new ik, 3)) (d3 : decode Y.2.1 (pc + 3) = .ok (.dup, 1)) (d4 : decode Y.2.1 (pc + 4) = .ok (.ldc_w ia, 3)) (d7 : decode Y.2.1 (pc + 7) = .ok (.invokespecial ic, 3)) (d10 : decode Y.2.1 (pc + 10) = .ok (.athrow, 1))
    (hd : 7 ≤ d) (hk : 1 ≤ k) (hS : (S.map fun v => v.category).sum ≤ 8) (hP : P (.inr cls) M) : Fr F g n0 Y d k pc L S M P := by
  intro p l e R s m args below meth c H locs cells slots mc ms ls D CA adE ad A hc ha hn hw hr hl
  have hts := hc.2.2.2.2.1
  obtain ⟨r1, r2, r3, r4, r5, r6⟩ := hr
  have hnl := hT.2.2.2.2
  refine vx_throwSW (A := A) (sa := ad sa) (names := names) hc.1 hc.2.1 hc.2.2.2.2.2.2.2.2.1 hc.2.2.2.1 hT.2.2.1 hT.2.2.2.1 (hts _ hk1) (hts _ hk2) (hw.2.1.2.2.2.2.2.2.1 (Y.1.cls, ia, text, sa) hs) (th_words hT hts hw.2.1) ?_ hw.2.1.1 hw.2.1.2.1 hw.2.2.2.2.1 (hl.1.trans hc.2.2.1.symm) d0 d3 d4 d7 d10 ?_ (by omega) (by rw [cat_map]; omega) (by omega) (by omega) hc.2.2.2.2.2.1 ?_ hw.2.2.2.2.1.2.2 (by omega) (by omega)
  · intro w hw9
    rcases List.mem_cons.mp hw9 with rfl | hw9
    · rfl
    rcases List.mem_cons.mp hw9 with rfl | hw9
    · rfl
    exact th_ot hT w hw9
  · rw [hc.2.2.2.2.2.2.2.1, hY]
    intro x hx
    cases hx
  · intro t h1 h2 h3
    obtain ⟨g1, g2⟩ := Wd_grown hw h1 h2 h3
    exact ⟨⟨M, ad, ha, hn, hP, g1⟩, g2⟩
theorem fr_throwS {cls text : String} {names : List String} {ik ia ic sa : Nat} (hY : Y.2.2.2.2 = []) (hT : thOk Y.1.cls ic cls names (fD F) (fC F)) (hk1 : Cond.classLink Y.1.cls ik cls ∈ wsG) (hk2 : Cond.initialized cls ∈ wsG) (hs : (Y.1.cls, ia, text, sa) ∈ fS F)
    (d0 : decode Y.2.1 pc = .ok (.new ik, 3)) (d3 : decode Y.2.1 (pc + 3) = .ok (.dup, 1)) (d4 : decode Y.2.1 (pc + 4) = .ok (.ldc ia, 2)) (d6 : decode Y.2.1 (pc + 6) = .ok (.invokespecial ic, 3)) (d9 : decode Y.2.1 (pc + 9) = .ok (.athrow, 1))
    (hd : 7 ≤ d) (hk : 1 ≤ k) (hS : (S.map fun v => v.category).sum ≤ 8) (hP : P (.inr cls) M) : Fr F g n0 Y d k pc L S M P := by
  intro p l e R s m args below meth c H locs cells slots mc ms ls D CA adE ad A hc ha hn hw hr hl
  have hts := hc.2.2.2.2.1
  obtain ⟨r1, r2, r3, r4, r5, r6⟩ := hr
  have hnl := hT.2.2.2.2
  refine vx_throwS (A := A) (sa := ad sa) (names := names) hc.1 hc.2.1 hc.2.2.2.2.2.2.2.2.1 hc.2.2.2.1 hT.2.2.1 hT.2.2.2.1 (hts _ hk1) (hts _ hk2) (hw.2.1.2.2.2.2.2.2.1 (Y.1.cls, ia, text, sa) hs) (th_words hT hts hw.2.1) ?_ hw.2.1.1 hw.2.1.2.1 hw.2.2.2.2.1 (hl.1.trans hc.2.2.1.symm) d0 d3 d4 d6 d9 ?_ (by omega) (by rw [cat_map]; omega) (by omega) (by omega) hc.2.2.2.2.2.1 ?_ hw.2.2.2.2.1.2.2 (by omega) (by omega)
  · intro w hw9
    rcases List.mem_cons.mp hw9 with rfl | hw9
    · rfl
    rcases List.mem_cons.mp hw9 with rfl | hw9
    · rfl
    exact th_ot hT w hw9
  · rw [hc.2.2.2.2.2.2.2.1, hY]
    intro x hx
    cases hx
  · intro t h1 h2 h3
    obtain ⟨g1, g2⟩ := Wd_grown hw h1 h2 h3
    exact ⟨⟨M, ad, ha, hn, hP, g1⟩, g2⟩
/-- a row of the table doesn't take what is thrown here -/
def passX (F : ROF) (own : String) (pc : Nat) (E : String) (z : ExceptionTableEntry) : Prop := covers z pc = false ∨ (z.catchType ≠ 0 ∧ ∃ nm : String, Cond.classLink own z.catchType nm ∈ wsG ∧ (E, nm) ∈ fN F)
/-- it leaves the method -/
theorem fx_out {E : String} (hp : ∀ z ∈ tableOf Y.2.2.2.2, passX F Y.1.cls pc E z) (hP : P (.inr E) M) : Fx F g n0 Y d k pc L M E P := by
  intro p l e R s m args below meth c H locs cells slots mc ms ls D CA adE ad A S q ce hc ha hn hw hr hl h1 h2 h3
  have hts := hc.2.2.2.2.1
  refine vx_outP (own := Y.1.cls) hc.2.2.2.1 hc.2.2.2.2.2.1 ?_ h1 h2 h3 (fun t ht hvm => ?_) hw.2.2.2.2.1.2.2 (by have := hr.2.2.1; omega) (by have := hr.2.2.2.1; omega)
  · rw [hc.2.2.2.2.2.2.2.1]
    intro z hz
    rcases hp z hz with h | ⟨h, nm, h4, h5⟩
    · exact Or.inl h
    · exact Or.inr ⟨h, nm, hts _ h4, hw.2.1.2.2.2.2.2.2.2.1 (E, nm) h5⟩
  · exact ⟨⟨M, ad, ha, hn, hP, by rw [ht]; exact hw.2.2.1, va_K.moved hvm hw.1, hw.2.2.2.1, hw.2.2.2.2.2.2⟩, hw.2.2.2.2.1.F ht⟩
theorem fx_no {E : String} (hY : Y.2.2.2.2 = []) (hP : P (.inr E) M) : Fx F g n0 Y d k pc L M E P := fx_out (by rw [hY]; intro z hz; cases hz) hP
/-- caught; the handler begins by putting it away, in a place that nobody reads -/
theorem fx_catch {E name : String} {L' : List (Nat × Value)} (pre : List ExceptionTableEntry) (x : ExceptionTableEntry) (suf : List ExceptionTableEntry) (hsp : tableOf Y.2.2.2.2 = pre ++ x :: suf) (hp : ∀ z ∈ pre, passX F Y.1.cls pc E z) (hx : covers x pc = true) (h0 : x.catchType ≠ 0) (hk : Cond.classLink Y.1.cls x.catchType name ∈ wsG) (hca : (E, name) ∈ fC F)
    (i len : Nat) (hi : i < Y.2.2.1) (hdg : (∃ j : Fin 4, (j : Nat) = i ∧ len = 1 ∧ decode Y.2.1 x.handlerPc = .ok (.astore_n j, 1)) ∨ (len = 2 ∧ decode Y.2.1 x.handlerPc = .ok (.astore i, 2))) (hL : L.filter (fun q => !(q.1 == i) && !(q.1 + 1 == i && q.2.category == 2)) = L') (kk : Fr F g n0 Y d k (x.handlerPc + len) L' [] M P) : Fx F g n0 Y d k pc L M E P := by
  intro p l e R s m args below meth c H locs cells slots mc ms ls D CA adE ad A S q ce hc ha hn hw hr hl h1 h2 h3
  have hts := hc.2.2.2.2.1
  refine vx_catch (own := Y.1.cls) (name := name) hc.2.2.2.1 pre x suf (hc.2.2.2.2.2.2.2.1.trans hsp) ?_ hx h0 (hts _ hk) ((hw.2.1.2.2.2.2.2.2.2.2.2.2.1 (E, name) hca).use rfl) h1 h2 h3 ?_
  · intro z hz
    rcases hp z hz with h | ⟨h, nm, h4, h5⟩
    · exact Or.inl h
    · exact Or.inr ⟨h, nm, hts _ h4, hw.2.1.2.2.2.2.2.2.2.1 (E, nm) h5⟩
  · have fin : ∀ ls' : Array Slot, lv_has ls' Y.2.2.1 ((i, Value.ref q) :: (lvc ad L).filter (fun q => !(q.1 == i) && !(q.1 + 1 == i && q.2.category == 2))) → lv_has ls' Y.2.2.1 (lvc ad L') := by
      intro ls' hh
      refine ⟨hh.1, hh.2.1, fun z hz => hh.2.2 z (List.mem_cons_of_mem _ ?_)⟩
      obtain ⟨y, hy, rfl⟩ := List.mem_map.mp hz
      rw [← hL] at hy
      obtain ⟨y1, y2⟩ := List.mem_filter.mp hy
      exact List.mem_filter.mpr ⟨List.mem_map.mpr ⟨y, y1, rfl⟩, by simpa only [cv_cat] using y2⟩
    rcases hdg with ⟨j, rfl, rfl, hdg⟩ | ⟨rfl, hdg⟩
    · exact lv_astore_n (i := (j : Nat)) hc.1 hc.2.1 hdg rfl hl hi rfl (fun ls' hl' => kk p l e R s m args below meth c H locs cells slots mc ms ls' D CA adE ad A hc ha hn hw hr (fin ls' hl'))
    · exact lv_astore hc.1 hc.2.1 hdg hl hi rfl (fun ls' hl' => kk p l e R s m args below meth c H locs cells slots mc ms ls' D CA adE ad A hc ha hn hw hr (fin ls' hl'))
end TH
