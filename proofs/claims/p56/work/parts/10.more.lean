/-! ===== constants, cells that nobody writes, new cells, copies ===== -/
theorem st_ldcwF {p : Program} {l : Launch} {e : Env} {R : Room} {s : State} {m : MethodId} {args : Array Value} {below : List Frame} {meth : Method} {c : Code} {T : State} {locs : List Loc} {cells slots : Nat} (X : Stand p l e R s m args below meth c T locs cells slots) (hexec : p.tables.exec = Jvm.exec) {own : String} {index : Nat} {v : UInt32} (hown : s.vm.findClass own = some m.cls)
    (hconst : (Cond.constantFloat own index v).before args s = true) {g : JFrame} (hg : g.method = m) (hdg : decode c.code g.pc = .ok (.ldc_w index, 3)) :
    ∀ target, Steps p.tables e below (T.setTop { g with pc := g.pc + 3, stack := .float v :: g.stack }) target → Steps p.tables e below (T.setTop g) target := by
  obtain ⟨k, cf, hk, hcf, hcp⟩ := Cond.constantFloat_spec hown hconst
  obtain ⟨k', hk', he⟩ := X.warmed.alike.2.2 _ _ hk
  intro target hrest
  subst hg
  jvm_step X.here [hexec, hdg, ldc_w.wp_float (s := T) (f := g) X.here.top hk' (by rw [he]; exact hcf) hcp]
  exact hrest
section MR
variable {F : ROF} {g : Bool} {n0 : Nat} {Y : MD} {d k pc : Nat} {L : List (Nat × Value)} {S : List Value} {M : Mem} {P : Res → Mem → Prop} {idx : Nat}
theorem fr_ldcwf {v : UInt32} (hk : Cond.constantFloat Y.1.cls idx v ∈ wsG) (hdg : decode Y.2.1 pc = .ok (.ldc_w idx, 3)) (kk : Fr F g n0 Y d k (pc + 3) L (.float v :: S) M P) : Fr F g n0 Y d k pc L S M P := by
  intro p l e R s m args below meth c H locs cells slots mc ms ls D CA adE ad A hc ha hn hw hr hl
  intro T hT X
  obtain ⟨t, a, b⟩ := kk p l e R s m args below meth c H locs cells slots mc ms ls D CA adE ad A hc ha hn hw hr hl T hT X
  exact ⟨t, st_ldcwF X hc.1 hc.2.2.2.1 (hc.2.2.2.2.1 _ hk) (g := F0 m pc ls (S.map (cv ad))) rfl (by rw [hc.2.1]; exact hdg) t a, b⟩
theorem fr_ldc2d {v : UInt64} (hk : Cond.constantDouble Y.1.cls idx v ∈ wsG) (hdg : decode Y.2.1 pc = .ok (.ldc2_w idx, 3)) (kk : Fr F g n0 Y d k (pc + 3) L (.double v :: S) M P) : Fr F g n0 Y d k pc L S M P := by
  intro p l e R s m args below meth c H locs cells slots mc ms ls D CA adE ad A hc ha hn hw hr hl
  exact lv_ldc2d hc.1 hc.2.1 hc.2.2.2.1 (hc.2.2.2.2.1 _ hk) hdg (kk p l e R s m args below meth c H locs cells slots mc ms ls D CA adE ad A hc ha hn hw hr hl)
theorem fr_ldcS {tx : String} {q : Nat} (hs : (Y.1.cls, idx, tx, q) ∈ fS F) (hdg : decode Y.2.1 pc = .ok (.ldc idx, 2)) (kk : Fr F g n0 Y d k (pc + 2) L (.ref q :: S) M P) : Fr F g n0 Y d k pc L S M P := by
  intro p l e R s m args below meth c H locs cells slots mc ms ls D CA adE ad A hc ha hn hw hr hl
  exact va_ldcS hc.1 hc.2.1 hc.2.2.2.1 (hw.2.1.2.2.2.2.2.2.1 (Y.1.cls, idx, tx, q) hs) hdg (kk p l e R s m args below meth c H locs cells slots mc ms ls D CA adE ad A hc ha hn hw hr hl)
theorem fr_ldcSW {tx : String} {q : Nat} (hs : (Y.1.cls, idx, tx, q) ∈ fS F) (hdg : decode Y.2.1 pc = .ok (.ldc_w idx, 3)) (kk : Fr F g n0 Y d k (pc + 3) L (.ref q :: S) M P) : Fr F g n0 Y d k pc L S M P := by
  intro p l e R s m args below meth c H locs cells slots mc ms ls D CA adE ad A hc ha hn hw hr hl
  have hZ := hw.2.1.2.2.2.2.2.2.1 (Y.1.cls, idx, tx, q) hs
  intro T hT X
  obtain ⟨t, a, b⟩ := kk p l e R s m args below meth c H locs cells slots mc ms ls D CA adE ad A hc ha hn hw hr hl T hT X
  exact ⟨t, X.ldcStringW hc.1 hc.2.2.2.1 (text := tx) (a := ad q) hZ.1 hZ.2 (g := F0 m pc ls (S.map (cv ad))) rfl (by rw [hc.2.1]; exact hdg) t a, b⟩
theorem fr_gets {C n dc : String} {v : Value} (hz : (C, n, dc, v) ∈ fZ F) (hk : Cond.fieldLink Y.1.cls idx C n dc ∈ wsG) (hdg : decode Y.2.1 pc = .ok (.getstatic idx, 3)) (kk : Fr F g n0 Y d k (pc + 3) L (v :: S) M P) : Fr F g n0 Y d k pc L S M P := by
  intro p l e R s m args below meth c H locs cells slots mc ms ls D CA adE ad A hc ha hn hw hr hl
  exact va_gets hc.1 hc.2.1 (hw.2.1.2.2.1 (C, n, dc, v) hz) hw.2.2.2.2.1 hc.2.2.2.1 (hc.2.2.2.2.1 _ hk) (fun _ h => h) hdg (kk p l e R s m args below meth c H locs cells slots mc ms ls D CA adE ad A hc ha hn hw hr hl)
theorem fr_getsN {C n dc host : String} {v : Value} (hz : (C, n, dc, v) ∈ fZ F) (hk : (Y.1.cls, idx, C, n, dc, host) ∈ fL F) (hdg : decode Y.2.1 pc = .ok (.getstatic idx, 3)) (kk : Fr F g n0 Y d k (pc + 3) L (v :: S) M P) : Fr F g n0 Y d k pc L S M P := by
  intro p l e R s m args below meth c H locs cells slots mc ms ls D CA adE ad A hc ha hn hw hr hl
  exact va_getsN hc.1 hc.2.1 (hw.2.1.2.2.1 (C, n, dc, v) hz) hw.2.2.2.2.1 hc.2.2.2.1 ((hw.2.1.2.2.2.2.2.2.2.2.2.1 (Y.1.cls, idx, C, n, dc, host) hk).use rfl) (fun _ h => h) hdg (kk p l e R s m args below meth c H locs cells slots mc ms ls D CA adE ad A hc ha hn hw hr hl)
theorem fr_rgetf {C n dc : String} {v : Value} {q : Nat} (hz : (C, n, dc, v, q) ∈ fF F) (hk : Cond.fieldLink Y.1.cls idx C n dc ∈ wsG) (hdg : decode Y.2.1 pc = .ok (.getfield idx, 3)) (kk : Fr F g n0 Y d k (pc + 3) L (v :: S) M P) : Fr F g n0 Y d k pc L (.ref q :: S) M P := by
  intro p l e R s m args below meth c H locs cells slots mc ms ls D CA adE ad A hc ha hn hw hr hl
  exact vk_getf hc.1 hc.2.1 (hw.2.1.2.2.2.2.2.1 (C, n, dc, v, q) hz) hw.2.2.2.2.1 hc.2.2.2.1 (hc.2.2.2.2.1 _ hk) (fun _ h => h) hdg (kk p l e R s m args below meth c H locs cells slots mc ms ls D CA adE ad A hc ha hn hw hr hl)
theorem fr_riaload {q n : Nat} {f : Nat → Value} {i : Int32} {v : Value} (hz : (FieldType.int, q, n, f) ∈ fT F) (hin : vp_in i n) (hv : f i.toNatClampNeg = v) (hdg : decode Y.2.1 pc = .ok (.iaload, 1)) (kk : Fr F g n0 Y d k (pc + 1) L (v :: S) M P) : Fr F g n0 Y d k pc L (.int i :: .ref q :: S) M P := by
  intro p l e R s m args below meth c H locs cells slots mc ms ls D CA adE ad A hc ha hn hw hr hl
  exact va_ti hc.1 hc.2.1 (hw.2.1.2.2.2.1 (FieldType.int, q, n, f) hz) hw.2.2.2.2.1 hin (by subst hv; rfl) hdg (kk p l e R s m args below meth c H locs cells slots mc ms ls D CA adE ad A hc ha hn hw hr hl)
theorem fr_rbaload {q n : Nat} {f : Nat → Value} {i : Int32} {v : Value} (hz : (FieldType.byte, q, n, f) ∈ fT F) (hin : vp_in i n) (hv : f i.toNatClampNeg = v) (hdg : decode Y.2.1 pc = .ok (.baload, 1)) (kk : Fr F g n0 Y d k (pc + 1) L (v :: S) M P) : Fr F g n0 Y d k pc L (.int i :: .ref q :: S) M P := by
  intro p l e R s m args below meth c H locs cells slots mc ms ls D CA adE ad A hc ha hn hw hr hl
  exact va_tb hc.1 hc.2.1 (hw.2.1.2.2.2.1 (FieldType.byte, q, n, f) hz) hw.2.2.2.2.1 hin (by subst hv; rfl) hdg (kk p l e R s m args below meth c H locs cells slots mc ms ls D CA adE ad A hc ha hn hw hr hl)
theorem fr_raaload {q n : Nat} {C : String} {f : Nat → Value} {i : Int32} {v : Value} (hz : (FieldType.object C, q, n, f) ∈ fT F) (hin : vp_in i n) (hv : f i.toNatClampNeg = v) (hdg : decode Y.2.1 pc = .ok (.aaload, 1)) (kk : Fr F g n0 Y d k (pc + 1) L (v :: S) M P) : Fr F g n0 Y d k pc L (.int i :: .ref q :: S) M P := by
  intro p l e R s m args below meth c H locs cells slots mc ms ls D CA adE ad A hc ha hn hw hr hl
  exact vb_tq hc.1 hc.2.1 (hw.2.1.2.2.2.1 (FieldType.object C, q, n, f) hz) hw.2.2.2.2.1 hin (by subst hv; rfl) hdg (kk p l e R s m args below meth c H locs cells slots mc ms ls D CA adE ad A hc ha hn hw hr hl)
theorem fr_ralen {q n : Nat} {ty : FieldType} {f : Nat → Value} {v : Int32} (hz : (ty, q, n, f) ∈ fT F) (hv : Int32.ofNat n = v) (hdg : decode Y.2.1 pc = .ok (.arraylength, 1)) (kk : Fr F g n0 Y d k (pc + 1) L (.int v :: S) M P) : Fr F g n0 Y d k pc L (.ref q :: S) M P := by
  intro p l e R s m args below meth c H locs cells slots mc ms ls D CA adE ad A hc ha hn hw hr hl
  exact va_tlen hc.1 hc.2.1 (hw.2.1.2.2.2.1 (ty, q, n, f) hz) hw.2.2.2.2.1 hv hdg (kk p l e R s m args below meth c H locs cells slots mc ms ls D CA adE ad A hc ha hn hw hr hl)
/-- Object's own <init> -/
theorem fr_objInit {o : Nat} (hk1 : Cond.methodLink Y.1.cls idx Lib.objectInit ∈ wsG) (hk2 : Cond.instanceMethod Lib.objectInit ∈ wsG) (hk3 : Cond.code Lib.objectInit ⟨#[0xb1]⟩ 1 none ∈ wsG) (hd : 1 ≤ d) (hS : (S.map fun v => v.category).sum ≤ 8) (hdg : decode Y.2.1 pc = .ok (.invokespecial idx, 3)) (kk : Fr F g n0 Y d k (pc + 3) L S M P) : Fr F g n0 Y d k pc L (.ref o :: S) M P := by
  intro p l e R s m args below meth c H locs cells slots mc ms ls D CA adE ad A hc ha hn hw hr hl
  have hts := hc.2.2.2.2.1
  exact W.objInit hc.1 hc.2.1 hc.2.2.2.1 (hts _ hk1) (hts _ hk2) (hts _ hk3) (g := F0 m pc ls ((Value.ref o :: S).map (cv ad))) rfl (hl.1.trans hc.2.2.1.symm) (a := ad o) (rest := S.map (cv ad)) rfl hdg (Nat.le_trans hd hr.1) (by show 2 * 0 + _ + 12 ≤ _; rw [cat_map]; have := hr.2.1; omega) (kk p l e R s m args below meth c H locs cells slots mc ms ls D CA adE ad A hc ha hn hw hr hl)
/-- one more cell, of kind t, of length n -/
def mNew (M : Mem) (t n : Nat) : Mem := (mN M + 1, fun k => if k = mN M then (t, n) else mS M k, fun k j => if k = mN M then 0 else mI M k j, fun k j => if k = mN M then 0 else mL M k j, fun k j => if k = mN M then .null else mP M k j)
def adN (ad : Nat → Nat) (n q : Nat) : Nat → Nat := fun i => if i = n then q else ad i
theorem adN_o {ad : Nat → Nat} {M : Mem} {q : Nat} (hN : mN M < ROB) : ∀ i, i < mN M ∨ ROB ≤ i → adN ad (mN M) q i = ad i := fun i hi => if_neg (by omega)
theorem cn_new {CA : Nat → ClassId} {ad : Nat → Nat} {M : Mem} {t n q i : Nat} (hM : Mok M) (hN : mN M < ROB) (hi : i < mN M) : cn CA (adN ad (mN M) q) (mNew M t n) i = cn CA ad M i := by
  have e0 : i ≠ mN M := by omega
  have e1 : mS (mNew M t n) i = mS M i := if_neg e0
  have e2 : mI (mNew M t n) i = mI M i := funext fun j => if_neg e0
  have e3 : mL (mNew M t n) i = mL M i := funext fun j => if_neg e0
  have e4 : mP (mNew M t n) i = mP M i := funext fun j => if_neg e0
  have e5 : ∀ j, cv (adN ad (mN M) q) (mP M i j) = cv ad (mP M i j) := fun j => cv_clo (adN_o hN) (hM.2 i j hi)
  have e6 : ∀ j, rv (adN ad (mN M) q) (mP M i j) = rv ad (mP M i j) := fun j => by
    have h5 := hM.2 i j hi
    cases hv : mP M i j <;> try rfl
    rename_i z
    rw [hv] at h5
    exact congrArg some (adN_o hN z (by simpa [clo] using h5))
  unfold cn fsM
  rw [e1, e2, e3, e4]
  simp only [e5, e6]
theorem ws_new {CA : Nat → ClassId} {ad : Nat → Nat} {M : Mem} {t n q : Nat} {e : va_E} (hM : Mok M) (hN : mN M < ROB) (he : cn CA (adN ad (mN M) q) (mNew M t n) (mN M) = e) : wsM CA (adN ad (mN M) q) (mNew M t n) = wsM CA ad M ++ [(q, e)] := by
  unfold wsM
  rw [show mN (mNew M t n) = mN M + 1 from rfl, List.range_succ, List.map_append]
  congr 1
  · refine List.map_congr_left fun i hi => ?_
    have hi2 := List.mem_range.mp hi
    rw [cn_new hM hN hi2, adN_o hN i (Or.inl hi2)]
  · show [(adN ad (mN M) q (mN M), cn CA (adN ad (mN M) q) (mNew M t n) (mN M))] = _
    rw [he]
    show [((if mN M = mN M then q else ad (mN M)), e)] = _
    rw [if_pos rfl]
theorem Mok_new {M : Mem} {t n : Nat} (hM : Mok M) (hN : mN M < ROB) : Mok (mNew M t n) := by
  refine ⟨hN, fun i j hi => ?_⟩
  show clo (mN M + 1) (if i = mN M then .null else mP M i j) = true
  split
  · rfl
  · rename_i h
    have h5 := hM.2 i j (by have : i < mN M + 1 := hi; omega)
    cases hv : mP M i j <;> try rfl
    rename_i z
    rw [hv] at h5
    have h6 : z < mN M ∨ ROB ≤ z := by simpa [clo] using h5
    show (decide (z < mN M + 1) || decide (ROB ≤ z)) = true
    rcases h6 with h6 | h6
    · rw [decide_eq_true (Nat.lt_succ_of_lt h6 : z < mN M + 1), Bool.true_or]
    · rw [decide_eq_true h6, Bool.or_true]
/-- behind a new cell -/
theorem fr_grown {p : Program} {l : Launch} {e : Env} {R : Room} {s : State} {m : MethodId} {args : Array Value} {below : List Frame} {meth : Method} {c : Code} {H H1 : Heap} {locs : List Loc} {cells slots mc ms : Nat} {ls : Array Slot} {D : va_G} {CA : Nat → ClassId} {adE ad : Nat → Nat} {A : Nat → Prop} {t n q w len : Nat} {ce : va_E} (hN : mN M < ROB) (hcl : clLS (mN M) L S = true) (hF : Fok F) (hw1 : w ≤ 64) (hc : Cx Y p l s m args meth c) (ha : agr true n0 ad adE) (hn : n0 ≤ mN M) (hw : Wd F D CA ad A M s H locs) (hr : Rm d (k + 1) R cells slots mc ms) (hl : lv_has ls Y.2.2.1 (lvc ad L))
    (he : ∀ q, cn CA (adN ad (mN M) q) (mNew M t n) (mN M) = ce) (kk : Fr F true n0 Y d k (pc + len) L (.ref (mN M) :: S) (mNew M t n) P)
    (hP : va_P D vwCl (wsM CA ad M ++ [(q, ce)]) H1) (hD : va_D A (wsM CA ad M ++ [(q, ce)])) (hS : va_S A s.heap H1 locs) :
    W p l e R s m args below meth c H1 locs (cells + 1) (slots + w) (vx_MQ below (QcG true n0 D CA adE A P) (XcG true n0 D CA adE A P) args s mc ms A) (F0 m (pc + len) ls (.ref q :: S.map (cv ad))) := by
  have e1 := ws_new (CA := CA) (ad := ad) (q := q) hw.2.2.2.2.2.2 hN (he q)
  rw [← e1] at hP hD
  obtain ⟨y1, y2⟩ := clLS_L (adN_o (ad := ad) (q := q) hN) hcl
  have h9 := kk p l e R s m args below meth c H1 locs (cells + 1) (slots + w) mc ms ls D CA adE (adN ad (mN M) q) A hc (agr.tr (g := true) hn (adN_o hN) ha) (Nat.le_trans hn (Nat.le_succ _)) ⟨hw.1, hw.2.1.ad hF (fun i hi => adN_o hN i (Or.inr hi)), hP, hD, hS, hw.2.2.2.2.2.1, Mok_new hw.2.2.2.2.2.2 hN⟩ ⟨hr.1, hr.2.1, by have := hr.2.2.1; omega, by have := hr.2.2.2.1; omega, hr.2.2.2.2⟩ (by rw [y1]; exact hl)
  have e2 : (Value.ref (mN M) :: S).map (cv (adN ad (mN M) q)) = .ref q :: S.map (cv ad) := by
    show cv (adN ad (mN M) q) (.ref (mN M)) :: S.map (cv (adN ad (mN M) q)) = _
    rw [y2]
    show Value.ref (if mN M = mN M then q else ad (mN M)) :: _ = _
    rw [if_pos rfl]
  rw [e2] at h9
  exact h9
theorem fr_new {ci N : Nat} {C : String} {T : u_T} {ty : Nat → FieldType} (hB : Cb ci C T N ty) (hk1 : Cond.classLink Y.1.cls idx C ∈ wsG) (hk2 : Cond.instantiable C N ∈ wsG) (hk3 : Cond.initialized C ∈ wsG) (hN : mN M < ROB) (hcl : clLS (mN M) L S = true) (hF : Fok F) (hw1 : N ≤ 64) (hdg : decode Y.2.1 pc = .ok (.new idx, 3)) (kk : Fr F true n0 Y d k (pc + 3) L (.ref (mN M) :: S) (mNew M ci 0) P) : Fr F true n0 Y d (k + 1) pc L S M P := by
  intro p l e R s m args below meth c H locs cells slots mc ms ls D CA adE ad A hc ha hn hw hr hl
  have hts := hc.2.2.2.2.1
  obtain ⟨b1, b2, b3, b4, b5, b6, b7⟩ := hB
  refine va_new (fs := (List.range N).map (fun j => if isR ci j then Value.null else .int 0)) hc.1 hc.2.1 hts b2 ty b3 hc.2.2.2.1 (hts _ hk1) (hts _ hk2) (hts _ hk3) hw.1 hw.2.2.1 hw.2.2.2.1 hw.2.2.2.2.1 hw.2.2.2.2.2.1 b1 ?_ (by have := hr.2.2.1; have := hr.2.2.2.2.1; omega) (by have := hr.2.2.2.1; have := hr.2.2.2.2.2; omega) hdg (fun q H1 hP hD hS => fr_grown hN hcl hF hw1 hc ha hn hw hr hl (fun q => ?_) kk hP hD hS)
  · intro j hj
    rw [b7 j hj]
    simp [vp_V, hj]
  · unfold cn fsM
    have e1 : mS (mNew M ci 0) (mN M) = (ci, 0) := if_pos rfl
    have e2 : mI (mNew M ci 0) (mN M) = fun _ => 0 := funext fun j => if_pos rfl
    have e4 : mP (mNew M ci 0) (mN M) = fun _ => .null := funext fun j => if_pos rfl
    rw [e1, e2, e4]
    simp only [b6, if_true, b5]
    rfl
theorem newa_uniq {D : va_G} {CA : Nat → ClassId} {s : State} {t0 t : Nat} {ty : FieldType} {cA : ClassId} (hK : va_K D vwCl (tyL CA) s) (hK2 : va_K D vwCl (tyL CA ++ [(cA, ty)]) s) (ht : tyT[t0]? = some (t, ty)) : cA = CA t := by
  have h1 := (hK.2 t0 (CA t, ty) (by unfold tyL; rw [List.getElem?_map, ht]; rfl)).2
  have h2 := (hK2.2 (tyL CA).length (cA, ty) (by rw [List.getElem?_append_right (Nat.le_refl _), Nat.sub_self]; rfl)).2
  have f1 : s.vm.findClass ("[" ++ ty.toString) = some (CA t) := by
    cases ty with
    | object C => obtain ⟨_, _, _, _, _, h⟩ := h1; exact h
    | _ => exact h1
  have f2 : s.vm.findClass ("[" ++ ty.toString) = some cA := by
    cases ty with
    | object C => obtain ⟨_, _, _, _, _, h⟩ := h2; exact h
    | _ => exact h2
  exact Option.some.inj (f2.symm.trans f1)
theorem fr_newarr {atype : ArrayType} (t0 t N : Nat) {ty : FieldType} {n : Int32} (hty : newarray.typeOf atype = ty) (ht : tyT[t0]? = some (t, ty)) (h1 : 100 ≤ t) (h2 : t < 110) (hdf : defaultValue ty = .int 0) (hk1 : Cond.arrayClass ty ∈ wsG) (hn0 : ¬ n < 0) (hN9 : n.toNatClampNeg = N) (hw1 : N ≤ 64) (hby : N * componentBytes ty ≤ 536870912) (hN : mN M < ROB) (hcl : clLS (mN M) L S = true) (hF : Fok F) (hdg : decode Y.2.1 pc = .ok (.newarray atype, 2)) (kk : Fr F true n0 Y d k (pc + 2) L (.ref (mN M) :: S) (mNew M t N) P) : Fr F true n0 Y d (k + 1) pc L (.int n :: S) M P := by
  intro p l e R s m args below meth c H locs cells slots mc ms ls D CA adE ad A hc ha hn hw hr hl
  have hts := hc.2.2.2.2.1
  subst hty
  refine va_newa (atype := atype) (a0 := (N, .inl (fun _ => 0))) hc.1 hc.2.1 (hts _ hk1) rfl hw.1 hw.2.2.1 hw.2.2.2.1 hw.2.2.2.2.1 hw.2.2.2.2.2.1 (fun cA => by rw [hdf]; rfl) hn0 hN9 hby (by have := hr.2.2.1; have := hr.2.2.2.2.1; omega) (by have := hr.2.2.2.1; have := hr.2.2.2.2.2; omega) hdg (fun q cA H1 hK2 hP hD hS => ?_)
  have e0 := newa_uniq hw.1 hK2 ht
  subst e0
  refine fr_grown hN hcl hF hw1 hc ha hn hw hr hl (fun q => ?_) kk hP hD hS
  unfold cn
  have e1 : mS (mNew M t N) (mN M) = (t, N) := if_pos rfl
  have e2 : mI (mNew M t N) (mN M) = fun _ => 0 := funext fun j => if_pos rfl
  rw [e1, e2, if_neg (show ¬ t < 100 by omega), if_pos h2]
theorem fr_anew (t0 t N : Nat) {C : String} {n : Int32} (ht : tyT[t0]? = some (t, .object C)) (h1 : 120 ≤ t) (hk1 : Cond.classLink Y.1.cls idx C ∈ wsG) (hk2 : C ∈ fA F) (hn0 : ¬ n < 0) (hN9 : n.toNatClampNeg = N) (hw1 : N ≤ 64) (hN : mN M < ROB) (hcl : clLS (mN M) L S = true) (hF : Fok F) (hdg : decode Y.2.1 pc = .ok (.anewarray idx, 3)) (kk : Fr F true n0 Y d k (pc + 3) L (.ref (mN M) :: S) (mNew M t N) P) : Fr F true n0 Y d (k + 1) pc L (.int n :: S) M P := by
  intro p l e R s m args below meth c H locs cells slots mc ms ls D CA adE ad A hc ha hn hw hr hl
  have hts := hc.2.2.2.2.1
  refine va_newq hc.1 hc.2.1 hc.2.2.2.1 (hts _ hk1) (hw.2.1.2.2.2.2.2.2.2.2.2.2.2.1 C hk2) hw.1 hw.2.2.1 hw.2.2.2.1 hw.2.2.2.2.1 hw.2.2.2.2.2.1 hn0 hN9 (by omega) (by have := hr.2.2.1; have := hr.2.2.2.2.1; omega) (by have := hr.2.2.2.1; have := hr.2.2.2.2.2; omega) hdg (fun q cA H1 hK2 hP hD hS => ?_)
  have e0 := newa_uniq hw.1 hK2 ht
  subst e0
  refine fr_grown hN hcl hF hw1 hc ha hn hw hr hl (fun q => ?_) kk hP hD hS
  unfold cn
  have e1 : mS (mNew M t N) (mN M) = (t, N) := if_pos rfl
  have e4 : mP (mNew M t N) (mN M) = fun _ => .null := funext fun j => if_pos rfl
  rw [e1, e4, if_neg (show ¬ t < 100 by omega), if_neg (show ¬ t < 110 by omega), if_neg (show ¬ t < 120 by omega)]
  rfl
/-- a row of numbers copied within the memory -/
def mCpy (M : Mem) (a b sp dp n : Nat) : Mem := (M.1, M.2.1, (fun k => if k = b then va_cpy (mI M a) (mI M b) sp dp n else M.2.2.1 k), M.2.2.2.1, M.2.2.2.2)
theorem ws_cpy {CA : Nat → ClassId} {ad : Nat → Nat} {M : Mem} {a b t N sp dp n : Nat} (hs : mS M b = (t, N)) (h1 : 100 ≤ t) (h2 : t < 110) : (wsM CA ad M).set b (ad b, .inl (CA t, N, .inl (va_cpy (mI M a) (mI M b) sp dp n))) = wsM CA ad (mCpy M a b sp dp n) := by
  refine wsM_set rfl ?_ (fun i hi => ?_)
  · unfold cn
    rw [show mS (mCpy M a b sp dp n) b = (t, N) from hs, if_neg (show ¬ t < 100 by omega), if_pos h2]
    rw [show mI (mCpy M a b sp dp n) b = va_cpy (mI M a) (mI M b) sp dp n from if_pos rfl]
  · have e : mI (mCpy M a b sp dp n) i = mI M i := if_neg hi
    unfold cn fsM
    rw [e]
    rfl
theorem fr_copy {a b t N0 N1 : Nat} (t0 : Nat) {ty : FieldType} {sp dp n : Int32} (ht : tyT[t0]? = some (t, ty)) (h1 : 100 ≤ t) (h2 : t < 110) (hrk : refKind ty = false) (hs0 : mS M a = (t, N0)) (hs1 : mS M b = (t, N1)) (hM0 : a < mN M) (hM1 : b < mN M) (h3 : ¬ sp < 0) (h4 : ¬ dp < 0) (h5 : ¬ n < 0) (h6 : sp.toNatClampNeg + n.toNatClampNeg ≤ N0) (h7 : dp.toNatClampNeg + n.toNatClampNeg ≤ N1) (hft : ∀ i, i < n.toNatClampNeg → fits ty (.int (mI M a (sp.toNatClampNeg + i))) = true)
    (hk1 : Cond.methodLink Y.1.cls idx arraycopyName ∈ wsG) (hk2 : Cond.native arraycopyName ∈ wsG) (hk3 : Cond.static arraycopyName ∈ wsG) (hk4 : Cond.initialized "java/lang/System" ∈ wsG) (hd : 1 ≤ d) (hS : (S.map fun v => v.category).sum ≤ 8) (hdg : decode Y.2.1 pc = .ok (.invokestatic idx, 3)) (kk : Fr F g n0 Y d k (pc + 3) L S (mCpy M a b sp.toNatClampNeg dp.toNatClampNeg n.toNatClampNeg) P) : Fr F g n0 Y d k pc L (.int n :: .int dp :: .ref b :: .int sp :: .ref a :: S) M P := by
  intro p l e R s m args below meth c H locs cells slots mc ms ls D CA adE ad A hc ha hn hw hr hl
  have hts := hc.2.2.2.2.1
  have ht2 : (tyL CA)[t0]? = some (CA t, ty) := by unfold tyL; rw [List.getElem?_map, ht]; rfl
  refine va_copyi hc.1 hc.2.1 (hc.2.2.1.trans hl.1.symm) hc.2.2.2.1 (hts _ hk1) (hts _ hk2) (hts _ hk3) (hts _ hk4) hw.1 hw.2.2.1 hw.2.2.2.1 hw.2.2.2.2.1 a b t0 t0 (ws_int hM0 hs0 h1 h2) (ws_int hM1 hs1 h1 h2) ht2 ht2 hrk h3 h4 h5 h6 h7 hft (Nat.le_trans hd hr.1) ?_ hdg (fun H1 locs1 hP hD hS => ?_)
  · rw [cat_map]
    have e7 : nativeFrameWords "java/lang/System" "arraycopy" 5 = 7 := by decide
    have := hr.2.1
    omega
  · rw [ws_cpy hs1 h1 h2] at hP hD
    exact kk p l e R s m args below meth c H1 locs1 cells slots mc ms ls D CA adE ad A hc ha hn ⟨hw.1, hw.2.1, hP, hD, hS, hw.2.2.2.2.2.1, hw.2.2.2.2.2.2⟩ hr hl
end MR
