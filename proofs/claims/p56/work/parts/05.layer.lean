/-! ===== the layer: a memory of cells with numbers for addresses; a frame's walk over it ===== -/
/-- what a text that is being built does by methods of its own alone: words got at the entry -/
def lw_more : List Cond := [⟨"java/lang/AbstractStringBuilder", "ensureCapacityInternal", "(I)V"⟩, ⟨"java/lang/AbstractStringBuilder", "putStringAt", "(ILjava/lang/String;)V"⟩, ⟨"java/lang/AbstractStringBuilder", "inflateIfNeededFor", "(Ljava/lang/String;)V"⟩].map (fun y : MethodName => Cond.selects "java/lang/StringBuilder" y y)
/-- the good words of the tables -/
def wsG : List Cond := (lw_tbl ++ lw_more).filter goodWord
theorem wsG_of {w : Cond} (h : w ∈ lw_tbl) (g : goodWord w = true) : w ∈ wsG := List.mem_filter.mpr ⟨List.mem_append_left _ h, g⟩
theorem wsG_good {w : Cond} (h : w ∈ wsG) : (w.onTables && w.keeps) = true ∨ ∃ ty, w = .arrayClass ty := good_of_word (List.mem_filter.mp h).2
theorem wsG_at {ws : List Cond} (h : ∀ w ∈ ws, w ∈ wsG) (i : Nat) {w : Cond} (hi : ws[i]? = some w) : w ∈ wsG := h w (List.mem_of_getElem? hi)
theorem wsG_all (ws : List Cond) (ps : List Nat) (hp : ws = ps.filterMap (fun i => lw_tbl[i]?)) (hg : ws.all goodWord = true) : ∀ w ∈ ws, w ∈ wsG := by
  intro w hw
  refine wsG_of ?_ (List.all_eq_true.mp hg w hw)
  rw [hp] at hw
  obtain ⟨i, -, hi⟩ := List.mem_filterMap.mp hw
  exact List.mem_of_getElem? hi
/-- a memory: how many cells; kind and length of each; whole numbers; long numbers; references -/
abbrev Mem : Type := Nat × (Nat → Nat × Nat) × (Nat → Nat → Int32) × (Nat → Nat → Int64) × (Nat → Nat → Value)
def mN (M : Mem) : Nat := M.1
def mS (M : Mem) (k : Nat) : Nat × Nat := M.2.1 k
def mI (M : Mem) (k j : Nat) : Int32 := M.2.2.1 k j
def mL (M : Mem) (k j : Nat) : Int64 := M.2.2.2.1 k j
def mP (M : Mem) (k j : Nat) : Value := M.2.2.2.2 k j
def u2 {α : Type} (f : Nat → Nat → α) (k j : Nat) (x : α) : Nat → Nat → α := fun a b => if a = k ∧ b = j then x else f a b
def mUI (M : Mem) (k j : Nat) (x : Int32) : Mem := (M.1, M.2.1, u2 M.2.2.1 k j x, M.2.2.2.1, M.2.2.2.2)
def mUL (M : Mem) (k j : Nat) (x : Int64) : Mem := (M.1, M.2.1, M.2.2.1, u2 M.2.2.2.1 k j x, M.2.2.2.2)
def mUP (M : Mem) (k j : Nat) (x : Value) : Mem := (M.1, M.2.1, M.2.2.1, M.2.2.2.1, u2 M.2.2.2.2 k j x)
theorem u2_s {α : Type} (f : Nat → Nat → α) (k j : Nat) (x : α) : u2 f k j x k j = x := by simp [u2]
theorem u2_n {α : Type} {f : Nat → Nat → α} {k j a b : Nat} {x : α} (h : a ≠ k ∨ b ≠ j) : u2 f k j x a b = f a b := by
  unfold u2
  rw [if_neg]
  rintro ⟨rfl, rfl⟩
  rcases h with h | h <;> exact h rfl
def cv (ad : Nat → Nat) (v : Value) : Value := match v with
  | .ref k => .ref (ad k)
  | v => v
def rv (ad : Nat → Nat) (v : Value) : Option Nat := match v with
  | .ref k => some (ad k)
  | _ => none
theorem cv_cat (ad : Nat → Nat) (v : Value) : (cv ad v).category = v.category := by cases v <;> rfl
theorem cv_rf (ad : Nat → Nat) {v : Value} (h : v = .null ∨ ∃ k, v = .ref k) : va_rf (rv ad v) = cv ad v := by
  rcases h with rfl | ⟨k, rfl⟩ <;> rfl
/-- which fields of the kinds of vwCl are references -/
def ftab : List (List Bool) := [[true, false, false, false], [true, false, false, false], [true, true, true, true, false, true], [true], [true, false, false], [true, false], [true, true, true, false, false], [true, true, false, false, false, false, false, false], [true], [true, true, false, false, false, false], [true, true, false, true, true, true, true, true, false, false]]
def isR (ci j : Nat) : Bool := (ftab.getD ci []).getD j false
def nF (ci : Nat) : Nat := (ftab.getD ci []).length
def fsM (ad : Nat → Nat) (M : Mem) (k : Nat) : List Value := (List.range (nF (mS M k).1)).map (fun j => if isR (mS M k).1 j then cv ad (mP M k j) else .int (mI M k j))
/-- a cell as the kit has it: kinds below 100 are those of vwCl; 100 int, 101 char, 102 byte, 110 long, 120, 121 references -/
def cn (CA : Nat → ClassId) (ad : Nat → Nat) (M : Mem) (k : Nat) : va_E :=
  if (mS M k).1 < 100 then .inr ((mS M k).1, fsM ad M k)
  else if (mS M k).1 < 110 then .inl (CA (mS M k).1, (mS M k).2, .inl (mI M k))
  else if (mS M k).1 < 120 then .inl (CA (mS M k).1, (mS M k).2, .inr (.inl (mL M k)))
  else .inl (CA (mS M k).1, (mS M k).2, .inr (.inr (.inr (.inr (fun j => rv ad (mP M k j))))))
def tyT : List (Nat × FieldType) := [(100, .int), (101, .char), (102, .byte), (110, .long), (120, .object "MapHall$Sheet"), (121, .object "MapHall$State")]
def tyL (CA : Nat → ClassId) : List (ClassId × FieldType) := tyT.map (fun q => (CA q.1, q.2))
def wsM (CA : Nat → ClassId) (ad : Nat → Nat) (M : Mem) : va_W := (List.range (mN M)).map (fun k => (ad k, cn CA ad M k))
theorem wsM_at {CA : Nat → ClassId} {ad : Nat → Nat} {M : Mem} {k : Nat} (h : k < mN M) : (wsM CA ad M)[k]? = some (ad k, cn CA ad M k) := by
  unfold wsM
  rw [List.getElem?_map, List.getElem?_range h]
  rfl
theorem wsM_len (CA : Nat → ClassId) (ad : Nat → Nat) (M : Mem) : (wsM CA ad M).length = mN M := by simp [wsM]
theorem wsM_lt {CA : Nat → ClassId} {ad : Nat → Nat} {M : Mem} {k : Nat} {q : Nat × va_E} (h : (wsM CA ad M)[k]? = some q) : k < mN M := by
  have := (List.getElem?_eq_some_iff.mp h).1
  rwa [wsM_len] at this
theorem wsM_set {CA : Nat → ClassId} {ad : Nat → Nat} {M M' : Mem} {k : Nat} {e : va_E} (hn : mN M' = mN M) (he : cn CA ad M' k = e) (ho : ∀ j, j ≠ k → cn CA ad M' j = cn CA ad M j) : (wsM CA ad M).set k (ad k, e) = wsM CA ad M' := by
  apply List.ext_getElem?
  intro i
  rw [List.getElem?_set]
  by_cases hi : i < mN M
  · rw [wsM_at (M := M') (by rw [hn]; exact hi)]
    by_cases hk : k = i
    · subst hk
      rw [if_pos rfl, if_pos (by rw [wsM_len]; exact hi), he]
    · rw [if_neg hk, wsM_at hi, ho i (fun z => hk z.symm)]
  · have h1 : (wsM CA ad M')[i]? = none := List.getElem?_eq_none_iff.mpr (by rw [wsM_len]; omega)
    have h2 : (wsM CA ad M)[i]? = none := List.getElem?_eq_none_iff.mpr (by rw [wsM_len]; omega)
    rw [h1, h2]
    by_cases hk : k = i
    · subst hk
      rw [if_pos rfl, if_neg (by rw [wsM_len]; omega)]
    · rw [if_neg hk]
/-- what is held by cells that nobody writes: statics, arrays, objects, their fields, texts; classes that can't be cast; words of the tables that speak of nests, casts, arrays -/
abbrev ROF : Type := List (String × String × String × Value) × List (FieldType × Nat × Nat × (Nat → Value)) × List (String × Nat) × List (String × String × String × Value × Nat) × List (String × Nat × String × Nat) × List (String × String) × List (String × Nat × MethodName × String) × List (String × Nat × String × String × String × String) × List (String × String) × List String × List MethodName
def fZ (F : ROF) : List (String × String × String × Value) := F.1
def fT (F : ROF) : List (FieldType × Nat × Nat × (Nat → Value)) := F.2.1
def fO (F : ROF) : List (String × Nat) := F.2.2.1
def fF (F : ROF) : List (String × String × String × Value × Nat) := F.2.2.2.1
def fS (F : ROF) : List (String × Nat × String × Nat) := F.2.2.2.2.1
def fN (F : ROF) : List (String × String) := F.2.2.2.2.2.1
def fM (F : ROF) : List (String × Nat × MethodName × String) := F.2.2.2.2.2.2.1
def fL (F : ROF) : List (String × Nat × String × String × String × String) := F.2.2.2.2.2.2.2.1
def fC (F : ROF) : List (String × String) := F.2.2.2.2.2.2.2.2.1
def fA (F : ROF) : List String := F.2.2.2.2.2.2.2.2.2.1
def fD (F : ROF) : List MethodName := F.2.2.2.2.2.2.2.2.2.2
def Zr (F : ROF) (ad : Nat → Nat) (A : Nat → Prop) (U : State) (H : Heap) : Prop :=
  vx_Zq Bundle.tN "UNASSIGNED_STACK" Bundle.steD A U H ∧ vx_Zq Bundle.tN "SUPPRESSED_SENTINEL" Bundle.listD A U H ∧
  (∀ q ∈ fZ F, va_Z q.1 q.2.1 q.2.2.1 (cv ad q.2.2.2) A U H) ∧
  (∀ q ∈ fT F, va_T q.1 (ad q.2.1) q.2.2.1 (fun j => cv ad (q.2.2.2 j)) A U H) ∧
  (∀ q ∈ fO F, va_O q.1 (ad q.2) A U H) ∧
  (∀ q ∈ fF F, va_OF q.1 q.2.1 q.2.2.1 (cv ad q.2.2.2.1) (ad q.2.2.2.2) A U H) ∧
  (∀ q ∈ fS F, vk_R q.1 q.2.1 q.2.2.1 (ad q.2.2.2) U) ∧
  (∀ q ∈ fN F, va_Nc q.1 q.2 U) ∧
  (∀ q ∈ fM F, va_Nw (.methodLinkNest q.1 q.2.1 q.2.2.1 q.2.2.2) U) ∧
  (∀ q ∈ fL F, va_Nw (.fieldLinkNest q.1 q.2.1 q.2.2.1 q.2.2.2.1 q.2.2.2.2.1 q.2.2.2.2.2) U) ∧
  (∀ q ∈ fC F, va_Nw (.castable q.1 q.2) U) ∧
  (∀ q ∈ fA F, va_AO q U) ∧
  (∀ q ∈ fD F, va_Nw (.declares q) U)
theorem Zr.warm {F : ROF} {ad : Nat → Nat} {A : Nat → Prop} {u U : State} {H : Heap} (hW : u.WarmedH U.vm) (h : Zr F ad A u H) : Zr F ad A U H := by
  obtain ⟨h1, h2, h3, h4, h5, h6, h7, h8, h9, h10, h11, h12, h13⟩ := h
  have hvm := hW.alike
  exact ⟨h1.moved hvm, h2.moved hvm, fun q hq => (h3 q hq).moved hvm, fun q hq => (h4 q hq).moved hvm, fun q hq => (h5 q hq).moved hvm, fun q hq => (h6 q hq).moved hvm, fun q hq => (h7 q hq).warm hW, fun q hq => (h8 q hq).moved hvm, fun q hq => (h9 q hq).warmM hW, fun q hq => (h10 q hq).warmF hW, fun q hq => (h11 q hq).warmC hW, fun q hq => (h12 q hq).moved hvm, fun q hq => (h13 q hq).warmD hW⟩
theorem Zr.kept {F : ROF} {ad : Nat → Nat} {A : Nat → Prop} {U : State} {H H1 : Heap} (h : Zr F ad A U H) (hq : ∀ a : Nat, a < H.size → ¬ A a → H1[a]? = H[a]?) : Zr F ad A U H1 := by
  obtain ⟨h1, h2, h3, h4, h5, h6, h7⟩ := h
  exact ⟨h1.kept hq, h2.kept hq, fun q h => (h3 q h).kept hq, fun q h => (h4 q h).kept hq, fun q h => (h5 q h).kept hq, fun q h => (h6 q h).kept hq, h7⟩
theorem Zr.narrow {F : ROF} {ad : Nat → Nat} {A B : Nat → Prop} {U : State} {H : Heap} (h : Zr F ad A U H) (hAB : ∀ q, B q → A q) : Zr F ad B U H := by
  obtain ⟨h1, h2, h3, h4, h5, h6, h7⟩ := h
  exact ⟨h1.narrow hAB, h2.narrow hAB, fun q h => (h3 q h).narrow hAB, fun q h => (h4 q h).narrow hAB, fun q h => (h5 q h).narrow hAB, fun q h => (h6 q h).narrow hAB, h7⟩
theorem Zr.calling {F : ROF} {ad : Nat → Nat} {A : Nat → Prop} {U : State} {H : Heap} {g : JFrame} {mk : MethodId} {a : Array Value} (h : Zr F ad A U H) : Zr F ad A (U.calling g mk a) H := by
  obtain ⟨h1, h2, h3, h4, h5, h6, h7, h8, h9, h10, h11, h12, h13⟩ := h
  have hvm : U.vm.Alike (U.calling g mk a).vm := Vm.Alike.refl U.vm
  exact ⟨h1.moved hvm, h2.moved hvm, fun q hq => (h3 q hq).moved hvm, fun q hq => (h4 q hq).moved hvm, fun q hq => (h5 q hq).moved hvm, fun q hq => (h6 q hq).moved hvm, fun q hq => (h7 q hq).same rfl, fun q hq => (h8 q hq).moved hvm, fun q hq => (h9 q hq).same rfl rfl, fun q hq => (h10 q hq).same rfl rfl, fun q hq => (h11 q hq).same rfl rfl, fun q hq => (h12 q hq).moved hvm, fun q hq => (h13 q hq).same rfl rfl⟩
/-- from this number on addresses name cells that nobody writes -/
abbrev ROB : Nat := 1000000
def clo (n : Nat) (v : Value) : Bool := match v with
  | .ref k => decide (k < n) || decide (ROB ≤ k)
  | _ => true
/-- not too many cells; they name cells that are there, or such as nobody writes -/
def Mok (M : Mem) : Prop := mN M ≤ ROB ∧ ∀ k j, k < mN M → clo (mN M) (mP M k j) = true
/-- the addresses' map may grow from n0 on (g), or stays -/
def agr (g : Bool) (n0 : Nat) (a b : Nat → Nat) : Prop := if g then ∀ i, i < n0 ∨ ROB ≤ i → a i = b i else a = b
theorem agr.rf (g : Bool) (n0 : Nat) (a : Nat → Nat) : agr g n0 a a := by cases g <;> simp [agr]
theorem agr.tr {g : Bool} {n0 n1 : Nat} {a b c : Nat → Nat} (hn : n0 ≤ n1) (h1 : agr g n1 a b) (h2 : agr g n0 b c) : agr g n0 a c := by
  cases g
  · exact Eq.trans h1 h2
  · intro i hi
    rw [h1 i (hi.elim (fun h => Or.inl (by omega)) Or.inr), h2 i hi]
abbrev Res : Type := Option Value ⊕ String
/-- a method: its name, bytes, places for locals, what it answers, its table of handlers -/
abbrev MD : Type := MethodName × ByteArray × Nat × Option FieldType × List (Nat × Nat × Nat × Nat)
def cdW (Y : MD) : Cond := if Y.2.2.2.2.isEmpty then .code Y.1 Y.2.1 Y.2.2.1 Y.2.2.2.1 else .codeWith Y.1 Y.2.1 Y.2.2.1 Y.2.2.2.1 Y.2.2.2.2
def wsY (Y : MD) : List Cond := cdW Y :: wsG
def rmG (d k : Nat) : Room := { frames := d, cells := k, slots := 64 * k, locals := 64 * d }
/-- the world behind a method -/
def Wt (D : va_G) (CA : Nat → ClassId) (ad : Nat → Nat) (A : Nat → Prop) (M : Mem) (t : State) : Prop := va_P D vwCl (wsM CA ad M) t.heap ∧ va_K D vwCl (tyL CA) t ∧ va_D A (wsM CA ad M) ∧ Mok M
def QcG (g : Bool) (n0 : Nat) (D : va_G) (CA : Nat → ClassId) (adE : Nat → Nat) (A : Nat → Prop) (P : Res → Mem → Prop) : Array Value → State → Outcome → State → Prop := fun _ st oc t =>
  (∃ (v : Option Value) (M' : Mem) (ad' : Nat → Nat), agr g n0 ad' adE ∧ n0 ≤ mN M' ∧ oc = .returned (v.map (cv ad')) ∧ P (.inl v) M' ∧ Wt D CA ad' A M' t) ∧ va_F A st t
def XcG (g : Bool) (n0 : Nat) (D : va_G) (CA : Nat → ClassId) (adE : Nat → Nat) (A : Nat → Prop) (P : Res → Mem → Prop) : String → State → State → Prop := fun E st t =>
  (∃ (M' : Mem) (ad' : Nat → Nat), agr g n0 ad' adE ∧ n0 ≤ mN M' ∧ P (.inr E) M' ∧ Wt D CA ad' A M' t) ∧ va_F A st t
/-- what a method's frame stands on -/
def Cx (Y : MD) (p : Program) (l : Launch) (s : State) (m : MethodId) (args : Array Value) (meth : Method) (c : Code) : Prop :=
  p.tables.exec = Jvm.exec ∧ c.code = Y.2.1 ∧ c.maxLocals = Y.2.2.1 ∧ s.vm.findClass Y.1.cls = some m.cls ∧ (∀ w ∈ wsG, w.before args s = true) ∧ meth.locks = false ∧ meth.sig.returnType = Y.2.2.2.1 ∧ c.exceptionTable.toList = tableOf Y.2.2.2.2 ∧ l.stackTraces = false ∧ meth.name = Y.1.name
def Wd (F : ROF) (D : va_G) (CA : Nat → ClassId) (ad : Nat → Nat) (A : Nat → Prop) (M : Mem) (s : State) (H : Heap) (locs : List Loc) : Prop :=
  va_K D vwCl (tyL CA) s ∧ Zr F ad A s s.heap ∧ va_P D vwCl (wsM CA ad M) H ∧ va_D A (wsM CA ad M) ∧ va_S A s.heap H locs ∧ (∀ q, s.heap.size ≤ q → A q) ∧ Mok M
def Rm (d k : Nat) (R : Room) (cells slots mc ms : Nat) : Prop := d ≤ R.frames ∧ 64 * d ≤ R.locals ∧ cells + k ≤ mc ∧ slots + 64 * k ≤ ms ∧ mc ≤ R.cells ∧ ms ≤ R.slots
def lvc (ad : Nat → Nat) (L : List (Nat × Value)) : List (Nat × Value) := L.map (fun q => (q.1, cv ad q.2))
theorem lvc_at {ad : Nat → Nat} {L : List (Nat × Value)} {ls : Array Slot} {nL : Nat} (h : lv_has ls nL (lvc ad L)) (j : Nat) {i : Nat} {v : Value} (hj : L[j]? = some (i, v)) : ls[i]? = some (.val (cv ad v)) := by
  refine lv_at h j ?_
  unfold lvc
  rw [List.getElem?_map, hj]
  rfl
def lins (L : List (Nat × Value)) (x : Nat × Value) : List (Nat × Value) := match L with
  | [] => [x]
  | q :: t => if x.1 < q.1 then x :: q :: t else q :: lins t x
theorem lins_mem (L : List (Nat × Value)) (x q : Nat × Value) : q ∈ lins L x → q = x ∨ q ∈ L := by
  induction L with
  | nil => intro h; simpa [lins] using h
  | cons y t ih =>
    intro h
    unfold lins at h
    split at h
    · simpa using h
    · rcases List.mem_cons.mp h with h | h
      · exact Or.inr (h ▸ List.mem_cons_self)
      · exact (ih h).elim Or.inl (fun z => Or.inr (List.mem_cons_of_mem _ z))
def lset (L : List (Nat × Value)) (i : Nat) (v : Value) : List (Nat × Value) := lins (L.filter (fun q => !(q.1 == i) && !(q.1 + 1 == i && q.2.category == 2))) (i, v)
def lset2 (L : List (Nat × Value)) (i : Nat) (v : Value) : List (Nat × Value) := lins (L.filter (fun q => !(q.1 == i) && (!(q.1 == i + 1) && !(q.1 + 1 == i && q.2.category == 2)))) (i, v)
theorem lset_has {ad : Nat → Nat} {L : List (Nat × Value)} {i nL : Nat} {v : Value} {ls : Array Slot} (h : lv_has ls nL ((i, cv ad v) :: (lvc ad L).filter (fun q => !(q.1 == i) && !(q.1 + 1 == i && q.2.category == 2)))) : lv_has ls nL (lvc ad (lset L i v)) := by
  refine ⟨h.1, h.2.1, fun q hq => ?_⟩
  obtain ⟨z, hz, rfl⟩ := List.mem_map.mp hq
  refine h.2.2 _ ?_
  rcases lins_mem _ _ _ hz with rfl | hz
  · exact List.mem_cons_self
  · obtain ⟨z1, z2⟩ := List.mem_filter.mp hz
    refine List.mem_cons_of_mem _ (List.mem_filter.mpr ⟨List.mem_map.mpr ⟨z, z1, rfl⟩, ?_⟩)
    simpa only [cv_cat] using z2
theorem lset2_has {ad : Nat → Nat} {L : List (Nat × Value)} {i nL : Nat} {v : Value} {ls : Array Slot} (h : lv_has ls nL ((i, cv ad v) :: (lvc ad L).filter (fun q => !(q.1 == i) && (!(q.1 == i + 1) && !(q.1 + 1 == i && q.2.category == 2))))) : lv_has ls nL (lvc ad (lset2 L i v)) := by
  refine ⟨h.1, h.2.1, fun q hq => ?_⟩
  obtain ⟨z, hz, rfl⟩ := List.mem_map.mp hq
  refine h.2.2 _ ?_
  rcases lins_mem _ _ _ hz with rfl | hz
  · exact List.mem_cons_self
  · obtain ⟨z1, z2⟩ := List.mem_filter.mp hz
    refine List.mem_cons_of_mem _ (List.mem_filter.mpr ⟨List.mem_map.mpr ⟨z, z1, rfl⟩, ?_⟩)
    simpa only [cv_cat] using z2
/-- from this place on, with these locals, this stack, this memory, the method comes to an end of which P holds: at most d frames deep, at most k cells made -/
def Fr (F : ROF) (g : Bool) (n0 : Nat) (Y : MD) (d k : Nat) (pc : Nat) (L : List (Nat × Value)) (S : List Value) (M : Mem) (P : Res → Mem → Prop) : Prop :=
  ∀ (p : Program) (l : Launch) (e : Env) (R : Room) (s : State) (m : MethodId) (args : Array Value) (below : List Frame) (meth : Method) (c : Code) (H : Heap) (locs : List Loc) (cells slots mc ms : Nat) (ls : Array Slot) (D : va_G) (CA : Nat → ClassId) (adE ad : Nat → Nat) (A : Nat → Prop),
    Cx Y p l s m args meth c → agr g n0 ad adE → n0 ≤ mN M → Wd F D CA ad A M s H locs → Rm d k R cells slots mc ms → lv_has ls Y.2.2.1 (lvc ad L) →
    W p l e R s m args below meth c H locs cells slots (vx_MQ below (QcG g n0 D CA adE A P) (XcG g n0 D CA adE A P) args s mc ms A) (F0 m pc ls (S.map (cv ad)))
/-- the same frame with something of class E thrown over it -/
def Fx (F : ROF) (g : Bool) (n0 : Nat) (Y : MD) (d k : Nat) (pc : Nat) (L : List (Nat × Value)) (M : Mem) (E : String) (P : Res → Mem → Prop) : Prop :=
  ∀ (p : Program) (l : Launch) (e : Env) (R : Room) (s : State) (m : MethodId) (args : Array Value) (below : List Frame) (meth : Method) (c : Code) (H : Heap) (locs : List Loc) (cells slots mc ms : Nat) (ls : Array Slot) (D : va_G) (CA : Nat → ClassId) (adE ad : Nat → Nat) (A : Nat → Prop) (S : List Value) (q : Addr) (ce : Cell),
    Cx Y p l s m args meth c → agr g n0 ad adE → n0 ≤ mN M → Wd F D CA ad A M s H locs → Rm d k R cells slots mc ms → lv_has ls Y.2.2.1 (lvc ad L) → H[q]? = some ce → ce.vm = .none → s.vm.findClass E = some ce.cls →
    vx_W p l e R s m args below meth c H locs cells slots (vx_MQ below (QcG g n0 D CA adE A P) (XcG g n0 D CA adE A P) args s mc ms A) (F0 m pc ls S) q
def PcG (F : ROF) (D : va_G) (CA : Nat → ClassId) (ad : Nat → Nat) (sz : Nat) (as : List Value) (M : Mem) : Array Value → State → Prop :=
  va_Pc (as.map (cv ad)) (fun U => U.heap.size = sz ∧ va_P D vwCl (wsM CA ad M) U.heap ∧ va_K D vwCl (tyL CA) U ∧ va_D (fun _ => True) (wsM CA ad M) ∧ Mok M ∧ Zr F ad (va_A (wsM CA ad M) sz) U U.heap)
/-- a method's contract: from its entry, whoever calls it -/
def Ev (F : ROF) (g : Bool) (Y : MD) (d k : Nat) (as : List Value) (M : Mem) (P : Res → Mem → Prop) : Prop :=
  ∀ (l : Launch) (D : va_G) (CA : Nat → ClassId) (ad : Nat → Nat) (sz : Nat), l.stackTraces = false →
    vx_Met l Y.1 (wsY Y) (rmG d k) (PcG F D CA ad sz as M) (QcG g (mN M) D CA ad (va_A (wsM CA ad M) sz) P) (XcG g (mN M) D CA ad (va_A (wsM CA ad M) sz) P) k (64 * k) (va_A (wsM CA ad M) sz)
theorem lv_args_cv (ad : Nat → Nat) (as : List Value) : ∀ i, lv_args i (as.map (cv ad)) = lvc ad (lv_args i as) := by
  induction as with
  | nil => intro i; rfl
  | cons v t ih => intro i; simp only [List.map_cons, lv_args, lvc, cv_cat]; rw [ih]; rfl
theorem lg_sl_cv (ad : Nat → Nat) (as : List Value) : (lg_sl (as.map (cv ad))).length = (lg_sl as).length := by
  induction as with
  | nil => rfl
  | cons v t ih => cases v <;> simp_all [lg_sl, cv, Value.category]
