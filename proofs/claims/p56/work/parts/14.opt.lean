/-! ===== what a walk reads and writes, as partial functions ===== -/
theorem ob {α β : Type} {o : Option α} {f : α → Option β} {b : β} (h : o.bind f = some b) : ∃ a, o = some a ∧ f a = some b := by
  cases o with
  | none => cases h
  | some a => exact ⟨a, rfl, h⟩
/-- an int field -/
def gI (M : Mem) (ci a j : Nat) : Option Int32 := if (mS M a).1 = ci ∧ a < mN M then some (mI M a j) else none
/-- a field that refers to something -/
def gP (M : Mem) (ci a j : Nat) : Option Nat := if (mS M a).1 = ci ∧ a < mN M then (match mP M a j with | .ref k => some k | _ => none) else none
/-- a place of a row of numbers -/
def aI (M : Mem) (t a : Nat) (i : Int32) : Option Int32 := if (mS M a).1 = t ∧ a < mN M ∧ ¬ (i < 0 ∨ (mS M a).2 ≤ i.toNatClampNeg) then some (mI M a i.toNatClampNeg) else none
def aP (M : Mem) (t a : Nat) (i : Int32) : Option Nat := if (mS M a).1 = t ∧ a < mN M ∧ ¬ (i < 0 ∨ (mS M a).2 ≤ i.toNatClampNeg) then (match mP M a i.toNatClampNeg with | .ref k => some k | _ => none) else none
def aLn (M : Mem) (t a : Nat) : Option Int32 := if (mS M a).1 = t ∧ a < mN M then some (Int32.ofNat (mS M a).2) else none
def sI (M : Mem) (ci a j : Nat) (ty : FieldType) (x : Int32) : Option Mem := if (mS M a).1 = ci ∧ a < mN M ∧ narrow ty (.int x) = .int x ∧ fits ty (.int x) = true then some (mUI M a j x) else none
def asI (M : Mem) (t a : Nat) (i x : Int32) : Option Mem := if (mS M a).1 = t ∧ a < mN M ∧ ¬ (i < 0 ∨ (mS M a).2 ≤ i.toNatClampNeg) then some (mUI M a i.toNatClampNeg x) else none
def asC (M : Mem) (a : Nat) (i x : Int32) : Option Mem := asI M 101 a i (vp_nar .char x)
def asB (M : Mem) (a : Nat) (i x : Int32) : Option Mem := asI M 102 a i (vp_nar .byte x)
def nz (y : Int32) : Option Unit := if y = 0 then none else some ()
/-- a whole number of a type as it is answered -/
def nr (ty : FieldType) (x : Int32) : Option Unit := if narrow ty (.int x) = .int x then some () else none
def cpy (M : Mem) (t a b : Nat) (ty : FieldType) (sp dp n : Int32) : Option Mem := if (mS M a).1 = t ∧ (mS M b).1 = t ∧ a < mN M ∧ b < mN M ∧ ¬ sp < 0 ∧ ¬ dp < 0 ∧ ¬ n < 0 ∧ sp.toNatClampNeg + n.toNatClampNeg ≤ (mS M a).2 ∧ dp.toNatClampNeg + n.toNatClampNeg ≤ (mS M b).2 ∧ ((List.range n.toNatClampNeg).all fun i => fits ty (.int (mI M a (sp.toNatClampNeg + i)))) = true then some (mCpy M a b sp.toNatClampNeg dp.toNatClampNeg n.toNatClampNeg) else none
/-- answers, as the frames have them -/
def wI (x : Int32) : Res := .inl (some (.int x))
def wJ (x : Int64) : Res := .inl (some (.long x))
def wD (x : UInt64) : Res := .inl (some (.double x))
def wF (x : UInt32) : Res := .inl (some (.float x))
def wP (x : Nat) : Res := .inl (some (.ref x))
def wU (_ : Unit) : Res := .inl none
def wE {α : Type} (w : α → Res) (x : α ⊕ String) : Res := match x with
  | .inl y => w y
  | .inr E => .inr E
section OP
variable {F : ROF} {g : Bool} {n0 : Nat} {Y : MD} {d k pc : Nat} {L : List (Nat × Value)} {S : List Value} {M : Mem} {P : Res → Mem → Prop}
theorem fr_gI {ci N idx a : Nat} {C : String} {T : u_T} {ty : Nat → FieldType} {v : Int32} (hB : Cb ci C T N ty) (j : Nat) (hj : j < N) (hR : isR ci j = false) (hk : Jvm.Cond.fieldLink Y.1.cls idx (T j).1 (T j).2.1 (T j).2.2.1 ∈ wsG) (hdg : decode Y.2.1 pc = .ok (.getfield idx, 3)) (h : gI M ci a j = some v) (kk : Fr F g n0 Y d k (pc + 3) L (.int v :: S) M P) : Fr F g n0 Y d k pc L (.ref a :: S) M P := by
  unfold gI at h
  split at h
  · rename_i hh
    cases h
    exact fr_getf hB j hh.1 hh.2 hj hk hdg (by rw [hR]; rfl) kk
  · cases h
theorem fr_gP {ci N idx a : Nat} {C : String} {T : u_T} {ty : Nat → FieldType} {v : Nat} (hB : Cb ci C T N ty) (j : Nat) (hj : j < N) (hR : isR ci j = true) (hk : Jvm.Cond.fieldLink Y.1.cls idx (T j).1 (T j).2.1 (T j).2.2.1 ∈ wsG) (hdg : decode Y.2.1 pc = .ok (.getfield idx, 3)) (h : gP M ci a j = some v) (kk : Fr F g n0 Y d k (pc + 3) L (.ref v :: S) M P) : Fr F g n0 Y d k pc L (.ref a :: S) M P := by
  unfold gP at h
  split at h
  · rename_i hh
    split at h
    · rename_i w hw
      cases h
      exact fr_getf hB j hh.1 hh.2 hj hk hdg (by rw [hR]; exact hw) kk
    · cases h
  · cases h
theorem fr_sI {ci N idx a : Nat} {C : String} {T : u_T} {ty : Nat → FieldType} {x : Int32} {M' : Mem} (hB : Cb ci C T N ty) (j : Nat) (hj : j < N) (hR : isR ci j = false) (hf : (T j).2.2.2 = false) (hk : Jvm.Cond.fieldLink Y.1.cls idx (T j).1 (T j).2.1 (T j).2.2.1 ∈ wsG) (hdg : decode Y.2.1 pc = .ok (.putfield idx, 3)) (h : sI M ci a j (ty j) x = some M') (kk : Fr F g n0 Y d k (pc + 3) L S M' P) : Fr F g n0 Y d k pc L (.int x :: .ref a :: S) M P := by
  unfold sI at h
  split at h
  · rename_i hh
    cases h
    exact fr_putI hB j hh.1 hh.2.1 hj hk hf hR hh.2.2.1 hh.2.2.2 hdg kk
  · cases h
theorem fr_aI0 {a : Nat} {i v : Int32} (h : aI M 100 a i = some v) (hdg : decode Y.2.1 pc = .ok (.iaload, 1)) (kk : Fr F g n0 Y d k (pc + 1) L (.int v :: S) M P) : Fr F g n0 Y d k pc L (.int i :: .ref a :: S) M P := by
  unfold aI at h
  split at h
  · rename_i hh
    cases h
    exact fr_iaload (n := (mS M a).2) (Prod.ext hh.1 rfl) hh.2.1 hh.2.2 hdg kk
  · cases h
theorem fr_aI1 {a : Nat} {i v : Int32} (h : aI M 101 a i = some v) (hdg : decode Y.2.1 pc = .ok (.caload, 1)) (kk : Fr F g n0 Y d k (pc + 1) L (.int v :: S) M P) : Fr F g n0 Y d k pc L (.int i :: .ref a :: S) M P := by
  unfold aI at h
  split at h
  · rename_i hh
    cases h
    exact fr_caload (n := (mS M a).2) (Prod.ext hh.1 rfl) hh.2.1 hh.2.2 hdg kk
  · cases h
theorem fr_aP {t a q : Nat} {i : Int32} (ht : t = 120 ∨ t = 121) (h : aP M t a i = some q) (hdg : decode Y.2.1 pc = .ok (.aaload, 1)) (kk : Fr F g n0 Y d k (pc + 1) L (.ref q :: S) M P) : Fr F g n0 Y d k pc L (.int i :: .ref a :: S) M P := by
  unfold aP at h
  split at h
  · rename_i hh
    split at h
    · rename_i w hw
      cases h
      exact fr_aaload (n := (mS M a).2) ht (Prod.ext hh.1 rfl) hh.2.1 hh.2.2 hw hdg kk
    · cases h
  · cases h
theorem fr_asI {a : Nat} {i x : Int32} {M' : Mem} (h : asI M 100 a i x = some M') (hdg : decode Y.2.1 pc = .ok (.iastore, 1)) (kk : Fr F g n0 Y d k (pc + 1) L S M' P) : Fr F g n0 Y d k pc L (.int x :: .int i :: .ref a :: S) M P := by
  unfold asI at h
  split at h
  · rename_i hh
    cases h
    exact fr_iastore (n := (mS M a).2) (Prod.ext hh.1 rfl) hh.2.1 hh.2.2 hdg kk
  · cases h
theorem fr_asC {a : Nat} {i x : Int32} {M' : Mem} (h : asC M a i x = some M') (hdg : decode Y.2.1 pc = .ok (.castore, 1)) (kk : Fr F g n0 Y d k (pc + 1) L S M' P) : Fr F g n0 Y d k pc L (.int x :: .int i :: .ref a :: S) M P := by
  unfold asC asI at h
  split at h
  · rename_i hh
    cases h
    exact fr_castore (n := (mS M a).2) (Prod.ext hh.1 rfl) hh.2.1 hh.2.2 rfl hdg kk
  · cases h
theorem fr_aLn {a t : Nat} {v : Int32} (t0 : Nat) {ty : FieldType} (ht : tyT[t0]? = some (t, ty)) (h1 : 100 ≤ t) (h : aLn M t a = some v) (hdg : decode Y.2.1 pc = .ok (.arraylength, 1)) (kk : Fr F g n0 Y d k (pc + 1) L (.int v :: S) M P) : Fr F g n0 Y d k pc L (.ref a :: S) M P := by
  unfold aLn at h
  split at h
  · rename_i hh
    exact fr_alen (n := (mS M a).2) t0 ht h1 (Prod.ext hh.1 rfl) hh.2 (Option.some.inj h) hdg kk
  · cases h
theorem fr_irem1 {x y : Int32} (h : nz y = some ()) (hdg : decode Y.2.1 pc = .ok (.irem, 1)) (kk : Fr F g n0 Y d k (pc + 1) L (.int (x - x / y * y) :: S) M P) : Fr F g n0 Y d k pc L (.int y :: .int x :: S) M P := by
  unfold nz at h
  split at h
  · cases h
  · rename_i hh
    exact fr_irem hdg hh kk
theorem fr_idiv1 {x y : Int32} (h : nz y = some ()) (hdg : decode Y.2.1 pc = .ok (.idiv, 1)) (kk : Fr F g n0 Y d k (pc + 1) L (.int (x / y) :: S) M P) : Fr F g n0 Y d k pc L (.int y :: .int x :: S) M P := by
  unfold nz at h
  split at h
  · cases h
  · rename_i hh
    exact fr_idiv hdg hh kk
theorem fr_zret1 {x : Int32} {ty : FieldType} (hret : Y.2.2.2.1 = some ty) (hdg : decode Y.2.1 pc = .ok (.ireturn, 1)) (h : nr ty x = some ()) (hP : P (wI x) M) : Fr F g n0 Y d k pc L [.int x] M P := by
  unfold nr at h
  split at h
  · rename_i hh
    exact fr_zret hh hret hdg hP
  · cases h
theorem fr_cpy {a b t : Nat} (t0 : Nat) {ty : FieldType} {sp dp n : Int32} {idx : Nat} {M' : Mem} (ht : tyT[t0]? = some (t, ty)) (h1 : 100 ≤ t) (h2 : t < 110) (hrk : refKind ty = false) (hk1 : Cond.methodLink Y.1.cls idx arraycopyName ∈ wsG) (hk2 : Cond.native arraycopyName ∈ wsG) (hk3 : Cond.static arraycopyName ∈ wsG) (hk4 : Cond.initialized "java/lang/System" ∈ wsG) (hd : 1 ≤ d) (hS : (S.map fun v => v.category).sum ≤ 8) (hdg : decode Y.2.1 pc = .ok (.invokestatic idx, 3)) (h : cpy M t a b ty sp dp n = some M') (kk : Fr F g n0 Y d k (pc + 3) L S M' P) : Fr F g n0 Y d k pc L (.int n :: .int dp :: .ref b :: .int sp :: .ref a :: S) M P := by
  unfold cpy at h
  split at h
  · rename_i hh
    obtain ⟨q1, q2, q3, q4, q5, q6, q7, q8, q9, q10⟩ := hh
    cases h
    exact fr_copy (N0 := (mS M a).2) (N1 := (mS M b).2) t0 ht h1 h2 hrk (Prod.ext q1 rfl) (Prod.ext q2 rfl) q3 q4 q5 q6 q7 q8 q9 (fun i hi => List.all_eq_true.mp q10 i (List.mem_range.mpr hi)) hk1 hk2 hk3 hk4 hd hS hdg kk
  · cases h
end OP
