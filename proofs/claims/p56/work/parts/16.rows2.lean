/-! ===== rows, second: what was wanting ===== -/
section R2
variable {F : ROF} {g g1 : Bool} {n0 : Nat} {Y Y1 : MD} {d d1 k k1 pc : Nat} {L : List (Nat × Value)} {S S' as st0 : List Value} {M : Mem} {P P1 : Res → Mem → Prop} {idx n : Nat}
theorem fr_st (h : S = S') (kk : Fr F g n0 Y d k pc L S' M P) : Fr F g n0 Y d k pc L S M P := by
  subst h
  exact kk
theorem fr_anull (hdg : decode Y.2.1 pc = .ok (.aconst_null, 1)) (kk : Fr F g n0 Y d k (pc + 1) L (.null :: S) M P) : Fr F g n0 Y d k pc L S M P := fun p l e R s m args below meth c H locs cells slots mc ms ls D CA adE ad A hc ha hn hw hr hl => lv_null hc.1 hc.2.1 hdg (kk p l e R s m args below meth c H locs cells slots mc ms ls D CA adE ad A hc ha hn hw hr hl)
theorem fr_lcmp {x y : Int64} (hdg : decode Y.2.1 pc = .ok (.lcmp, 1)) (kk : Fr F g n0 Y d k (pc + 1) L (.int (lg_cmp x y) :: S) M P) : Fr F g n0 Y d k pc L (.long y :: .long x :: S) M P := fun p l e R s m args below meth c H locs cells slots mc ms ls D CA adE ad A hc ha hn hw hr hl => W.lcmp hc.1 hc.2.1 hdg (kk p l e R s m args below meth c H locs cells slots mc ms ls D CA adE ad A hc ha hn hw hr hl)
/-- divisions that make no NaN -/
def ddv (x y : UInt64) : Option UInt64 := if FP.ddiv x y &&& 0x7fffffffffffffff ≤ 0x7ff0000000000000 then some (FP.ddiv x y) else none
def fdv (x y : UInt32) : Option UInt32 := if FP.fdiv x y &&& 0x7fffffff ≤ 0x7f800000 then some (FP.fdiv x y) else none
theorem fr_ddiv1 {x y v : UInt64} (h : ddv x y = some v) (hdg : decode Y.2.1 pc = .ok (.ddiv, 1)) (kk : Fr F g n0 Y d k (pc + 1) L (.double v :: S) M P) : Fr F g n0 Y d k pc L (.double y :: .double x :: S) M P := by
  unfold ddv at h
  split at h
  · rename_i hh
    cases h
    exact fr_ddiv hdg hh kk
  · cases h
theorem fr_fdiv1 {x y v : UInt32} (h : fdv x y = some v) (hdg : decode Y.2.1 pc = .ok (.fdiv, 1)) (kk : Fr F g n0 Y d k (pc + 1) L (.float v :: S) M P) : Fr F g n0 Y d k pc L (.float y :: .float x :: S) M P := by
  unfold fdv at h
  split at h
  · rename_i hh
    cases h
    exact fr_fdiv hdg hh kk
  · cases h
theorem fr_d2l {b : UInt64} (hk1 : Cond.methodLink Y.1.cls idx ⟨"java/lang/Double", "doubleToRawLongBits", "(D)J"⟩ ∈ wsG) (hk2 : Cond.native ⟨"java/lang/Double", "doubleToRawLongBits", "(D)J"⟩ ∈ wsG) (hk3 : Cond.static ⟨"java/lang/Double", "doubleToRawLongBits", "(D)J"⟩ ∈ wsG) (hk4 : Cond.initialized "java/lang/Double" ∈ wsG) (hd : 1 ≤ d) (hS : (S.map fun v => v.category).sum ≤ 8) (hdg : decode Y.2.1 pc = .ok (.invokestatic idx, 3)) (kk : Fr F g n0 Y d k (pc + 3) L (.long b.toInt64 :: S) M P) : Fr F g n0 Y d k pc L (.double b :: S) M P := by
  intro p l e R s m args below meth c H locs cells slots mc ms ls D CA adE ad A hc ha hn hw hr hl
  have hts := hc.2.2.2.2.1
  refine vn_d2l hc.1 hc.2.1 (hc.2.2.1.trans hl.1.symm) hc.2.2.2.1 (hts _ hk1) (hts _ hk2) (hts _ hk3) (hts _ hk4) (Nat.le_trans hd hr.1) ?_ hdg (kk p l e R s m args below meth c H locs cells slots mc ms ls D CA adE ad A hc ha hn hw hr hl)
  rw [cat_map]
  have := hr.2.1
  omega
theorem fr_f2i {b : UInt32} (hk1 : Cond.methodLink Y.1.cls idx ⟨"java/lang/Float", "floatToRawIntBits", "(F)I"⟩ ∈ wsG) (hk2 : Cond.native ⟨"java/lang/Float", "floatToRawIntBits", "(F)I"⟩ ∈ wsG) (hk3 : Cond.static ⟨"java/lang/Float", "floatToRawIntBits", "(F)I"⟩ ∈ wsG) (hk4 : Cond.initialized "java/lang/Float" ∈ wsG) (hd : 1 ≤ d) (hS : (S.map fun v => v.category).sum ≤ 8) (hdg : decode Y.2.1 pc = .ok (.invokestatic idx, 3)) (kk : Fr F g n0 Y d k (pc + 3) L (.int b.toInt32 :: S) M P) : Fr F g n0 Y d k pc L (.float b :: S) M P := by
  intro p l e R s m args below meth c H locs cells slots mc ms ls D CA adE ad A hc ha hn hw hr hl
  have hts := hc.2.2.2.2.1
  refine vn_f2i hc.1 hc.2.1 (hc.2.2.1.trans hl.1.symm) hc.2.2.2.1 (hts _ hk1) (hts _ hk2) (hts _ hk3) (hts _ hk4) (Nat.le_trans hd hr.1) ?_ hdg (kk p l e R s m args below meth c H locs cells slots mc ms ls D CA adE ad A hc ha hn hw hr hl)
  rw [cat_map]
  have := hr.2.1
  omega
/-! rows of longs, of bytes; places that hold references -/
def aL (M : Mem) (a : Nat) (i : Int32) : Option Int64 := if (mS M a).1 = 110 ∧ a < mN M ∧ ¬ (i < 0 ∨ (mS M a).2 ≤ i.toNatClampNeg) then some (mL M a i.toNatClampNeg) else none
def asL (M : Mem) (a : Nat) (i : Int32) (x : Int64) : Option Mem := if (mS M a).1 = 110 ∧ a < mN M ∧ ¬ (i < 0 ∨ (mS M a).2 ≤ i.toNatClampNeg) then some (mUL M a i.toNatClampNeg x) else none
def asP (M : Mem) (t ci a : Nat) (i : Int32) (v : Nat) : Option Mem := if (mS M a).1 = t ∧ a < mN M ∧ ¬ (i < 0 ∨ (mS M a).2 ≤ i.toNatClampNeg) ∧ (mS M v).1 = ci ∧ v < mN M then some (mUP M a i.toNatClampNeg (.ref v)) else none
def sP (M : Mem) (ci a j v : Nat) : Option Mem := if (mS M a).1 = ci ∧ a < mN M ∧ clo (mN M) (.ref v) = true then some (mUP M a j (.ref v)) else none
theorem fr_aL {a : Nat} {i : Int32} {v : Int64} (h : aL M a i = some v) (hdg : decode Y.2.1 pc = .ok (.laload, 1)) (kk : Fr F g n0 Y d k (pc + 1) L (.long v :: S) M P) : Fr F g n0 Y d k pc L (.int i :: .ref a :: S) M P := by
  unfold aL at h
  split at h
  · rename_i hh
    cases h
    exact fr_laload (n := (mS M a).2) (Prod.ext hh.1 rfl) hh.2.1 hh.2.2 hdg kk
  · cases h
theorem fr_asL {a : Nat} {i : Int32} {x : Int64} {M' : Mem} (h : asL M a i x = some M') (hdg : decode Y.2.1 pc = .ok (.lastore, 1)) (kk : Fr F g n0 Y d k (pc + 1) L S M' P) : Fr F g n0 Y d k pc L (.long x :: .int i :: .ref a :: S) M P := by
  unfold asL at h
  split at h
  · rename_i hh
    cases h
    exact fr_lastore (n := (mS M a).2) (Prod.ext hh.1 rfl) hh.2.1 hh.2.2 hdg kk
  · cases h
theorem fr_asB {a : Nat} {i x : Int32} {M' : Mem} (h : asB M a i x = some M') (hdg : decode Y.2.1 pc = .ok (.bastore, 1)) (kk : Fr F g n0 Y d k (pc + 1) L S M' P) : Fr F g n0 Y d k pc L (.int x :: .int i :: .ref a :: S) M P := by
  unfold asB asI at h
  split at h
  · rename_i hh
    cases h
    exact fr_bastore (n := (mS M a).2) (Prod.ext hh.1 rfl) hh.2.1 hh.2.2 rfl hdg kk
  · cases h
theorem fr_asP {a t ci v N : Nat} {i : Int32} {M' : Mem} {C : String} {T : u_T} {ty : Nat → FieldType} (hB : Cb ci C T N ty) (ht : (t = 120 ∧ C = "MapHall$Sheet") ∨ (t = 121 ∧ C = "MapHall$State")) (h : asP M t ci a i v = some M') (hdg : decode Y.2.1 pc = .ok (.aastore, 1)) (kk : Fr F g n0 Y d k (pc + 1) L S M' P) : Fr F g n0 Y d k pc L (.ref v :: .int i :: .ref a :: S) M P := by
  unfold asP at h
  split at h
  · rename_i hh
    cases h
    exact fr_aastore (n := (mS M a).2) hB ht (Prod.ext hh.1 rfl) hh.2.1 hh.2.2.1 hh.2.2.2.1 hh.2.2.2.2 hdg kk
  · cases h
theorem ty_obj {ty : FieldType} (h : refKind ty = true) : ∀ q : Nat, narrow ty (.ref q) = .ref q ∧ fits ty (.ref q) = true := by
  intro q
  cases ty <;> first | exact ⟨rfl, rfl⟩ | cases h
theorem fr_sPF {ci N idx a v : Nat} {C : String} {T : u_T} {ty : Nat → FieldType} {M' : Mem} (hB : Cb ci C T N ty) (j : Nat) (hj : j < N) (hR : isR ci j = true) (hty : refKind (ty j) = true) (hf : (T j).2.2.2 = true) (hdc : (T j).1 = Y.1.cls) (hk : Jvm.Cond.fieldLink Y.1.cls idx (T j).1 (T j).2.1 (T j).2.2.1 ∈ wsG) (hdg : decode Y.2.1 pc = .ok (.putfield idx, 3)) (hin : Y.1.name = "<init>") (h : sP M ci a j v = some M') (kk : Fr F g n0 Y d k (pc + 3) L S M' P) : Fr F g n0 Y d k pc L (.ref v :: .ref a :: S) M P := by
  unfold sP at h
  split at h
  · rename_i hh
    cases h
    exact fr_putP hB j hh.1 hh.2.1 hj hk hf hin hdc hR (ty_obj hty) rfl hh.2.2 hdg kk
  · cases h
theorem fr_sP {ci N idx a v : Nat} {C : String} {T : u_T} {ty : Nat → FieldType} {M' : Mem} (hB : Cb ci C T N ty) (j : Nat) (hj : j < N) (hR : isR ci j = true) (hty : refKind (ty j) = true) (hf : (T j).2.2.2 = false) (hk : Jvm.Cond.fieldLink Y.1.cls idx (T j).1 (T j).2.1 (T j).2.2.1 ∈ wsG) (hdg : decode Y.2.1 pc = .ok (.putfield idx, 3)) (h : sP M ci a j v = some M') (kk : Fr F g n0 Y d k (pc + 3) L S M' P) : Fr F g n0 Y d k pc L (.ref v :: .ref a :: S) M P := by
  unfold sP at h
  split at h
  · rename_i hh
    cases h
    intro p l e R s m args below meth c H locs cells slots mc ms ls D CA adE ad A hc ha hn hw hr hl
    obtain ⟨b1, b2, b3, b4, b5, b6, b7⟩ := hB
    have hn1 := ty_obj hty
    refine va_put (v := .ref (ad v)) hc.1 hc.2.1 hc.2.2.2.2.1 b2 ty b3 b4 hc.2.2.2.1 hw.1 hw.2.2.1 hw.2.2.2.1 hw.2.2.2.2.1 a (ws_obj hh.2.1 hh.1 b6) b1 j hj (hc.2.2.2.2.1 _ hk) (fun x h => h) hf (b3 j hj) (hn1 _).1 (hn1 _).2 (by rw [fsM_len hh.1, b5]; exact hj) hdg (fun H1 locs1 hP hD hS => ?_)
    rw [show (Value.ref (ad v)) = cv ad (.ref v) from rfl, ws_UP_obj hh.1 b6 hR] at hP hD
    exact kk p l e R s m args below meth c H1 locs1 cells slots mc ms ls D CA adE ad A hc ha hn ⟨hw.1, hw.2.1, hP, hD, hS, hw.2.2.2.2.2.1, Mok_UP hw.2.2.2.2.2.2 hh.2.2⟩ hr hl
  · cases h
theorem fr_sIF {ci N idx a : Nat} {C : String} {T : u_T} {ty : Nat → FieldType} {x : Int32} {M' : Mem} (hB : Cb ci C T N ty) (j : Nat) (hj : j < N) (hR : isR ci j = false) (hf : (T j).2.2.2 = true) (hin : Y.1.name = "<init>") (hdc : (T j).1 = Y.1.cls) (hk : Jvm.Cond.fieldLink Y.1.cls idx (T j).1 (T j).2.1 (T j).2.2.1 ∈ wsG) (hdg : decode Y.2.1 pc = .ok (.putfield idx, 3)) (h : sI M ci a j (ty j) x = some M') (kk : Fr F g n0 Y d k (pc + 3) L S M' P) : Fr F g n0 Y d k pc L (.int x :: .ref a :: S) M P := by
  unfold sI at h
  split at h
  · rename_i hh
    cases h
    intro p l e R s m args below meth c H locs cells slots mc ms ls D CA adE ad A hc ha hn hw hr hl
    obtain ⟨b1, b2, b3, b4, b5, b6, b7⟩ := hB
    refine va_putF (v := .int x) hc.1 hc.2.1 hc.2.2.2.2.1 b2 ty b3 b4 hc.2.2.2.1 hw.1 hw.2.2.1 hw.2.2.2.1 hw.2.2.2.2.1 a (ws_obj hh.2.1 hh.1 b6) b1 j hj (hc.2.2.2.2.1 _ hk) (fun x h => h) hf (hc.2.2.2.2.2.2.2.2.2.trans hin) hdc (b3 j hj) hh.2.2.1 hh.2.2.2 (by rw [fsM_len hh.1, b5]; exact hj) hdg (fun H1 locs1 hP hD hS => ?_)
    rw [ws_UI_obj hh.1 b6 hR] at hP hD
    exact kk p l e R s m args below meth c H1 locs1 cells slots mc ms ls D CA adE ad A hc ha hn ⟨hw.1, hw.2.1, hP, hD, hS, hw.2.2.2.2.2.1, Mok_UI hw.2.2.2.2.2.2⟩ hr hl
  · cases h
/-! new cells: what is asked of the memory before -/
def gd (M : Mem) (L : List (Nat × Value)) (S : List Value) : Option Unit := if mN M < ROB ∧ clLS (mN M) L S = true then some () else none
theorem gd_N {u : Unit} (h : gd M L S = some u) : mN M < ROB := by
  unfold gd at h
  split at h
  · rename_i hh
    exact hh.1
  · cases h
theorem gd_L {u : Unit} (h : gd M L S = some u) : clLS (mN M) L S = true := by
  unfold gd at h
  split at h
  · rename_i hh
    exact hh.2
  · cases h
def na (n : Int32) : Option Unit := if ¬ n < 0 ∧ n.toNatClampNeg ≤ 64 then some () else none
theorem na_0 {n : Int32} {u : Unit} (h : na n = some u) : ¬ n < 0 := by
  unfold na at h
  split at h
  · rename_i hh
    exact hh.1
  · cases h
theorem na_1 {n : Int32} {u : Unit} (h : na n = some u) : n.toNatClampNeg ≤ 64 := by
  unfold na at h
  split at h
  · rename_i hh
    exact hh.2
  · cases h
theorem cb_le (ty : FieldType) : componentBytes ty ≤ 8 := by cases ty <;> first | decide | exact Nat.le_of_ble_eq_true rfl
theorem fr_newg {ci N : Nat} {C : String} {T : u_T} {ty : Nat → FieldType} (hB : Cb ci C T N ty) (hk1 : Cond.classLink Y.1.cls idx C ∈ wsG) (hk2 : Cond.instantiable C N ∈ wsG) (hk3 : Cond.initialized C ∈ wsG) (hN : mN M < ROB) (hcl : clLS (mN M) L S = true) (hF : Fok F) (hw1 : N ≤ 64) (hdg : decode Y.2.1 pc = .ok (.new idx, 3)) {k2 : Nat} (hk : k2 + 1 ≤ k) (kk : Fr F true n0 Y d k2 (pc + 3) L (.ref (mN M) :: S) (mNew M ci 0) P) : Fr F true n0 Y d k pc L S M P := fr_room (Nat.le_refl _) hk (fr_new hB hk1 hk2 hk3 hN hcl hF hw1 hdg kk)
theorem fr_newarrg {atype : ArrayType} (t0 t : Nat) {ty : FieldType} {n : Int32} (hty : newarray.typeOf atype = ty) (ht : tyT[t0]? = some (t, ty)) (h1 : 100 ≤ t) (h2 : t < 110) (hdf : defaultValue ty = .int 0) (hk1 : Cond.arrayClass ty ∈ wsG) (hN : mN M < ROB) (hcl : clLS (mN M) L S = true) (hF : Fok F) (hn0 : ¬ n < 0) (hw1 : n.toNatClampNeg ≤ 64) (hdg : decode Y.2.1 pc = .ok (.newarray atype, 2)) {k2 : Nat} (hk : k2 + 1 ≤ k) (kk : Fr F true n0 Y d k2 (pc + 2) L (.ref (mN M) :: S) (mNew M t n.toNatClampNeg) P) : Fr F true n0 Y d k pc L (.int n :: S) M P := by
  refine fr_room (Nat.le_refl _) hk (fr_newarr t0 t n.toNatClampNeg hty ht h1 h2 hdf hk1 hn0 rfl hw1 ?_ hN hcl hF hdg kk)
  have h3 : n.toNatClampNeg * componentBytes ty ≤ 64 * 8 := Nat.mul_le_mul hw1 (cb_le ty)
  omega
theorem fr_anewg (t0 t : Nat) {C : String} {n : Int32} (ht : tyT[t0]? = some (t, .object C)) (h1 : 120 ≤ t) (hk1 : Cond.classLink Y.1.cls idx C ∈ wsG) (hk2 : C ∈ fA F) (hN : mN M < ROB) (hcl : clLS (mN M) L S = true) (hF : Fok F) (hn0 : ¬ n < 0) (hw1 : n.toNatClampNeg ≤ 64) (hdg : decode Y.2.1 pc = .ok (.anewarray idx, 3)) {k2 : Nat} (hk : k2 + 1 ≤ k) (kk : Fr F true n0 Y d k2 (pc + 3) L (.ref (mN M) :: S) (mNew M t n.toNatClampNeg) P) : Fr F true n0 Y d k pc L (.int n :: S) M P :=
  fr_room (Nat.le_refl _) hk (fr_anew t0 t n.toNatClampNeg ht h1 hk1 hk2 hn0 rfl hw1 hN hcl hF hdg kk)
theorem fr_newarrL {n : Int32} (hk1 : Cond.arrayClass .long ∈ wsG) (hN : mN M < ROB) (hcl : clLS (mN M) L S = true) (hF : Fok F) (hn0 : ¬ n < 0) (hw1 : n.toNatClampNeg ≤ 64) (hdg : decode Y.2.1 pc = .ok (.newarray .long, 2)) {k2 : Nat} (hk : k2 + 1 ≤ k) (kk : Fr F true n0 Y d k2 (pc + 2) L (.ref (mN M) :: S) (mNew M 110 n.toNatClampNeg) P) : Fr F true n0 Y d k pc L (.int n :: S) M P := by
  refine fr_room (Nat.le_refl _) hk ?_
  intro p l e R s m args below meth c H locs cells slots mc ms ls D CA adE ad A hc ha hn hw hr hl
  have hts := hc.2.2.2.2.1
  refine va_newa (atype := .long) (a0 := (n.toNatClampNeg, .inr (.inl (fun _ => 0)))) hc.1 hc.2.1 (hts _ hk1) rfl hw.1 hw.2.2.1 hw.2.2.2.1 hw.2.2.2.2.1 hw.2.2.2.2.2.1 (fun cA => rfl) hn0 rfl (by have h3 : n.toNatClampNeg * componentBytes .long ≤ 64 * 8 := Nat.mul_le_mul hw1 (cb_le _); show n.toNatClampNeg * componentBytes .long ≤ _; omega) (by have := hr.2.2.1; have := hr.2.2.2.2.1; omega) (by have := hr.2.2.2.1; have := hr.2.2.2.2.2; show slots + n.toNatClampNeg ≤ _; omega) hdg (fun q cA H1 hK2 hP hD hS => ?_)
  have e0 := newa_uniq (t0 := 3) (t := 110) (ty := .long) hw.1 hK2 rfl
  subst e0
  refine fr_grown hN hcl hF hw1 hc ha hn hw hr hl (fun q => ?_) kk hP hD hS
  unfold cn
  have e1 : mS (mNew M 110 n.toNatClampNeg) (mN M) = (110, n.toNatClampNeg) := if_pos rfl
  have e3 : mL (mNew M 110 n.toNatClampNeg) (mN M) = fun _ => 0 := funext fun j => if_pos rfl
  rw [e1, e3]
  rfl
end R2
