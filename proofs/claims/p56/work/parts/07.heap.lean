/-! ===== rows over the cells ===== -/
/-- what a program decides of a kind -/
def Cb (ci : Nat) (C : String) (T : u_T) (N : Nat) (ty : Nat → FieldType) : Prop :=
  vwCl[ci]? = some (C, T, N) ∧ (∀ w ∈ u_ws C T N, w ∈ wsG) ∧ (∀ k, k < N → parseFieldDescriptor (T k).2.2.1 = some (ty k)) ∧ (∀ a, a < N → ∀ b, b < N → a ≠ b → (T a).2.1 ≠ (T b).2.1) ∧ nF ci = N ∧ ci < 100 ∧ ∀ j, j < N → defaultValue (ty j) = if isR ci j then .null else .int 0
theorem fsM_at {ad : Nat → Nat} {M : Mem} {a ci j : Nat} (hs : (mS M a).1 = ci) (hj : j < nF ci) : (fsM ad M a)[j]? = some (if isR ci j then cv ad (mP M a j) else .int (mI M a j)) := by
  unfold fsM
  rw [hs, List.getElem?_map, List.getElem?_range hj]
  rfl
theorem fsM_len {ad : Nat → Nat} {M : Mem} {a ci : Nat} (hs : (mS M a).1 = ci) : (fsM ad M a).length = nF ci := by
  unfold fsM
  rw [List.length_map, List.length_range, hs]
theorem ws_obj {CA : Nat → ClassId} {ad : Nat → Nat} {M : Mem} {a ci : Nat} (ha : a < mN M) (hs : (mS M a).1 = ci) (hc : ci < 100) : (wsM CA ad M)[a]? = some (ad a, .inr (ci, fsM ad M a)) := by
  rw [wsM_at ha]
  unfold cn
  rw [hs, if_pos hc]
theorem ws_int {CA : Nat → ClassId} {ad : Nat → Nat} {M : Mem} {a t n : Nat} (ha : a < mN M) (hs : mS M a = (t, n)) (h1 : 100 ≤ t) (h2 : t < 110) : (wsM CA ad M)[a]? = some (ad a, .inl (CA t, n, .inl (mI M a))) := by
  rw [wsM_at ha]
  unfold cn
  rw [hs, if_neg (show ¬ t < 100 by omega), if_pos h2]
theorem ws_long {CA : Nat → ClassId} {ad : Nat → Nat} {M : Mem} {a t n : Nat} (ha : a < mN M) (hs : mS M a = (t, n)) (h1 : 110 ≤ t) (h2 : t < 120) : (wsM CA ad M)[a]? = some (ad a, .inl (CA t, n, .inr (.inl (mL M a)))) := by
  rw [wsM_at ha]
  unfold cn
  rw [hs, if_neg (show ¬ t < 100 by omega), if_neg (show ¬ t < 110 by omega), if_pos h2]
theorem ws_ref {CA : Nat → ClassId} {ad : Nat → Nat} {M : Mem} {a t n : Nat} (ha : a < mN M) (hs : mS M a = (t, n)) (h1 : 120 ≤ t) : (wsM CA ad M)[a]? = some (ad a, .inl (CA t, n, .inr (.inr (.inr (.inr (fun j => rv ad (mP M a j))))))) := by
  rw [wsM_at ha]
  unfold cn
  rw [hs, if_neg (show ¬ t < 100 by omega), if_neg (show ¬ t < 110 by omega), if_neg (show ¬ t < 120 by omega)]
theorem cn_UI_n {CA : Nat → ClassId} {ad : Nat → Nat} {M : Mem} {a j i : Nat} {x : Int32} (h : i ≠ a) : cn CA ad (mUI M a j x) i = cn CA ad M i := by
  have e : mI (mUI M a j x) i = mI M i := funext fun b => u2_n (Or.inl h)
  unfold cn fsM
  rw [e]
  rfl
theorem cn_UL_n {CA : Nat → ClassId} {ad : Nat → Nat} {M : Mem} {a j i : Nat} {x : Int64} (h : i ≠ a) : cn CA ad (mUL M a j x) i = cn CA ad M i := by
  have e : mL (mUL M a j x) i = mL M i := funext fun b => u2_n (Or.inl h)
  unfold cn
  rw [e]
  rfl
theorem cn_UP_n {CA : Nat → ClassId} {ad : Nat → Nat} {M : Mem} {a j i : Nat} {x : Value} (h : i ≠ a) : cn CA ad (mUP M a j x) i = cn CA ad M i := by
  have e : mP (mUP M a j x) i = mP M i := funext fun b => u2_n (Or.inl h)
  unfold cn fsM
  rw [e]
  rfl
theorem fs_UI {ad : Nat → Nat} {M : Mem} {a ci j : Nat} {x : Int32} (hs : (mS M a).1 = ci) (hR : isR ci j = false) : fsM ad (mUI M a j x) a = (fsM ad M a).set j (.int x) := by
  apply List.ext_getElem?
  intro i
  rw [List.getElem?_set, fsM_len hs]
  by_cases hi : i < nF ci
  · rw [fsM_at (ci := ci) (show (mS (mUI M a j x) a).1 = ci from hs) hi, fsM_at hs hi]
    by_cases hj : j = i
    · subst hj
      rw [if_pos rfl, if_pos hi, hR]
      show some (Value.int (u2 _ a j x a j)) = _
      rw [u2_s]
    · rw [if_neg hj]
      show some (if isR ci i then cv ad (mP M a i) else Value.int (u2 _ a j x a i)) = _
      rw [u2_n (Or.inr (fun z => hj z.symm))]
      rfl
  · rw [List.getElem?_eq_none_iff.mpr (by rw [fsM_len (ci := ci) (show (mS (mUI M a j x) a).1 = ci from hs)]; omega), List.getElem?_eq_none_iff.mpr (by rw [fsM_len hs]; omega)]
    by_cases hj : j = i
    · subst hj; rw [if_pos rfl, if_neg hi]
    · rw [if_neg hj]
theorem fs_UP {ad : Nat → Nat} {M : Mem} {a ci j : Nat} {x : Value} (hs : (mS M a).1 = ci) (hR : isR ci j = true) : fsM ad (mUP M a j x) a = (fsM ad M a).set j (cv ad x) := by
  apply List.ext_getElem?
  intro i
  rw [List.getElem?_set, fsM_len hs]
  by_cases hi : i < nF ci
  · rw [fsM_at (ci := ci) (show (mS (mUP M a j x) a).1 = ci from hs) hi, fsM_at hs hi]
    by_cases hj : j = i
    · subst hj
      rw [if_pos rfl, if_pos hi, hR]
      show some (cv ad (u2 _ a j x a j)) = _
      rw [u2_s]
    · rw [if_neg hj]
      show some (if isR ci i then cv ad (u2 _ a j x a i) else Value.int (mI M a i)) = _
      rw [u2_n (Or.inr (fun z => hj z.symm))]
      rfl
  · rw [List.getElem?_eq_none_iff.mpr (by rw [fsM_len (ci := ci) (show (mS (mUP M a j x) a).1 = ci from hs)]; omega), List.getElem?_eq_none_iff.mpr (by rw [fsM_len hs]; omega)]
    by_cases hj : j = i
    · subst hj; rw [if_pos rfl, if_neg hi]
    · rw [if_neg hj]
theorem ws_UI_obj {CA : Nat → ClassId} {ad : Nat → Nat} {M : Mem} {a ci j : Nat} {x : Int32} (hs : (mS M a).1 = ci) (hc : ci < 100) (hR : isR ci j = false) : (wsM CA ad M).set a (ad a, .inr (ci, (fsM ad M a).set j (.int x))) = wsM CA ad (mUI M a j x) := by
  refine wsM_set rfl ?_ (fun i hi => cn_UI_n hi)
  rw [← fs_UI hs hR]
  unfold cn
  rw [show (mS (mUI M a j x) a).1 = ci from hs, if_pos hc]
theorem ws_UP_obj {CA : Nat → ClassId} {ad : Nat → Nat} {M : Mem} {a ci j : Nat} {x : Value} (hs : (mS M a).1 = ci) (hc : ci < 100) (hR : isR ci j = true) : (wsM CA ad M).set a (ad a, .inr (ci, (fsM ad M a).set j (cv ad x))) = wsM CA ad (mUP M a j x) := by
  refine wsM_set rfl ?_ (fun i hi => cn_UP_n hi)
  rw [← fs_UP hs hR]
  unfold cn
  rw [show (mS (mUP M a j x) a).1 = ci from hs, if_pos hc]
theorem ws_UI_arr {CA : Nat → ClassId} {ad : Nat → Nat} {M : Mem} {a t n j : Nat} {x : Int32} (hs : mS M a = (t, n)) (h1 : 100 ≤ t) (h2 : t < 110) : (wsM CA ad M).set a (ad a, .inl (CA t, n, .inl (upd (mI M a) j x))) = wsM CA ad (mUI M a j x) := by
  refine wsM_set rfl ?_ (fun i hi => cn_UI_n hi)
  unfold cn
  rw [show mS (mUI M a j x) a = (t, n) from hs, if_neg (show ¬ t < 100 by omega), if_pos h2]
  have e : mI (mUI M a j x) a = upd (mI M a) j x := by
    funext b
    show u2 _ a j x a b = upd (mI M a) j x b
    unfold u2 upd
    simp only [true_and]
    rfl
  rw [e]
theorem ws_UL_arr {CA : Nat → ClassId} {ad : Nat → Nat} {M : Mem} {a t n j : Nat} {x : Int64} (hs : mS M a = (t, n)) (h1 : 110 ≤ t) (h2 : t < 120) : (wsM CA ad M).set a (ad a, .inl (CA t, n, .inr (.inl (vp_updL (mL M a) j x)))) = wsM CA ad (mUL M a j x) := by
  refine wsM_set rfl ?_ (fun i hi => cn_UL_n hi)
  unfold cn
  rw [show mS (mUL M a j x) a = (t, n) from hs, if_neg (show ¬ t < 100 by omega), if_neg (show ¬ t < 110 by omega), if_pos h2]
  have e : mL (mUL M a j x) a = vp_updL (mL M a) j x := by
    funext b
    show u2 _ a j x a b = vp_updL (mL M a) j x b
    unfold u2 vp_updL
    simp only [true_and]
    rfl
  rw [e]
theorem ws_UP_arr {CA : Nat → ClassId} {ad : Nat → Nat} {M : Mem} {a t n j v : Nat} (hs : mS M a = (t, n)) (h1 : 120 ≤ t) : (wsM CA ad M).set a (ad a, .inl (CA t, n, .inr (.inr (.inr (.inr (va_up (fun i => rv ad (mP M a i)) j (some (ad v)))))))) = wsM CA ad (mUP M a j (.ref v)) := by
  refine wsM_set rfl ?_ (fun i hi => cn_UP_n hi)
  unfold cn
  rw [show mS (mUP M a j (.ref v)) a = (t, n) from hs, if_neg (show ¬ t < 100 by omega), if_neg (show ¬ t < 110 by omega), if_neg (show ¬ t < 120 by omega)]
  have e : (fun i => rv ad (mP (mUP M a j (.ref v)) a i)) = va_up (fun i => rv ad (mP M a i)) j (some (ad v)) := by
    funext b
    show rv ad (u2 _ a j (.ref v) a b) = va_up (fun i => rv ad (mP M a i)) j (some (ad v)) b
    unfold u2 va_up
    by_cases hb : b = j
    · simp [hb, rv]
    · simp [hb]
      rfl
  rw [e]
theorem Mok_UI {M : Mem} {a j : Nat} {x : Int32} (h : Mok M) : Mok (mUI M a j x) := h
theorem Mok_UL {M : Mem} {a j : Nat} {x : Int64} (h : Mok M) : Mok (mUL M a j x) := h
theorem Mok_UP {M : Mem} {a j : Nat} {x : Value} (h : Mok M) (hx : clo (mN M) x = true) : Mok (mUP M a j x) := by
  refine ⟨h.1, fun k i hk => ?_⟩
  show clo (mN M) (u2 _ a j x k i) = true
  unfold u2
  split
  · exact hx
  · exact h.2 k i hk
section HP
variable {F : ROF} {g : Bool} {n0 : Nat} {Y : MD} {d k pc : Nat} {L : List (Nat × Value)} {S : List Value} {M : Mem} {P : Res → Mem → Prop}
theorem fr_getf {ci N idx a : Nat} {C : String} {T : u_T} {ty : Nat → FieldType} (hB : Cb ci C T N ty) (j : Nat) {v : Value} (hs : (mS M a).1 = ci) (hM : a < mN M) (hj : j < N) (hk : Jvm.Cond.fieldLink Y.1.cls idx (T j).1 (T j).2.1 (T j).2.2.1 ∈ wsG) (hdg : decode Y.2.1 pc = .ok (.getfield idx, 3)) (hv : (if isR ci j then mP M a j else .int (mI M a j)) = v)
    (kk : Fr F g n0 Y d k (pc + 3) L (v :: S) M P) : Fr F g n0 Y d k pc L (.ref a :: S) M P := by
  intro p l e R s m args below meth c H locs cells slots mc ms ls D CA adE ad A hc ha hn hw hr hl
  obtain ⟨b1, b2, b3, b4, b5, b6, b7⟩ := hB
  refine va_get hc.1 hc.2.1 hc.2.2.2.2.1 b2 hc.2.2.2.1 hw.1 hw.2.2.1 a (ws_obj hM hs b6) b1 j hj (hc.2.2.2.2.1 _ hk) (fun x h => h) (v := cv ad v) ?_ hdg (kk p l e R s m args below meth c H locs cells slots mc ms ls D CA adE ad A hc ha hn hw hr hl)
  rw [fsM_at hs (by rw [b5]; exact hj), ← hv]
  cases isR ci j <;> rfl
theorem fr_putI {ci N idx a : Nat} {C : String} {T : u_T} {ty : Nat → FieldType} (hB : Cb ci C T N ty) (j : Nat) {x : Int32} (hs : (mS M a).1 = ci) (hM : a < mN M) (hj : j < N) (hk : Jvm.Cond.fieldLink Y.1.cls idx (T j).1 (T j).2.1 (T j).2.2.1 ∈ wsG) (hf : (T j).2.2.2 = false) (hR : isR ci j = false) (hn1 : narrow (ty j) (.int x) = .int x) (hf1 : fits (ty j) (.int x) = true) (hdg : decode Y.2.1 pc = .ok (.putfield idx, 3))
    (kk : Fr F g n0 Y d k (pc + 3) L S (mUI M a j x) P) : Fr F g n0 Y d k pc L (.int x :: .ref a :: S) M P := by
  intro p l e R s m args below meth c H locs cells slots mc ms ls D CA adE ad A hc ha hn hw hr hl
  obtain ⟨b1, b2, b3, b4, b5, b6, b7⟩ := hB
  refine va_put (v := .int x) hc.1 hc.2.1 hc.2.2.2.2.1 b2 ty b3 b4 hc.2.2.2.1 hw.1 hw.2.2.1 hw.2.2.2.1 hw.2.2.2.2.1 a (ws_obj hM hs b6) b1 j hj (hc.2.2.2.2.1 _ hk) (fun x h => h) hf (b3 j hj) hn1 hf1 (by rw [fsM_len hs, b5]; exact hj) hdg (fun H1 locs1 hP hD hS => ?_)
  rw [ws_UI_obj hs b6 hR] at hP hD
  exact kk p l e R s m args below meth c H1 locs1 cells slots mc ms ls D CA adE ad A hc ha hn ⟨hw.1, hw.2.1, hP, hD, hS, hw.2.2.2.2.2.1, Mok_UI hw.2.2.2.2.2.2⟩ hr hl
theorem fr_putP {ci N idx a : Nat} {C : String} {T : u_T} {ty : Nat → FieldType} (hB : Cb ci C T N ty) (j : Nat) {x : Value} (hs : (mS M a).1 = ci) (hM : a < mN M) (hj : j < N) (hk : Jvm.Cond.fieldLink Y.1.cls idx (T j).1 (T j).2.1 (T j).2.2.1 ∈ wsG) (hf : (T j).2.2.2 = true) (hin : Y.1.name = "<init>") (hdc : (T j).1 = Y.1.cls) (hR : isR ci j = true) (hn1 : ∀ q : Nat, narrow (ty j) (.ref q) = .ref q ∧ fits (ty j) (.ref q) = true) {v : Nat} (hx : x = .ref v) (hcl : clo (mN M) x = true) (hdg : decode Y.2.1 pc = .ok (.putfield idx, 3))
    (kk : Fr F g n0 Y d k (pc + 3) L S (mUP M a j x) P) : Fr F g n0 Y d k pc L (x :: .ref a :: S) M P := by
  intro p l e R s m args below meth c H locs cells slots mc ms ls D CA adE ad A hc ha hn hw hr hl
  obtain ⟨b1, b2, b3, b4, b5, b6, b7⟩ := hB
  refine va_putF (v := cv ad x) hc.1 hc.2.1 hc.2.2.2.2.1 b2 ty b3 b4 hc.2.2.2.1 hw.1 hw.2.2.1 hw.2.2.2.1 hw.2.2.2.2.1 a (ws_obj hM hs b6) b1 j hj (hc.2.2.2.2.1 _ hk) (fun x h => h) hf (hc.2.2.2.2.2.2.2.2.2.trans hin) hdc (b3 j hj) (by rw [hx]; exact (hn1 _).1) (by rw [hx]; exact (hn1 _).2) (by rw [fsM_len hs, b5]; exact hj) hdg (fun H1 locs1 hP hD hS => ?_)
  rw [ws_UP_obj hs b6 hR] at hP hD
  exact kk p l e R s m args below meth c H1 locs1 cells slots mc ms ls D CA adE ad A hc ha hn ⟨hw.1, hw.2.1, hP, hD, hS, hw.2.2.2.2.2.1, Mok_UP hw.2.2.2.2.2.2 hcl⟩ hr hl
theorem fr_iaload {a n : Nat} {i : Int32} (hs : mS M a = (100, n)) (hM : a < mN M) (hin : vp_in i n) (hdg : decode Y.2.1 pc = .ok (.iaload, 1)) (kk : Fr F g n0 Y d k (pc + 1) L (.int (mI M a i.toNatClampNeg) :: S) M P) : Fr F g n0 Y d k pc L (.int i :: .ref a :: S) M P := by
  intro p l e R s m args below meth c H locs cells slots mc ms ls D CA adE ad A hc ha hn hw hr hl
  exact va_iald hc.1 hc.2.1 hw.1 hw.2.2.1 a 0 (ws_int hM hs (by decide) (by decide)) rfl hin hdg (kk p l e R s m args below meth c H locs cells slots mc ms ls D CA adE ad A hc ha hn hw hr hl)
theorem fr_caload {a n : Nat} {i : Int32} (hs : mS M a = (101, n)) (hM : a < mN M) (hin : vp_in i n) (hdg : decode Y.2.1 pc = .ok (.caload, 1)) (kk : Fr F g n0 Y d k (pc + 1) L (.int (mI M a i.toNatClampNeg) :: S) M P) : Fr F g n0 Y d k pc L (.int i :: .ref a :: S) M P := by
  intro p l e R s m args below meth c H locs cells slots mc ms ls D CA adE ad A hc ha hn hw hr hl
  exact va_cald hc.1 hc.2.1 hw.1 hw.2.2.1 a 1 (ws_int hM hs (by decide) (by decide)) rfl hin hdg (kk p l e R s m args below meth c H locs cells slots mc ms ls D CA adE ad A hc ha hn hw hr hl)
theorem fr_baload {a n : Nat} {i : Int32} (hs : mS M a = (102, n)) (hM : a < mN M) (hin : vp_in i n) (hdg : decode Y.2.1 pc = .ok (.baload, 1)) (kk : Fr F g n0 Y d k (pc + 1) L (.int (mI M a i.toNatClampNeg) :: S) M P) : Fr F g n0 Y d k pc L (.int i :: .ref a :: S) M P := by
  intro p l e R s m args below meth c H locs cells slots mc ms ls D CA adE ad A hc ha hn hw hr hl
  exact va_bald hc.1 hc.2.1 hw.1 hw.2.2.1 a 2 (ws_int hM hs (by decide) (by decide)) rfl hin hdg (kk p l e R s m args below meth c H locs cells slots mc ms ls D CA adE ad A hc ha hn hw hr hl)
theorem fr_laload {a n : Nat} {i : Int32} (hs : mS M a = (110, n)) (hM : a < mN M) (hin : vp_in i n) (hdg : decode Y.2.1 pc = .ok (.laload, 1)) (kk : Fr F g n0 Y d k (pc + 1) L (.long (mL M a i.toNatClampNeg) :: S) M P) : Fr F g n0 Y d k pc L (.int i :: .ref a :: S) M P := by
  intro p l e R s m args below meth c H locs cells slots mc ms ls D CA adE ad A hc ha hn hw hr hl
  exact va_lald hc.1 hc.2.1 hw.1 hw.2.2.1 a 3 (ws_long hM hs (by decide) (by decide)) rfl hin hdg (kk p l e R s m args below meth c H locs cells slots mc ms ls D CA adE ad A hc ha hn hw hr hl)
theorem fr_aaload {a n t q : Nat} {i : Int32} (ht : t = 120 ∨ t = 121) (hs : mS M a = (t, n)) (hM : a < mN M) (hin : vp_in i n) (hv : mP M a i.toNatClampNeg = .ref q) (hdg : decode Y.2.1 pc = .ok (.aaload, 1)) (kk : Fr F g n0 Y d k (pc + 1) L (.ref q :: S) M P) : Fr F g n0 Y d k pc L (.int i :: .ref a :: S) M P := by
  intro p l e R s m args below meth c H locs cells slots mc ms ls D CA adE ad A hc ha hn hw hr hl
  have h1 := kk p l e R s m args below meth c H locs cells slots mc ms ls D CA adE ad A hc ha hn hw hr hl
  have e1 : va_rf (rv ad (mP M a i.toNatClampNeg)) = .ref (ad q) := by rw [hv]; rfl
  have h2 : W p l e R s m args below meth c H locs cells slots (vx_MQ below (QcG g n0 D CA adE A P) (XcG g n0 D CA adE A P) args s mc ms A) (F0 m (pc + 1) ls (va_rf (rv ad (mP M a i.toNatClampNeg)) :: S.map (cv ad))) := by rw [e1]; exact h1
  rcases ht with rfl | rfl
  · exact va_aldq hc.1 hc.2.1 hw.1 hw.2.2.1 a 4 (ws_ref hM hs (by decide)) rfl hin hdg h2
  · exact va_aldq hc.1 hc.2.1 hw.1 hw.2.2.1 a 5 (ws_ref hM hs (by decide)) rfl hin hdg h2
theorem fr_iastore {a n : Nat} {i x : Int32} (hs : mS M a = (100, n)) (hM : a < mN M) (hin : vp_in i n) (hdg : decode Y.2.1 pc = .ok (.iastore, 1)) (kk : Fr F g n0 Y d k (pc + 1) L S (mUI M a i.toNatClampNeg x) P) : Fr F g n0 Y d k pc L (.int x :: .int i :: .ref a :: S) M P := by
  intro p l e R s m args below meth c H locs cells slots mc ms ls D CA adE ad A hc ha hn hw hr hl
  refine va_iast hc.1 hc.2.1 hw.1 hw.2.2.1 hw.2.2.2.1 hw.2.2.2.2.1 a 0 (ws_int hM hs (by decide) (by decide)) rfl hin hdg (fun H1 locs1 hP hD hS => ?_)
  rw [ws_UI_arr hs (by decide) (by decide)] at hP hD
  exact kk p l e R s m args below meth c H1 locs1 cells slots mc ms ls D CA adE ad A hc ha hn ⟨hw.1, hw.2.1, hP, hD, hS, hw.2.2.2.2.2.1, Mok_UI hw.2.2.2.2.2.2⟩ hr hl
theorem fr_castore {a n : Nat} {i x y : Int32} (hs : mS M a = (101, n)) (hM : a < mN M) (hin : vp_in i n) (hy : vp_nar .char x = y) (hdg : decode Y.2.1 pc = .ok (.castore, 1)) (kk : Fr F g n0 Y d k (pc + 1) L S (mUI M a i.toNatClampNeg y) P) : Fr F g n0 Y d k pc L (.int x :: .int i :: .ref a :: S) M P := by
  intro p l e R s m args below meth c H locs cells slots mc ms ls D CA adE ad A hc ha hn hw hr hl
  refine va_cast hc.1 hc.2.1 hw.1 hw.2.2.1 hw.2.2.2.1 hw.2.2.2.2.1 a 1 (ws_int hM hs (by decide) (by decide)) rfl hin hdg (fun H1 locs1 hP hD hS => ?_)
  rw [ws_UI_arr hs (by decide) (by decide), hy] at hP hD
  exact kk p l e R s m args below meth c H1 locs1 cells slots mc ms ls D CA adE ad A hc ha hn ⟨hw.1, hw.2.1, hP, hD, hS, hw.2.2.2.2.2.1, Mok_UI hw.2.2.2.2.2.2⟩ hr hl
theorem fr_bastore {a n : Nat} {i x y : Int32} (hs : mS M a = (102, n)) (hM : a < mN M) (hin : vp_in i n) (hy : vp_nar .byte x = y) (hdg : decode Y.2.1 pc = .ok (.bastore, 1)) (kk : Fr F g n0 Y d k (pc + 1) L S (mUI M a i.toNatClampNeg y) P) : Fr F g n0 Y d k pc L (.int x :: .int i :: .ref a :: S) M P := by
  intro p l e R s m args below meth c H locs cells slots mc ms ls D CA adE ad A hc ha hn hw hr hl
  refine va_bast hc.1 hc.2.1 hw.1 hw.2.2.1 hw.2.2.2.1 hw.2.2.2.2.1 a 2 (ws_int hM hs (by decide) (by decide)) rfl hin hdg (fun H1 locs1 hP hD hS => ?_)
  rw [ws_UI_arr hs (by decide) (by decide), hy] at hP hD
  exact kk p l e R s m args below meth c H1 locs1 cells slots mc ms ls D CA adE ad A hc ha hn ⟨hw.1, hw.2.1, hP, hD, hS, hw.2.2.2.2.2.1, Mok_UI hw.2.2.2.2.2.2⟩ hr hl
theorem fr_lastore {a n : Nat} {i : Int32} {x : Int64} (hs : mS M a = (110, n)) (hM : a < mN M) (hin : vp_in i n) (hdg : decode Y.2.1 pc = .ok (.lastore, 1)) (kk : Fr F g n0 Y d k (pc + 1) L S (mUL M a i.toNatClampNeg x) P) : Fr F g n0 Y d k pc L (.long x :: .int i :: .ref a :: S) M P := by
  intro p l e R s m args below meth c H locs cells slots mc ms ls D CA adE ad A hc ha hn hw hr hl
  refine va_last hc.1 hc.2.1 hw.1 hw.2.2.1 hw.2.2.2.1 hw.2.2.2.2.1 a 3 (ws_long hM hs (by decide) (by decide)) rfl hin hdg (fun H1 locs1 hP hD hS => ?_)
  rw [ws_UL_arr hs (by decide) (by decide)] at hP hD
  exact kk p l e R s m args below meth c H1 locs1 cells slots mc ms ls D CA adE ad A hc ha hn ⟨hw.1, hw.2.1, hP, hD, hS, hw.2.2.2.2.2.1, Mok_UL hw.2.2.2.2.2.2⟩ hr hl
theorem fr_aastore {a n t v ci N : Nat} {i : Int32} {C : String} {T : u_T} {ty : Nat → FieldType} (hB : Cb ci C T N ty) (ht : (t = 120 ∧ C = "MapHall$Sheet") ∨ (t = 121 ∧ C = "MapHall$State")) (hs : mS M a = (t, n)) (hM : a < mN M) (hin : vp_in i n) (hv : (mS M v).1 = ci) (hMv : v < mN M) (hdg : decode Y.2.1 pc = .ok (.aastore, 1)) (kk : Fr F g n0 Y d k (pc + 1) L S (mUP M a i.toNatClampNeg (.ref v)) P) : Fr F g n0 Y d k pc L (.ref v :: .int i :: .ref a :: S) M P := by
  intro p l e R s m args below meth c H locs cells slots mc ms ls D CA adE ad A hc ha hn hw hr hl
  obtain ⟨b1, b2, b3, b4, b5, b6, b7⟩ := hB
  have hcl : clo (mN M) (.ref v) = true := by simp [clo, hMv]
  have key : ∀ t0 : Nat, (tyL CA)[t0]? = some (CA t, .object C) → 120 ≤ t → W p l e R s m args below meth c H locs cells slots (vx_MQ below (QcG g n0 D CA adE A P) (XcG g n0 D CA adE A P) args s mc ms A) (F0 m pc ls ((Value.ref v :: .int i :: .ref a :: S).map (cv ad))) := by
    intro t0 h0 h1
    refine va_astq (r := (C, T, N)) hc.1 hc.2.1 hw.1 hw.2.2.1 hw.2.2.2.1 hw.2.2.2.2.1 a t0 v ci (ws_ref hM hs h1) h0 (ws_obj hMv hv b6) b1 hin hdg (fun H1 locs1 hP hD hS => ?_)
    rw [ws_UP_arr hs h1] at hP hD
    exact kk p l e R s m args below meth c H1 locs1 cells slots mc ms ls D CA adE ad A hc ha hn ⟨hw.1, hw.2.1, hP, hD, hS, hw.2.2.2.2.2.1, Mok_UP hw.2.2.2.2.2.2 hcl⟩ hr hl
  rcases ht with ⟨rfl, rfl⟩ | ⟨rfl, rfl⟩
  · exact key 4 rfl (by decide)
  · exact key 5 rfl (by decide)
theorem fr_alen {a n t : Nat} {v : Int32} (t0 : Nat) {ty : FieldType} (ht : tyT[t0]? = some (t, ty)) (h1 : 100 ≤ t) (hs : mS M a = (t, n)) (hM : a < mN M) (hv : Int32.ofNat n = v) (hdg : decode Y.2.1 pc = .ok (.arraylength, 1)) (kk : Fr F g n0 Y d k (pc + 1) L (.int v :: S) M P) : Fr F g n0 Y d k pc L (.ref a :: S) M P := by
  intro p l e R s m args below meth c H locs cells slots mc ms ls D CA adE ad A hc ha hn hw hr hl
  have ht2 : (tyL CA)[t0]? = some (CA t, ty) := by unfold tyL; rw [List.getElem?_map, ht]; rfl
  have h2 := kk p l e R s m args below meth c H locs cells slots mc ms ls D CA adE ad A hc ha hn hw hr hl
  by_cases c1 : t < 110
  · exact va_alen (x := (n, .inl (mI M a))) hc.1 hc.2.1 hw.1 hw.2.2.1 a t0 (ws_int hM hs h1 c1) ht2 hv hdg h2
  · by_cases c2 : t < 120
    · exact va_alen (x := (n, .inr (.inl (mL M a)))) hc.1 hc.2.1 hw.1 hw.2.2.1 a t0 (ws_long hM hs (by omega) c2) ht2 hv hdg h2
    · exact va_alen (x := (n, .inr (.inr (.inr (.inr (fun j => rv ad (mP M a j))))))) hc.1 hc.2.1 hw.1 hw.2.2.1 a t0 (ws_ref hM hs (by omega)) ht2 hv hdg h2
end HP
