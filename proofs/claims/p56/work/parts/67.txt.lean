/-! ===== pure: texts taken from a String ===== -/
/-- a String that holds T -/
def Txt (p : Nat) (T : List Int32) (M : Mem) : Prop := rcS M p = some () ∧ f_J0_length_8abf5 p M = some (ni T.length) ∧ ∀ i, i < T.length → f_J0_charAt_5068e p (ni i) M = some (T.getD i 0)
theorem Txt.ro {s : Nat} {T : List Int32} (M : Mem) (hs : ROB + 20 ≤ s ∧ s < ROB + 63) (h1 : f_J0_length_8abf5 s eM = some (ni T.length)) (h2 : ∀ i, i < T.length → f_J0_charAt_5068e s (ni i) eM = some (T.getD i 0)) : Txt s T M := ⟨rcS_ro M hs, (ro_len M hs).trans h1, fun i hi => (ro_chr M _ hs).trans (h2 i hi)⟩
section TXS
variable {b : Nat} {h : Hs} {M : Mem}
theorem take_s {α : Type} (T : List α) (i : Nat) (d : α) (hi : i < T.length) : T.take i ++ [T.getD i d] = T.take (i + 1) := by
  rw [List.take_add_one, List.getD_eq_getElem?_getD, List.getElem?_eq_getElem hi]
  rfl
theorem fd_lp {p : Nat} {T : List Int32} (hl9 : T.length ≤ 60) (hch : ∀ i, i < T.length → vp_nar .char (T.getD i 0) = T.getD i 0) : ∀ k, k ≤ T.length → ∀ n, k < n → ∀ M, Hall b (txH h (T.take (T.length - k))) M → (∀ M', Fo b 343 M M' → Txt p T M') → ∃ M', lp_L_runs_2 b p n (ni (T.length - k)) M = some (.inl (ni T.length, M')) ∧ Hall b (txH h T) M' ∧ Fo b 343 M M' := by
  intro k
  induction k with
  | zero =>
    intro _ n hn M H ht
    obtain ⟨n, rfl⟩ : ∃ z, n = z + 1 := ⟨n - 1, by omega⟩
    have t := ht M (Fo.rf _ _ _)
    refine ⟨M, ?_, ?_, Fo.rf _ _ _⟩
    · simp only [lp_L_runs_2, t.1, t.2.1, Option.bind_some, Nat.sub_zero]
      rw [if_pos (show ni T.length ≤ ni T.length from (ni_le (by omega) (by omega)).mpr (Nat.le_refl _))]
    · rw [Nat.sub_zero, List.take_length] at H
      exact H
  | succ k ih =>
    intro hk n hn M H ht
    obtain ⟨n, rfl⟩ : ∃ z, n = z + 1 := ⟨n - 1, by omega⟩
    have t := ht M (Fo.rf _ _ _)
    have hi : T.length - (k + 1) < T.length := by omega
    have hlen : (hT (txH h (T.take (T.length - (k + 1))))).length = T.length - (k + 1) := by
      show (T.take (T.length - (k + 1))).length = _
      rw [List.length_take]
      omega
    obtain ⟨M1, f1, H1, o1⟩ := l_feed H (hch _ hi) (by rw [hlen]; omega)
    rw [hlen] at f1
    have H1' : Hall b (txH h (T.take (T.length - k))) M1 := by
      have e : T.take (T.length - (k + 1)) ++ [T.getD (T.length - (k + 1)) 0] = T.take (T.length - k) := by
        rw [take_s T _ 0 hi, show T.length - (k + 1) + 1 = T.length - k by omega]
      rw [← e]
      exact H1
    obtain ⟨M2, f2, H2, o2⟩ := ih (by omega) n (by omega) M1 H1' (fun M' o => ht M' (o1.tr o))
    refine ⟨M2, ?_, H2, o1.tr o2⟩
    simp only [lp_L_runs_2, t.1, t.2.1, Option.bind_some]
    rw [if_neg (fun z => by have := (ni_le (by omega) (by omega)).mp z; omega), t.2.2 _ hi]
    simp only [Option.bind_some, f1, ni_s, if_true, show T.length - (k + 1) + 1 = T.length - k by omega]
    exact f2
theorem x_fed {p : Nat} {T : List Int32} (hl9 : T.length ≤ 19) (hch : ∀ i, i < T.length → vp_nar .char (T.getD i 0) = T.getD i 0) (H : Hall b h M) (h0 : hT h = []) (ht : ∀ M', Fo b 343 M M' → Txt p T M') {x : Int32} {h' : Hs} (hrun : ∀ M1, Hall b (txH h T) M1 → ∃ M', f_L_run b M1 = some (x, M') ∧ Hall b h' M' ∧ Fo b 343 M1 M') : ∃ M', f_L_runs b p M = some (x, M') ∧ Hall b h' M' ∧ Fo b 343 M M' := by
  have e0 : txH h (T.take (T.length - T.length)) = h := by
    rw [Nat.sub_self]
    show (hC h, hV h, hL h, hB h, hN h, hK h, hM h, hF h, ([] : List Int32)) = h
    rw [← h0]
    rfl
  obtain ⟨M1, f1, H1, o1⟩ := fd_lp (b := b) (h := h) (p := p) (by omega) hch T.length (Nat.le_refl _) 20 (by omega) M (by rw [e0]; exact H) ht
  rw [Nat.sub_self] at f1
  obtain ⟨M2, f2, H2, o2⟩ := hrun M1 H1
  refine ⟨M2, ?_, H2, o1.tr o2⟩
  unfold f_L_runs
  rw [show (0 : Int32) = ni 0 from rfl, f1]
  simp only [Option.bind_some, f2]
def tq : List Int32 := [113]
def to9 : List Int32 := [111, 112, 101, 110, 32, 57]
def tt9 : List Int32 := [116, 97, 107, 101, 32, 57]
def tpf (d : Nat) : List Int32 := [112, 97, 115, 116, 101, 32, 49, 59, 102, 111, 108, 100, 32, ni (48 + d)]
def top (d : Nat) : List Int32 := [111, 112, 101, 110, 32, ni (48 + d), 59, 112, 97, 115, 116, 101, 32, 49]
theorem r_q : mRead tq = some (0, []) := by decide +kernel
theorem r_o9 : mRead to9 = some (-1, [(0, 3)]) := by decide +kernel
theorem r_t9 : mRead tt9 = some (-1, [(0, 6)]) := by decide +kernel
theorem r_pf : ∀ d, d < 10 → mRead (tpf d) = some (-1, [(0, 7), (8, 2)]) := by decide +kernel
theorem r_op : ∀ d, d < 10 → mRead (top d) = some (-1, [(0, 3), (7, 7)]) := by decide +kernel
theorem n_o9 : nmM to9 (0, 3) 0 = some 9 ∧ (nmM to9 (0, 3) 1).isSome ∧ (nmM to9 (0, 3) 2).isSome := by decide +kernel
theorem n_t9 : nmM tt9 (0, 6) 0 = some 9 ∧ (nmM tt9 (0, 6) 1).isSome ∧ (nmM tt9 (0, 6) 2).isSome := by decide +kernel
theorem n_pf : ∀ d, d < 10 → nmM (tpf d) (0, 7) 0 = some 1 ∧ (nmM (tpf d) (0, 7) 1).isSome ∧ (nmM (tpf d) (0, 7) 2).isSome ∧ nmM (tpf d) (8, 2) 0 = some (ni d) ∧ (nmM (tpf d) (8, 2) 1).isSome ∧ (nmM (tpf d) (8, 2) 2).isSome := by decide +kernel
theorem n_op : ∀ d, d < 10 → nmM (top d) (7, 7) 0 = some 1 ∧ (nmM (top d) (7, 7) 1).isSome ∧ (nmM (top d) (7, 7) 2).isSome ∧ nmM (top d) (0, 3) 0 = some (ni d) ∧ (nmM (top d) (0, 3) 1).isSome ∧ (nmM (top d) (0, 3) 2).isSome := by decide +kernel
theorem t_q (M : Mem) : Txt (ROB + 50) tq M := Txt.ro M (by omega) (by decide +kernel) (by decide +kernel)
theorem t_o9 (M : Mem) : Txt (ROB + 51) to9 M := Txt.ro M (by omega) (by decide +kernel) (by decide +kernel)
theorem t_t9 (M : Mem) : Txt (ROB + 53) tt9 M := Txt.ro M (by omega) (by decide +kernel) (by decide +kernel)
theorem cmd_of {B : Nat} {T : List Int32} {c : Int32 × Nat} {V : St} {x : Int32} (h0 : nmM T c 0 = some x) (h1 : (nmM T c 1).isSome) (h2 : (nmM T c 2).isSome) : cmdM B T c V = if c.2 = 2 then some (mFold V x) else if c.2 = 3 then some (mUnfold B V x) else if c.2 = 6 then some (mTake V x) else if c.2 = 7 then some (mPaste V x) else none := by
  obtain ⟨y1, e1⟩ := Option.isSome_iff_exists.mp h1
  obtain ⟨y2, e2⟩ := Option.isSome_iff_exists.mp h2
  unfold cmdM
  rw [h0, e1, e2]
  rfl
theorem hS_9 {V : St} (hW : WF V) : hasS V 9 = false := by
  obtain ⟨m, hm, e⟩ := hW.1
  unfold hasS
  rw [e, decide_eq_true (show ni m ≤ 9 from (ni_le (j := 9) (by omega) (by omega)).mpr hm)]
  simp
end TXS
