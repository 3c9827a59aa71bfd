/-! ===== pure: makes ===== -/
def MH (b : Nat) (P : St → Prop) (M : Mem) : Prop := ∃ h, Hall b h M ∧ WH h ∧ P (hC h) ∧ hT h = []
def TP (b : Nat) (P Q : St → Prop) {β : Type} (mk : Mem → β) (f : Mem → Option β) : Prop := ∀ M, MH b P M → ∃ M', f M = some (mk M') ∧ MH b Q M' ∧ Fo b 343 M M'
section TPS
variable {b : Nat} {P P1 Q : St → Prop} {α β γ : Type} {mk : Mem → β} {mk1 : Mem → γ}
theorem TP.kk {r : α} {f : Mem → Option α} {g : α → Mem → Option β} (h : ∀ M, f M = some r) (nx : TP b P Q mk (g r)) : TP b P Q mk (fun M => (f M).bind fun r => g r M) := by
  intro M G
  obtain ⟨M', f', a⟩ := nx M G
  exact ⟨M', by show (f M).bind _ = _; rw [h M]; exact f', a⟩
theorem TP.w {f : Mem → Option γ} {g : γ → Option β} (h : TP b P P1 mk1 f) (nx : TP b P1 Q mk (fun M => g (mk1 M))) : TP b P Q mk (fun M => (f M).bind g) := by
  intro M G
  obtain ⟨M1, f1, G1, o1⟩ := h M G
  obtain ⟨M2, f2, G2, o2⟩ := nx M1 G1
  exact ⟨M2, by show (f M).bind g = _; rw [f1]; exact f2, G2, o1.tr o2⟩
theorem TP.e : TP b P P mk (fun M => some (mk M)) := fun M G => ⟨M, rfl, G, Fo.rf _ _ _⟩
theorem TP.pos {c : Prop} [Decidable c] {f g : Mem → Option β} (hc : c) (h : TP b P Q mk f) : TP b P Q mk (fun M => if c then f M else g M) := fun M G => by
  show ∃ M', (if c then _ else _) = _ ∧ _
  rw [if_pos hc]
  exact h M G
theorem TP.neg {c : Prop} [Decidable c] {f g : Mem → Option β} (hc : ¬ c) (h : TP b P Q mk g) : TP b P Q mk (fun M => if c then f M else g M) := fun M G => by
  show ∃ M', (if c then _ else _) = _ ∧ _
  rw [if_neg hc]
  exact h M G
theorem TP.i {c : Prop} [Decidable c] {f g : Mem → Option β} (h1 : c → TP b P Q mk f) (h2 : ¬ c → TP b P Q mk g) : TP b P Q mk (fun M => if c then f M else g M) := by
  by_cases hc : c
  · exact TP.pos hc (h1 hc)
  · exact TP.neg hc (h2 hc)
theorem TP.s {y : Int32} {f : Mem → Option (Int32 × Mem)} {g1 g2 : Int32 × Mem → Option β} (h : TP b P P1 (fun M => (y, M)) f) (nx : TP b P1 Q mk (fun M => g1 (y, M))) : TP b P Q mk (fun M => (f M).bind fun r => if r.1 = y then g1 r else g2 r) := by
  refine TP.w h ?_
  exact TP.pos rfl nx
theorem TP.cg {f g : Mem → Option β} (h : ∀ M, f M = g M) (nx : TP b P Q mk g) : TP b P Q mk f := fun M G => by
  rw [h M]
  exact nx M G
/-- one of several answers -/
theorem TP.any {Y : Int32 → Prop} {f : Mem → Option (Int32 × Mem)} {g : Int32 × Mem → Option β} (h : ∀ M, MH b P M → ∃ y M', f M = some (y, M') ∧ Y y ∧ MH b P1 M' ∧ Fo b 343 M M') (nx : ∀ y, Y y → TP b P1 Q mk (fun M => g (y, M))) : TP b P Q mk (fun M => (f M).bind g) := by
  intro M G
  obtain ⟨y, M1, f1, hy, G1, o1⟩ := h M G
  obtain ⟨M2, f2, G2, o2⟩ := nx y hy M1 G1
  exact ⟨M2, by show (f M).bind g = _; rw [f1]; exact f2, G2, o1.tr o2⟩
theorem hC_rec (h : Hs) (res : Int32 × St) : hC (recH h res) = res.2 ∧ hT (recH h res) = hT h := by
  unfold recH
  split <;> exact ⟨rfl, rfl⟩
theorem tp_op {f : Mem → Option (Int32 × Mem)} {c : Int32 → Int32} {m : St → Int32 × St} {y : Int32} (hl : ∀ h M, Hall b h M → WH h → ∃ M', f M = some (c (m (hC h)).1, M') ∧ Hall b (recH h (m (hC h))) M' ∧ Fo b 343 M M') (hw : ∀ h, WH h → WH (recH h (m (hC h)))) (hm : ∀ V, WF V → P V → c (m V).1 = y ∧ Q (m V).2) : TP b P Q (fun M => (y, M)) f := by
  rintro M ⟨h, H, w, e, e3⟩
  obtain ⟨M', f1, H1, o1⟩ := hl h M H w
  obtain ⟨h1, h2⟩ := hm _ w.1 e
  have r := hC_rec h (m (hC h))
  refine ⟨M', ?_, ⟨_, H1, hw h w, ?_, r.2.trans e3⟩, o1⟩
  · rw [f1, h1]
  · rw [r.1]
    exact h2
end TPS
/-- what a hall is while it is made: n sheets, the last with c creases, nothing folded behind -/
def Mk1 (n c : Nat) (V : St) : Prop := V 0 2 = ni (n + 1) ∧ V 0 3 = 0 ∧ V (3 + 3 * n) 3 = ni c ∧ V (3 + 3 * n) 5 = 0 ∧ ∀ i, n < i → i < 9 → V (3 + 3 * i) 3 = 0 ∧ V (3 + 3 * i) 5 = 0
def Mk0 (n : Nat) (V : St) : Prop := V 0 2 = ni n ∧ V 0 3 = 0 ∧ ∀ i, n ≤ i → i < 9 → V (3 + 3 * i) 3 = 0 ∧ V (3 + 3 * i) 5 = 0
def Mk2 (n : Nat) (V : St) : Prop := V 0 2 = ni n ∧ V 0 3 = 0
theorem upS_ne {V : St} {i j k l : Nat} {x : Int32} (h : ¬ (k = i ∧ l = j)) : upS V i j x k l = V k l := by
  unfold upS
  rw [if_neg h]
theorem upS_eq {V : St} {i j : Nat} {x : Int32} : upS V i j x i j = x := by
  unfold upS
  rw [if_pos ⟨rfl, rfl⟩]
section MKS
variable {b : Nat}
theorem m_sheet {V : St} {n : Nat} (hn : n < 9) (h : Mk0 n V) {a1 a2 a3 a4 k : Int32} (h1 : isC a1 = true) (h2 : isC a2 = true) (h3 : isC a3 = true) (h4 : isC a4 = true) (hk : isK k = true) : c_addSheet (mSheet V a1 a2 a3 a4 k).1 = ni n ∧ Mk1 n 0 (mSheet V a1 a2 a3 a4 k).2 := by
  have e : mSheet V a1 a2 a3 a4 k = (ni n, upS (upS (upS (upS (upS (upS V (4 + 3 * n) 0 a1) (4 + 3 * n) 1 a2) (4 + 3 * n) 2 a3) (4 + 3 * n) 3 a4) (3 + 3 * n) 2 k) 0 2 (ni n + 1)) := by
    unfold mSheet
    rw [h1, h2, h3, h4, hk, if_pos (show (true && true && true && true && true) = true from rfl), h.1, if_pos (show ni n < 9 from (ni_lt (j := 9) (by omega) (by omega)).mpr hn), sx_i hn]
  rw [e]
  refine ⟨if_pos (pos_ni n (by omega)), ?_, ?_, ?_, ?_, fun i hi h9 => ⟨?_, ?_⟩⟩
  · dsimp only
    rw [upS_eq, ni_s]
  · dsimp only
    rw [upS_ne (by omega), upS_ne (by omega), upS_ne (by omega), upS_ne (by omega), upS_ne (by omega), upS_ne (by omega)]
    exact h.2.1
  · dsimp only
    rw [upS_ne (by omega), upS_ne (by omega), upS_ne (by omega), upS_ne (by omega), upS_ne (by omega), upS_ne (by omega)]
    exact (h.2.2 n (Nat.le_refl _) hn).1
  · dsimp only
    rw [upS_ne (by omega), upS_ne (by omega), upS_ne (by omega), upS_ne (by omega), upS_ne (by omega), upS_ne (by omega)]
    exact (h.2.2 n (Nat.le_refl _) hn).2
  · dsimp only
    rw [upS_ne (by omega), upS_ne (by omega), upS_ne (by omega), upS_ne (by omega), upS_ne (by omega), upS_ne (by omega)]
    exact (h.2.2 i (by omega) h9).1
  · dsimp only
    rw [upS_ne (by omega), upS_ne (by omega), upS_ne (by omega), upS_ne (by omega), upS_ne (by omega), upS_ne (by omega)]
    exact (h.2.2 i (by omega) h9).2
theorem m_crease {V : St} {n c : Nat} (hn : n < 9) (hc : c < 6) (h : Mk1 n c V) {s : Int32} (hs : isV s = true) : c_addCrease (mCrease V (ni n) s).1 = ni (c + 1) ∧ Mk1 n (c + 1) (mCrease V (ni n) s).2 := by
  have hS : hasS V (ni n) = true := hS_of (m := n + 1) (by omega) h.1 (by omega)
  have e : mCrease V (ni n) s = (ni c + 1, upS (upS V (5 + 3 * n) c s) (3 + 3 * n) 3 (ni c + 1)) := by
    unfold mCrease
    rw [if_pos hS, if_pos hs, sx_i hn, h.2.2.1, if_neg (show ¬ (6 : Int32) ≤ ni c from fun z => by have := (ni_le (i := 6) (by omega) (by omega)).mp z; omega), if_pos h.2.2.2.1, show sx (ni c) = c from ni_nat c (by omega)]
  rw [e]
  refine ⟨?_, ?_, ?_, ?_, ?_, fun i hi h9 => ⟨?_, ?_⟩⟩
  · rw [ni_s]
    exact if_pos (pos_ni _ (by omega))
  · dsimp only
    rw [upS_ne (by omega), upS_ne (by omega)]
    exact h.1
  · dsimp only
    rw [upS_ne (by omega), upS_ne (by omega)]
    exact h.2.1
  · dsimp only
    rw [upS_eq, ni_s]
  · dsimp only
    rw [upS_ne (by omega), upS_ne (by omega)]
    exact h.2.2.2.1
  · dsimp only
    rw [upS_ne (by omega), upS_ne (by omega)]
    exact (h.2.2.2.2 i hi h9).1
  · dsimp only
    rw [upS_ne (by omega), upS_ne (by omega)]
    exact (h.2.2.2.2 i hi h9).2
abbrev mkI (x : Int32) : Mem → (Int32 × Mem) ⊕ (Int32 × Mem) := fun M => .inl (x, M)
theorem k_104 (G : Nat × (Nat → Int32) × Value) (p1 : Nat) (x2 x3 x5 : Int32) {n : Nat} (hn : n < 9) {q : Nat} (hq : q < 4) (hx : ∀ M, f_L_some (x5 >>> (14 &&& 31)) 4 M = some (ni q)) : ∀ k, k ≤ q → ∀ f, k < f → TP b (Mk1 n (q - k)) (Mk1 n q) (mkI (ni q)) (fun M => lp_L_makes_104 G b p1 x2 x3 (ni n) x5 f (ni (q - k)) M) := by
  intro k
  induction k with
  | zero =>
    intro _ f hf
    obtain ⟨f, rfl⟩ : ∃ z, f = z + 1 := ⟨f - 1, by omega⟩
    refine TP.cg (fun M => by rw [lp_L_makes_104]) ?_
    refine TP.kk hx ?_
    exact TP.pos ((ni_le (by omega) (by omega)).mpr (by omega)) (TP.e (mk := mkI (ni q)))
  | succ k ih =>
    intro hk f hf
    obtain ⟨f, rfl⟩ : ∃ z, f = z + 1 := ⟨f - 1, by omega⟩
    refine TP.cg (fun M => by rw [lp_L_makes_104]) ?_
    refine TP.kk hx ?_
    refine TP.neg (up_n (by omega) (show k < q by omega)) ?_
    have nx := ih (by omega) f (by omega)
    have st : ∀ s, isV s = true → TP b (Mk1 n (q - (k + 1))) (Mk1 n (q - k)) (fun M => (ni (q - k), M)) (f_L_addCrease b (ni n) s) := fun s hs => tp_op (m := fun V => mCrease V (ni n) s) (fun _ _ H w' => l_addCrease H w' (ni n) s) (fun _ w' => wl_addCrease w' (ni n) s) (fun V _ hP => by
      have := m_crease hn (show q - (k + 1) < 6 by omega) hP hs
      rw [show q - (k + 1) + 1 = q - k by omega] at this
      exact this)
    rw [up_m (show k < q by omega)]
    refine TP.i (fun _ => ?_) (fun _ => ?_)
    · exact TP.s (st 118 (by decide)) nx
    · exact TP.s (st 109 (by decide)) nx
end MKS
