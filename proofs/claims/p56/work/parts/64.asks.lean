/-! ===== pure: the digest of all questions ===== -/
theorem Hall.outl {b : Nat} {h : Hs} {M M' : Mem} (H : Hall b h M) (o : Fo (b + 341) 2 M M') {n : Nat} (hn : n ≤ 22) (e : mI M' (b + 341) 1 = ni n) : Hall b h M' := by
  obtain ⟨q1, q2, q3, q4, q5, q6, q7, q8, q9, q10, q11, -⟩ := H
  refine ⟨q1.sh o.1, q2.dj o (by omega), q3.dj o (by omega), fun i hi => (q4 i hi).dj o (by omega), ?_, ?_, ?_, ?_, ?_, ?_, fun i hi => ?_, n, hn, e⟩
  · rw [o.2 _ _ (by omega)]; exact q5
  · rw [o.2 _ _ (by omega)]; exact q6
  · rw [o.2 _ _ (by omega)]; exact q7
  · rw [o.2 _ _ (by omega)]; exact q8
  · rw [o.2 _ _ (by omega)]; exact q9
  · rw [o.2 _ _ (by omega)]; exact q10
  · rw [o.2 _ _ (by omega)]; exact q11 i hi
/-- one answer for all halls with this state (and with K); the hall stays -/
def UA (b : Nat) (V : St) (K : Mem → Prop) {ρ β : Type} (mk : ρ → Mem → β) (f : Mem → Option β) : Prop := ∃ r, ∀ h M, Hall b h M → hC h = V → K M → ∃ M', f M = some (mk r M') ∧ Hall b h M' ∧ Fo b 343 M M'
abbrev KT : Mem → Prop := fun _ => True
section UAS
variable {b : Nat} {V : St} {K : Mem → Prop} {ρ σ α β γ : Type} {mk : ρ → Mem → β} {mk1 : σ → Mem → γ}
theorem UA.bb {Q : α → Prop} {f : Mem → Option α} {g : α → Mem → Option β} (h : UP (fun M => HC b V M ∧ K M) f Q) (k : ∀ r, Q r → UA b V K mk (g r)) : UA b V K mk (fun M => (f M).bind fun r => g r M) := by
  obtain ⟨r, h1, h2⟩ := h
  obtain ⟨x, h3⟩ := k r h1
  refine ⟨x, fun h M H e kM => ?_⟩
  obtain ⟨M', f', a⟩ := h3 h M H e kM
  exact ⟨M', by show (f M).bind _ = _; rw [h2 M ⟨e ▸ H.hc, kM⟩]; exact f', a⟩
theorem UA.k {r : α} {f : Mem → Option α} {g : α → Mem → Option β} (h : ∀ M, HC b V M → f M = some r) (k : UA b V K mk (g r)) : UA b V K mk (fun M => (f M).bind fun r => g r M) :=
  UA.bb (UP.e (fun M hM => h M hM.1)) (fun x hx => by rw [hx]; exact k)
theorem UA.h {f : Mem → Option α} {g : α → Mem → Option β} (h : hUP b V f) (k : ∀ r, UA b V K mk (g r)) : UA b V K mk (fun M => (f M).bind fun r => g r M) :=
  UA.bb (h.c (fun _ hM => hM.1)) (fun x _ => k x)
theorem UA.w {f : Mem → Option γ} {g : γ → Option β} (h : UA b V K mk1 f) (k : ∀ r, UA b V KT mk (fun M => g (mk1 r M))) : UA b V K mk (fun M => (f M).bind g) := by
  obtain ⟨r, h1⟩ := h
  obtain ⟨x, h2⟩ := k r
  refine ⟨x, fun h M H e kM => ?_⟩
  obtain ⟨M1, f1, H1, o1⟩ := h1 h M H e kM
  obtain ⟨M2, f2, H2, o2⟩ := h2 h M1 H1 e trivial
  exact ⟨M2, by show (f M).bind g = _; rw [f1]; exact f2, H2, o1.tr o2⟩
theorem UA.e (r : ρ) : UA b V K mk (fun M => some (mk r M)) := ⟨r, fun _ M H _ _ => ⟨M, rfl, H, Fo.rf _ _ _⟩⟩
theorem UA.i {c : Prop} [Decidable c] {f g : Mem → Option β} (h1 : c → UA b V K mk f) (h2 : ¬ c → UA b V K mk g) : UA b V K mk (fun M => if c then f M else g M) := by
  by_cases h : c
  · obtain ⟨r, q⟩ := h1 h
    exact ⟨r, fun h' M H e kM => by show ∃ M', (if c then _ else _) = _ ∧ _; rw [if_pos h]; exact q h' M H e kM⟩
  · obtain ⟨r, q⟩ := h2 h
    exact ⟨r, fun h' M H e kM => by show ∃ M', (if c then _ else _) = _ ∧ _; rw [if_neg h]; exact q h' M H e kM⟩
/-- something is written out -/
theorem UA.out {r : α} {f : Mem → Option (α × Mem)} {g : α × Mem → Option β} {s : Os} (hs : okO s) (h : ∀ M, HC b V M → ∃ M', f M = some (r, M') ∧ OC b V s M' ∧ Fo (b + 341) 2 M M') (k : UA b V (OC b V s) mk (fun M => g (r, M))) : UA b V K mk (fun M => (f M).bind g) := by
  obtain ⟨x, h2⟩ := k
  refine ⟨x, fun h' M H e _ => ?_⟩
  obtain ⟨M1, f1, a1, o1⟩ := h M (e ▸ H.hc)
  obtain ⟨M2, f2, H2, o2⟩ := h2 h' M1 (H.outl o1 hs.1 a1.2.1) e a1
  exact ⟨M2, by show (f M).bind g = _; rw [f1]; exact f2, H2, (o1.mono (by omega)).tr o2⟩
end UAS
theorem h_bits (b : Nat) (V : St) (x : UInt64) : hUP b V (f_Jxe99ae_doubleToLongBits_ccdee x) := by
  unfold f_Jxe99ae_doubleToLongBits_ccdee f_Jxe99ae_isNaN_b9ae7
  refine UP.b (Q1 := fun _ => True) (UP.i (fun _ => UP.p trivial) (fun _ => UP.p trivial)) (fun r _ => ?_)
  exact UP.i (fun _ => UP.p trivial) (fun _ => UP.p trivial)
theorem h_bitsF (b : Nat) (V : St) (x : UInt32) : hUP b V (f_Jxf58ca_floatToIntBits_5c35a x) := by
  unfold f_Jxf58ca_floatToIntBits_5c35a f_Jxf58ca_isNaN_12338
  refine UP.b (Q1 := fun _ => True) (UP.i (fun _ => UP.p trivial) (fun _ => UP.p trivial)) (fun r _ => ?_)
  exact UP.i (fun _ => UP.p trivial) (fun _ => UP.p trivial)
section ASK
variable {b : Nat} {V : St}
theorem k_table (hW : WF V) : ∃ s, okO s ∧ ∀ M, HC b V M → ∃ M', f_X10_writeTable b M = some (ni s.1, M') ∧ OC b V s M' ∧ Fo (b + 341) 2 M M' := by
  obtain ⟨s, hs, h1⟩ := o_table (b := b) hW
  refine ⟨s, hs, fun M H => ?_⟩
  obtain ⟨M1, f1, a1, o1⟩ := h1 M H
  refine ⟨M1, ?_, a1, o1⟩
  unfold f_X10_writeTable
  simp only [H.1.p.1, H.1.p.2.2.2.2.2, H.1.o.1, Option.bind_some, f1, a1.1.1.p.2.2.2.2.2, a1.1.1.o.2.2.1, a1.2.1]
theorem k_sheet (hW : WF V) {i : Nat} (hi : i < 9) (hh : hasS V (ni i) = true) : ∃ s, okO s ∧ ∀ M, HC b V M → ∃ M', f_L_writeSheet b (ni i) M = some (ni s.1, M') ∧ OC b V s M' ∧ Fo (b + 341) 2 M M' := by
  obtain ⟨s, hs, h1⟩ := o_sheetOut (b := b) hW hi
  refine ⟨s, hs, fun M H => ?_⟩
  obtain ⟨M1, f1, a1, o1⟩ := h1 M H
  refine ⟨M1, ?_, a1, o1⟩
  unfold f_L_writeSheet f_X10_writeSheet
  simp only [H.1.p.2.2.2.2.2, H.1.rc10, Option.bind_some, x_dem H hW, if_pos hh, show sx (ni i) = i from ni_nat i (by omega), H.1.o.1, f1, a1.1.1.p.2.2.2.2.2, a1.1.1.o.2.2.1, a1.2.1]
/-- the signs are folded into a digest -/
theorem u_116 {s : Os} (hs : okO s) (x1 : Int32) : ∀ k, k ≤ s.1 → ∀ n, k < n → ∀ l, UP (OC b V s) (fun M => lp_L_asks_116 b x1 (ni s.1) M n l (ni (s.1 - k))) (fun q => ∃ a, q = .inl (a, ni s.1)) := by
  intro k
  have h22 := hs.1
  induction k with
  | zero =>
    intro _ n hn l
    obtain ⟨n, rfl⟩ : ∃ z, n = z + 1 := ⟨n - 1, by omega⟩
    simp only [lp_L_asks_116]
    exact UP.pos (show ni s.1 ≤ ni (s.1 - 0) from (ni_le (by omega) (by omega)).mpr (by omega)) (UP.p ⟨l, rfl⟩)
  | succ k ih =>
    intro hk n hn l
    obtain ⟨n, rfl⟩ : ∃ z, n = z + 1 := ⟨n - 1, by omega⟩
    simp only [lp_L_asks_116]
    refine UP.neg (fun z => ?_) ?_
    · have := (ni_le (by omega) (by omega)).mp z
      omega
    refine UP.k (fun M K => l_outChar K hs (show s.1 - (k + 1) < s.1 by omega)) ?_
    rw [up_m (show k < s.1 by omega)]
    exact ih (by omega) n (by omega) _
theorem u_215 {s : Os} (hs : okO s) (x1 x5 : Int32) : ∀ k, k ≤ s.1 → ∀ n, k < n → ∀ l, UP (OC b V s) (fun M => lp_L_asks_215 b x1 (ni s.1) x5 M n l (ni (s.1 - k))) (fun q => ∃ a, q = .inl (a, ni s.1)) := by
  intro k
  have h22 := hs.1
  induction k with
  | zero =>
    intro _ n hn l
    obtain ⟨n, rfl⟩ : ∃ z, n = z + 1 := ⟨n - 1, by omega⟩
    simp only [lp_L_asks_215]
    exact UP.pos (show ni s.1 ≤ ni (s.1 - 0) from (ni_le (by omega) (by omega)).mpr (by omega)) (UP.p ⟨l, rfl⟩)
  | succ k ih =>
    intro hk n hn l
    obtain ⟨n, rfl⟩ : ∃ z, n = z + 1 := ⟨n - 1, by omega⟩
    simp only [lp_L_asks_215]
    refine UP.neg (fun z => ?_) ?_
    · have := (ni_le (by omega) (by omega)).mp z
      omega
    refine UP.k (fun M K => l_outChar K hs (show s.1 - (k + 1) < s.1 by omega)) ?_
    rw [up_m (show k < s.1 by omega)]
    exact ih (by omega) n (by omega) _
theorem hS_of {m i : Nat} (hm : m ≤ 9) (hV : V 0 2 = ni m) (hi : i < m) : hasS V (ni i) = true := by
  unfold hasS
  rw [hV, decide_eq_false (ni_pos i (by omega)), decide_eq_false (fun z : ni m ≤ ni i => by have := (ni_le (by omega) (by omega)).mp z; omega)]
  rfl
/-- one sheet's part of the digest, then the rest -/
abbrev mk146 : (Int64 × Int32 × Int32) → Mem → (Int64 × Int32 × Int32 × Mem) ⊕ (Int64 × Mem) := fun r M => .inl (r.1, r.2.1, r.2.2, M)
theorem u_sheet (hW : WF V) {m i : Nat} (hm : m ≤ 9) (hV : V 0 2 = ni m) (hi : i < m) {x1 : Int32} {K : Mem → Prop} {kk : Int32 × Mem → ((Int64 × Int32) ⊕ (Int64 × Mem)) → Option ((Int64 × Int32 × Int32 × Mem) ⊕ (Int64 × Mem))} {l : Int64} (k : ∀ a x, UA b V KT mk146 (fun M => kk (x, M) (.inl (a, x)))) : UA b V K mk146 (fun M => (f_L_writeSheet b (ni i) M).bind fun r31 => ((lp_L_asks_215 b x1 r31.1 (ni i) r31.2 30 l 0).bind (kk r31))) := by
  obtain ⟨s, hs, h1⟩ := k_sheet (b := b) hW (show i < 9 by omega) (hS_of hm hV hi)
  refine UA.out hs h1 ?_
  have h2 := u_215 (b := b) (V := V) hs x1 (ni i) s.1 (Nat.le_refl _) 30 (by have := hs.1; omega) l
  rw [Nat.sub_self] at h2
  refine UA.bb (g := fun q M => kk (ni s.1, M) q) (h2.c (fun M hM => hM.2)) (fun q hq => ?_)
  obtain ⟨a, rfl⟩ := hq
  obtain ⟨r, h3⟩ := k a (ni s.1)
  exact ⟨r, fun h M H e _ => h3 h M H e trivial⟩
theorem u_146 (hW : WF V) {m : Nat} (hm : m ≤ 9) (hV : V 0 2 = ni m) : ∀ k, k ≤ m → ∀ n, k < n → ∀ l x4, UA b V KT mk146 (fun M => lp_L_asks_146 b (ni m) n l x4 (ni (m - k)) M) := by
  intro k
  induction k with
  | zero =>
    intro _ n hn l x4
    obtain ⟨n, rfl⟩ : ∃ z, n = z + 1 := ⟨n - 1, by omega⟩
    simp only [lp_L_asks_146]
    exact UA.i (fun _ => UA.e (mk := mk146) (l, x4, ni (m - 0))) (fun h => (h ((ni_le (by omega) (by omega)).mpr (by omega))).elim)
  | succ k ih =>
    intro hk n hn l x4
    obtain ⟨n, rfl⟩ : ∃ z, n = z + 1 := ⟨n - 1, by omega⟩
    have hi : m - (k + 1) < m := by omega
    have hS := hS_of hm hV hi
    have hlt : ni (m - (k + 1)) < V 0 2 := by
      rw [hV]
      exact (ni_lt (by omega) (by omega)).mpr hi
    simp only [lp_L_asks_146]
    refine UA.i (fun h => (up_n hm (show k < m by omega) h).elim) (fun _ => ?_)
    refine UA.h (h_ways hW hS (by omega)) (fun r27 => ?_)
    refine UA.h (h_byWear hW hlt (by omega)) (fun r28 => ?_)
    refine UA.k (fun M H => l_creaseCount H hW _) ?_
    have ih' : ∀ a x, UA b V KT mk146 (fun M => lp_L_asks_146 b (ni m) n a x (ni (m - (k + 1)) + 1) M) := fun a x => by
      rw [up_m (show k < m by omega)]
      exact ih (by omega) n (by omega) a x
    refine UA.i (fun _ => ?_) (fun _ => ?_)
    · refine u_sheet hW hm hV hi (fun a x => ?_)
      exact ih' a x
    · obtain ⟨r, h1⟩ := l_foldings b hW (show m - (k + 1) < 9 by omega) hS
      refine UA.w (mk1 := Prod.mk) ⟨r, fun h M H e _ => h1 h M H e⟩ (fun r35 => ?_)
      dsimp only
      refine u_sheet hW hm hV hi (fun a x => ?_)
      exact ih' a x
/-- the digest -/
theorem l_asks (b : Nat) {V : St} (hW : WF V) {n : Nat} (hn : n < 9) (hV : V 0 2 = ni (n + 1)) : ∃ a, ∀ h M, Hall b h M → hC h = V → ∃ M', f_L_asks b M = some (a, M') ∧ Hall b h M' ∧ Fo b 343 M M' := by
  have all : UA b V KT Prod.mk (f_L_asks b) := by
    unfold f_L_asks
    refine UA.k (fun M H => H.1.rc10) ?_
    refine UA.k (fun M H => x_count H) ?_
    refine UA.h (h_mean hW hn hV) (fun r3 => ?_)
    refine UA.h (h_bits b V r3) (fun r4 => ?_)
    refine UA.k (fun M H => H.1.rc10) ?_
    refine UA.h (h_share b V) (fun r5 => ?_)
    refine UA.h (h_bitsF b V r5) (fun r7 => ?_)
    refine UA.k (fun M H => H.1.rc10) ?_
    refine UA.k (fun M H => x_paste H) ?_
    refine UA.k (fun M H => H.1.rc10) ?_
    refine UA.k (fun M H => x_folds H) ?_
    refine UA.k (fun M H => H.1.rc10) ?_
    refine UA.k (fun M H => x_used H) ?_
    refine UA.k (fun M H => H.1.rc10) ?_
    refine UA.h (h_points hW) (fun r14 => ?_)
    refine UA.k (fun M H => H.1.rc10) ?_
    refine UA.h (h_groups b V) (fun r16 => ?_)
    refine UA.k (fun M H => H.1.rc10) ?_
    refine UA.h (h_pairs b V) (fun r18 => ?_)
    obtain ⟨r, h1⟩ := l_compl b hW
    refine UA.w (mk1 := Prod.mk) ⟨r, fun h M H e _ => h1 h M H e⟩ (fun r20 => ?_)
    dsimp only
    refine UA.k (fun M H => H.1.rc10) ?_
    obtain ⟨s, hs, h2⟩ := k_table (b := b) hW
    refine UA.out hs h2 ?_
    rw [hV]
    refine UA.bb ?_ (fun q hq => ?_) (Q := fun q => ∃ a, q = .inl (a, ni s.1))
    · have h3 := u_116 (b := b) (V := V) hs (ni (n + 1)) s.1 (Nat.le_refl _) 30 (by have := hs.1; omega)
      rw [Nat.sub_self] at h3
      exact (h3 _).c (fun M hM => hM.2)
    · obtain ⟨a, rfl⟩ := hq
      have h4 := u_146 (b := b) hW (show n + 1 ≤ 9 by omega) hV (n + 1) (Nat.le_refl _) 10 (by omega)
      rw [Nat.sub_self] at h4
      obtain ⟨r4, h5⟩ := h4 a (ni s.1)
      refine UA.w (mk1 := mk146) ⟨r4, fun h M H e _ => h5 h M H e trivial⟩ (fun r => ?_)
      dsimp only
      exact UA.e (mk := Prod.mk) r.1
  obtain ⟨a, h1⟩ := all
  exact ⟨a, fun h M H e => h1 h M H e trivial⟩
end ASK
