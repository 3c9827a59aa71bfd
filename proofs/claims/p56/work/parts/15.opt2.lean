/-! ===== receivers, switches, cells that nobody writes beside those of the memory ===== -/
def rc (M : Mem) (ci o : Nat) : Option Unit := if (mS M o).1 = ci ∧ o < mN M then some () else none
theorem rc_ok {F : ROF} {M : Mem} {C : String} {T : u_T} {N ci o : Nat} (h : rc M ci o = some ()) (hC : vwCl[ci]? = some (C, T, N)) (hlt : ci < 100) : Rcv F M C o := by
  unfold rc at h
  split at h
  · rename_i hh
    exact Or.inl ⟨ci, T, N, hC, hlt, hh.1, hh.2⟩
  · cases h
theorem sw_out {lo hi : Int} {x : Int32} {l : List Int32} (hl : (List.range (hi - lo + 1).toNat).map (fun i : Nat => Int32.ofInt (lo + i)) = l) (h : x ∉ l) : x.toInt < lo ∨ hi < x.toInt := by
  rcases Int.lt_or_le x.toInt lo with h1 | h1
  · exact Or.inl h1
  rcases Int.lt_or_le hi x.toInt with h2 | h2
  · exact Or.inr h2
  refine (h ?_).elim
  rw [← hl]
  refine List.mem_map.mpr ⟨(x.toInt - lo).toNat, List.mem_range.mpr (by omega), ?_⟩
  rw [Int.toNat_of_nonneg (by omega), show lo + (x.toInt - lo) = x.toInt by omega, Int32.ofInt_toInt]
section OQ
variable {F : ROF} {g : Bool} {n0 : Nat} {Y : MD} {d k pc : Nat} {L : List (Nat × Value)} {S : List Value} {M : Mem} {P : Res → Mem → Prop} {idx : Nat}
theorem fr_ldcw {v : Int32} (hk : Cond.constant Y.1.cls idx v ∈ wsG) (hdg : decode Y.2.1 pc = .ok (.ldc_w idx, 3)) (kk : Fr F g n0 Y d k (pc + 3) L (.int v :: S) M P) : Fr F g n0 Y d k pc L S M P := by
  intro p l e R s m args below meth c H locs cells slots mc ms ls D CA adE ad A hc ha hn hw hr hl
  exact lv_ldcw hc.1 hc.2.1 hc.2.2.2.1 (hc.2.2.2.2.1 _ hk) hdg (kk p l e R s m args below meth c H locs cells slots mc ms ls D CA adE ad A hc ha hn hw hr hl)
end OQ
