/-! ===== the law's own method ===== -/
abbrev YL_law : MD := (yL_law, cL_law, 11, some .boolean, [])
section R3
variable {F : ROF} {g : Bool} {n0 : Nat} {Y : MD} {d k pc : Nat} {L : List (Nat × Value)} {S : List Value} {M : Mem} {P : Res → Mem → Prop} {idx : Nat}
theorem fr_ldci {v : Int32} (hk : Cond.constant Y.1.cls idx v ∈ wsG) (hdg : decode Y.2.1 pc = .ok (.ldc idx, 2)) (kk : Fr F g n0 Y d k (pc + 2) L (.int v :: S) M P) : Fr F g n0 Y d k pc L S M P := by
  intro p l e R s m args below meth c H locs cells slots mc ms ls D CA adE ad A hc ha hn hw hr hl
  exact lv_ldc hc.1 hc.2.1 hc.2.2.2.1 (hc.2.2.2.2.1 _ hk) hdg (kk p l e R s m args below meth c H locs cells slots mc ms ls D CA adE ad A hc ha hn hw hr hl)
end R3
