/-! ===== pure: the first hall: its texts ===== -/
section H1
variable {G : Nat × (Nat → Int32) × Value} {M : Mem}
/-- what is left of the first hall behind its texts -/
def S8 (h : Hs) : Prop := US c20 (fun _ => V0) 0 1 h ∧ hT h = []
theorem r_8 (H : Hall 0 h00 M) : ∃ h' M', rg_L_law_8 G ROB 0 M = some (.inl M') ∧ Hall 0 h' M' ∧ S8 h' ∧ Fo 0 343 M M' := by
  have f1 := l_undo_no H rfl
  have f2 := l_restore_no H rfl
  obtain ⟨M3, f3, H3, o3⟩ := x_save H w_h00
  have w3 := w_save w_h00
  obtain ⟨M4, f4, H4, o4⟩ := l_addPaste H3 w3 20
  have w4 := wl_addPaste w3 20
  have e4 : mPaste (hC (saveH h00)) 20 = (20, c20) := e_paste
  rw [e4] at f4 H4 w4
  generalize hh4 : recH (saveH h00) (20, c20) = h4 at H4 w4
  have t4 : hT h4 = [] := by rw [← hh4]; rfl
  have H4' : Hall 0 (txH h4 (lt9 (60 - 60))) M4 := by
    have : txH h4 (lt9 (60 - 60)) = h4 := by
      show (hC h4, hV h4, hL h4, hB h4, hN h4, hK h4, hM h4, hF h4, ([] : List Int32)) = h4
      rw [← t4]
      rfl
    rw [this]
    exact H4
  obtain ⟨M5, f5, H5, o5⟩ := e_50 G ROB (b := 0) (h := h4) 60 (Nat.le_refl _) 61 (by decide) M4 H4'
  have f5' : lp_L_law_50 G ROB 0 61 0 M4 = some (.inl (60, M5)) := f5
  have t5 : hT (txH h4 (lt9 60)) = lt9 60 := rfl
  have f6 := l_feed_no H5 109 (by rw [t5]; exact lt9_len 60)
  obtain ⟨M7, f7, H7, o7⟩ := l_run_bad H5 (x := 0) (cs := []) (by rw [t5, lt9_len]; exact Nat.le_refl _) (by rw [t5]; exact r_60) (by decide)
  have f8 := l_errPos H7 (show (0 : Int32) ≠ -1 by decide)
  have e8 : hM (txH (pmH (txH h4 (lt9 60)) 0) []) = 0 := rfl
  rw [e8] at f8
  obtain ⟨M9, f9, H9, o9⟩ := l_feed H7 (c := 109) (by decide) (by show (0 : Nat) < 60; decide)
  have e9 : ni ((hT (txH (pmH (txH h4 (lt9 60)) 0) [])).length + 1) = 1 := rfl
  rw [e9] at f9
  have t9 : hT (txH (txH (pmH (txH h4 (lt9 60)) 0) []) (hT (txH (pmH (txH h4 (lt9 60)) 0) []) ++ [109])) = [109] := rfl
  obtain ⟨M10, f10, H10, o10⟩ := l_run_bad H9 (x := 1) (cs := []) (by rw [t9]; decide) (by rw [t9]; exact r_m) (by decide)
  have f11 := l_errPos H10 (show (1 : Int32) ≠ -1 by decide)
  generalize hh5 : txH (pmH (txH (txH (pmH (txH h4 (lt9 60)) 0) []) (hT (txH (pmH (txH h4 (lt9 60)) 0) []) ++ [109])) 1) [] = h5 at H10 f11
  have e11 : hM h5 = 1 := by rw [← hh5]; rfl
  rw [e11] at f11
  refine ⟨h5, M10, ?_, H10, ⟨⟨?_, ?_, ?_, ?_, ?_, by decide, fun s hs => absurd hs (Nat.not_lt_zero s)⟩, ?_⟩, ((((o3.tr o4).tr o5).tr o7).tr o9).tr o10⟩
  · have f3' : f_X10_save 0 M = some (0, M3) := f3
    have f4' : f_L_addPaste 0 20 M3 = some (20, M4) := f4
    rw [rg_L_law_8, f1, Option.bind_some, if_pos rfl, f2, Option.bind_some, if_pos rfl, H.1.rc10, Option.bind_some, f3', Option.bind_some, if_pos rfl, f4', Option.bind_some, if_pos rfl, f5', Option.bind_some]
    dsimp only
    rw [f6, Option.bind_some, if_pos rfl, f7, Option.bind_some, if_pos rfl, f8, Option.bind_some, if_pos rfl, f9, Option.bind_some, if_pos rfl, f10, Option.bind_some, if_pos rfl, f11, Option.bind_some, if_pos rfl]
  · rw [← hh5]
    exact w_tx (w_pm (w_tx (w_tx (w_pm (w_tx w4 (by rw [lt9_len]; exact Nat.le_refl _)) 0) (by decide)) (by rw [show (hT (txH (pmH (txH h4 (lt9 60)) 0) []) ++ [109]) = [109] from rfl]; decide)) 1) (by decide)
  · rw [← hh5, show hC (txH (pmH (txH (txH (pmH (txH h4 (lt9 60)) 0) []) (hT (txH (pmH (txH h4 (lt9 60)) 0) []) ++ [109])) 1) []) = hC h4 from rfl, ← hh4]
    rfl
  · rw [← hh5, show hK (txH (pmH (txH (txH (pmH (txH h4 (lt9 60)) 0) []) (hT (txH (pmH (txH h4 (lt9 60)) 0) []) ++ [109])) 1) []) = hK h4 from rfl, ← hh4]
    rfl
  · rw [← hh5, show hB (txH (pmH (txH (txH (pmH (txH h4 (lt9 60)) 0) []) (hT (txH (pmH (txH h4 (lt9 60)) 0) []) ++ [109])) 1) []) = hB h4 from rfl, ← hh4]
    rfl
  · rw [← hh5, show hV (txH (pmH (txH (txH (pmH (txH h4 (lt9 60)) 0) []) (hT (txH (pmH (txH h4 (lt9 60)) 0) []) ++ [109])) 1) []) = hV h4 from rfl, ← hh4]
    rfl
  · rw [← hh5]
    rfl
end H1
