/-! ===== the law's own method ===== -/
abbrev YL_law : MD := (yL_law, cL_law, 11, some .boolean, [])
