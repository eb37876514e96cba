/-! ===== what the tables say of each callee, each link of a method, each link of a field (by program) ===== -/
theorem ys_X9_turnedBy : Cond.selects (yX9_turnedBy).cls yX9_turnedBy yX9_turnedBy ∈ lw_tbl := in_t0 (List.mem_of_getElem? (i := 55) (by decide +kernel))
theorem yy_X9_leaves : rY m_X9_leaves 1 := ⟨in_t6 (List.mem_of_getElem? (i := 222) rfl), in_t1 (List.mem_of_getElem? (i := 11) (by decide +kernel)), by decide +kernel, by decide +kernel, by decide +kernel⟩
theorem yi_X9_leaves : Cond.instanceMethod yX9_leaves ∈ lw_tbl := in_t6 (List.mem_of_getElem? (i := 221) (by decide +kernel))
theorem ys_X9_leaves : Cond.selects (yX9_leaves).cls yX9_leaves yX9_leaves ∈ lw_tbl := in_t0 (List.mem_of_getElem? (i := 54) (by decide +kernel))
theorem yy_X9_fold : rY m_X9_fold 3 := ⟨in_t6 (List.mem_of_getElem? (i := 206) rfl), in_t1 (List.mem_of_getElem? (i := 11) (by decide +kernel)), by decide +kernel, by decide +kernel, by decide +kernel⟩
theorem yi_X9_fold : Cond.instanceMethod yX9_fold ∈ lw_tbl := in_t6 (List.mem_of_getElem? (i := 204) (by decide +kernel))
theorem ys_X9_fold : Cond.selects (yX9_fold).cls yX9_fold yX9_fold ∈ lw_tbl := in_t6 (List.mem_of_getElem? (i := 205) (by decide +kernel))
theorem yy_X9_tuck : rY m_X9_tuck 3 := ⟨in_t6 (List.mem_of_getElem? (i := 234) rfl), in_t1 (List.mem_of_getElem? (i := 11) (by decide +kernel)), by decide +kernel, by decide +kernel, by decide +kernel⟩
theorem yi_X9_tuck : Cond.instanceMethod yX9_tuck ∈ lw_tbl := in_t6 (List.mem_of_getElem? (i := 232) (by decide +kernel))
theorem ys_X9_tuck : Cond.selects (yX9_tuck).cls yX9_tuck yX9_tuck ∈ lw_tbl := in_t6 (List.mem_of_getElem? (i := 233) (by decide +kernel))
theorem yy_X9_isColumn : rY m_X9_isColumn 1 := ⟨in_t7 (List.mem_of_getElem? (i := 30) rfl), in_t1 (List.mem_of_getElem? (i := 11) (by decide +kernel)), by decide +kernel, by decide +kernel, by decide +kernel⟩
theorem yi_X9_isColumn : Cond.instanceMethod yX9_isColumn ∈ lw_tbl := in_t7 (List.mem_of_getElem? (i := 29) (by decide +kernel))
theorem ys_X9_isColumn : Cond.selects (yX9_isColumn).cls yX9_isColumn yX9_isColumn ∈ lw_tbl := in_t0 (List.mem_of_getElem? (i := 64) (by decide +kernel))
theorem yy_X9_highest : rY m_X9_highest 3 := ⟨in_t7 (List.mem_of_getElem? (i := 34) rfl), in_t1 (List.mem_of_getElem? (i := 11) (by decide +kernel)), by decide +kernel, by decide +kernel, by decide +kernel⟩
theorem yi_X9_highest : Cond.instanceMethod yX9_highest ∈ lw_tbl := in_t7 (List.mem_of_getElem? (i := 33) (by decide +kernel))
theorem ys_X9_highest : Cond.selects (yX9_highest).cls yX9_highest yX9_highest ∈ lw_tbl := in_t0 (List.mem_of_getElem? (i := 65) (by decide +kernel))
theorem yy_X9_slit : rY m_X9_slit 2 := ⟨in_t7 (List.mem_of_getElem? (i := 26) rfl), in_t1 (List.mem_of_getElem? (i := 11) (by decide +kernel)), by decide +kernel, by decide +kernel, by decide +kernel⟩
theorem yi_X9_slit : Cond.instanceMethod yX9_slit ∈ lw_tbl := in_t7 (List.mem_of_getElem? (i := 24) (by decide +kernel))
theorem ys_X9_slit : Cond.selects (yX9_slit).cls yX9_slit yX9_slit ∈ lw_tbl := in_t7 (List.mem_of_getElem? (i := 25) (by decide +kernel))
theorem yy_X9_lock : rY m_X9_lock 2 := ⟨in_t7 (List.mem_of_getElem? (i := 46) rfl), in_t1 (List.mem_of_getElem? (i := 11) (by decide +kernel)), by decide +kernel, by decide +kernel, by decide +kernel⟩
theorem yi_X9_lock : Cond.instanceMethod yX9_lock ∈ lw_tbl := in_t7 (List.mem_of_getElem? (i := 44) (by decide +kernel))
theorem ys_X9_lock : Cond.selects (yX9_lock).cls yX9_lock yX9_lock ∈ lw_tbl := in_t7 (List.mem_of_getElem? (i := 45) (by decide +kernel))
theorem yy_X9_seal : rY m_X9_seal 1 := ⟨in_t7 (List.mem_of_getElem? (i := 50) rfl), in_t1 (List.mem_of_getElem? (i := 11) (by decide +kernel)), by decide +kernel, by decide +kernel, by decide +kernel⟩
theorem yi_X9_seal : Cond.instanceMethod yX9_seal ∈ lw_tbl := in_t7 (List.mem_of_getElem? (i := 48) (by decide +kernel))
theorem ys_X9_seal : Cond.selects (yX9_seal).cls yX9_seal yX9_seal ∈ lw_tbl := in_t7 (List.mem_of_getElem? (i := 49) (by decide +kernel))
theorem yy_X9_outer : rY m_X9_outer 1 := ⟨in_t7 (List.mem_of_getElem? (i := 58) rfl), in_t1 (List.mem_of_getElem? (i := 11) (by decide +kernel)), by decide +kernel, by decide +kernel, by decide +kernel⟩
theorem yi_X9_outer : Cond.instanceMethod yX9_outer ∈ lw_tbl := in_t7 (List.mem_of_getElem? (i := 57) (by decide +kernel))
theorem ys_X9_outer : Cond.selects (yX9_outer).cls yX9_outer yX9_outer ∈ lw_tbl := in_t0 (List.mem_of_getElem? (i := 68) (by decide +kernel))
theorem yy_X9_soil : rY m_X9_soil 0 := ⟨in_t7 (List.mem_of_getElem? (i := 54) rfl), in_t1 (List.mem_of_getElem? (i := 11) (by decide +kernel)), by decide +kernel, by decide +kernel, by decide +kernel⟩
theorem yi_X9_soil : Cond.instanceMethod yX9_soil ∈ lw_tbl := in_t7 (List.mem_of_getElem? (i := 52) (by decide +kernel))
theorem ys_X9_soil : Cond.selects (yX9_soil).cls yX9_soil yX9_soil ∈ lw_tbl := in_t7 (List.mem_of_getElem? (i := 53) (by decide +kernel))
theorem yy_X9_harmOf : rY m_X9_harmOf 1 := ⟨in_t7 (List.mem_of_getElem? (i := 66) rfl), in_t1 (List.mem_of_getElem? (i := 11) (by decide +kernel)), by decide +kernel, by decide +kernel, by decide +kernel⟩
theorem yi_X9_harmOf : Cond.instanceMethod yX9_harmOf ∈ lw_tbl := in_t7 (List.mem_of_getElem? (i := 65) (by decide +kernel))
theorem ys_X9_harmOf : Cond.selects (yX9_harmOf).cls yX9_harmOf yX9_harmOf ∈ lw_tbl := in_t0 (List.mem_of_getElem? (i := 69) (by decide +kernel))
theorem yy_X9_harm : rY m_X9_harm 1 := ⟨in_t7 (List.mem_of_getElem? (i := 62) rfl), in_t1 (List.mem_of_getElem? (i := 11) (by decide +kernel)), by decide +kernel, by decide +kernel, by decide +kernel⟩
theorem yi_X9_harm : Cond.instanceMethod yX9_harm ∈ lw_tbl := in_t7 (List.mem_of_getElem? (i := 60) (by decide +kernel))
theorem ys_X9_harm : Cond.selects (yX9_harm).cls yX9_harm yX9_harm ∈ lw_tbl := in_t7 (List.mem_of_getElem? (i := 61) (by decide +kernel))
theorem yy_X9_by : rY m_X9_by 1 := ⟨in_t7 (List.mem_of_getElem? (i := 90) rfl), in_t1 (List.mem_of_getElem? (i := 11) (by decide +kernel)), by decide +kernel, by decide +kernel, by decide +kernel⟩
theorem yi_X9_by : Cond.instanceMethod yX9_by ∈ lw_tbl := in_t7 (List.mem_of_getElem? (i := 88) (by decide +kernel))
theorem ys_X9_by : Cond.selects (yX9_by).cls yX9_by yX9_by ∈ lw_tbl := in_t7 (List.mem_of_getElem? (i := 89) (by decide +kernel))
theorem yy_X9_undo : rY m_X9_undo 0 := ⟨in_t7 (List.mem_of_getElem? (i := 94) rfl), in_t1 (List.mem_of_getElem? (i := 11) (by decide +kernel)), by decide +kernel, by decide +kernel, by decide +kernel⟩
theorem yi_X9_undo : Cond.instanceMethod yX9_undo ∈ lw_tbl := in_t7 (List.mem_of_getElem? (i := 92) (by decide +kernel))
theorem ys_X9_undo : Cond.selects (yX9_undo).cls yX9_undo yX9_undo ∈ lw_tbl := in_t7 (List.mem_of_getElem? (i := 93) (by decide +kernel))
theorem yy_X9_isRead : rY m_X9_isRead 2 := ⟨in_t7 (List.mem_of_getElem? (i := 106) rfl), in_t1 (List.mem_of_getElem? (i := 11) (by decide +kernel)), by decide +kernel, by decide +kernel, by decide +kernel⟩
theorem yi_X9_isRead : Cond.instanceMethod yX9_isRead ∈ lw_tbl := in_t7 (List.mem_of_getElem? (i := 105) (by decide +kernel))
theorem ys_X9_isRead : Cond.selects (yX9_isRead).cls yX9_isRead yX9_isRead ∈ lw_tbl := in_t0 (List.mem_of_getElem? (i := 76) (by decide +kernel))
theorem yy_X9_isOpen : rY m_X9_isOpen 4 := ⟨in_t7 (List.mem_of_getElem? (i := 114) rfl), in_t1 (List.mem_of_getElem? (i := 11) (by decide +kernel)), by decide +kernel, by decide +kernel, by decide +kernel⟩
theorem yi_X9_isOpen : Cond.instanceMethod yX9_isOpen ∈ lw_tbl := in_t7 (List.mem_of_getElem? (i := 113) (by decide +kernel))
theorem ys_X9_isOpen : Cond.selects (yX9_isOpen).cls yX9_isOpen yX9_isOpen ∈ lw_tbl := in_t0 (List.mem_of_getElem? (i := 78) (by decide +kernel))
theorem yy_X9_peepOf : rY m_X9_peepOf 2 := ⟨in_t7 (List.mem_of_getElem? (i := 110) rfl), in_t1 (List.mem_of_getElem? (i := 11) (by decide +kernel)), by decide +kernel, by decide +kernel, by decide +kernel⟩
theorem yi_X9_peepOf : Cond.instanceMethod yX9_peepOf ∈ lw_tbl := in_t7 (List.mem_of_getElem? (i := 109) (by decide +kernel))
theorem ys_X9_peepOf : Cond.selects (yX9_peepOf).cls yX9_peepOf yX9_peepOf ∈ lw_tbl := in_t0 (List.mem_of_getElem? (i := 77) (by decide +kernel))
theorem yy_X9_isPart : rY m_X9_isPart 1 := ⟨in_t7 (List.mem_of_getElem? (i := 102) rfl), in_t1 (List.mem_of_getElem? (i := 11) (by decide +kernel)), by decide +kernel, by decide +kernel, by decide +kernel⟩
theorem yi_X9_isPart : Cond.instanceMethod yX9_isPart ∈ lw_tbl := in_t7 (List.mem_of_getElem? (i := 101) (by decide +kernel))
theorem ys_X9_isPart : Cond.selects (yX9_isPart).cls yX9_isPart yX9_isPart ∈ lw_tbl := in_t0 (List.mem_of_getElem? (i := 75) (by decide +kernel))
theorem yy_X9_part : rY m_X9_part 2 := ⟨in_t7 (List.mem_of_getElem? (i := 98) rfl), in_t1 (List.mem_of_getElem? (i := 11) (by decide +kernel)), by decide +kernel, by decide +kernel, by decide +kernel⟩
theorem yi_X9_part : Cond.instanceMethod yX9_part ∈ lw_tbl := in_t7 (List.mem_of_getElem? (i := 96) (by decide +kernel))
theorem ys_X9_part : Cond.selects (yX9_part).cls yX9_part yX9_part ∈ lw_tbl := in_t7 (List.mem_of_getElem? (i := 97) (by decide +kernel))
theorem yy_X9_mark : rY m_X9_mark 1 := ⟨in_t7 (List.mem_of_getElem? (i := 118) rfl), in_t1 (List.mem_of_getElem? (i := 11) (by decide +kernel)), by decide +kernel, by decide +kernel, by decide +kernel⟩
theorem yi_X9_mark : Cond.instanceMethod yX9_mark ∈ lw_tbl := in_t7 (List.mem_of_getElem? (i := 116) (by decide +kernel))
theorem ys_X9_mark : Cond.selects (yX9_mark).cls yX9_mark yX9_mark ∈ lw_tbl := in_t7 (List.mem_of_getElem? (i := 117) (by decide +kernel))
theorem yy_X9_layers : rY m_X9_layers 1 := ⟨in_t7 (List.mem_of_getElem? (i := 122) rfl), in_t1 (List.mem_of_getElem? (i := 11) (by decide +kernel)), by decide +kernel, by decide +kernel, by decide +kernel⟩
theorem yi_X9_layers : Cond.instanceMethod yX9_layers ∈ lw_tbl := in_t7 (List.mem_of_getElem? (i := 120) (by decide +kernel))
theorem ys_X9_layers : Cond.selects (yX9_layers).cls yX9_layers yX9_layers ∈ lw_tbl := in_t7 (List.mem_of_getElem? (i := 121) (by decide +kernel))
theorem yy_X9_at : rY m_X9_at 2 := ⟨in_t7 (List.mem_of_getElem? (i := 126) rfl), in_t1 (List.mem_of_getElem? (i := 11) (by decide +kernel)), by decide +kernel, by decide +kernel, by decide +kernel⟩
theorem yi_X9_at : Cond.instanceMethod yX9_at ∈ lw_tbl := in_t7 (List.mem_of_getElem? (i := 124) (by decide +kernel))
theorem ys_X9_at : Cond.selects (yX9_at).cls yX9_at yX9_at ∈ lw_tbl := in_t7 (List.mem_of_getElem? (i := 125) (by decide +kernel))
theorem yy_X9_easeOf : rY m_X9_easeOf 1 := ⟨in_t7 (List.mem_of_getElem? (i := 134) rfl), in_t1 (List.mem_of_getElem? (i := 11) (by decide +kernel)), by decide +kernel, by decide +kernel, by decide +kernel⟩
theorem yi_X9_easeOf : Cond.instanceMethod yX9_easeOf ∈ lw_tbl := in_t7 (List.mem_of_getElem? (i := 133) (by decide +kernel))
theorem ys_X9_easeOf : Cond.selects (yX9_easeOf).cls yX9_easeOf yX9_easeOf ∈ lw_tbl := in_t0 (List.mem_of_getElem? (i := 79) (by decide +kernel))
theorem yy_X9_ease : rY m_X9_ease 1 := ⟨in_t7 (List.mem_of_getElem? (i := 130) rfl), in_t1 (List.mem_of_getElem? (i := 11) (by decide +kernel)), by decide +kernel, by decide +kernel, by decide +kernel⟩
theorem yi_X9_ease : Cond.instanceMethod yX9_ease ∈ lw_tbl := in_t7 (List.mem_of_getElem? (i := 128) (by decide +kernel))
theorem ys_X9_ease : Cond.selects (yX9_ease).cls yX9_ease yX9_ease ∈ lw_tbl := in_t7 (List.mem_of_getElem? (i := 129) (by decide +kernel))
theorem yy_X9_undone : rY m_X9_undone 1 := ⟨in_t7 (List.mem_of_getElem? (i := 138) rfl), in_t1 (List.mem_of_getElem? (i := 11) (by decide +kernel)), by decide +kernel, by decide +kernel, by decide +kernel⟩
theorem yi_X9_undone : Cond.instanceMethod yX9_undone ∈ lw_tbl := in_t7 (List.mem_of_getElem? (i := 136) (by decide +kernel))
theorem ys_X9_undone : Cond.selects (yX9_undone).cls yX9_undone yX9_undone ∈ lw_tbl := in_t7 (List.mem_of_getElem? (i := 137) (by decide +kernel))
theorem yy_X9_forgets : rY m_X9_forgets 0 := ⟨in_t5 (List.mem_of_getElem? (i := 112) rfl), in_t1 (List.mem_of_getElem? (i := 11) (by decide +kernel)), by decide +kernel, by decide +kernel, by decide +kernel⟩
theorem yi_X9_forgets : Cond.instanceMethod yX9_forgets ∈ lw_tbl := in_t5 (List.mem_of_getElem? (i := 111) (by decide +kernel))
theorem ys_X9_forgets : Cond.selects (yX9_forgets).cls yX9_forgets yX9_forgets ∈ lw_tbl := in_t0 (List.mem_of_getElem? (i := 36) (by decide +kernel))
theorem yy_X9_find : rY m_X9_find 3 := ⟨in_t7 (List.mem_of_getElem? (i := 142) rfl), in_t1 (List.mem_of_getElem? (i := 11) (by decide +kernel)), by decide +kernel, by decide +kernel, by decide +kernel⟩
theorem yi_X9_find : Cond.instanceMethod yX9_find ∈ lw_tbl := in_t7 (List.mem_of_getElem? (i := 140) (by decide +kernel))
theorem ys_X9_find : Cond.selects (yX9_find).cls yX9_find yX9_find ∈ lw_tbl := in_t7 (List.mem_of_getElem? (i := 141) (by decide +kernel))
theorem yy_X9_finds : rY m_X9_finds 0 := ⟨in_t7 (List.mem_of_getElem? (i := 146) rfl), in_t1 (List.mem_of_getElem? (i := 11) (by decide +kernel)), by decide +kernel, by decide +kernel, by decide +kernel⟩
theorem yi_X9_finds : Cond.instanceMethod yX9_finds ∈ lw_tbl := in_t7 (List.mem_of_getElem? (i := 144) (by decide +kernel))
theorem ys_X9_finds : Cond.selects (yX9_finds).cls yX9_finds yX9_finds ∈ lw_tbl := in_t7 (List.mem_of_getElem? (i := 145) (by decide +kernel))
theorem yy_X9_tries : rY m_X9_tries 0 := ⟨in_t7 (List.mem_of_getElem? (i := 154) rfl), in_t1 (List.mem_of_getElem? (i := 11) (by decide +kernel)), by decide +kernel, by decide +kernel, by decide +kernel⟩
theorem yi_X9_tries : Cond.instanceMethod yX9_tries ∈ lw_tbl := in_t7 (List.mem_of_getElem? (i := 153) (by decide +kernel))
theorem ys_X9_tries : Cond.selects (yX9_tries).cls yX9_tries yX9_tries ∈ lw_tbl := in_t0 (List.mem_of_getElem? (i := 80) (by decide +kernel))
theorem yy_X9_mostLayers : rY m_X9_mostLayers 1 := ⟨in_t7 (List.mem_of_getElem? (i := 178) rfl), in_t1 (List.mem_of_getElem? (i := 11) (by decide +kernel)), by decide +kernel, by decide +kernel, by decide +kernel⟩
theorem yi_X9_mostLayers : Cond.instanceMethod yX9_mostLayers ∈ lw_tbl := in_t7 (List.mem_of_getElem? (i := 177) (by decide +kernel))
theorem ys_X9_mostLayers : Cond.selects (yX9_mostLayers).cls yX9_mostLayers yX9_mostLayers ∈ lw_tbl := in_t0 (List.mem_of_getElem? (i := 86) (by decide +kernel))
theorem yy_X9_after : rY m_X9_after 2 := ⟨in_t7 (List.mem_of_getElem? (i := 174) rfl), in_t1 (List.mem_of_getElem? (i := 11) (by decide +kernel)), by decide +kernel, by decide +kernel, by decide +kernel⟩
theorem yi_X9_after : Cond.instanceMethod yX9_after ∈ lw_tbl := in_t7 (List.mem_of_getElem? (i := 173) (by decide +kernel))
theorem ys_X9_after : Cond.selects (yX9_after).cls yX9_after yX9_after ∈ lw_tbl := in_t0 (List.mem_of_getElem? (i := 85) (by decide +kernel))
theorem yy_X9_goesThrough : rY m_X9_goesThrough 1 := ⟨in_t7 (List.mem_of_getElem? (i := 158) rfl), in_t1 (List.mem_of_getElem? (i := 11) (by decide +kernel)), by decide +kernel, by decide +kernel, by decide +kernel⟩
theorem yi_X9_goesThrough : Cond.instanceMethod yX9_goesThrough ∈ lw_tbl := in_t7 (List.mem_of_getElem? (i := 157) (by decide +kernel))
theorem ys_X9_goesThrough : Cond.selects (yX9_goesThrough).cls yX9_goesThrough yX9_goesThrough ∈ lw_tbl := in_t0 (List.mem_of_getElem? (i := 81) (by decide +kernel))
theorem yy_X9_rowEnds : rY m_X9_rowEnds 2 := ⟨in_t7 (List.mem_of_getElem? (i := 162) rfl), in_t1 (List.mem_of_getElem? (i := 11) (by decide +kernel)), by decide +kernel, by decide +kernel, by decide +kernel⟩
theorem yi_X9_rowEnds : Cond.instanceMethod yX9_rowEnds ∈ lw_tbl := in_t7 (List.mem_of_getElem? (i := 161) (by decide +kernel))
theorem ys_X9_rowEnds : Cond.selects (yX9_rowEnds).cls yX9_rowEnds yX9_rowEnds ∈ lw_tbl := in_t0 (List.mem_of_getElem? (i := 82) (by decide +kernel))
theorem yy_X9_fits : rY m_X9_fits 4 := ⟨in_t7 (List.mem_of_getElem? (i := 166) rfl), in_t1 (List.mem_of_getElem? (i := 11) (by decide +kernel)), by decide +kernel, by decide +kernel, by decide +kernel⟩
theorem yi_X9_fits : Cond.instanceMethod yX9_fits ∈ lw_tbl := in_t7 (List.mem_of_getElem? (i := 165) (by decide +kernel))
theorem ys_X9_fits : Cond.selects (yX9_fits).cls yX9_fits yX9_fits ∈ lw_tbl := in_t0 (List.mem_of_getElem? (i := 83) (by decide +kernel))
theorem yy_X9_tells : rY m_X9_tells 1 := ⟨in_t7 (List.mem_of_getElem? (i := 170) rfl), in_t1 (List.mem_of_getElem? (i := 11) (by decide +kernel)), by decide +kernel, by decide +kernel, by decide +kernel⟩
theorem yi_X9_tells : Cond.instanceMethod yX9_tells ∈ lw_tbl := in_t7 (List.mem_of_getElem? (i := 169) (by decide +kernel))
theorem ys_X9_tells : Cond.selects (yX9_tells).cls yX9_tells yX9_tells ∈ lw_tbl := in_t0 (List.mem_of_getElem? (i := 84) (by decide +kernel))
theorem yy_X9_rows : rY m_X9_rows 0 := ⟨in_t7 (List.mem_of_getElem? (i := 150) rfl), in_t1 (List.mem_of_getElem? (i := 11) (by decide +kernel)), by decide +kernel, by decide +kernel, by decide +kernel⟩
theorem yi_X9_rows : Cond.instanceMethod yX9_rows ∈ lw_tbl := in_t7 (List.mem_of_getElem? (i := 148) (by decide +kernel))
theorem ys_X9_rows : Cond.selects (yX9_rows).cls yX9_rows yX9_rows ∈ lw_tbl := in_t7 (List.mem_of_getElem? (i := 149) (by decide +kernel))
theorem yy_X9_row : rY m_X9_row 1 := ⟨in_t7 (List.mem_of_getElem? (i := 182) rfl), in_t1 (List.mem_of_getElem? (i := 11) (by decide +kernel)), by decide +kernel, by decide +kernel, by decide +kernel⟩
theorem yi_X9_row : Cond.instanceMethod yX9_row ∈ lw_tbl := in_t7 (List.mem_of_getElem? (i := 180) (by decide +kernel))
theorem ys_X9_row : Cond.selects (yX9_row).cls yX9_row yX9_row ∈ lw_tbl := in_t7 (List.mem_of_getElem? (i := 181) (by decide +kernel))
theorem yy_X9_shut : rY m_X9_shut 0 := ⟨in_t7 (List.mem_of_getElem? (i := 186) rfl), in_t1 (List.mem_of_getElem? (i := 11) (by decide +kernel)), by decide +kernel, by decide +kernel, by decide +kernel⟩
theorem yi_X9_shut : Cond.instanceMethod yX9_shut ∈ lw_tbl := in_t7 (List.mem_of_getElem? (i := 184) (by decide +kernel))
theorem ys_X9_shut : Cond.selects (yX9_shut).cls yX9_shut yX9_shut ∈ lw_tbl := in_t7 (List.mem_of_getElem? (i := 185) (by decide +kernel))
theorem yy_X9_hand : rY m_X9_hand 1 := ⟨in_t7 (List.mem_of_getElem? (i := 190) rfl), in_t1 (List.mem_of_getElem? (i := 11) (by decide +kernel)), by decide +kernel, by decide +kernel, by decide +kernel⟩
theorem yi_X9_hand : Cond.instanceMethod yX9_hand ∈ lw_tbl := in_t7 (List.mem_of_getElem? (i := 188) (by decide +kernel))
theorem ys_X9_hand : Cond.selects (yX9_hand).cls yX9_hand yX9_hand ∈ lw_tbl := in_t7 (List.mem_of_getElem? (i := 189) (by decide +kernel))
theorem yy_X9_look : rY m_X9_look 2 := ⟨in_t7 (List.mem_of_getElem? (i := 194) rfl), in_t1 (List.mem_of_getElem? (i := 11) (by decide +kernel)), by decide +kernel, by decide +kernel, by decide +kernel⟩
theorem yi_X9_look : Cond.instanceMethod yX9_look ∈ lw_tbl := in_t7 (List.mem_of_getElem? (i := 192) (by decide +kernel))
theorem ys_X9_look : Cond.selects (yX9_look).cls yX9_look yX9_look ∈ lw_tbl := in_t7 (List.mem_of_getElem? (i := 193) (by decide +kernel))
theorem yy_X9_priceOf : rY m_X9_priceOf 1 := ⟨in_t7 (List.mem_of_getElem? (i := 210) rfl), in_t1 (List.mem_of_getElem? (i := 11) (by decide +kernel)), by decide +kernel, by decide +kernel, by decide +kernel⟩
theorem yi_X9_priceOf : Cond.instanceMethod yX9_priceOf ∈ lw_tbl := in_t7 (List.mem_of_getElem? (i := 209) (by decide +kernel))
theorem ys_X9_priceOf : Cond.selects (yX9_priceOf).cls yX9_priceOf yX9_priceOf ∈ lw_tbl := in_t0 (List.mem_of_getElem? (i := 89) (by decide +kernel))
theorem yy_X9_change : rY m_X9_change 3 := ⟨in_t7 (List.mem_of_getElem? (i := 215) rfl), in_t1 (List.mem_of_getElem? (i := 11) (by decide +kernel)), by decide +kernel, by decide +kernel, by decide +kernel⟩
theorem yi_X9_change : Cond.instanceMethod yX9_change ∈ lw_tbl := in_t7 (List.mem_of_getElem? (i := 214) (by decide +kernel))
theorem ys_X9_change : Cond.selects (yX9_change).cls yX9_change yX9_change ∈ lw_tbl := in_t0 (List.mem_of_getElem? (i := 90) (by decide +kernel))
theorem yy_X9_prices : rY m_X9_prices 1 := ⟨in_t7 (List.mem_of_getElem? (i := 206) rfl), in_t1 (List.mem_of_getElem? (i := 11) (by decide +kernel)), by decide +kernel, by decide +kernel, by decide +kernel⟩
theorem yi_X9_prices : Cond.instanceMethod yX9_prices ∈ lw_tbl := in_t7 (List.mem_of_getElem? (i := 205) (by decide +kernel))
theorem ys_X9_prices : Cond.selects (yX9_prices).cls yX9_prices yX9_prices ∈ lw_tbl := in_t0 (List.mem_of_getElem? (i := 88) (by decide +kernel))
theorem yy_X9_least : rY m_X9_least 2 := ⟨in_t7 (List.mem_of_getElem? (i := 219) rfl), in_t1 (List.mem_of_getElem? (i := 11) (by decide +kernel)), by decide +kernel, by decide +kernel, by decide +kernel⟩
theorem yi_X9_least : Cond.instanceMethod yX9_least ∈ lw_tbl := in_t7 (List.mem_of_getElem? (i := 218) (by decide +kernel))
theorem ys_X9_least : Cond.selects (yX9_least).cls yX9_least yX9_least ∈ lw_tbl := in_t0 (List.mem_of_getElem? (i := 91) (by decide +kernel))
theorem yy_X9_talesBut : rY m_X9_talesBut 1 := ⟨in_t7 (List.mem_of_getElem? (i := 228) rfl), in_t1 (List.mem_of_getElem? (i := 11) (by decide +kernel)), by decide +kernel, by decide +kernel, by decide +kernel⟩
theorem yi_X9_talesBut : Cond.instanceMethod yX9_talesBut ∈ lw_tbl := in_t7 (List.mem_of_getElem? (i := 227) (by decide +kernel))
theorem ys_X9_talesBut : Cond.selects (yX9_talesBut).cls yX9_talesBut yX9_talesBut ∈ lw_tbl := in_t0 (List.mem_of_getElem? (i := 92) (by decide +kernel))
theorem yy_X9_onward : rY m_X9_onward 3 := ⟨in_t7 (List.mem_of_getElem? (i := 232) rfl), in_t1 (List.mem_of_getElem? (i := 11) (by decide +kernel)), by decide +kernel, by decide +kernel, by decide +kernel⟩
theorem yi_X9_onward : Cond.instanceMethod yX9_onward ∈ lw_tbl := in_t7 (List.mem_of_getElem? (i := 231) (by decide +kernel))
theorem ys_X9_onward : Cond.selects (yX9_onward).cls yX9_onward yX9_onward ∈ lw_tbl := in_t0 (List.mem_of_getElem? (i := 93) (by decide +kernel))
theorem yy_X9_tellsTale : rY m_X9_tellsTale 1 := ⟨in_t8 (List.mem_of_getElem? (i := 0) rfl), in_t1 (List.mem_of_getElem? (i := 11) (by decide +kernel)), by decide +kernel, by decide +kernel, by decide +kernel⟩
theorem yi_X9_tellsTale : Cond.instanceMethod yX9_tellsTale ∈ lw_tbl := in_t7 (List.mem_of_getElem? (i := 239) (by decide +kernel))
theorem ys_X9_tellsTale : Cond.selects (yX9_tellsTale).cls yX9_tellsTale yX9_tellsTale ∈ lw_tbl := in_t0 (List.mem_of_getElem? (i := 94) (by decide +kernel))
theorem yy_X9_isKnown : rY m_X9_isKnown 1 := ⟨in_t7 (List.mem_of_getElem? (i := 202) rfl), in_t1 (List.mem_of_getElem? (i := 11) (by decide +kernel)), by decide +kernel, by decide +kernel, by decide +kernel⟩
theorem yi_X9_isKnown : Cond.instanceMethod yX9_isKnown ∈ lw_tbl := in_t7 (List.mem_of_getElem? (i := 201) (by decide +kernel))
theorem ys_X9_isKnown : Cond.selects (yX9_isKnown).cls yX9_isKnown yX9_isKnown ∈ lw_tbl := in_t0 (List.mem_of_getElem? (i := 87) (by decide +kernel))
theorem yy_X9_tale : rY m_X9_tale 1 := ⟨in_t7 (List.mem_of_getElem? (i := 198) rfl), in_t1 (List.mem_of_getElem? (i := 11) (by decide +kernel)), by decide +kernel, by decide +kernel, by decide +kernel⟩
theorem yi_X9_tale : Cond.instanceMethod yX9_tale ∈ lw_tbl := in_t7 (List.mem_of_getElem? (i := 196) (by decide +kernel))
theorem ys_X9_tale : Cond.selects (yX9_tale).cls yX9_tale yX9_tale ∈ lw_tbl := in_t7 (List.mem_of_getElem? (i := 197) (by decide +kernel))
theorem yy_X9_tales : rY m_X9_tales 1 := ⟨in_t7 (List.mem_of_getElem? (i := 223) rfl), in_t1 (List.mem_of_getElem? (i := 11) (by decide +kernel)), by decide +kernel, by decide +kernel, by decide +kernel⟩
theorem yi_X9_tales : Cond.instanceMethod yX9_tales ∈ lw_tbl := in_t7 (List.mem_of_getElem? (i := 221) (by decide +kernel))
theorem ys_X9_tales : Cond.selects (yX9_tales).cls yX9_tales yX9_tales ∈ lw_tbl := in_t7 (List.mem_of_getElem? (i := 222) (by decide +kernel))
theorem yy_X9_told : rY m_X9_told 2 := ⟨in_t7 (List.mem_of_getElem? (i := 236) rfl), in_t1 (List.mem_of_getElem? (i := 11) (by decide +kernel)), by decide +kernel, by decide +kernel, by decide +kernel⟩
theorem yi_X9_told : Cond.instanceMethod yX9_told ∈ lw_tbl := in_t7 (List.mem_of_getElem? (i := 234) (by decide +kernel))
theorem ys_X9_told : Cond.selects (yX9_told).cls yX9_told yX9_told ∈ lw_tbl := in_t7 (List.mem_of_getElem? (i := 235) (by decide +kernel))
theorem yy_X9_opened : rY m_X9_opened 2 := ⟨in_t8 (List.mem_of_getElem? (i := 4) rfl), in_t1 (List.mem_of_getElem? (i := 11) (by decide +kernel)), by decide +kernel, by decide +kernel, by decide +kernel⟩
theorem yi_X9_opened : Cond.instanceMethod yX9_opened ∈ lw_tbl := in_t8 (List.mem_of_getElem? (i := 2) (by decide +kernel))
theorem ys_X9_opened : Cond.selects (yX9_opened).cls yX9_opened yX9_opened ∈ lw_tbl := in_t8 (List.mem_of_getElem? (i := 3) (by decide +kernel))
theorem yy_X9_turned : rY m_X9_turned 1 := ⟨in_t8 (List.mem_of_getElem? (i := 8) rfl), in_t1 (List.mem_of_getElem? (i := 11) (by decide +kernel)), by decide +kernel, by decide +kernel, by decide +kernel⟩
theorem yi_X9_turned : Cond.instanceMethod yX9_turned ∈ lw_tbl := in_t8 (List.mem_of_getElem? (i := 6) (by decide +kernel))
theorem ys_X9_turned : Cond.selects (yX9_turned).cls yX9_turned yX9_turned ∈ lw_tbl := in_t8 (List.mem_of_getElem? (i := 7) (by decide +kernel))
theorem yy_X9_count : rY m_X9_count 1 := ⟨in_t8 (List.mem_of_getElem? (i := 12) rfl), in_t1 (List.mem_of_getElem? (i := 11) (by decide +kernel)), by decide +kernel, by decide +kernel, by decide +kernel⟩
theorem yi_X9_count : Cond.instanceMethod yX9_count ∈ lw_tbl := in_t8 (List.mem_of_getElem? (i := 10) (by decide +kernel))
theorem ys_X9_count : Cond.selects (yX9_count).cls yX9_count yX9_count ∈ lw_tbl := in_t8 (List.mem_of_getElem? (i := 11) (by decide +kernel))
theorem yy_J9_max_7cf53 : rY m_J9_max_7cf53 2 := ⟨in_t3 (List.mem_of_getElem? (i := 107) rfl), in_t1 (List.mem_of_getElem? (i := 16) (by decide +kernel)), by decide +kernel, by decide +kernel, by decide +kernel⟩
theorem yi_J9_max_7cf53 : Cond.static yJ9_max_7cf53 ∈ lw_tbl := in_t3 (List.mem_of_getElem? (i := 106) (by decide +kernel))
theorem yy_J9_min_7cf53 : rY m_J9_min_7cf53 2 := ⟨in_t3 (List.mem_of_getElem? (i := 110) rfl), in_t1 (List.mem_of_getElem? (i := 16) (by decide +kernel)), by decide +kernel, by decide +kernel, by decide +kernel⟩
theorem yi_J9_min_7cf53 : Cond.static yJ9_min_7cf53 ∈ lw_tbl := in_t3 (List.mem_of_getElem? (i := 109) (by decide +kernel))
theorem yy_J0_charAt_5068e : rY m_J0_charAt_5068e 1 := ⟨in_t2 (List.mem_of_getElem? (i := 228) rfl), in_t1 (List.mem_of_getElem? (i := 12) (by decide +kernel)), by decide +kernel, by decide +kernel, by decide +kernel⟩
theorem yi_J0_charAt_5068e : Cond.instanceMethod yJ0_charAt_5068e ∈ lw_tbl := in_t2 (List.mem_of_getElem? (i := 226) (by decide +kernel))
theorem ys_J0_charAt_5068e : Cond.selects (yJ0_charAt_5068e).cls yJ0_charAt_5068e yJ0_charAt_5068e ∈ lw_tbl := in_t2 (List.mem_of_getElem? (i := 227) (by decide +kernel))
theorem yy_J0_isLatin1_aae02 : rY m_J0_isLatin1_aae02 0 := ⟨in_t2 (List.mem_of_getElem? (i := 232) rfl), in_t1 (List.mem_of_getElem? (i := 12) (by decide +kernel)), by decide +kernel, by decide +kernel, by decide +kernel⟩
theorem yi_J0_isLatin1_aae02 : Cond.instanceMethod yJ0_isLatin1_aae02 ∈ lw_tbl := in_t2 (List.mem_of_getElem? (i := 230) (by decide +kernel))
theorem ys_J0_isLatin1_aae02 : Cond.selects (yJ0_isLatin1_aae02).cls yJ0_isLatin1_aae02 yJ0_isLatin1_aae02 ∈ lw_tbl := in_t2 (List.mem_of_getElem? (i := 231) (by decide +kernel))
theorem yy_J0_checkIndex_df160 : rY m_J0_checkIndex_df160 2 := ⟨in_t3 (List.mem_of_getElem? (i := 0) rfl), in_t1 (List.mem_of_getElem? (i := 12) (by decide +kernel)), by decide +kernel, by decide +kernel, by decide +kernel⟩
theorem yi_J0_checkIndex_df160 : Cond.static yJ0_checkIndex_df160 ∈ lw_tbl := in_t2 (List.mem_of_getElem? (i := 239) (by decide +kernel))
theorem yy_J1_charAt_3b067 : rY m_J1_charAt_3b067 2 := ⟨in_t2 (List.mem_of_getElem? (i := 237) rfl), in_t1 (List.mem_of_getElem? (i := 13) (by decide +kernel)), by decide +kernel, by decide +kernel, by decide +kernel⟩
theorem yi_J1_charAt_3b067 : Cond.static yJ1_charAt_3b067 ∈ lw_tbl := in_t2 (List.mem_of_getElem? (i := 236) (by decide +kernel))
theorem yy_J2_getChar_3b067 : rY m_J2_getChar_3b067 2 := ⟨in_t3 (List.mem_of_getElem? (i := 18) rfl), in_t1 (List.mem_of_getElem? (i := 15) (by decide +kernel)), by decide +kernel, by decide +kernel, by decide +kernel⟩
theorem yi_J2_getChar_3b067 : Cond.static yJ2_getChar_3b067 ∈ lw_tbl := in_t3 (List.mem_of_getElem? (i := 17) (by decide +kernel))
theorem yy_J2_length_9d52b : rY m_J2_length_9d52b 1 := ⟨in_t3 (List.mem_of_getElem? (i := 14) rfl), in_t1 (List.mem_of_getElem? (i := 15) (by decide +kernel)), by decide +kernel, by decide +kernel, by decide +kernel⟩
theorem yi_J2_length_9d52b : Cond.static yJ2_length_9d52b ∈ lw_tbl := in_t3 (List.mem_of_getElem? (i := 13) (by decide +kernel))
theorem yy_J2_charAt_3b067 : rY m_J2_charAt_3b067 2 := ⟨in_t3 (List.mem_of_getElem? (i := 8) rfl), in_t1 (List.mem_of_getElem? (i := 15) (by decide +kernel)), by decide +kernel, by decide +kernel, by decide +kernel⟩
theorem yi_J2_charAt_3b067 : Cond.static yJ2_charAt_3b067 ∈ lw_tbl := in_t3 (List.mem_of_getElem? (i := 7) (by decide +kernel))
theorem yy_J2_checkIndex_2214a : rY m_J2_checkIndex_2214a 2 := ⟨in_t3 (List.mem_of_getElem? (i := 11) rfl), in_t1 (List.mem_of_getElem? (i := 15) (by decide +kernel)), by decide +kernel, by decide +kernel, by decide +kernel⟩
theorem yi_J2_checkIndex_2214a : Cond.static yJ2_checkIndex_2214a ∈ lw_tbl := in_t3 (List.mem_of_getElem? (i := 10) (by decide +kernel))
theorem yy_J7_fill_53178 : rY m_J7_fill_53178 2 := ⟨in_t2 (List.mem_of_getElem? (i := 135) rfl), in_t1 (List.mem_of_getElem? (i := 10) (by decide +kernel)), by decide +kernel, by decide +kernel, by decide +kernel⟩
theorem yi_J7_fill_53178 : Cond.static yJ7_fill_53178 ∈ lw_tbl := in_t2 (List.mem_of_getElem? (i := 134) (by decide +kernel))
theorem yy_J3_checkIndex_8e157 : rY m_J3_checkIndex_8e157 3 := ⟨in_t3 (List.mem_of_getElem? (i := 5) rfl), in_t1 (List.mem_of_getElem? (i := 14) (by decide +kernel)), by decide +kernel, by decide +kernel, by decide +kernel⟩
theorem yi_J3_checkIndex_8e157 : Cond.static yJ3_checkIndex_8e157 ∈ lw_tbl := in_t3 (List.mem_of_getElem? (i := 4) (by decide +kernel))
