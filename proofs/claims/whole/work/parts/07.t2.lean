/-! ===== what the tables say of each callee, each link of a method, each link of a field (by program) ===== -/
theorem yi_X8_part : Cond.instanceMethod yX8_part ∈ lw_tbl := in_t4 (List.mem_of_getElem? (i := 13) (by decide +kernel))
theorem ys_X8_part : Cond.selects (yX8_part).cls yX8_part yX8_part ∈ lw_tbl := in_t4 (List.mem_of_getElem? (i := 14) (by decide +kernel))
theorem yy_X8_mark : rY m_X8_mark 1 := ⟨in_t4 (List.mem_of_getElem? (i := 58) rfl), in_t1 (List.mem_of_getElem? (i := 1) (by decide +kernel)), by decide +kernel, by decide +kernel, by decide +kernel⟩
theorem yi_X8_mark : Cond.instanceMethod yX8_mark ∈ lw_tbl := in_t4 (List.mem_of_getElem? (i := 56) (by decide +kernel))
theorem ys_X8_mark : Cond.selects (yX8_mark).cls yX8_mark yX8_mark ∈ lw_tbl := in_t4 (List.mem_of_getElem? (i := 57) (by decide +kernel))
theorem yy_X8_layers : rY m_X8_layers 1 := ⟨in_t4 (List.mem_of_getElem? (i := 62) rfl), in_t1 (List.mem_of_getElem? (i := 1) (by decide +kernel)), by decide +kernel, by decide +kernel, by decide +kernel⟩
theorem yi_X8_layers : Cond.instanceMethod yX8_layers ∈ lw_tbl := in_t4 (List.mem_of_getElem? (i := 60) (by decide +kernel))
theorem ys_X8_layers : Cond.selects (yX8_layers).cls yX8_layers yX8_layers ∈ lw_tbl := in_t4 (List.mem_of_getElem? (i := 61) (by decide +kernel))
theorem yy_X8_at : rY m_X8_at 2 := ⟨in_t4 (List.mem_of_getElem? (i := 67) rfl), in_t1 (List.mem_of_getElem? (i := 1) (by decide +kernel)), by decide +kernel, by decide +kernel, by decide +kernel⟩
theorem yi_X8_at : Cond.instanceMethod yX8_at ∈ lw_tbl := in_t4 (List.mem_of_getElem? (i := 65) (by decide +kernel))
theorem ys_X8_at : Cond.selects (yX8_at).cls yX8_at yX8_at ∈ lw_tbl := in_t4 (List.mem_of_getElem? (i := 66) (by decide +kernel))
theorem yy_X8_harm : rY m_X8_harm 1 := ⟨in_t4 (List.mem_of_getElem? (i := 72) rfl), in_t1 (List.mem_of_getElem? (i := 1) (by decide +kernel)), by decide +kernel, by decide +kernel, by decide +kernel⟩
theorem yi_X8_harm : Cond.instanceMethod yX8_harm ∈ lw_tbl := in_t4 (List.mem_of_getElem? (i := 70) (by decide +kernel))
theorem ys_X8_harm : Cond.selects (yX8_harm).cls yX8_harm yX8_harm ∈ lw_tbl := in_t4 (List.mem_of_getElem? (i := 71) (by decide +kernel))
theorem yy_X8_by : rY m_X8_by 1 := ⟨in_t4 (List.mem_of_getElem? (i := 80) rfl), in_t1 (List.mem_of_getElem? (i := 1) (by decide +kernel)), by decide +kernel, by decide +kernel, by decide +kernel⟩
theorem yi_X8_by : Cond.instanceMethod yX8_by ∈ lw_tbl := in_t4 (List.mem_of_getElem? (i := 78) (by decide +kernel))
theorem ys_X8_by : Cond.selects (yX8_by).cls yX8_by yX8_by ∈ lw_tbl := in_t4 (List.mem_of_getElem? (i := 79) (by decide +kernel))
theorem yy_X8_ease : rY m_X8_ease 1 := ⟨in_t4 (List.mem_of_getElem? (i := 85) rfl), in_t1 (List.mem_of_getElem? (i := 1) (by decide +kernel)), by decide +kernel, by decide +kernel, by decide +kernel⟩
theorem yi_X8_ease : Cond.instanceMethod yX8_ease ∈ lw_tbl := in_t4 (List.mem_of_getElem? (i := 83) (by decide +kernel))
theorem ys_X8_ease : Cond.selects (yX8_ease).cls yX8_ease yX8_ease ∈ lw_tbl := in_t4 (List.mem_of_getElem? (i := 84) (by decide +kernel))
theorem yy_X8_undone : rY m_X8_undone 1 := ⟨in_t4 (List.mem_of_getElem? (i := 94) rfl), in_t1 (List.mem_of_getElem? (i := 1) (by decide +kernel)), by decide +kernel, by decide +kernel, by decide +kernel⟩
theorem yi_X8_undone : Cond.instanceMethod yX8_undone ∈ lw_tbl := in_t4 (List.mem_of_getElem? (i := 92) (by decide +kernel))
theorem ys_X8_undone : Cond.selects (yX8_undone).cls yX8_undone yX8_undone ∈ lw_tbl := in_t4 (List.mem_of_getElem? (i := 93) (by decide +kernel))
theorem yy_X8_find : rY m_X8_find 3 := ⟨in_t4 (List.mem_of_getElem? (i := 98) rfl), in_t1 (List.mem_of_getElem? (i := 1) (by decide +kernel)), by decide +kernel, by decide +kernel, by decide +kernel⟩
theorem yi_X8_find : Cond.instanceMethod yX8_find ∈ lw_tbl := in_t4 (List.mem_of_getElem? (i := 96) (by decide +kernel))
theorem ys_X8_find : Cond.selects (yX8_find).cls yX8_find yX8_find ∈ lw_tbl := in_t4 (List.mem_of_getElem? (i := 97) (by decide +kernel))
theorem yy_X8_finds : rY m_X8_finds 0 := ⟨in_t4 (List.mem_of_getElem? (i := 114) rfl), in_t1 (List.mem_of_getElem? (i := 1) (by decide +kernel)), by decide +kernel, by decide +kernel, by decide +kernel⟩
theorem yi_X8_finds : Cond.instanceMethod yX8_finds ∈ lw_tbl := in_t4 (List.mem_of_getElem? (i := 112) (by decide +kernel))
theorem ys_X8_finds : Cond.selects (yX8_finds).cls yX8_finds yX8_finds ∈ lw_tbl := in_t4 (List.mem_of_getElem? (i := 113) (by decide +kernel))
theorem yy_X8_rows : rY m_X8_rows 0 := ⟨in_t4 (List.mem_of_getElem? (i := 123) rfl), in_t1 (List.mem_of_getElem? (i := 1) (by decide +kernel)), by decide +kernel, by decide +kernel, by decide +kernel⟩
theorem yi_X8_rows : Cond.instanceMethod yX8_rows ∈ lw_tbl := in_t4 (List.mem_of_getElem? (i := 121) (by decide +kernel))
theorem ys_X8_rows : Cond.selects (yX8_rows).cls yX8_rows yX8_rows ∈ lw_tbl := in_t4 (List.mem_of_getElem? (i := 122) (by decide +kernel))
theorem yy_X8_row : rY m_X8_row 1 := ⟨in_t4 (List.mem_of_getElem? (i := 202) rfl), in_t1 (List.mem_of_getElem? (i := 1) (by decide +kernel)), by decide +kernel, by decide +kernel, by decide +kernel⟩
theorem yi_X8_row : Cond.instanceMethod yX8_row ∈ lw_tbl := in_t4 (List.mem_of_getElem? (i := 200) (by decide +kernel))
theorem ys_X8_row : Cond.selects (yX8_row).cls yX8_row yX8_row ∈ lw_tbl := in_t4 (List.mem_of_getElem? (i := 201) (by decide +kernel))
theorem yy_X8_shut : rY m_X8_shut 0 := ⟨in_t4 (List.mem_of_getElem? (i := 219) rfl), in_t1 (List.mem_of_getElem? (i := 1) (by decide +kernel)), by decide +kernel, by decide +kernel, by decide +kernel⟩
theorem yi_X8_shut : Cond.instanceMethod yX8_shut ∈ lw_tbl := in_t4 (List.mem_of_getElem? (i := 217) (by decide +kernel))
theorem ys_X8_shut : Cond.selects (yX8_shut).cls yX8_shut yX8_shut ∈ lw_tbl := in_t4 (List.mem_of_getElem? (i := 218) (by decide +kernel))
theorem yy_X8_hand : rY m_X8_hand 1 := ⟨in_t4 (List.mem_of_getElem? (i := 234) rfl), in_t1 (List.mem_of_getElem? (i := 1) (by decide +kernel)), by decide +kernel, by decide +kernel, by decide +kernel⟩
theorem yi_X8_hand : Cond.instanceMethod yX8_hand ∈ lw_tbl := in_t4 (List.mem_of_getElem? (i := 232) (by decide +kernel))
theorem ys_X8_hand : Cond.selects (yX8_hand).cls yX8_hand yX8_hand ∈ lw_tbl := in_t4 (List.mem_of_getElem? (i := 233) (by decide +kernel))
theorem yy_X8_look : rY m_X8_look 2 := ⟨in_t5 (List.mem_of_getElem? (i := 2) rfl), in_t1 (List.mem_of_getElem? (i := 1) (by decide +kernel)), by decide +kernel, by decide +kernel, by decide +kernel⟩
theorem yi_X8_look : Cond.instanceMethod yX8_look ∈ lw_tbl := in_t5 (List.mem_of_getElem? (i := 0) (by decide +kernel))
theorem ys_X8_look : Cond.selects (yX8_look).cls yX8_look yX8_look ∈ lw_tbl := in_t5 (List.mem_of_getElem? (i := 1) (by decide +kernel))
theorem yy_X8_tale : rY m_X8_tale 1 := ⟨in_t5 (List.mem_of_getElem? (i := 10) rfl), in_t1 (List.mem_of_getElem? (i := 1) (by decide +kernel)), by decide +kernel, by decide +kernel, by decide +kernel⟩
theorem yi_X8_tale : Cond.instanceMethod yX8_tale ∈ lw_tbl := in_t5 (List.mem_of_getElem? (i := 8) (by decide +kernel))
theorem ys_X8_tale : Cond.selects (yX8_tale).cls yX8_tale yX8_tale ∈ lw_tbl := in_t5 (List.mem_of_getElem? (i := 9) (by decide +kernel))
theorem yy_X8_tales : rY m_X8_tales 1 := ⟨in_t5 (List.mem_of_getElem? (i := 49) rfl), in_t1 (List.mem_of_getElem? (i := 1) (by decide +kernel)), by decide +kernel, by decide +kernel, by decide +kernel⟩
theorem yi_X8_tales : Cond.instanceMethod yX8_tales ∈ lw_tbl := in_t5 (List.mem_of_getElem? (i := 47) (by decide +kernel))
theorem ys_X8_tales : Cond.selects (yX8_tales).cls yX8_tales yX8_tales ∈ lw_tbl := in_t5 (List.mem_of_getElem? (i := 48) (by decide +kernel))
theorem yy_X8_told : rY m_X8_told 2 := ⟨in_t5 (List.mem_of_getElem? (i := 58) rfl), in_t1 (List.mem_of_getElem? (i := 1) (by decide +kernel)), by decide +kernel, by decide +kernel, by decide +kernel⟩
theorem yi_X8_told : Cond.instanceMethod yX8_told ∈ lw_tbl := in_t5 (List.mem_of_getElem? (i := 56) (by decide +kernel))
theorem ys_X8_told : Cond.selects (yX8_told).cls yX8_told yX8_told ∈ lw_tbl := in_t5 (List.mem_of_getElem? (i := 57) (by decide +kernel))
theorem yy_X8_opened : rY m_X8_opened 2 := ⟨in_t5 (List.mem_of_getElem? (i := 67) rfl), in_t1 (List.mem_of_getElem? (i := 1) (by decide +kernel)), by decide +kernel, by decide +kernel, by decide +kernel⟩
theorem yi_X8_opened : Cond.instanceMethod yX8_opened ∈ lw_tbl := in_t5 (List.mem_of_getElem? (i := 65) (by decide +kernel))
theorem ys_X8_opened : Cond.selects (yX8_opened).cls yX8_opened yX8_opened ∈ lw_tbl := in_t5 (List.mem_of_getElem? (i := 66) (by decide +kernel))
theorem yy_X8_turned : rY m_X8_turned 1 := ⟨in_t5 (List.mem_of_getElem? (i := 78) rfl), in_t1 (List.mem_of_getElem? (i := 1) (by decide +kernel)), by decide +kernel, by decide +kernel, by decide +kernel⟩
theorem yi_X8_turned : Cond.instanceMethod yX8_turned ∈ lw_tbl := in_t5 (List.mem_of_getElem? (i := 76) (by decide +kernel))
theorem ys_X8_turned : Cond.selects (yX8_turned).cls yX8_turned yX8_turned ∈ lw_tbl := in_t5 (List.mem_of_getElem? (i := 77) (by decide +kernel))
theorem yy_X8_count : rY m_X8_count 1 := ⟨in_t5 (List.mem_of_getElem? (i := 87) rfl), in_t1 (List.mem_of_getElem? (i := 1) (by decide +kernel)), by decide +kernel, by decide +kernel, by decide +kernel⟩
theorem yi_X8_count : Cond.instanceMethod yX8_count ∈ lw_tbl := in_t5 (List.mem_of_getElem? (i := 85) (by decide +kernel))
theorem ys_X8_count : Cond.selects (yX8_count).cls yX8_count yX8_count ∈ lw_tbl := in_t5 (List.mem_of_getElem? (i := 86) (by decide +kernel))
theorem yy_X8_held : rY m_X8_held 1 := ⟨in_t4 (List.mem_of_getElem? (i := 9) rfl), in_t1 (List.mem_of_getElem? (i := 1) (by decide +kernel)), by decide +kernel, by decide +kernel, by decide +kernel⟩
theorem yi_X8_held : Cond.static yX8_held ∈ lw_tbl := in_t4 (List.mem_of_getElem? (i := 8) (by decide +kernel))
theorem yy_X9_init : rY m_X9_init 0 := ⟨in_t5 (List.mem_of_getElem? (i := 96) rfl), in_t1 (List.mem_of_getElem? (i := 11) (by decide +kernel)), by decide +kernel, by decide +kernel, by decide +kernel⟩
theorem yi_X9_init : Cond.instanceMethod yX9_init ∈ lw_tbl := in_t5 (List.mem_of_getElem? (i := 95) (by decide +kernel))
theorem yy_X9_feed : rY m_X9_feed 5 := ⟨in_t6 (List.mem_of_getElem? (i := 124) rfl), in_t1 (List.mem_of_getElem? (i := 11) (by decide +kernel)), by decide +kernel, by decide +kernel, by decide +kernel⟩
theorem yi_X9_feed : Cond.instanceMethod yX9_feed ∈ lw_tbl := in_t6 (List.mem_of_getElem? (i := 122) (by decide +kernel))
theorem ys_X9_feed : Cond.selects (yX9_feed).cls yX9_feed yX9_feed ∈ lw_tbl := in_t6 (List.mem_of_getElem? (i := 123) (by decide +kernel))
theorem yy_X9_put : rY m_X9_put 1 := ⟨in_t6 (List.mem_of_getElem? (i := 128) rfl), in_t1 (List.mem_of_getElem? (i := 11) (by decide +kernel)), by decide +kernel, by decide +kernel, by decide +kernel⟩
theorem yi_X9_put : Cond.instanceMethod yX9_put ∈ lw_tbl := in_t6 (List.mem_of_getElem? (i := 127) (by decide +kernel))
theorem ys_X9_put : Cond.selects (yX9_put).cls yX9_put yX9_put ∈ lw_tbl := in_t0 (List.mem_of_getElem? (i := 37) (by decide +kernel))
theorem yy_X9_back : rY m_X9_back 1 := ⟨in_t6 (List.mem_of_getElem? (i := 132) rfl), in_t1 (List.mem_of_getElem? (i := 11) (by decide +kernel)), by decide +kernel, by decide +kernel, by decide +kernel⟩
theorem yi_X9_back : Cond.instanceMethod yX9_back ∈ lw_tbl := in_t6 (List.mem_of_getElem? (i := 130) (by decide +kernel))
theorem ys_X9_back : Cond.selects (yX9_back).cls yX9_back yX9_back ∈ lw_tbl := in_t6 (List.mem_of_getElem? (i := 131) (by decide +kernel))
theorem yy_X9_byteAt : rY m_X9_byteAt 1 := ⟨in_t6 (List.mem_of_getElem? (i := 144) rfl), in_t1 (List.mem_of_getElem? (i := 11) (by decide +kernel)), by decide +kernel, by decide +kernel, by decide +kernel⟩
theorem yi_X9_byteAt : Cond.instanceMethod yX9_byteAt ∈ lw_tbl := in_t6 (List.mem_of_getElem? (i := 143) (by decide +kernel))
theorem ys_X9_byteAt : Cond.selects (yX9_byteAt).cls yX9_byteAt yX9_byteAt ∈ lw_tbl := in_t0 (List.mem_of_getElem? (i := 39) (by decide +kernel))
theorem yy_X9_isDigit : rY m_X9_isDigit 1 := ⟨in_t6 (List.mem_of_getElem? (i := 154) rfl), in_t1 (List.mem_of_getElem? (i := 11) (by decide +kernel)), by decide +kernel, by decide +kernel, by decide +kernel⟩
theorem yi_X9_isDigit : Cond.static yX9_isDigit ∈ lw_tbl := in_t6 (List.mem_of_getElem? (i := 153) (by decide +kernel))
theorem yy_X9_isLetter : rY m_X9_isLetter 1 := ⟨in_t6 (List.mem_of_getElem? (i := 151) rfl), in_t1 (List.mem_of_getElem? (i := 11) (by decide +kernel)), by decide +kernel, by decide +kernel, by decide +kernel⟩
theorem yi_X9_isLetter : Cond.static yX9_isLetter ∈ lw_tbl := in_t6 (List.mem_of_getElem? (i := 150) (by decide +kernel))
theorem yy_X9_more : rY m_X9_more 2 := ⟨in_t5 (List.mem_of_getElem? (i := 103) rfl), in_t1 (List.mem_of_getElem? (i := 11) (by decide +kernel)), by decide +kernel, by decide +kernel, by decide +kernel⟩
theorem yi_X9_more : Cond.static yX9_more ∈ lw_tbl := in_t5 (List.mem_of_getElem? (i := 102) (by decide +kernel))
theorem yy_X9_word : rY m_X9_word 7 := ⟨in_t5 (List.mem_of_getElem? (i := 100) rfl), in_t1 (List.mem_of_getElem? (i := 11) (by decide +kernel)), by decide +kernel, by decide +kernel, by decide +kernel⟩
theorem yi_X9_word : Cond.static yX9_word ∈ lw_tbl := in_t5 (List.mem_of_getElem? (i := 99) (by decide +kernel))
theorem yy_X9_tokenIs : rY m_X9_tokenIs 4 := ⟨in_t6 (List.mem_of_getElem? (i := 148) rfl), in_t1 (List.mem_of_getElem? (i := 11) (by decide +kernel)), by decide +kernel, by decide +kernel, by decide +kernel⟩
theorem yi_X9_tokenIs : Cond.instanceMethod yX9_tokenIs ∈ lw_tbl := in_t6 (List.mem_of_getElem? (i := 147) (by decide +kernel))
theorem ys_X9_tokenIs : Cond.selects (yX9_tokenIs).cls yX9_tokenIs yX9_tokenIs ∈ lw_tbl := in_t0 (List.mem_of_getElem? (i := 40) (by decide +kernel))
theorem yy_X9_cut : rY m_X9_cut 0 := ⟨in_t6 (List.mem_of_getElem? (i := 140) rfl), in_t1 (List.mem_of_getElem? (i := 11) (by decide +kernel)), by decide +kernel, by decide +kernel, by decide +kernel⟩
theorem yi_X9_cut : Cond.instanceMethod yX9_cut ∈ lw_tbl := in_t6 (List.mem_of_getElem? (i := 139) (by decide +kernel))
theorem ys_X9_cut : Cond.selects (yX9_cut).cls yX9_cut yX9_cut ∈ lw_tbl := in_t0 (List.mem_of_getElem? (i := 38) (by decide +kernel))
theorem yy_X9_sign : rY m_X9_sign 3 := ⟨in_t6 (List.mem_of_getElem? (i := 158) rfl), in_t1 (List.mem_of_getElem? (i := 11) (by decide +kernel)), by decide +kernel, by decide +kernel, by decide +kernel⟩
theorem yi_X9_sign : Cond.instanceMethod yX9_sign ∈ lw_tbl := in_t6 (List.mem_of_getElem? (i := 157) (by decide +kernel))
theorem ys_X9_sign : Cond.selects (yX9_sign).cls yX9_sign yX9_sign ∈ lw_tbl := in_t0 (List.mem_of_getElem? (i := 41) (by decide +kernel))
theorem yy_X9_is : rY m_X9_is 1 := ⟨in_t6 (List.mem_of_getElem? (i := 162) rfl), in_t1 (List.mem_of_getElem? (i := 11) (by decide +kernel)), by decide +kernel, by decide +kernel, by decide +kernel⟩
theorem yi_X9_is : Cond.instanceMethod yX9_is ∈ lw_tbl := in_t6 (List.mem_of_getElem? (i := 161) (by decide +kernel))
theorem ys_X9_is : Cond.selects (yX9_is).cls yX9_is yX9_is ∈ lw_tbl := in_t0 (List.mem_of_getElem? (i := 42) (by decide +kernel))
theorem yy_X9_fail : rY m_X9_fail 1 := ⟨in_t6 (List.mem_of_getElem? (i := 170) rfl), in_t1 (List.mem_of_getElem? (i := 11) (by decide +kernel)), by decide +kernel, by decide +kernel, by decide +kernel⟩
theorem yi_X9_fail : Cond.instanceMethod yX9_fail ∈ lw_tbl := in_t6 (List.mem_of_getElem? (i := 169) (by decide +kernel))
theorem ys_X9_fail : Cond.selects (yX9_fail).cls yX9_fail yX9_fail ∈ lw_tbl := in_t0 (List.mem_of_getElem? (i := 44) (by decide +kernel))
theorem yy_X9_next : rY m_X9_next 0 := ⟨in_t6 (List.mem_of_getElem? (i := 174) rfl), in_t1 (List.mem_of_getElem? (i := 11) (by decide +kernel)), by decide +kernel, by decide +kernel, by decide +kernel⟩
theorem yi_X9_next : Cond.instanceMethod yX9_next ∈ lw_tbl := in_t6 (List.mem_of_getElem? (i := 173) (by decide +kernel))
theorem ys_X9_next : Cond.selects (yX9_next).cls yX9_next yX9_next ∈ lw_tbl := in_t0 (List.mem_of_getElem? (i := 45) (by decide +kernel))
theorem yy_X9_must : rY m_X9_must 1 := ⟨in_t6 (List.mem_of_getElem? (i := 194) rfl), in_t1 (List.mem_of_getElem? (i := 11) (by decide +kernel)), by decide +kernel, by decide +kernel, by decide +kernel⟩
theorem yi_X9_must : Cond.instanceMethod yX9_must ∈ lw_tbl := in_t6 (List.mem_of_getElem? (i := 193) (by decide +kernel))
theorem ys_X9_must : Cond.selects (yX9_must).cls yX9_must yX9_must ∈ lw_tbl := in_t0 (List.mem_of_getElem? (i := 50) (by decide +kernel))
theorem yy_X9_read : rY m_X9_read 0 := ⟨in_t6 (List.mem_of_getElem? (i := 136) rfl), in_t1 (List.mem_of_getElem? (i := 11) (by decide +kernel)), by decide +kernel, by decide +kernel, by decide +kernel⟩
theorem yi_X9_read : Cond.instanceMethod yX9_read ∈ lw_tbl := in_t6 (List.mem_of_getElem? (i := 134) (by decide +kernel))
theorem ys_X9_read : Cond.selects (yX9_read).cls yX9_read yX9_read ∈ lw_tbl := in_t6 (List.mem_of_getElem? (i := 135) (by decide +kernel))
theorem yy_X9_place : rY m_X9_place 0 := ⟨in_t6 (List.mem_of_getElem? (i := 198) rfl), in_t1 (List.mem_of_getElem? (i := 11) (by decide +kernel)), by decide +kernel, by decide +kernel, by decide +kernel⟩
theorem yi_X9_place : Cond.instanceMethod yX9_place ∈ lw_tbl := in_t6 (List.mem_of_getElem? (i := 196) (by decide +kernel))
theorem ys_X9_place : Cond.selects (yX9_place).cls yX9_place yX9_place ∈ lw_tbl := in_t6 (List.mem_of_getElem? (i := 197) (by decide +kernel))
theorem yy_X9_tellRule : rY m_X9_tellRule 0 := ⟨in_t6 (List.mem_of_getElem? (i := 166) rfl), in_t1 (List.mem_of_getElem? (i := 11) (by decide +kernel)), by decide +kernel, by decide +kernel, by decide +kernel⟩
theorem yi_X9_tellRule : Cond.instanceMethod yX9_tellRule ∈ lw_tbl := in_t6 (List.mem_of_getElem? (i := 165) (by decide +kernel))
theorem ys_X9_tellRule : Cond.selects (yX9_tellRule).cls yX9_tellRule yX9_tellRule ∈ lw_tbl := in_t0 (List.mem_of_getElem? (i := 43) (by decide +kernel))
theorem yy_X9_relation : rY m_X9_relation 1 := ⟨in_t6 (List.mem_of_getElem? (i := 190) rfl), in_t1 (List.mem_of_getElem? (i := 11) (by decide +kernel)), by decide +kernel, by decide +kernel, by decide +kernel⟩
theorem yi_X9_relation : Cond.instanceMethod yX9_relation ∈ lw_tbl := in_t6 (List.mem_of_getElem? (i := 189) (by decide +kernel))
theorem ys_X9_relation : Cond.selects (yX9_relation).cls yX9_relation yX9_relation ∈ lw_tbl := in_t0 (List.mem_of_getElem? (i := 49) (by decide +kernel))
theorem yy_X9_emit : rY m_X9_emit 2 := ⟨in_t6 (List.mem_of_getElem? (i := 182) rfl), in_t1 (List.mem_of_getElem? (i := 11) (by decide +kernel)), by decide +kernel, by decide +kernel, by decide +kernel⟩
theorem yi_X9_emit : Cond.instanceMethod yX9_emit ∈ lw_tbl := in_t6 (List.mem_of_getElem? (i := 181) (by decide +kernel))
theorem ys_X9_emit : Cond.selects (yX9_emit).cls yX9_emit yX9_emit ∈ lw_tbl := in_t0 (List.mem_of_getElem? (i := 47) (by decide +kernel))
theorem yy_X9_comesOut : rY m_X9_comesOut 1 := ⟨in_t6 (List.mem_of_getElem? (i := 186) rfl), in_t1 (List.mem_of_getElem? (i := 11) (by decide +kernel)), by decide +kernel, by decide +kernel, by decide +kernel⟩
theorem yi_X9_comesOut : Cond.instanceMethod yX9_comesOut ∈ lw_tbl := in_t6 (List.mem_of_getElem? (i := 185) (by decide +kernel))
theorem ys_X9_comesOut : Cond.selects (yX9_comesOut).cls yX9_comesOut yX9_comesOut ∈ lw_tbl := in_t0 (List.mem_of_getElem? (i := 48) (by decide +kernel))
theorem yy_X9_expression : rY m_X9_expression 0 := ⟨in_t6 (List.mem_of_getElem? (i := 178) rfl), in_t1 (List.mem_of_getElem? (i := 11) (by decide +kernel)), by decide +kernel, by decide +kernel, by decide +kernel⟩
theorem yi_X9_expression : Cond.instanceMethod yX9_expression ∈ lw_tbl := in_t6 (List.mem_of_getElem? (i := 177) (by decide +kernel))
theorem ys_X9_expression : Cond.selects (yX9_expression).cls yX9_expression yX9_expression ∈ lw_tbl := in_t0 (List.mem_of_getElem? (i := 46) (by decide +kernel))
theorem yy_X9_value : rY m_X9_value 2 := ⟨in_t7 (List.mem_of_getElem? (i := 82) rfl), in_t1 (List.mem_of_getElem? (i := 11) (by decide +kernel)), by decide +kernel, by decide +kernel, by decide +kernel⟩
theorem yi_X9_value : Cond.instanceMethod yX9_value ∈ lw_tbl := in_t7 (List.mem_of_getElem? (i := 81) (by decide +kernel))
theorem ys_X9_value : Cond.selects (yX9_value).cls yX9_value yX9_value ∈ lw_tbl := in_t0 (List.mem_of_getElem? (i := 73) (by decide +kernel))
theorem yy_X9_holds : rY m_X9_holds 1 := ⟨in_t7 (List.mem_of_getElem? (i := 78) rfl), in_t1 (List.mem_of_getElem? (i := 11) (by decide +kernel)), by decide +kernel, by decide +kernel, by decide +kernel⟩
theorem yi_X9_holds : Cond.instanceMethod yX9_holds ∈ lw_tbl := in_t7 (List.mem_of_getElem? (i := 77) (by decide +kernel))
theorem ys_X9_holds : Cond.selects (yX9_holds).cls yX9_holds yX9_holds ∈ lw_tbl := in_t0 (List.mem_of_getElem? (i := 72) (by decide +kernel))
theorem yy_X9_asks : rY m_X9_asks 5 := ⟨in_t7 (List.mem_of_getElem? (i := 70) rfl), in_t1 (List.mem_of_getElem? (i := 11) (by decide +kernel)), by decide +kernel, by decide +kernel, by decide +kernel⟩
theorem yi_X9_asks : Cond.instanceMethod yX9_asks ∈ lw_tbl := in_t7 (List.mem_of_getElem? (i := 69) (by decide +kernel))
theorem ys_X9_asks : Cond.selects (yX9_asks).cls yX9_asks yX9_asks ∈ lw_tbl := in_t0 (List.mem_of_getElem? (i := 70) (by decide +kernel))
theorem yy_X9_ruleOf : rY m_X9_ruleOf 1 := ⟨in_t7 (List.mem_of_getElem? (i := 74) rfl), in_t1 (List.mem_of_getElem? (i := 11) (by decide +kernel)), by decide +kernel, by decide +kernel, by decide +kernel⟩
theorem yi_X9_ruleOf : Cond.instanceMethod yX9_ruleOf ∈ lw_tbl := in_t7 (List.mem_of_getElem? (i := 73) (by decide +kernel))
theorem ys_X9_ruleOf : Cond.selects (yX9_ruleOf).cls yX9_ruleOf yX9_ruleOf ∈ lw_tbl := in_t0 (List.mem_of_getElem? (i := 71) (by decide +kernel))
theorem yy_X9_says : rY m_X9_says 1 := ⟨in_t7 (List.mem_of_getElem? (i := 86) rfl), in_t1 (List.mem_of_getElem? (i := 11) (by decide +kernel)), by decide +kernel, by decide +kernel, by decide +kernel⟩
theorem yi_X9_says : Cond.instanceMethod yX9_says ∈ lw_tbl := in_t7 (List.mem_of_getElem? (i := 85) (by decide +kernel))
theorem ys_X9_says : Cond.selects (yX9_says).cls yX9_says yX9_says ∈ lw_tbl := in_t0 (List.mem_of_getElem? (i := 74) (by decide +kernel))
theorem yy_X9_flat : rY m_X9_flat 1 := ⟨in_t5 (List.mem_of_getElem? (i := 108) rfl), in_t1 (List.mem_of_getElem? (i := 11) (by decide +kernel)), by decide +kernel, by decide +kernel, by decide +kernel⟩
theorem yi_X9_flat : Cond.instanceMethod yX9_flat ∈ lw_tbl := in_t5 (List.mem_of_getElem? (i := 107) (by decide +kernel))
theorem ys_X9_flat : Cond.selects (yX9_flat).cls yX9_flat yX9_flat ∈ lw_tbl := in_t0 (List.mem_of_getElem? (i := 35) (by decide +kernel))
theorem yy_X9_layersOf : rY m_X9_layersOf 2 := ⟨in_t6 (List.mem_of_getElem? (i := 218) rfl), in_t1 (List.mem_of_getElem? (i := 11) (by decide +kernel)), by decide +kernel, by decide +kernel, by decide +kernel⟩
theorem yi_X9_layersOf : Cond.instanceMethod yX9_layersOf ∈ lw_tbl := in_t6 (List.mem_of_getElem? (i := 217) (by decide +kernel))
theorem ys_X9_layersOf : Cond.selects (yX9_layersOf).cls yX9_layersOf yX9_layersOf ∈ lw_tbl := in_t0 (List.mem_of_getElem? (i := 53) (by decide +kernel))
theorem yy_X9_partAt : rY m_X9_partAt 3 := ⟨in_t7 (List.mem_of_getElem? (i := 38) rfl), in_t1 (List.mem_of_getElem? (i := 11) (by decide +kernel)), by decide +kernel, by decide +kernel, by decide +kernel⟩
theorem yi_X9_partAt : Cond.instanceMethod yX9_partAt ∈ lw_tbl := in_t7 (List.mem_of_getElem? (i := 37) (by decide +kernel))
theorem ys_X9_partAt : Cond.selects (yX9_partAt).cls yX9_partAt yX9_partAt ∈ lw_tbl := in_t0 (List.mem_of_getElem? (i := 66) (by decide +kernel))
theorem yy_X9_copies : rY m_X9_copies 2 := ⟨in_t7 (List.mem_of_getElem? (i := 42) rfl), in_t1 (List.mem_of_getElem? (i := 11) (by decide +kernel)), by decide +kernel, by decide +kernel, by decide +kernel⟩
theorem yi_X9_copies : Cond.instanceMethod yX9_copies ∈ lw_tbl := in_t7 (List.mem_of_getElem? (i := 41) (by decide +kernel))
theorem ys_X9_copies : Cond.selects (yX9_copies).cls yX9_copies yX9_copies ∈ lw_tbl := in_t0 (List.mem_of_getElem? (i := 67) (by decide +kernel))
theorem yy_X9_turns : rY m_X9_turns 4 := ⟨in_t6 (List.mem_of_getElem? (i := 214) rfl), in_t1 (List.mem_of_getElem? (i := 11) (by decide +kernel)), by decide +kernel, by decide +kernel, by decide +kernel⟩
theorem yi_X9_turns : Cond.instanceMethod yX9_turns ∈ lw_tbl := in_t6 (List.mem_of_getElem? (i := 213) (by decide +kernel))
theorem ys_X9_turns : Cond.selects (yX9_turns).cls yX9_turns yX9_turns ∈ lw_tbl := in_t0 (List.mem_of_getElem? (i := 52) (by decide +kernel))
theorem yy_X9_folds : rY m_X9_folds 5 := ⟨in_t6 (List.mem_of_getElem? (i := 210) rfl), in_t1 (List.mem_of_getElem? (i := 11) (by decide +kernel)), by decide +kernel, by decide +kernel, by decide +kernel⟩
theorem yi_X9_folds : Cond.instanceMethod yX9_folds ∈ lw_tbl := in_t6 (List.mem_of_getElem? (i := 209) (by decide +kernel))
theorem ys_X9_folds : Cond.selects (yX9_folds).cls yX9_folds yX9_folds ∈ lw_tbl := in_t0 (List.mem_of_getElem? (i := 51) (by decide +kernel))
theorem yy_X9_isCrease : rY m_X9_isCrease 2 := ⟨in_t7 (List.mem_of_getElem? (i := 2) rfl), in_t1 (List.mem_of_getElem? (i := 11) (by decide +kernel)), by decide +kernel, by decide +kernel, by decide +kernel⟩
theorem yi_X9_isCrease : Cond.instanceMethod yX9_isCrease ∈ lw_tbl := in_t7 (List.mem_of_getElem? (i := 1) (by decide +kernel))
theorem ys_X9_isCrease : Cond.selects (yX9_isCrease).cls yX9_isCrease yX9_isCrease ∈ lw_tbl := in_t0 (List.mem_of_getElem? (i := 58) (by decide +kernel))
theorem yy_X9_isFlat : rY m_X9_isFlat 2 := ⟨in_t7 (List.mem_of_getElem? (i := 14) rfl), in_t1 (List.mem_of_getElem? (i := 11) (by decide +kernel)), by decide +kernel, by decide +kernel, by decide +kernel⟩
theorem yi_X9_isFlat : Cond.instanceMethod yX9_isFlat ∈ lw_tbl := in_t7 (List.mem_of_getElem? (i := 13) (by decide +kernel))
theorem ys_X9_isFlat : Cond.selects (yX9_isFlat).cls yX9_isFlat yX9_isFlat ∈ lw_tbl := in_t0 (List.mem_of_getElem? (i := 61) (by decide +kernel))
theorem yy_X9_low : rY m_X9_low 2 := ⟨in_t7 (List.mem_of_getElem? (i := 6) rfl), in_t1 (List.mem_of_getElem? (i := 11) (by decide +kernel)), by decide +kernel, by decide +kernel, by decide +kernel⟩
theorem yi_X9_low : Cond.instanceMethod yX9_low ∈ lw_tbl := in_t7 (List.mem_of_getElem? (i := 5) (by decide +kernel))
theorem ys_X9_low : Cond.selects (yX9_low).cls yX9_low yX9_low ∈ lw_tbl := in_t0 (List.mem_of_getElem? (i := 59) (by decide +kernel))
theorem yy_X9_high : rY m_X9_high 2 := ⟨in_t7 (List.mem_of_getElem? (i := 10) rfl), in_t1 (List.mem_of_getElem? (i := 11) (by decide +kernel)), by decide +kernel, by decide +kernel, by decide +kernel⟩
theorem yi_X9_high : Cond.instanceMethod yX9_high ∈ lw_tbl := in_t7 (List.mem_of_getElem? (i := 9) (by decide +kernel))
theorem ys_X9_high : Cond.selects (yX9_high).cls yX9_high yX9_high ∈ lw_tbl := in_t0 (List.mem_of_getElem? (i := 60) (by decide +kernel))
theorem yy_X9_goesOn : rY m_X9_goesOn 3 := ⟨in_t7 (List.mem_of_getElem? (i := 22) rfl), in_t1 (List.mem_of_getElem? (i := 11) (by decide +kernel)), by decide +kernel, by decide +kernel, by decide +kernel⟩
theorem yi_X9_goesOn : Cond.instanceMethod yX9_goesOn ∈ lw_tbl := in_t7 (List.mem_of_getElem? (i := 21) (by decide +kernel))
theorem ys_X9_goesOn : Cond.selects (yX9_goesOn).cls yX9_goesOn yX9_goesOn ∈ lw_tbl := in_t0 (List.mem_of_getElem? (i := 63) (by decide +kernel))
theorem yy_X9_mayBe : rY m_X9_mayBe 1 := ⟨in_t6 (List.mem_of_getElem? (i := 238) rfl), in_t1 (List.mem_of_getElem? (i := 11) (by decide +kernel)), by decide +kernel, by decide +kernel, by decide +kernel⟩
theorem yi_X9_mayBe : Cond.instanceMethod yX9_mayBe ∈ lw_tbl := in_t6 (List.mem_of_getElem? (i := 237) (by decide +kernel))
theorem ys_X9_mayBe : Cond.selects (yX9_mayBe).cls yX9_mayBe yX9_mayBe ∈ lw_tbl := in_t0 (List.mem_of_getElem? (i := 57) (by decide +kernel))
theorem yy_X9_isStraight : rY m_X9_isStraight 3 := ⟨in_t7 (List.mem_of_getElem? (i := 18) rfl), in_t1 (List.mem_of_getElem? (i := 11) (by decide +kernel)), by decide +kernel, by decide +kernel, by decide +kernel⟩
theorem yi_X9_isStraight : Cond.instanceMethod yX9_isStraight ∈ lw_tbl := in_t7 (List.mem_of_getElem? (i := 17) (by decide +kernel))
theorem ys_X9_isStraight : Cond.selects (yX9_isStraight).cls yX9_isStraight yX9_isStraight ∈ lw_tbl := in_t0 (List.mem_of_getElem? (i := 62) (by decide +kernel))
theorem yy_X9_sheet : rY m_X9_sheet 1 := ⟨in_t6 (List.mem_of_getElem? (i := 202) rfl), in_t1 (List.mem_of_getElem? (i := 11) (by decide +kernel)), by decide +kernel, by decide +kernel, by decide +kernel⟩
theorem yi_X9_sheet : Cond.instanceMethod yX9_sheet ∈ lw_tbl := in_t6 (List.mem_of_getElem? (i := 200) (by decide +kernel))
theorem ys_X9_sheet : Cond.selects (yX9_sheet).cls yX9_sheet yX9_sheet ∈ lw_tbl := in_t6 (List.mem_of_getElem? (i := 201) (by decide +kernel))
theorem yy_X9_acted : rY m_X9_acted 5 := ⟨in_t6 (List.mem_of_getElem? (i := 230) rfl), in_t1 (List.mem_of_getElem? (i := 11) (by decide +kernel)), by decide +kernel, by decide +kernel, by decide +kernel⟩
theorem yi_X9_acted : Cond.instanceMethod yX9_acted ∈ lw_tbl := in_t6 (List.mem_of_getElem? (i := 229) (by decide +kernel))
theorem ys_X9_acted : Cond.selects (yX9_acted).cls yX9_acted yX9_acted ∈ lw_tbl := in_t0 (List.mem_of_getElem? (i := 56) (by decide +kernel))
theorem yy_X9_turnedBy : rY m_X9_turnedBy 2 := ⟨in_t6 (List.mem_of_getElem? (i := 226) rfl), in_t1 (List.mem_of_getElem? (i := 11) (by decide +kernel)), by decide +kernel, by decide +kernel, by decide +kernel⟩
theorem yi_X9_turnedBy : Cond.instanceMethod yX9_turnedBy ∈ lw_tbl := in_t6 (List.mem_of_getElem? (i := 225) (by decide +kernel))
