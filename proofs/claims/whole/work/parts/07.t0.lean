/-! ===== what the tables say of each callee, each link of a method, each link of a field (by program) ===== -/
theorem yy_X0_init : rY m_X0_init 0 := ⟨in_t1 (List.mem_of_getElem? (i := 186) rfl), in_t1 (List.mem_of_getElem? (i := 6) (by decide +kernel)), by decide +kernel, by decide +kernel, by decide +kernel⟩
theorem yi_X0_init : Cond.instanceMethod yX0_init ∈ lw_tbl := in_t1 (List.mem_of_getElem? (i := 185) (by decide +kernel))
theorem yy_X0_forget : rY m_X0_forget 1 := ⟨in_t2 (List.mem_of_getElem? (i := 152) rfl), in_t1 (List.mem_of_getElem? (i := 6) (by decide +kernel)), by decide +kernel, by decide +kernel, by decide +kernel⟩
theorem yi_X0_forget : Cond.instanceMethod yX0_forget ∈ lw_tbl := in_t2 (List.mem_of_getElem? (i := 150) (by decide +kernel))
theorem ys_X0_forget : Cond.selects (yX0_forget).cls yX0_forget yX0_forget ∈ lw_tbl := in_t2 (List.mem_of_getElem? (i := 151) (by decide +kernel))
theorem yy_X0_noteCrease : rY m_X0_noteCrease 2 := ⟨in_t4 (List.mem_of_getElem? (i := 102) rfl), in_t1 (List.mem_of_getElem? (i := 6) (by decide +kernel)), by decide +kernel, by decide +kernel, by decide +kernel⟩
theorem yi_X0_noteCrease : Cond.instanceMethod yX0_noteCrease ∈ lw_tbl := in_t4 (List.mem_of_getElem? (i := 100) (by decide +kernel))
theorem ys_X0_noteCrease : Cond.selects (yX0_noteCrease).cls yX0_noteCrease yX0_noteCrease ∈ lw_tbl := in_t4 (List.mem_of_getElem? (i := 101) (by decide +kernel))
theorem yy_X0_noteSlit : rY m_X0_noteSlit 2 := ⟨in_t4 (List.mem_of_getElem? (i := 106) rfl), in_t1 (List.mem_of_getElem? (i := 6) (by decide +kernel)), by decide +kernel, by decide +kernel, by decide +kernel⟩
theorem yi_X0_noteSlit : Cond.instanceMethod yX0_noteSlit ∈ lw_tbl := in_t4 (List.mem_of_getElem? (i := 104) (by decide +kernel))
theorem ys_X0_noteSlit : Cond.selects (yX0_noteSlit).cls yX0_noteSlit yX0_noteSlit ∈ lw_tbl := in_t4 (List.mem_of_getElem? (i := 105) (by decide +kernel))
theorem yy_X0_noteDirt : rY m_X0_noteDirt 2 := ⟨in_t4 (List.mem_of_getElem? (i := 110) rfl), in_t1 (List.mem_of_getElem? (i := 6) (by decide +kernel)), by decide +kernel, by decide +kernel, by decide +kernel⟩
theorem yi_X0_noteDirt : Cond.instanceMethod yX0_noteDirt ∈ lw_tbl := in_t4 (List.mem_of_getElem? (i := 108) (by decide +kernel))
theorem ys_X0_noteDirt : Cond.selects (yX0_noteDirt).cls yX0_noteDirt yX0_noteDirt ∈ lw_tbl := in_t4 (List.mem_of_getElem? (i := 109) (by decide +kernel))
theorem yy_X0_noteAll : rY m_X0_noteAll 1 := ⟨in_t4 (List.mem_of_getElem? (i := 118) rfl), in_t1 (List.mem_of_getElem? (i := 6) (by decide +kernel)), by decide +kernel, by decide +kernel, by decide +kernel⟩
theorem yi_X0_noteAll : Cond.instanceMethod yX0_noteAll ∈ lw_tbl := in_t4 (List.mem_of_getElem? (i := 116) (by decide +kernel))
theorem ys_X0_noteAll : Cond.selects (yX0_noteAll).cls yX0_noteAll yX0_noteAll ∈ lw_tbl := in_t4 (List.mem_of_getElem? (i := 117) (by decide +kernel))
theorem yy_X0_search : rY m_X0_search 0 := ⟨in_t4 (List.mem_of_getElem? (i := 127) rfl), in_t1 (List.mem_of_getElem? (i := 6) (by decide +kernel)), by decide +kernel, by decide +kernel, by decide +kernel⟩
theorem yi_X0_search : Cond.instanceMethod yX0_search ∈ lw_tbl := in_t4 (List.mem_of_getElem? (i := 125) (by decide +kernel))
theorem ys_X0_search : Cond.selects (yX0_search).cls yX0_search yX0_search ∈ lw_tbl := in_t4 (List.mem_of_getElem? (i := 126) (by decide +kernel))
theorem yy_X0_countEndings : rY m_X0_countEndings 1 := ⟨in_t4 (List.mem_of_getElem? (i := 183) rfl), in_t1 (List.mem_of_getElem? (i := 6) (by decide +kernel)), by decide +kernel, by decide +kernel, by decide +kernel⟩
theorem yi_X0_countEndings : Cond.instanceMethod yX0_countEndings ∈ lw_tbl := in_t4 (List.mem_of_getElem? (i := 182) (by decide +kernel))
theorem ys_X0_countEndings : Cond.selects (yX0_countEndings).cls yX0_countEndings yX0_countEndings ∈ lw_tbl := in_t0 (List.mem_of_getElem? (i := 26) (by decide +kernel))
theorem yy_X0_slitEndings : rY m_X0_slitEndings 0 := ⟨in_t4 (List.mem_of_getElem? (i := 188) rfl), in_t1 (List.mem_of_getElem? (i := 6) (by decide +kernel)), by decide +kernel, by decide +kernel, by decide +kernel⟩
theorem yi_X0_slitEndings : Cond.instanceMethod yX0_slitEndings ∈ lw_tbl := in_t4 (List.mem_of_getElem? (i := 187) (by decide +kernel))
theorem ys_X0_slitEndings : Cond.selects (yX0_slitEndings).cls yX0_slitEndings yX0_slitEndings ∈ lw_tbl := in_t0 (List.mem_of_getElem? (i := 27) (by decide +kernel))
theorem yy_X0_fitsSlit : rY m_X0_fitsSlit 2 := ⟨in_t4 (List.mem_of_getElem? (i := 192) rfl), in_t1 (List.mem_of_getElem? (i := 6) (by decide +kernel)), by decide +kernel, by decide +kernel, by decide +kernel⟩
theorem yi_X0_fitsSlit : Cond.instanceMethod yX0_fitsSlit ∈ lw_tbl := in_t4 (List.mem_of_getElem? (i := 191) (by decide +kernel))
theorem ys_X0_fitsSlit : Cond.selects (yX0_fitsSlit).cls yX0_fitsSlit yX0_fitsSlit ∈ lw_tbl := in_t0 (List.mem_of_getElem? (i := 28) (by decide +kernel))
theorem yy_X0_soilEndings : rY m_X0_soilEndings 0 := ⟨in_t4 (List.mem_of_getElem? (i := 197) rfl), in_t1 (List.mem_of_getElem? (i := 6) (by decide +kernel)), by decide +kernel, by decide +kernel, by decide +kernel⟩
theorem yi_X0_soilEndings : Cond.instanceMethod yX0_soilEndings ∈ lw_tbl := in_t4 (List.mem_of_getElem? (i := 196) (by decide +kernel))
theorem ys_X0_soilEndings : Cond.selects (yX0_soilEndings).cls yX0_soilEndings yX0_soilEndings ∈ lw_tbl := in_t0 (List.mem_of_getElem? (i := 29) (by decide +kernel))
theorem yy_X0_firstAct : rY m_X0_firstAct 1 := ⟨in_t4 (List.mem_of_getElem? (i := 206) rfl), in_t1 (List.mem_of_getElem? (i := 6) (by decide +kernel)), by decide +kernel, by decide +kernel, by decide +kernel⟩
theorem yi_X0_firstAct : Cond.instanceMethod yX0_firstAct ∈ lw_tbl := in_t4 (List.mem_of_getElem? (i := 204) (by decide +kernel))
theorem ys_X0_firstAct : Cond.selects (yX0_firstAct).cls yX0_firstAct yX0_firstAct ∈ lw_tbl := in_t4 (List.mem_of_getElem? (i := 205) (by decide +kernel))
theorem yy_X0_isShutTwice : rY m_X0_isShutTwice 0 := ⟨in_t4 (List.mem_of_getElem? (i := 223) rfl), in_t1 (List.mem_of_getElem? (i := 6) (by decide +kernel)), by decide +kernel, by decide +kernel, by decide +kernel⟩
theorem yi_X0_isShutTwice : Cond.instanceMethod yX0_isShutTwice ∈ lw_tbl := in_t4 (List.mem_of_getElem? (i := 221) (by decide +kernel))
theorem ys_X0_isShutTwice : Cond.selects (yX0_isShutTwice).cls yX0_isShutTwice yX0_isShutTwice ∈ lw_tbl := in_t4 (List.mem_of_getElem? (i := 222) (by decide +kernel))
theorem yy_X0_collectWithin : rY m_X0_collectWithin 0 := ⟨in_t4 (List.mem_of_getElem? (i := 227) rfl), in_t1 (List.mem_of_getElem? (i := 6) (by decide +kernel)), by decide +kernel, by decide +kernel, by decide +kernel⟩
theorem yi_X0_collectWithin : Cond.instanceMethod yX0_collectWithin ∈ lw_tbl := in_t4 (List.mem_of_getElem? (i := 226) (by decide +kernel))
theorem ys_X0_collectWithin : Cond.selects (yX0_collectWithin).cls yX0_collectWithin yX0_collectWithin ∈ lw_tbl := in_t0 (List.mem_of_getElem? (i := 30) (by decide +kernel))
theorem yy_X1_init : rY m_X1_init 0 := ⟨in_t1 (List.mem_of_getElem? (i := 192) rfl), in_t1 (List.mem_of_getElem? (i := 7) (by decide +kernel)), by decide +kernel, by decide +kernel, by decide +kernel⟩
theorem yi_X1_init : Cond.instanceMethod yX1_init ∈ lw_tbl := in_t1 (List.mem_of_getElem? (i := 191) (by decide +kernel))
theorem yy_X1_prepare : rY m_X1_prepare 1 := ⟨in_t4 (List.mem_of_getElem? (i := 131) rfl), in_t1 (List.mem_of_getElem? (i := 7) (by decide +kernel)), by decide +kernel, by decide +kernel, by decide +kernel⟩
theorem yi_X1_prepare : Cond.instanceMethod yX1_prepare ∈ lw_tbl := in_t4 (List.mem_of_getElem? (i := 129) (by decide +kernel))
theorem ys_X1_prepare : Cond.selects (yX1_prepare).cls yX1_prepare yX1_prepare ∈ lw_tbl := in_t4 (List.mem_of_getElem? (i := 130) (by decide +kernel))
theorem yy_X1_creasesOf : rY m_X1_creasesOf 1 := ⟨in_t4 (List.mem_of_getElem? (i := 171) rfl), in_t1 (List.mem_of_getElem? (i := 7) (by decide +kernel)), by decide +kernel, by decide +kernel, by decide +kernel⟩
theorem yi_X1_creasesOf : Cond.instanceMethod yX1_creasesOf ∈ lw_tbl := in_t4 (List.mem_of_getElem? (i := 169) (by decide +kernel))
theorem ys_X1_creasesOf : Cond.selects (yX1_creasesOf).cls yX1_creasesOf yX1_creasesOf ∈ lw_tbl := in_t4 (List.mem_of_getElem? (i := 170) (by decide +kernel))
theorem yy_X1_turnsOf : rY m_X1_turnsOf 1 := ⟨in_t4 (List.mem_of_getElem? (i := 210) rfl), in_t1 (List.mem_of_getElem? (i := 7) (by decide +kernel)), by decide +kernel, by decide +kernel, by decide +kernel⟩
theorem yi_X1_turnsOf : Cond.instanceMethod yX1_turnsOf ∈ lw_tbl := in_t4 (List.mem_of_getElem? (i := 208) (by decide +kernel))
theorem ys_X1_turnsOf : Cond.selects (yX1_turnsOf).cls yX1_turnsOf yX1_turnsOf ∈ lw_tbl := in_t4 (List.mem_of_getElem? (i := 209) (by decide +kernel))
theorem yy_X1_actOf : rY m_X1_actOf 2 := ⟨in_t4 (List.mem_of_getElem? (i := 214) rfl), in_t1 (List.mem_of_getElem? (i := 7) (by decide +kernel)), by decide +kernel, by decide +kernel, by decide +kernel⟩
theorem yi_X1_actOf : Cond.instanceMethod yX1_actOf ∈ lw_tbl := in_t4 (List.mem_of_getElem? (i := 212) (by decide +kernel))
theorem ys_X1_actOf : Cond.selects (yX1_actOf).cls yX1_actOf yX1_actOf ∈ lw_tbl := in_t4 (List.mem_of_getElem? (i := 213) (by decide +kernel))
theorem yy_X1_unpack : rY m_X1_unpack 2 := ⟨in_t4 (List.mem_of_getElem? (i := 158) rfl), in_t1 (List.mem_of_getElem? (i := 7) (by decide +kernel)), by decide +kernel, by decide +kernel, by decide +kernel⟩
theorem yi_X1_unpack : Cond.instanceMethod yX1_unpack ∈ lw_tbl := in_t4 (List.mem_of_getElem? (i := 156) (by decide +kernel))
theorem ys_X1_unpack : Cond.selects (yX1_unpack).cls yX1_unpack yX1_unpack ∈ lw_tbl := in_t4 (List.mem_of_getElem? (i := 157) (by decide +kernel))
theorem yy_X1_turnOn : rY m_X1_turnOn 1 := ⟨in_t4 (List.mem_of_getElem? (i := 154) rfl), in_t1 (List.mem_of_getElem? (i := 7) (by decide +kernel)), by decide +kernel, by decide +kernel, by decide +kernel⟩
theorem yi_X1_turnOn : Cond.instanceMethod yX1_turnOn ∈ lw_tbl := in_t4 (List.mem_of_getElem? (i := 153) (by decide +kernel))
theorem ys_X1_turnOn : Cond.selects (yX1_turnOn).cls yX1_turnOn yX1_turnOn ∈ lw_tbl := in_t0 (List.mem_of_getElem? (i := 24) (by decide +kernel))
theorem yy_X1_addTurned : rY m_X1_addTurned 5 := ⟨in_t4 (List.mem_of_getElem? (i := 176) rfl), in_t1 (List.mem_of_getElem? (i := 7) (by decide +kernel)), by decide +kernel, by decide +kernel, by decide +kernel⟩
theorem yi_X1_addTurned : Cond.instanceMethod yX1_addTurned ∈ lw_tbl := in_t4 (List.mem_of_getElem? (i := 175) (by decide +kernel))
theorem ys_X1_addTurned : Cond.selects (yX1_addTurned).cls yX1_addTurned yX1_addTurned ∈ lw_tbl := in_t0 (List.mem_of_getElem? (i := 25) (by decide +kernel))
theorem yy_X1_startLevel : rY m_X1_startLevel 0 := ⟨in_t4 (List.mem_of_getElem? (i := 136) rfl), in_t1 (List.mem_of_getElem? (i := 7) (by decide +kernel)), by decide +kernel, by decide +kernel, by decide +kernel⟩
theorem yi_X1_startLevel : Cond.instanceMethod yX1_startLevel ∈ lw_tbl := in_t4 (List.mem_of_getElem? (i := 135) (by decide +kernel))
theorem ys_X1_startLevel : Cond.selects (yX1_startLevel).cls yX1_startLevel yX1_startLevel ∈ lw_tbl := in_t0 (List.mem_of_getElem? (i := 21) (by decide +kernel))
theorem yy_X1_add : rY m_X1_add 3 := ⟨in_t4 (List.mem_of_getElem? (i := 145) rfl), in_t1 (List.mem_of_getElem? (i := 7) (by decide +kernel)), by decide +kernel, by decide +kernel, by decide +kernel⟩
theorem yi_X1_add : Cond.instanceMethod yX1_add ∈ lw_tbl := in_t4 (List.mem_of_getElem? (i := 144) (by decide +kernel))
theorem ys_X1_add : Cond.selects (yX1_add).cls yX1_add yX1_add ∈ lw_tbl := in_t0 (List.mem_of_getElem? (i := 22) (by decide +kernel))
theorem yy_X1_append : rY m_X1_append 4 := ⟨in_t4 (List.mem_of_getElem? (i := 150) rfl), in_t1 (List.mem_of_getElem? (i := 7) (by decide +kernel)), by decide +kernel, by decide +kernel, by decide +kernel⟩
theorem yi_X1_append : Cond.instanceMethod yX1_append ∈ lw_tbl := in_t4 (List.mem_of_getElem? (i := 149) (by decide +kernel))
theorem ys_X1_append : Cond.selects (yX1_append).cls yX1_append yX1_append ∈ lw_tbl := in_t0 (List.mem_of_getElem? (i := 23) (by decide +kernel))
theorem yy_X2_init : rY m_X2_init 0 := ⟨in_t1 (List.mem_of_getElem? (i := 93) rfl), in_t1 (List.mem_of_getElem? (i := 5) (by decide +kernel)), by decide +kernel, by decide +kernel, by decide +kernel⟩
theorem yi_X2_init : Cond.instanceMethod yX2_init ∈ lw_tbl := in_t1 (List.mem_of_getElem? (i := 92) (by decide +kernel))
theorem yy_X2_layFlat : rY m_X2_layFlat 1 := ⟨in_t2 (List.mem_of_getElem? (i := 139) rfl), in_t1 (List.mem_of_getElem? (i := 5) (by decide +kernel)), by decide +kernel, by decide +kernel, by decide +kernel⟩
theorem yi_X2_layFlat : Cond.instanceMethod yX2_layFlat ∈ lw_tbl := in_t2 (List.mem_of_getElem? (i := 137) (by decide +kernel))
theorem ys_X2_layFlat : Cond.selects (yX2_layFlat).cls yX2_layFlat yX2_layFlat ∈ lw_tbl := in_t2 (List.mem_of_getElem? (i := 138) (by decide +kernel))
theorem yy_X2_copy : rY m_X2_copy 1 := ⟨in_t3 (List.mem_of_getElem? (i := 179) rfl), in_t1 (List.mem_of_getElem? (i := 5) (by decide +kernel)), by decide +kernel, by decide +kernel, by decide +kernel⟩
theorem yi_X2_copy : Cond.instanceMethod yX2_copy ∈ lw_tbl := in_t3 (List.mem_of_getElem? (i := 177) (by decide +kernel))
theorem ys_X2_copy : Cond.selects (yX2_copy).cls yX2_copy yX2_copy ∈ lw_tbl := in_t3 (List.mem_of_getElem? (i := 178) (by decide +kernel))
theorem yy_X2_begin : rY m_X2_begin 2 := ⟨in_t2 (List.mem_of_getElem? (i := 143) rfl), in_t1 (List.mem_of_getElem? (i := 5) (by decide +kernel)), by decide +kernel, by decide +kernel, by decide +kernel⟩
theorem yi_X2_begin : Cond.instanceMethod yX2_begin ∈ lw_tbl := in_t2 (List.mem_of_getElem? (i := 141) (by decide +kernel))
theorem ys_X2_begin : Cond.selects (yX2_begin).cls yX2_begin yX2_begin ∈ lw_tbl := in_t2 (List.mem_of_getElem? (i := 142) (by decide +kernel))
theorem yy_X2_lay : rY m_X2_lay 4 := ⟨in_t2 (List.mem_of_getElem? (i := 148) rfl), in_t1 (List.mem_of_getElem? (i := 5) (by decide +kernel)), by decide +kernel, by decide +kernel, by decide +kernel⟩
theorem yi_X2_lay : Cond.instanceMethod yX2_lay ∈ lw_tbl := in_t2 (List.mem_of_getElem? (i := 146) (by decide +kernel))
theorem ys_X2_lay : Cond.selects (yX2_lay).cls yX2_lay yX2_lay ∈ lw_tbl := in_t2 (List.mem_of_getElem? (i := 147) (by decide +kernel))
theorem yy_X2_turn : rY m_X2_turn 4 := ⟨in_t3 (List.mem_of_getElem? (i := 104) rfl), in_t1 (List.mem_of_getElem? (i := 5) (by decide +kernel)), by decide +kernel, by decide +kernel, by decide +kernel⟩
theorem yi_X2_turn : Cond.instanceMethod yX2_turn ∈ lw_tbl := in_t3 (List.mem_of_getElem? (i := 102) (by decide +kernel))
theorem ys_X2_turn : Cond.selects (yX2_turn).cls yX2_turn yX2_turn ∈ lw_tbl := in_t3 (List.mem_of_getElem? (i := 103) (by decide +kernel))
theorem yy_X2_turnedBy : rY m_X2_turnedBy 2 := ⟨in_t3 (List.mem_of_getElem? (i := 138) rfl), in_t1 (List.mem_of_getElem? (i := 5) (by decide +kernel)), by decide +kernel, by decide +kernel, by decide +kernel⟩
theorem yi_X2_turnedBy : Cond.instanceMethod yX2_turnedBy ∈ lw_tbl := in_t3 (List.mem_of_getElem? (i := 136) (by decide +kernel))
theorem ys_X2_turnedBy : Cond.selects (yX2_turnedBy).cls yX2_turnedBy yX2_turnedBy ∈ lw_tbl := in_t3 (List.mem_of_getElem? (i := 137) (by decide +kernel))
theorem yy_X2_creasesAt : rY m_X2_creasesAt 2 := ⟨in_t3 (List.mem_of_getElem? (i := 134) rfl), in_t1 (List.mem_of_getElem? (i := 5) (by decide +kernel)), by decide +kernel, by decide +kernel, by decide +kernel⟩
theorem yi_X2_creasesAt : Cond.instanceMethod yX2_creasesAt ∈ lw_tbl := in_t3 (List.mem_of_getElem? (i := 132) (by decide +kernel))
theorem ys_X2_creasesAt : Cond.selects (yX2_creasesAt).cls yX2_creasesAt yX2_creasesAt ∈ lw_tbl := in_t3 (List.mem_of_getElem? (i := 133) (by decide +kernel))
theorem yy_X2_isCrease : rY m_X2_isCrease 1 := ⟨in_t3 (List.mem_of_getElem? (i := 122) rfl), in_t1 (List.mem_of_getElem? (i := 5) (by decide +kernel)), by decide +kernel, by decide +kernel, by decide +kernel⟩
theorem yi_X2_isCrease : Cond.instanceMethod yX2_isCrease ∈ lw_tbl := in_t3 (List.mem_of_getElem? (i := 120) (by decide +kernel))
theorem ys_X2_isCrease : Cond.selects (yX2_isCrease).cls yX2_isCrease yX2_isCrease ∈ lw_tbl := in_t3 (List.mem_of_getElem? (i := 121) (by decide +kernel))
theorem yy_X2_lineOf : rY m_X2_lineOf 1 := ⟨in_t3 (List.mem_of_getElem? (i := 118) rfl), in_t1 (List.mem_of_getElem? (i := 5) (by decide +kernel)), by decide +kernel, by decide +kernel, by decide +kernel⟩
theorem yi_X2_lineOf : Cond.instanceMethod yX2_lineOf ∈ lw_tbl := in_t3 (List.mem_of_getElem? (i := 116) (by decide +kernel))
theorem ys_X2_lineOf : Cond.selects (yX2_lineOf).cls yX2_lineOf yX2_lineOf ∈ lw_tbl := in_t3 (List.mem_of_getElem? (i := 117) (by decide +kernel))
theorem yy_X2_passesThrough : rY m_X2_passesThrough 0 := ⟨in_t3 (List.mem_of_getElem? (i := 114) rfl), in_t1 (List.mem_of_getElem? (i := 5) (by decide +kernel)), by decide +kernel, by decide +kernel, by decide +kernel⟩
theorem yi_X2_passesThrough : Cond.instanceMethod yX2_passesThrough ∈ lw_tbl := in_t3 (List.mem_of_getElem? (i := 112) (by decide +kernel))
theorem ys_X2_passesThrough : Cond.selects (yX2_passesThrough).cls yX2_passesThrough yX2_passesThrough ∈ lw_tbl := in_t3 (List.mem_of_getElem? (i := 113) (by decide +kernel))
theorem yy_X2_clash : rY m_X2_clash 2 := ⟨in_t3 (List.mem_of_getElem? (i := 126) rfl), in_t1 (List.mem_of_getElem? (i := 5) (by decide +kernel)), by decide +kernel, by decide +kernel, by decide +kernel⟩
theorem yi_X2_clash : Cond.instanceMethod yX2_clash ∈ lw_tbl := in_t3 (List.mem_of_getElem? (i := 125) (by decide +kernel))
theorem ys_X2_clash : Cond.selects (yX2_clash).cls yX2_clash yX2_clash ∈ lw_tbl := in_t0 (List.mem_of_getElem? (i := 11) (by decide +kernel))
theorem yy_X2_isBetween : rY m_X2_isBetween 2 := ⟨in_t3 (List.mem_of_getElem? (i := 130) rfl), in_t1 (List.mem_of_getElem? (i := 5) (by decide +kernel)), by decide +kernel, by decide +kernel, by decide +kernel⟩
theorem yi_X2_isBetween : Cond.instanceMethod yX2_isBetween ∈ lw_tbl := in_t3 (List.mem_of_getElem? (i := 129) (by decide +kernel))
theorem ys_X2_isBetween : Cond.selects (yX2_isBetween).cls yX2_isBetween yX2_isBetween ∈ lw_tbl := in_t0 (List.mem_of_getElem? (i := 12) (by decide +kernel))
theorem yy_X2_heightOf : rY m_X2_heightOf 1 := ⟨in_t3 (List.mem_of_getElem? (i := 158) rfl), in_t1 (List.mem_of_getElem? (i := 5) (by decide +kernel)), by decide +kernel, by decide +kernel, by decide +kernel⟩
theorem yi_X2_heightOf : Cond.instanceMethod yX2_heightOf ∈ lw_tbl := in_t3 (List.mem_of_getElem? (i := 156) (by decide +kernel))
theorem ys_X2_heightOf : Cond.selects (yX2_heightOf).cls yX2_heightOf yX2_heightOf ∈ lw_tbl := in_t3 (List.mem_of_getElem? (i := 157) (by decide +kernel))
theorem yy_X2_partAt : rY m_X2_partAt 2 := ⟨in_t3 (List.mem_of_getElem? (i := 167) rfl), in_t1 (List.mem_of_getElem? (i := 5) (by decide +kernel)), by decide +kernel, by decide +kernel, by decide +kernel⟩
theorem yi_X2_partAt : Cond.instanceMethod yX2_partAt ∈ lw_tbl := in_t3 (List.mem_of_getElem? (i := 165) (by decide +kernel))
theorem ys_X2_partAt : Cond.selects (yX2_partAt).cls yX2_partAt yX2_partAt ∈ lw_tbl := in_t3 (List.mem_of_getElem? (i := 166) (by decide +kernel))
theorem yy_X2_mostLayers : rY m_X2_mostLayers 0 := ⟨in_t4 (List.mem_of_getElem? (i := 167) rfl), in_t1 (List.mem_of_getElem? (i := 5) (by decide +kernel)), by decide +kernel, by decide +kernel, by decide +kernel⟩
theorem yi_X2_mostLayers : Cond.instanceMethod yX2_mostLayers ∈ lw_tbl := in_t4 (List.mem_of_getElem? (i := 165) (by decide +kernel))
theorem ys_X2_mostLayers : Cond.selects (yX2_mostLayers).cls yX2_mostLayers yX2_mostLayers ∈ lw_tbl := in_t4 (List.mem_of_getElem? (i := 166) (by decide +kernel))
theorem yy_X2_highest : rY m_X2_highest 2 := ⟨in_t3 (List.mem_of_getElem? (i := 162) rfl), in_t1 (List.mem_of_getElem? (i := 5) (by decide +kernel)), by decide +kernel, by decide +kernel, by decide +kernel⟩
theorem yi_X2_highest : Cond.instanceMethod yX2_highest ∈ lw_tbl := in_t3 (List.mem_of_getElem? (i := 160) (by decide +kernel))
theorem ys_X2_highest : Cond.selects (yX2_highest).cls yX2_highest yX2_highest ∈ lw_tbl := in_t3 (List.mem_of_getElem? (i := 161) (by decide +kernel))
theorem yy_X2_outerFaces : rY m_X2_outerFaces 0 := ⟨in_t3 (List.mem_of_getElem? (i := 211) rfl), in_t1 (List.mem_of_getElem? (i := 5) (by decide +kernel)), by decide +kernel, by decide +kernel, by decide +kernel⟩
theorem yi_X2_outerFaces : Cond.instanceMethod yX2_outerFaces ∈ lw_tbl := in_t3 (List.mem_of_getElem? (i := 209) (by decide +kernel))
theorem ys_X2_outerFaces : Cond.selects (yX2_outerFaces).cls yX2_outerFaces yX2_outerFaces ∈ lw_tbl := in_t3 (List.mem_of_getElem? (i := 210) (by decide +kernel))
theorem yy_X2_canBeRead : rY m_X2_canBeRead 1 := ⟨in_t4 (List.mem_of_getElem? (i := 28) rfl), in_t1 (List.mem_of_getElem? (i := 5) (by decide +kernel)), by decide +kernel, by decide +kernel, by decide +kernel⟩
theorem yi_X2_canBeRead : Cond.instanceMethod yX2_canBeRead ∈ lw_tbl := in_t4 (List.mem_of_getElem? (i := 26) (by decide +kernel))
theorem ys_X2_canBeRead : Cond.selects (yX2_canBeRead).cls yX2_canBeRead yX2_canBeRead ∈ lw_tbl := in_t4 (List.mem_of_getElem? (i := 27) (by decide +kernel))
theorem yy_X2_facing : rY m_X2_facing 1 := ⟨in_t4 (List.mem_of_getElem? (i := 36) rfl), in_t1 (List.mem_of_getElem? (i := 5) (by decide +kernel)), by decide +kernel, by decide +kernel, by decide +kernel⟩
theorem yi_X2_facing : Cond.instanceMethod yX2_facing ∈ lw_tbl := in_t4 (List.mem_of_getElem? (i := 34) (by decide +kernel))
theorem ys_X2_facing : Cond.selects (yX2_facing).cls yX2_facing yX2_facing ∈ lw_tbl := in_t4 (List.mem_of_getElem? (i := 35) (by decide +kernel))
theorem yy_X2_gapes : rY m_X2_gapes 2 := ⟨in_t4 (List.mem_of_getElem? (i := 44) rfl), in_t1 (List.mem_of_getElem? (i := 5) (by decide +kernel)), by decide +kernel, by decide +kernel, by decide +kernel⟩
theorem yi_X2_gapes : Cond.instanceMethod yX2_gapes ∈ lw_tbl := in_t4 (List.mem_of_getElem? (i := 42) (by decide +kernel))
theorem ys_X2_gapes : Cond.selects (yX2_gapes).cls yX2_gapes yX2_gapes ∈ lw_tbl := in_t4 (List.mem_of_getElem? (i := 43) (by decide +kernel))
theorem yy_X2_isHeld : rY m_X2_isHeld 3 := ⟨in_t4 (List.mem_of_getElem? (i := 48) rfl), in_t1 (List.mem_of_getElem? (i := 5) (by decide +kernel)), by decide +kernel, by decide +kernel, by decide +kernel⟩
theorem yi_X2_isHeld : Cond.instanceMethod yX2_isHeld ∈ lw_tbl := in_t4 (List.mem_of_getElem? (i := 47) (by decide +kernel))
theorem ys_X2_isHeld : Cond.selects (yX2_isHeld).cls yX2_isHeld yX2_isHeld ∈ lw_tbl := in_t0 (List.mem_of_getElem? (i := 20) (by decide +kernel))
theorem yy_X2_packed : rY m_X2_packed 0 := ⟨in_t4 (List.mem_of_getElem? (i := 141) rfl), in_t1 (List.mem_of_getElem? (i := 5) (by decide +kernel)), by decide +kernel, by decide +kernel, by decide +kernel⟩
theorem yi_X2_packed : Cond.instanceMethod yX2_packed ∈ lw_tbl := in_t4 (List.mem_of_getElem? (i := 139) (by decide +kernel))
theorem ys_X2_packed : Cond.selects (yX2_packed).cls yX2_packed yX2_packed ∈ lw_tbl := in_t4 (List.mem_of_getElem? (i := 140) (by decide +kernel))
theorem yy_X2_unpack : rY m_X2_unpack 2 := ⟨in_t4 (List.mem_of_getElem? (i := 163) rfl), in_t1 (List.mem_of_getElem? (i := 5) (by decide +kernel)), by decide +kernel, by decide +kernel, by decide +kernel⟩
theorem yi_X2_unpack : Cond.instanceMethod yX2_unpack ∈ lw_tbl := in_t4 (List.mem_of_getElem? (i := 161) (by decide +kernel))
theorem ys_X2_unpack : Cond.selects (yX2_unpack).cls yX2_unpack yX2_unpack ∈ lw_tbl := in_t4 (List.mem_of_getElem? (i := 162) (by decide +kernel))
theorem yy_X3_init : rY m_X3_init 0 := ⟨in_t2 (List.mem_of_getElem? (i := 97) rfl), in_t1 (List.mem_of_getElem? (i := 9) (by decide +kernel)), by decide +kernel, by decide +kernel, by decide +kernel⟩
theorem yi_X3_init : Cond.instanceMethod yX3_init ∈ lw_tbl := in_t2 (List.mem_of_getElem? (i := 96) (by decide +kernel))
theorem yy_X3_clear : rY m_X3_clear 0 := ⟨in_t2 (List.mem_of_getElem? (i := 201) rfl), in_t1 (List.mem_of_getElem? (i := 9) (by decide +kernel)), by decide +kernel, by decide +kernel, by decide +kernel⟩
theorem yi_X3_clear : Cond.instanceMethod yX3_clear ∈ lw_tbl := in_t2 (List.mem_of_getElem? (i := 199) (by decide +kernel))
theorem ys_X3_clear : Cond.selects (yX3_clear).cls yX3_clear yX3_clear ∈ lw_tbl := in_t2 (List.mem_of_getElem? (i := 200) (by decide +kernel))
theorem yy_X3_begin : rY m_X3_begin 1 := ⟨in_t3 (List.mem_of_getElem? (i := 51) rfl), in_t1 (List.mem_of_getElem? (i := 9) (by decide +kernel)), by decide +kernel, by decide +kernel, by decide +kernel⟩
theorem yi_X3_begin : Cond.instanceMethod yX3_begin ∈ lw_tbl := in_t3 (List.mem_of_getElem? (i := 49) (by decide +kernel))
theorem ys_X3_begin : Cond.selects (yX3_begin).cls yX3_begin yX3_begin ∈ lw_tbl := in_t3 (List.mem_of_getElem? (i := 50) (by decide +kernel))
theorem yy_X3_beginCondition : rY m_X3_beginCondition 0 := ⟨in_t3 (List.mem_of_getElem? (i := 72) rfl), in_t1 (List.mem_of_getElem? (i := 9) (by decide +kernel)), by decide +kernel, by decide +kernel, by decide +kernel⟩
theorem yi_X3_beginCondition : Cond.instanceMethod yX3_beginCondition ∈ lw_tbl := in_t3 (List.mem_of_getElem? (i := 70) (by decide +kernel))
theorem ys_X3_beginCondition : Cond.selects (yX3_beginCondition).cls yX3_beginCondition yX3_beginCondition ∈ lw_tbl := in_t3 (List.mem_of_getElem? (i := 71) (by decide +kernel))
theorem yy_X3_end : rY m_X3_end 1 := ⟨in_t3 (List.mem_of_getElem? (i := 76) rfl), in_t1 (List.mem_of_getElem? (i := 9) (by decide +kernel)), by decide +kernel, by decide +kernel, by decide +kernel⟩
theorem yi_X3_end : Cond.instanceMethod yX3_end ∈ lw_tbl := in_t3 (List.mem_of_getElem? (i := 74) (by decide +kernel))
theorem ys_X3_end : Cond.selects (yX3_end).cls yX3_end yX3_end ∈ lw_tbl := in_t3 (List.mem_of_getElem? (i := 75) (by decide +kernel))
theorem yy_X3_emit : rY m_X3_emit 1 := ⟨in_t3 (List.mem_of_getElem? (i := 55) rfl), in_t1 (List.mem_of_getElem? (i := 9) (by decide +kernel)), by decide +kernel, by decide +kernel, by decide +kernel⟩
theorem yi_X3_emit : Cond.instanceMethod yX3_emit ∈ lw_tbl := in_t3 (List.mem_of_getElem? (i := 53) (by decide +kernel))
theorem ys_X3_emit : Cond.selects (yX3_emit).cls yX3_emit yX3_emit ∈ lw_tbl := in_t3 (List.mem_of_getElem? (i := 54) (by decide +kernel))
theorem yy_X3_setVars : rY m_X3_setVars 5 := ⟨in_t3 (List.mem_of_getElem? (i := 227) rfl), in_t1 (List.mem_of_getElem? (i := 9) (by decide +kernel)), by decide +kernel, by decide +kernel, by decide +kernel⟩
theorem yi_X3_setVars : Cond.instanceMethod yX3_setVars ∈ lw_tbl := in_t3 (List.mem_of_getElem? (i := 225) (by decide +kernel))
theorem ys_X3_setVars : Cond.selects (yX3_setVars).cls yX3_setVars yX3_setVars ∈ lw_tbl := in_t3 (List.mem_of_getElem? (i := 226) (by decide +kernel))
theorem yy_X3_firstRule : rY m_X3_firstRule 1 := ⟨in_t3 (List.mem_of_getElem? (i := 231) rfl), in_t1 (List.mem_of_getElem? (i := 9) (by decide +kernel)), by decide +kernel, by decide +kernel, by decide +kernel⟩
theorem yi_X3_firstRule : Cond.instanceMethod yX3_firstRule ∈ lw_tbl := in_t3 (List.mem_of_getElem? (i := 229) (by decide +kernel))
theorem ys_X3_firstRule : Cond.selects (yX3_firstRule).cls yX3_firstRule yX3_firstRule ∈ lw_tbl := in_t3 (List.mem_of_getElem? (i := 230) (by decide +kernel))
theorem yy_X3_worth : rY m_X3_worth 1 := ⟨in_t4 (List.mem_of_getElem? (i := 6) rfl), in_t1 (List.mem_of_getElem? (i := 9) (by decide +kernel)), by decide +kernel, by decide +kernel, by decide +kernel⟩
theorem yi_X3_worth : Cond.instanceMethod yX3_worth ∈ lw_tbl := in_t4 (List.mem_of_getElem? (i := 4) (by decide +kernel))
theorem ys_X3_worth : Cond.selects (yX3_worth).cls yX3_worth yX3_worth ∈ lw_tbl := in_t4 (List.mem_of_getElem? (i := 5) (by decide +kernel))
theorem yy_X3_worthOfFirst : rY m_X3_worthOfFirst 2 := ⟨in_t4 (List.mem_of_getElem? (i := 52) rfl), in_t1 (List.mem_of_getElem? (i := 9) (by decide +kernel)), by decide +kernel, by decide +kernel, by decide +kernel⟩
theorem yi_X3_worthOfFirst : Cond.instanceMethod yX3_worthOfFirst ∈ lw_tbl := in_t4 (List.mem_of_getElem? (i := 50) (by decide +kernel))
theorem ys_X3_worthOfFirst : Cond.selects (yX3_worthOfFirst).cls yX3_worthOfFirst yX3_worthOfFirst ∈ lw_tbl := in_t4 (List.mem_of_getElem? (i := 51) (by decide +kernel))
theorem yy_X3_run : rY m_X3_run 2 := ⟨in_t3 (List.mem_of_getElem? (i := 235) rfl), in_t1 (List.mem_of_getElem? (i := 9) (by decide +kernel)), by decide +kernel, by decide +kernel, by decide +kernel⟩
theorem yi_X3_run : Cond.instanceMethod yX3_run ∈ lw_tbl := in_t3 (List.mem_of_getElem? (i := 234) (by decide +kernel))
theorem ys_X3_run : Cond.selects (yX3_run).cls yX3_run yX3_run ∈ lw_tbl := in_t0 (List.mem_of_getElem? (i := 16) (by decide +kernel))
theorem yy_X3_varOf : rY m_X3_varOf 1 := ⟨in_t3 (List.mem_of_getElem? (i := 239) rfl), in_t1 (List.mem_of_getElem? (i := 9) (by decide +kernel)), by decide +kernel, by decide +kernel, by decide +kernel⟩
theorem yi_X3_varOf : Cond.instanceMethod yX3_varOf ∈ lw_tbl := in_t3 (List.mem_of_getElem? (i := 238) (by decide +kernel))
theorem ys_X3_varOf : Cond.selects (yX3_varOf).cls yX3_varOf yX3_varOf ∈ lw_tbl := in_t0 (List.mem_of_getElem? (i := 17) (by decide +kernel))
theorem yy_X3_joined : rY m_X3_joined 3 := ⟨in_t4 (List.mem_of_getElem? (i := 2) rfl), in_t1 (List.mem_of_getElem? (i := 9) (by decide +kernel)), by decide +kernel, by decide +kernel, by decide +kernel⟩
theorem yi_X3_joined : Cond.static yX3_joined ∈ lw_tbl := in_t4 (List.mem_of_getElem? (i := 1) (by decide +kernel))
theorem yy_X4_init : rY m_X4_init 0 := ⟨in_t1 (List.mem_of_getElem? (i := 60) rfl), in_t1 (List.mem_of_getElem? (i := 3) (by decide +kernel)), by decide +kernel, by decide +kernel, by decide +kernel⟩
theorem yi_X4_init : Cond.instanceMethod yX4_init ∈ lw_tbl := in_t1 (List.mem_of_getElem? (i := 59) (by decide +kernel))
theorem yy_X4_readText : rY m_X4_readText 2 := ⟨in_t2 (List.mem_of_getElem? (i := 197) rfl), in_t1 (List.mem_of_getElem? (i := 3) (by decide +kernel)), by decide +kernel, by decide +kernel, by decide +kernel⟩
theorem yi_X4_readText : Cond.instanceMethod yX4_readText ∈ lw_tbl := in_t2 (List.mem_of_getElem? (i := 195) (by decide +kernel))
theorem ys_X4_readText : Cond.selects (yX4_readText).cls yX4_readText yX4_readText ∈ lw_tbl := in_t2 (List.mem_of_getElem? (i := 196) (by decide +kernel))
theorem yy_X4_faultOf : rY m_X4_faultOf 2 := ⟨in_t3 (List.mem_of_getElem? (i := 39) rfl), in_t1 (List.mem_of_getElem? (i := 3) (by decide +kernel)), by decide +kernel, by decide +kernel, by decide +kernel⟩
theorem yi_X4_faultOf : Cond.instanceMethod yX4_faultOf ∈ lw_tbl := in_t3 (List.mem_of_getElem? (i := 38) (by decide +kernel))
theorem ys_X4_faultOf : Cond.selects (yX4_faultOf).cls yX4_faultOf yX4_faultOf ∈ lw_tbl := in_t0 (List.mem_of_getElem? (i := 5) (by decide +kernel))
theorem yy_X4_goesOn : rY m_X4_goesOn 1 := ⟨in_t3 (List.mem_of_getElem? (i := 43) rfl), in_t1 (List.mem_of_getElem? (i := 3) (by decide +kernel)), by decide +kernel, by decide +kernel, by decide +kernel⟩
