/-! ===== what the tables say of each callee, each link of a method, each link of a field (by program) ===== -/
theorem yi_X4_goesOn : Cond.instanceMethod yX4_goesOn ∈ lw_tbl := in_t3 (List.mem_of_getElem? (i := 42) (by decide +kernel))
theorem ys_X4_goesOn : Cond.selects (yX4_goesOn).cls yX4_goesOn yX4_goesOn ∈ lw_tbl := in_t0 (List.mem_of_getElem? (i := 6) (by decide +kernel))
theorem yy_X4_take : rY m_X4_take 2 := ⟨in_t3 (List.mem_of_getElem? (i := 47) rfl), in_t1 (List.mem_of_getElem? (i := 3) (by decide +kernel)), by decide +kernel, by decide +kernel, by decide +kernel⟩
theorem yi_X4_take : Cond.instanceMethod yX4_take ∈ lw_tbl := in_t3 (List.mem_of_getElem? (i := 46) (by decide +kernel))
theorem ys_X4_take : Cond.selects (yX4_take).cls yX4_take yX4_take ∈ lw_tbl := in_t0 (List.mem_of_getElem? (i := 7) (by decide +kernel))
theorem yy_X4_takeOperator : rY m_X4_takeOperator 1 := ⟨in_t3 (List.mem_of_getElem? (i := 80) rfl), in_t1 (List.mem_of_getElem? (i := 3) (by decide +kernel)), by decide +kernel, by decide +kernel, by decide +kernel⟩
theorem yi_X4_takeOperator : Cond.instanceMethod yX4_takeOperator ∈ lw_tbl := in_t3 (List.mem_of_getElem? (i := 79) (by decide +kernel))
theorem ys_X4_takeOperator : Cond.selects (yX4_takeOperator).cls yX4_takeOperator yX4_takeOperator ∈ lw_tbl := in_t0 (List.mem_of_getElem? (i := 10) (by decide +kernel))
theorem yy_X4_await : rY m_X4_await 1 := ⟨in_t3 (List.mem_of_getElem? (i := 59) rfl), in_t1 (List.mem_of_getElem? (i := 3) (by decide +kernel)), by decide +kernel, by decide +kernel, by decide +kernel⟩
theorem yi_X4_await : Cond.instanceMethod yX4_await ∈ lw_tbl := in_t3 (List.mem_of_getElem? (i := 58) (by decide +kernel))
theorem ys_X4_await : Cond.selects (yX4_await).cls yX4_await yX4_await ∈ lw_tbl := in_t0 (List.mem_of_getElem? (i := 8) (by decide +kernel))
theorem yy_X4_release : rY m_X4_release 1 := ⟨in_t3 (List.mem_of_getElem? (i := 63) rfl), in_t1 (List.mem_of_getElem? (i := 3) (by decide +kernel)), by decide +kernel, by decide +kernel, by decide +kernel⟩
theorem yi_X4_release : Cond.instanceMethod yX4_release ∈ lw_tbl := in_t3 (List.mem_of_getElem? (i := 62) (by decide +kernel))
theorem ys_X4_release : Cond.selects (yX4_release).cls yX4_release yX4_release ∈ lw_tbl := in_t0 (List.mem_of_getElem? (i := 9) (by decide +kernel))
theorem yy_X4_rank : rY m_X4_rank 1 := ⟨in_t3 (List.mem_of_getElem? (i := 66) rfl), in_t1 (List.mem_of_getElem? (i := 3) (by decide +kernel)), by decide +kernel, by decide +kernel, by decide +kernel⟩
theorem yi_X4_rank : Cond.static yX4_rank ∈ lw_tbl := in_t3 (List.mem_of_getElem? (i := 65) (by decide +kernel))
theorem yy_X5_init : rY m_X5_init 0 := ⟨in_t1 (List.mem_of_getElem? (i := 86) rfl), in_t1 (List.mem_of_getElem? (i := 4) (by decide +kernel)), by decide +kernel, by decide +kernel, by decide +kernel⟩
theorem yi_X5_init : Cond.instanceMethod yX5_init ∈ lw_tbl := in_t1 (List.mem_of_getElem? (i := 85) (by decide +kernel))
theorem yy_X5_layFlat : rY m_X5_layFlat 1 := ⟨in_t2 (List.mem_of_getElem? (i := 132) rfl), in_t1 (List.mem_of_getElem? (i := 4) (by decide +kernel)), by decide +kernel, by decide +kernel, by decide +kernel⟩
theorem yi_X5_layFlat : Cond.instanceMethod yX5_layFlat ∈ lw_tbl := in_t2 (List.mem_of_getElem? (i := 130) (by decide +kernel))
theorem ys_X5_layFlat : Cond.selects (yX5_layFlat).cls yX5_layFlat yX5_layFlat ∈ lw_tbl := in_t2 (List.mem_of_getElem? (i := 131) (by decide +kernel))
theorem yy_X5_packet : rY m_X5_packet 0 := ⟨in_t3 (List.mem_of_getElem? (i := 100) rfl), in_t1 (List.mem_of_getElem? (i := 4) (by decide +kernel)), by decide +kernel, by decide +kernel, by decide +kernel⟩
theorem yi_X5_packet : Cond.instanceMethod yX5_packet ∈ lw_tbl := in_t3 (List.mem_of_getElem? (i := 98) (by decide +kernel))
theorem ys_X5_packet : Cond.selects (yX5_packet).cls yX5_packet yX5_packet ∈ lw_tbl := in_t3 (List.mem_of_getElem? (i := 99) (by decide +kernel))
theorem yy_X5_hasPart : rY m_X5_hasPart 1 := ⟨in_t4 (List.mem_of_getElem? (i := 19) rfl), in_t1 (List.mem_of_getElem? (i := 4) (by decide +kernel)), by decide +kernel, by decide +kernel, by decide +kernel⟩
theorem yi_X5_hasPart : Cond.instanceMethod yX5_hasPart ∈ lw_tbl := in_t4 (List.mem_of_getElem? (i := 17) (by decide +kernel))
theorem ys_X5_hasPart : Cond.selects (yX5_hasPart).cls yX5_hasPart yX5_hasPart ∈ lw_tbl := in_t4 (List.mem_of_getElem? (i := 18) (by decide +kernel))
theorem yy_X5_hasAct : rY m_X5_hasAct 1 := ⟨in_t4 (List.mem_of_getElem? (i := 76) rfl), in_t1 (List.mem_of_getElem? (i := 4) (by decide +kernel)), by decide +kernel, by decide +kernel, by decide +kernel⟩
theorem yi_X5_hasAct : Cond.instanceMethod yX5_hasAct ∈ lw_tbl := in_t4 (List.mem_of_getElem? (i := 74) (by decide +kernel))
theorem ys_X5_hasAct : Cond.selects (yX5_hasAct).cls yX5_hasAct yX5_hasAct ∈ lw_tbl := in_t4 (List.mem_of_getElem? (i := 75) (by decide +kernel))
theorem yy_X5_turnAt : rY m_X5_turnAt 4 := ⟨in_t3 (List.mem_of_getElem? (i := 96) rfl), in_t1 (List.mem_of_getElem? (i := 4) (by decide +kernel)), by decide +kernel, by decide +kernel, by decide +kernel⟩
theorem yi_X5_turnAt : Cond.instanceMethod yX5_turnAt ∈ lw_tbl := in_t3 (List.mem_of_getElem? (i := 94) (by decide +kernel))
theorem ys_X5_turnAt : Cond.selects (yX5_turnAt).cls yX5_turnAt yX5_turnAt ∈ lw_tbl := in_t3 (List.mem_of_getElem? (i := 95) (by decide +kernel))
theorem yy_X5_cut : rY m_X5_cut 2 := ⟨in_t3 (List.mem_of_getElem? (i := 154) rfl), in_t1 (List.mem_of_getElem? (i := 4) (by decide +kernel)), by decide +kernel, by decide +kernel, by decide +kernel⟩
theorem yi_X5_cut : Cond.instanceMethod yX5_cut ∈ lw_tbl := in_t3 (List.mem_of_getElem? (i := 152) (by decide +kernel))
theorem ys_X5_cut : Cond.selects (yX5_cut).cls yX5_cut yX5_cut ∈ lw_tbl := in_t3 (List.mem_of_getElem? (i := 153) (by decide +kernel))
theorem yy_X5_bindByStrip : rY m_X5_bindByStrip 2 := ⟨in_t3 (List.mem_of_getElem? (i := 187) rfl), in_t1 (List.mem_of_getElem? (i := 4) (by decide +kernel)), by decide +kernel, by decide +kernel, by decide +kernel⟩
theorem yi_X5_bindByStrip : Cond.instanceMethod yX5_bindByStrip ∈ lw_tbl := in_t3 (List.mem_of_getElem? (i := 185) (by decide +kernel))
theorem ys_X5_bindByStrip : Cond.selects (yX5_bindByStrip).cls yX5_bindByStrip yX5_bindByStrip ∈ lw_tbl := in_t3 (List.mem_of_getElem? (i := 186) (by decide +kernel))
theorem yy_X5_bindByWax : rY m_X5_bindByWax 1 := ⟨in_t3 (List.mem_of_getElem? (i := 199) rfl), in_t1 (List.mem_of_getElem? (i := 4) (by decide +kernel)), by decide +kernel, by decide +kernel, by decide +kernel⟩
theorem yi_X5_bindByWax : Cond.instanceMethod yX5_bindByWax ∈ lw_tbl := in_t3 (List.mem_of_getElem? (i := 197) (by decide +kernel))
theorem ys_X5_bindByWax : Cond.selects (yX5_bindByWax).cls yX5_bindByWax yX5_bindByWax ∈ lw_tbl := in_t3 (List.mem_of_getElem? (i := 198) (by decide +kernel))
theorem yy_X5_dirty : rY m_X5_dirty 0 := ⟨in_t3 (List.mem_of_getElem? (i := 207) rfl), in_t1 (List.mem_of_getElem? (i := 4) (by decide +kernel)), by decide +kernel, by decide +kernel, by decide +kernel⟩
theorem yi_X5_dirty : Cond.instanceMethod yX5_dirty ∈ lw_tbl := in_t3 (List.mem_of_getElem? (i := 205) (by decide +kernel))
theorem ys_X5_dirty : Cond.selects (yX5_dirty).cls yX5_dirty yX5_dirty ∈ lw_tbl := in_t3 (List.mem_of_getElem? (i := 206) (by decide +kernel))
theorem yy_X5_slitParts : rY m_X5_slitParts 0 := ⟨in_t3 (List.mem_of_getElem? (i := 191) rfl), in_t1 (List.mem_of_getElem? (i := 4) (by decide +kernel)), by decide +kernel, by decide +kernel, by decide +kernel⟩
theorem yi_X5_slitParts : Cond.instanceMethod yX5_slitParts ∈ lw_tbl := in_t3 (List.mem_of_getElem? (i := 189) (by decide +kernel))
theorem ys_X5_slitParts : Cond.selects (yX5_slitParts).cls yX5_slitParts yX5_slitParts ∈ lw_tbl := in_t3 (List.mem_of_getElem? (i := 190) (by decide +kernel))
theorem yy_X5_raise : rY m_X5_raise 2 := ⟨in_t3 (List.mem_of_getElem? (i := 171) rfl), in_t1 (List.mem_of_getElem? (i := 4) (by decide +kernel)), by decide +kernel, by decide +kernel, by decide +kernel⟩
theorem yi_X5_raise : Cond.instanceMethod yX5_raise ∈ lw_tbl := in_t3 (List.mem_of_getElem? (i := 170) (by decide +kernel))
theorem ys_X5_raise : Cond.selects (yX5_raise).cls yX5_raise yX5_raise ∈ lw_tbl := in_t0 (List.mem_of_getElem? (i := 14) (by decide +kernel))
theorem yy_X5_keepOnPile : rY m_X5_keepOnPile 4 := ⟨in_t3 (List.mem_of_getElem? (i := 175) rfl), in_t1 (List.mem_of_getElem? (i := 4) (by decide +kernel)), by decide +kernel, by decide +kernel, by decide +kernel⟩
theorem yi_X5_keepOnPile : Cond.instanceMethod yX5_keepOnPile ∈ lw_tbl := in_t3 (List.mem_of_getElem? (i := 174) (by decide +kernel))
theorem ys_X5_keepOnPile : Cond.selects (yX5_keepOnPile).cls yX5_keepOnPile yX5_keepOnPile ∈ lw_tbl := in_t0 (List.mem_of_getElem? (i := 15) (by decide +kernel))
theorem yy_X5_keep : rY m_X5_keep 5 := ⟨in_t3 (List.mem_of_getElem? (i := 142) rfl), in_t1 (List.mem_of_getElem? (i := 4) (by decide +kernel)), by decide +kernel, by decide +kernel, by decide +kernel⟩
theorem yi_X5_keep : Cond.instanceMethod yX5_keep ∈ lw_tbl := in_t3 (List.mem_of_getElem? (i := 141) (by decide +kernel))
theorem ys_X5_keep : Cond.selects (yX5_keep).cls yX5_keep yX5_keep ∈ lw_tbl := in_t0 (List.mem_of_getElem? (i := 13) (by decide +kernel))
theorem yy_X5_harmOf : rY m_X5_harmOf 2 := ⟨in_t3 (List.mem_of_getElem? (i := 219) rfl), in_t1 (List.mem_of_getElem? (i := 4) (by decide +kernel)), by decide +kernel, by decide +kernel, by decide +kernel⟩
theorem yi_X5_harmOf : Cond.instanceMethod yX5_harmOf ∈ lw_tbl := in_t3 (List.mem_of_getElem? (i := 217) (by decide +kernel))
theorem ys_X5_harmOf : Cond.selects (yX5_harmOf).cls yX5_harmOf yX5_harmOf ∈ lw_tbl := in_t3 (List.mem_of_getElem? (i := 218) (by decide +kernel))
theorem yy_X5_harmRule : rY m_X5_harmRule 2 := ⟨in_t3 (List.mem_of_getElem? (i := 223) rfl), in_t1 (List.mem_of_getElem? (i := 4) (by decide +kernel)), by decide +kernel, by decide +kernel, by decide +kernel⟩
theorem yi_X5_harmRule : Cond.instanceMethod yX5_harmRule ∈ lw_tbl := in_t3 (List.mem_of_getElem? (i := 221) (by decide +kernel))
theorem ys_X5_harmRule : Cond.selects (yX5_harmRule).cls yX5_harmRule yX5_harmRule ∈ lw_tbl := in_t3 (List.mem_of_getElem? (i := 222) (by decide +kernel))
theorem yy_X5_harmOfAll : rY m_X5_harmOfAll 1 := ⟨in_t5 (List.mem_of_getElem? (i := 91) rfl), in_t1 (List.mem_of_getElem? (i := 4) (by decide +kernel)), by decide +kernel, by decide +kernel, by decide +kernel⟩
theorem yi_X5_harmOfAll : Cond.instanceMethod yX5_harmOfAll ∈ lw_tbl := in_t5 (List.mem_of_getElem? (i := 89) (by decide +kernel))
theorem ys_X5_harmOfAll : Cond.selects (yX5_harmOfAll).cls yX5_harmOfAll yX5_harmOfAll ∈ lw_tbl := in_t5 (List.mem_of_getElem? (i := 90) (by decide +kernel))
theorem yy_X5_sightOf : rY m_X5_sightOf 2 := ⟨in_t4 (List.mem_of_getElem? (i := 24) rfl), in_t1 (List.mem_of_getElem? (i := 4) (by decide +kernel)), by decide +kernel, by decide +kernel, by decide +kernel⟩
theorem yi_X5_sightOf : Cond.instanceMethod yX5_sightOf ∈ lw_tbl := in_t4 (List.mem_of_getElem? (i := 22) (by decide +kernel))
theorem ys_X5_sightOf : Cond.selects (yX5_sightOf).cls yX5_sightOf yX5_sightOf ∈ lw_tbl := in_t4 (List.mem_of_getElem? (i := 23) (by decide +kernel))
theorem yy_X5_peepPrice : rY m_X5_peepPrice 3 := ⟨in_t4 (List.mem_of_getElem? (i := 32) rfl), in_t1 (List.mem_of_getElem? (i := 4) (by decide +kernel)), by decide +kernel, by decide +kernel, by decide +kernel⟩
theorem yi_X5_peepPrice : Cond.instanceMethod yX5_peepPrice ∈ lw_tbl := in_t4 (List.mem_of_getElem? (i := 31) (by decide +kernel))
theorem ys_X5_peepPrice : Cond.selects (yX5_peepPrice).cls yX5_peepPrice yX5_peepPrice ∈ lw_tbl := in_t0 (List.mem_of_getElem? (i := 18) (by decide +kernel))
theorem yy_X5_areBound : rY m_X5_areBound 3 := ⟨in_t4 (List.mem_of_getElem? (i := 40) rfl), in_t1 (List.mem_of_getElem? (i := 4) (by decide +kernel)), by decide +kernel, by decide +kernel, by decide +kernel⟩
theorem yi_X5_areBound : Cond.instanceMethod yX5_areBound ∈ lw_tbl := in_t4 (List.mem_of_getElem? (i := 39) (by decide +kernel))
theorem ys_X5_areBound : Cond.selects (yX5_areBound).cls yX5_areBound yX5_areBound ∈ lw_tbl := in_t0 (List.mem_of_getElem? (i := 19) (by decide +kernel))
theorem yy_X5_weigh : rY m_X5_weigh 2 := ⟨in_t4 (List.mem_of_getElem? (i := 89) rfl), in_t1 (List.mem_of_getElem? (i := 4) (by decide +kernel)), by decide +kernel, by decide +kernel, by decide +kernel⟩
theorem yi_X5_weigh : Cond.instanceMethod yX5_weigh ∈ lw_tbl := in_t4 (List.mem_of_getElem? (i := 87) (by decide +kernel))
theorem ys_X5_weigh : Cond.selects (yX5_weigh).cls yX5_weigh yX5_weigh ∈ lw_tbl := in_t4 (List.mem_of_getElem? (i := 88) (by decide +kernel))
theorem yy_X6_init : rY m_X6_init 0 := ⟨in_t1 (List.mem_of_getElem? (i := 29) rfl), in_t1 (List.mem_of_getElem? (i := 2) (by decide +kernel)), by decide +kernel, by decide +kernel, by decide +kernel⟩
theorem yi_X6_init : Cond.instanceMethod yX6_init ∈ lw_tbl := in_t1 (List.mem_of_getElem? (i := 28) (by decide +kernel))
theorem yy_X6_append : rY m_X6_append 1 := ⟨in_t2 (List.mem_of_getElem? (i := 185) rfl), in_t1 (List.mem_of_getElem? (i := 2) (by decide +kernel)), by decide +kernel, by decide +kernel, by decide +kernel⟩
theorem yi_X6_append : Cond.instanceMethod yX6_append ∈ lw_tbl := in_t2 (List.mem_of_getElem? (i := 183) (by decide +kernel))
theorem ys_X6_append : Cond.selects (yX6_append).cls yX6_append yX6_append ∈ lw_tbl := in_t2 (List.mem_of_getElem? (i := 184) (by decide +kernel))
theorem yy_X6_scan : rY m_X6_scan 0 := ⟨in_t2 (List.mem_of_getElem? (i := 205) rfl), in_t1 (List.mem_of_getElem? (i := 2) (by decide +kernel)), by decide +kernel, by decide +kernel, by decide +kernel⟩
theorem yi_X6_scan : Cond.instanceMethod yX6_scan ∈ lw_tbl := in_t2 (List.mem_of_getElem? (i := 203) (by decide +kernel))
theorem ys_X6_scan : Cond.selects (yX6_scan).cls yX6_scan yX6_scan ∈ lw_tbl := in_t2 (List.mem_of_getElem? (i := 204) (by decide +kernel))
theorem yy_X6_scanWord : rY m_X6_scanWord 0 := ⟨in_t2 (List.mem_of_getElem? (i := 215) rfl), in_t1 (List.mem_of_getElem? (i := 2) (by decide +kernel)), by decide +kernel, by decide +kernel, by decide +kernel⟩
theorem yi_X6_scanWord : Cond.instanceMethod yX6_scanWord ∈ lw_tbl := in_t2 (List.mem_of_getElem? (i := 214) (by decide +kernel))
theorem ys_X6_scanWord : Cond.selects (yX6_scanWord).cls yX6_scanWord yX6_scanWord ∈ lw_tbl := in_t0 (List.mem_of_getElem? (i := 0) (by decide +kernel))
theorem yy_X6_wordNumber : rY m_X6_wordNumber 0 := ⟨in_t2 (List.mem_of_getElem? (i := 219) rfl), in_t1 (List.mem_of_getElem? (i := 2) (by decide +kernel)), by decide +kernel, by decide +kernel, by decide +kernel⟩
theorem yi_X6_wordNumber : Cond.instanceMethod yX6_wordNumber ∈ lw_tbl := in_t2 (List.mem_of_getElem? (i := 218) (by decide +kernel))
theorem ys_X6_wordNumber : Cond.selects (yX6_wordNumber).cls yX6_wordNumber yX6_wordNumber ∈ lw_tbl := in_t0 (List.mem_of_getElem? (i := 1) (by decide +kernel))
theorem yy_X6_isWord : rY m_X6_isWord 1 := ⟨in_t2 (List.mem_of_getElem? (i := 223) rfl), in_t1 (List.mem_of_getElem? (i := 2) (by decide +kernel)), by decide +kernel, by decide +kernel, by decide +kernel⟩
theorem yi_X6_isWord : Cond.instanceMethod yX6_isWord ∈ lw_tbl := in_t2 (List.mem_of_getElem? (i := 222) (by decide +kernel))
theorem ys_X6_isWord : Cond.selects (yX6_isWord).cls yX6_isWord yX6_isWord ∈ lw_tbl := in_t0 (List.mem_of_getElem? (i := 2) (by decide +kernel))
theorem yy_X6_scanNumber : rY m_X6_scanNumber 0 := ⟨in_t3 (List.mem_of_getElem? (i := 31) rfl), in_t1 (List.mem_of_getElem? (i := 2) (by decide +kernel)), by decide +kernel, by decide +kernel, by decide +kernel⟩
theorem yi_X6_scanNumber : Cond.instanceMethod yX6_scanNumber ∈ lw_tbl := in_t3 (List.mem_of_getElem? (i := 30) (by decide +kernel))
theorem ys_X6_scanNumber : Cond.selects (yX6_scanNumber).cls yX6_scanNumber yX6_scanNumber ∈ lw_tbl := in_t0 (List.mem_of_getElem? (i := 3) (by decide +kernel))
theorem yy_X6_scanSign : rY m_X6_scanSign 1 := ⟨in_t3 (List.mem_of_getElem? (i := 35) rfl), in_t1 (List.mem_of_getElem? (i := 2) (by decide +kernel)), by decide +kernel, by decide +kernel, by decide +kernel⟩
theorem yi_X6_scanSign : Cond.instanceMethod yX6_scanSign ∈ lw_tbl := in_t3 (List.mem_of_getElem? (i := 34) (by decide +kernel))
theorem ys_X6_scanSign : Cond.selects (yX6_scanSign).cls yX6_scanSign yX6_scanSign ∈ lw_tbl := in_t0 (List.mem_of_getElem? (i := 4) (by decide +kernel))
theorem yy_X6_isBlank : rY m_X6_isBlank 1 := ⟨in_t2 (List.mem_of_getElem? (i := 208) rfl), in_t1 (List.mem_of_getElem? (i := 2) (by decide +kernel)), by decide +kernel, by decide +kernel, by decide +kernel⟩
theorem yi_X6_isBlank : Cond.static yX6_isBlank ∈ lw_tbl := in_t2 (List.mem_of_getElem? (i := 207) (by decide +kernel))
theorem yy_X6_isLetter : rY m_X6_isLetter 1 := ⟨in_t2 (List.mem_of_getElem? (i := 211) rfl), in_t1 (List.mem_of_getElem? (i := 2) (by decide +kernel)), by decide +kernel, by decide +kernel, by decide +kernel⟩
theorem yi_X6_isLetter : Cond.static yX6_isLetter ∈ lw_tbl := in_t2 (List.mem_of_getElem? (i := 210) (by decide +kernel))
theorem yy_X6_isDigit : rY m_X6_isDigit 1 := ⟨in_t3 (List.mem_of_getElem? (i := 27) rfl), in_t1 (List.mem_of_getElem? (i := 2) (by decide +kernel)), by decide +kernel, by decide +kernel, by decide +kernel⟩
theorem yi_X6_isDigit : Cond.static yX6_isDigit ∈ lw_tbl := in_t3 (List.mem_of_getElem? (i := 26) (by decide +kernel))
theorem yy_X7_init : rY m_X7_init 0 := ⟨in_t2 (List.mem_of_getElem? (i := 43) rfl), in_t1 (List.mem_of_getElem? (i := 8) (by decide +kernel)), by decide +kernel, by decide +kernel, by decide +kernel⟩
theorem yi_X7_init : Cond.instanceMethod yX7_init ∈ lw_tbl := in_t2 (List.mem_of_getElem? (i := 42) (by decide +kernel))
theorem yy_X7_addHand : rY m_X7_addHand 1 := ⟨in_t4 (List.mem_of_getElem? (i := 238) rfl), in_t1 (List.mem_of_getElem? (i := 8) (by decide +kernel)), by decide +kernel, by decide +kernel, by decide +kernel⟩
theorem yi_X7_addHand : Cond.instanceMethod yX7_addHand ∈ lw_tbl := in_t4 (List.mem_of_getElem? (i := 236) (by decide +kernel))
theorem ys_X7_addHand : Cond.selects (yX7_addHand).cls yX7_addHand yX7_addHand ∈ lw_tbl := in_t4 (List.mem_of_getElem? (i := 237) (by decide +kernel))
theorem yy_X7_addLook : rY m_X7_addLook 2 := ⟨in_t5 (List.mem_of_getElem? (i := 6) rfl), in_t1 (List.mem_of_getElem? (i := 8) (by decide +kernel)), by decide +kernel, by decide +kernel, by decide +kernel⟩
theorem yi_X7_addLook : Cond.instanceMethod yX7_addLook ∈ lw_tbl := in_t5 (List.mem_of_getElem? (i := 4) (by decide +kernel))
theorem ys_X7_addLook : Cond.selects (yX7_addLook).cls yX7_addLook yX7_addLook ∈ lw_tbl := in_t5 (List.mem_of_getElem? (i := 5) (by decide +kernel))
theorem yy_X7_knows : rY m_X7_knows 1 := ⟨in_t5 (List.mem_of_getElem? (i := 14) rfl), in_t1 (List.mem_of_getElem? (i := 8) (by decide +kernel)), by decide +kernel, by decide +kernel, by decide +kernel⟩
theorem yi_X7_knows : Cond.instanceMethod yX7_knows ∈ lw_tbl := in_t5 (List.mem_of_getElem? (i := 12) (by decide +kernel))
theorem ys_X7_knows : Cond.selects (yX7_knows).cls yX7_knows yX7_knows ∈ lw_tbl := in_t5 (List.mem_of_getElem? (i := 13) (by decide +kernel))
theorem yy_X7_know : rY m_X7_know 2 := ⟨in_t5 (List.mem_of_getElem? (i := 18) rfl), in_t1 (List.mem_of_getElem? (i := 8) (by decide +kernel)), by decide +kernel, by decide +kernel, by decide +kernel⟩
theorem yi_X7_know : Cond.instanceMethod yX7_know ∈ lw_tbl := in_t5 (List.mem_of_getElem? (i := 16) (by decide +kernel))
theorem ys_X7_know : Cond.selects (yX7_know).cls yX7_know yX7_know ∈ lw_tbl := in_t5 (List.mem_of_getElem? (i := 17) (by decide +kernel))
theorem yy_X7_addDoubt : rY m_X7_addDoubt 1 := ⟨in_t5 (List.mem_of_getElem? (i := 29) rfl), in_t1 (List.mem_of_getElem? (i := 8) (by decide +kernel)), by decide +kernel, by decide +kernel, by decide +kernel⟩
theorem yi_X7_addDoubt : Cond.instanceMethod yX7_addDoubt ∈ lw_tbl := in_t5 (List.mem_of_getElem? (i := 28) (by decide +kernel))
theorem ys_X7_addDoubt : Cond.selects (yX7_addDoubt).cls yX7_addDoubt yX7_addDoubt ∈ lw_tbl := in_t0 (List.mem_of_getElem? (i := 32) (by decide +kernel))
theorem yy_X7_setCosts : rY m_X7_setCosts 1 := ⟨in_t5 (List.mem_of_getElem? (i := 22) rfl), in_t1 (List.mem_of_getElem? (i := 8) (by decide +kernel)), by decide +kernel, by decide +kernel, by decide +kernel⟩
theorem yi_X7_setCosts : Cond.instanceMethod yX7_setCosts ∈ lw_tbl := in_t5 (List.mem_of_getElem? (i := 21) (by decide +kernel))
theorem ys_X7_setCosts : Cond.selects (yX7_setCosts).cls yX7_setCosts yX7_setCosts ∈ lw_tbl := in_t0 (List.mem_of_getElem? (i := 31) (by decide +kernel))
theorem yy_X7_weigh : rY m_X7_weigh 1 := ⟨in_t5 (List.mem_of_getElem? (i := 33) rfl), in_t1 (List.mem_of_getElem? (i := 8) (by decide +kernel)), by decide +kernel, by decide +kernel, by decide +kernel⟩
theorem yi_X7_weigh : Cond.instanceMethod yX7_weigh ∈ lw_tbl := in_t5 (List.mem_of_getElem? (i := 31) (by decide +kernel))
theorem ys_X7_weigh : Cond.selects (yX7_weigh).cls yX7_weigh yX7_weigh ∈ lw_tbl := in_t5 (List.mem_of_getElem? (i := 32) (by decide +kernel))
theorem yy_X7_weighDay : rY m_X7_weighDay 3 := ⟨in_t5 (List.mem_of_getElem? (i := 37) rfl), in_t1 (List.mem_of_getElem? (i := 8) (by decide +kernel)), by decide +kernel, by decide +kernel, by decide +kernel⟩
theorem yi_X7_weighDay : Cond.instanceMethod yX7_weighDay ∈ lw_tbl := in_t5 (List.mem_of_getElem? (i := 36) (by decide +kernel))
theorem ys_X7_weighDay : Cond.selects (yX7_weighDay).cls yX7_weighDay yX7_weighDay ∈ lw_tbl := in_t0 (List.mem_of_getElem? (i := 33) (by decide +kernel))
theorem yy_X7_costFrom : rY m_X7_costFrom 3 := ⟨in_t5 (List.mem_of_getElem? (i := 41) rfl), in_t1 (List.mem_of_getElem? (i := 8) (by decide +kernel)), by decide +kernel, by decide +kernel, by decide +kernel⟩
theorem yi_X7_costFrom : Cond.instanceMethod yX7_costFrom ∈ lw_tbl := in_t5 (List.mem_of_getElem? (i := 40) (by decide +kernel))
theorem ys_X7_costFrom : Cond.selects (yX7_costFrom).cls yX7_costFrom yX7_costFrom ∈ lw_tbl := in_t0 (List.mem_of_getElem? (i := 34) (by decide +kernel))
theorem yy_X7_leastCost : rY m_X7_leastCost 0 := ⟨in_t5 (List.mem_of_getElem? (i := 45) rfl), in_t1 (List.mem_of_getElem? (i := 8) (by decide +kernel)), by decide +kernel, by decide +kernel, by decide +kernel⟩
theorem yi_X7_leastCost : Cond.instanceMethod yX7_leastCost ∈ lw_tbl := in_t5 (List.mem_of_getElem? (i := 43) (by decide +kernel))
theorem ys_X7_leastCost : Cond.selects (yX7_leastCost).cls yX7_leastCost yX7_leastCost ∈ lw_tbl := in_t5 (List.mem_of_getElem? (i := 44) (by decide +kernel))
theorem yy_X7_howMany : rY m_X7_howMany 0 := ⟨in_t5 (List.mem_of_getElem? (i := 54) rfl), in_t1 (List.mem_of_getElem? (i := 8) (by decide +kernel)), by decide +kernel, by decide +kernel, by decide +kernel⟩
theorem yi_X7_howMany : Cond.instanceMethod yX7_howMany ∈ lw_tbl := in_t5 (List.mem_of_getElem? (i := 52) (by decide +kernel))
theorem ys_X7_howMany : Cond.selects (yX7_howMany).cls yX7_howMany yX7_howMany ∈ lw_tbl := in_t5 (List.mem_of_getElem? (i := 53) (by decide +kernel))
theorem yy_X7_tell : rY m_X7_tell 0 := ⟨in_t5 (List.mem_of_getElem? (i := 62) rfl), in_t1 (List.mem_of_getElem? (i := 8) (by decide +kernel)), by decide +kernel, by decide +kernel, by decide +kernel⟩
theorem yi_X7_tell : Cond.instanceMethod yX7_tell ∈ lw_tbl := in_t5 (List.mem_of_getElem? (i := 60) (by decide +kernel))
theorem ys_X7_tell : Cond.selects (yX7_tell).cls yX7_tell yX7_tell ∈ lw_tbl := in_t5 (List.mem_of_getElem? (i := 61) (by decide +kernel))
theorem yy_X7_guiltOf : rY m_X7_guiltOf 1 := ⟨in_t5 (List.mem_of_getElem? (i := 71) rfl), in_t1 (List.mem_of_getElem? (i := 8) (by decide +kernel)), by decide +kernel, by decide +kernel, by decide +kernel⟩
theorem yi_X7_guiltOf : Cond.instanceMethod yX7_guiltOf ∈ lw_tbl := in_t5 (List.mem_of_getElem? (i := 69) (by decide +kernel))
theorem ys_X7_guiltOf : Cond.selects (yX7_guiltOf).cls yX7_guiltOf yX7_guiltOf ∈ lw_tbl := in_t5 (List.mem_of_getElem? (i := 70) (by decide +kernel))
theorem yy_X7_firstTurn : rY m_X7_firstTurn 1 := ⟨in_t5 (List.mem_of_getElem? (i := 82) rfl), in_t1 (List.mem_of_getElem? (i := 8) (by decide +kernel)), by decide +kernel, by decide +kernel, by decide +kernel⟩
theorem yi_X7_firstTurn : Cond.instanceMethod yX7_firstTurn ∈ lw_tbl := in_t5 (List.mem_of_getElem? (i := 80) (by decide +kernel))
theorem ys_X7_firstTurn : Cond.selects (yX7_firstTurn).cls yX7_firstTurn yX7_firstTurn ∈ lw_tbl := in_t5 (List.mem_of_getElem? (i := 81) (by decide +kernel))
theorem yy_X8_init : rY m_X8_init 0 := ⟨in_t1 (List.mem_of_getElem? (i := 21) rfl), in_t1 (List.mem_of_getElem? (i := 1) (by decide +kernel)), by decide +kernel, by decide +kernel, by decide +kernel⟩
theorem yi_X8_init : Cond.instanceMethod yX8_init ∈ lw_tbl := in_t1 (List.mem_of_getElem? (i := 20) (by decide +kernel))
theorem yy_X8_feed : rY m_X8_feed 5 := ⟨in_t2 (List.mem_of_getElem? (i := 181) rfl), in_t1 (List.mem_of_getElem? (i := 1) (by decide +kernel)), by decide +kernel, by decide +kernel, by decide +kernel⟩
theorem yi_X8_feed : Cond.instanceMethod yX8_feed ∈ lw_tbl := in_t2 (List.mem_of_getElem? (i := 179) (by decide +kernel))
theorem ys_X8_feed : Cond.selects (yX8_feed).cls yX8_feed yX8_feed ∈ lw_tbl := in_t2 (List.mem_of_getElem? (i := 180) (by decide +kernel))
theorem yy_X8_back : rY m_X8_back 1 := ⟨in_t2 (List.mem_of_getElem? (i := 189) rfl), in_t1 (List.mem_of_getElem? (i := 1) (by decide +kernel)), by decide +kernel, by decide +kernel, by decide +kernel⟩
theorem yi_X8_back : Cond.instanceMethod yX8_back ∈ lw_tbl := in_t2 (List.mem_of_getElem? (i := 187) (by decide +kernel))
theorem ys_X8_back : Cond.selects (yX8_back).cls yX8_back yX8_back ∈ lw_tbl := in_t2 (List.mem_of_getElem? (i := 188) (by decide +kernel))
theorem yy_X8_read : rY m_X8_read 0 := ⟨in_t2 (List.mem_of_getElem? (i := 193) rfl), in_t1 (List.mem_of_getElem? (i := 1) (by decide +kernel)), by decide +kernel, by decide +kernel, by decide +kernel⟩
theorem yi_X8_read : Cond.instanceMethod yX8_read ∈ lw_tbl := in_t2 (List.mem_of_getElem? (i := 191) (by decide +kernel))
theorem ys_X8_read : Cond.selects (yX8_read).cls yX8_read yX8_read ∈ lw_tbl := in_t2 (List.mem_of_getElem? (i := 192) (by decide +kernel))
theorem yy_X8_place : rY m_X8_place 0 := ⟨in_t3 (List.mem_of_getElem? (i := 84) rfl), in_t1 (List.mem_of_getElem? (i := 1) (by decide +kernel)), by decide +kernel, by decide +kernel, by decide +kernel⟩
theorem yi_X8_place : Cond.instanceMethod yX8_place ∈ lw_tbl := in_t3 (List.mem_of_getElem? (i := 82) (by decide +kernel))
theorem ys_X8_place : Cond.selects (yX8_place).cls yX8_place yX8_place ∈ lw_tbl := in_t3 (List.mem_of_getElem? (i := 83) (by decide +kernel))
theorem yy_X8_sheet : rY m_X8_sheet 1 := ⟨in_t3 (List.mem_of_getElem? (i := 88) rfl), in_t1 (List.mem_of_getElem? (i := 1) (by decide +kernel)), by decide +kernel, by decide +kernel, by decide +kernel⟩
theorem yi_X8_sheet : Cond.instanceMethod yX8_sheet ∈ lw_tbl := in_t3 (List.mem_of_getElem? (i := 86) (by decide +kernel))
theorem ys_X8_sheet : Cond.selects (yX8_sheet).cls yX8_sheet yX8_sheet ∈ lw_tbl := in_t3 (List.mem_of_getElem? (i := 87) (by decide +kernel))
theorem yy_X8_fold : rY m_X8_fold 3 := ⟨in_t3 (List.mem_of_getElem? (i := 92) rfl), in_t1 (List.mem_of_getElem? (i := 1) (by decide +kernel)), by decide +kernel, by decide +kernel, by decide +kernel⟩
theorem yi_X8_fold : Cond.instanceMethod yX8_fold ∈ lw_tbl := in_t3 (List.mem_of_getElem? (i := 90) (by decide +kernel))
theorem ys_X8_fold : Cond.selects (yX8_fold).cls yX8_fold yX8_fold ∈ lw_tbl := in_t3 (List.mem_of_getElem? (i := 91) (by decide +kernel))
theorem yy_X8_tuck : rY m_X8_tuck 3 := ⟨in_t3 (List.mem_of_getElem? (i := 146) rfl), in_t1 (List.mem_of_getElem? (i := 1) (by decide +kernel)), by decide +kernel, by decide +kernel, by decide +kernel⟩
theorem yi_X8_tuck : Cond.instanceMethod yX8_tuck ∈ lw_tbl := in_t3 (List.mem_of_getElem? (i := 144) (by decide +kernel))
theorem ys_X8_tuck : Cond.selects (yX8_tuck).cls yX8_tuck yX8_tuck ∈ lw_tbl := in_t3 (List.mem_of_getElem? (i := 145) (by decide +kernel))
theorem yy_X8_slit : rY m_X8_slit 2 := ⟨in_t3 (List.mem_of_getElem? (i := 150) rfl), in_t1 (List.mem_of_getElem? (i := 1) (by decide +kernel)), by decide +kernel, by decide +kernel, by decide +kernel⟩
theorem yi_X8_slit : Cond.instanceMethod yX8_slit ∈ lw_tbl := in_t3 (List.mem_of_getElem? (i := 148) (by decide +kernel))
theorem ys_X8_slit : Cond.selects (yX8_slit).cls yX8_slit yX8_slit ∈ lw_tbl := in_t3 (List.mem_of_getElem? (i := 149) (by decide +kernel))
theorem yy_X8_lock : rY m_X8_lock 2 := ⟨in_t3 (List.mem_of_getElem? (i := 183) rfl), in_t1 (List.mem_of_getElem? (i := 1) (by decide +kernel)), by decide +kernel, by decide +kernel, by decide +kernel⟩
theorem yi_X8_lock : Cond.instanceMethod yX8_lock ∈ lw_tbl := in_t3 (List.mem_of_getElem? (i := 181) (by decide +kernel))
theorem ys_X8_lock : Cond.selects (yX8_lock).cls yX8_lock yX8_lock ∈ lw_tbl := in_t3 (List.mem_of_getElem? (i := 182) (by decide +kernel))
theorem yy_X8_seal : rY m_X8_seal 1 := ⟨in_t3 (List.mem_of_getElem? (i := 195) rfl), in_t1 (List.mem_of_getElem? (i := 1) (by decide +kernel)), by decide +kernel, by decide +kernel, by decide +kernel⟩
theorem yi_X8_seal : Cond.instanceMethod yX8_seal ∈ lw_tbl := in_t3 (List.mem_of_getElem? (i := 193) (by decide +kernel))
theorem ys_X8_seal : Cond.selects (yX8_seal).cls yX8_seal yX8_seal ∈ lw_tbl := in_t3 (List.mem_of_getElem? (i := 194) (by decide +kernel))
theorem yy_X8_soil : rY m_X8_soil 0 := ⟨in_t3 (List.mem_of_getElem? (i := 203) rfl), in_t1 (List.mem_of_getElem? (i := 1) (by decide +kernel)), by decide +kernel, by decide +kernel, by decide +kernel⟩
theorem yi_X8_soil : Cond.instanceMethod yX8_soil ∈ lw_tbl := in_t3 (List.mem_of_getElem? (i := 201) (by decide +kernel))
theorem ys_X8_soil : Cond.selects (yX8_soil).cls yX8_soil yX8_soil ∈ lw_tbl := in_t3 (List.mem_of_getElem? (i := 202) (by decide +kernel))
theorem yy_X8_undo : rY m_X8_undo 0 := ⟨in_t3 (List.mem_of_getElem? (i := 215) rfl), in_t1 (List.mem_of_getElem? (i := 1) (by decide +kernel)), by decide +kernel, by decide +kernel, by decide +kernel⟩
theorem yi_X8_undo : Cond.instanceMethod yX8_undo ∈ lw_tbl := in_t3 (List.mem_of_getElem? (i := 213) (by decide +kernel))
theorem ys_X8_undo : Cond.selects (yX8_undo).cls yX8_undo yX8_undo ∈ lw_tbl := in_t3 (List.mem_of_getElem? (i := 214) (by decide +kernel))
theorem yy_X8_part : rY m_X8_part 2 := ⟨in_t4 (List.mem_of_getElem? (i := 15) rfl), in_t1 (List.mem_of_getElem? (i := 1) (by decide +kernel)), by decide +kernel, by decide +kernel, by decide +kernel⟩
