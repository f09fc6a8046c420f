/-! methods by name, fields and calls by their places in the pool -/
abbrev m_X0_init : Mth := (yX0_init, cX0_init, 1, none)
theorem mo_X0_init : zMok m_X0_init 0 := ⟨zT_1 (i := 180) rfl rfl, zT_1 (i := 7) rfl rfl, by decide, by decide, by decide +kernel⟩
theorem in_X0_init : Cond.instanceMethod yX0_init ∈ zT := zT_1 (i := 179) rfl rfl
abbrev m_X0_read : Mth := (yX0_read, cX0_read, 3, none)
theorem mo_X0_read : zMok m_X0_read 1 := ⟨zT_3 (i := 165) rfl rfl, zT_1 (i := 7) rfl rfl, by decide, by decide, by decide +kernel⟩
theorem in_X0_read : Cond.instanceMethod yX0_read ∈ zT := zT_3 (i := 163) rfl rfl
theorem se_X0_read : Cond.selects yX0_read.cls yX0_read yX0_read ∈ zT := zT_3 (i := 164) rfl rfl
abbrev m_X0_readPart : Mth := (yX0_readPart, cX0_readPart, 4, none)
theorem mo_X0_readPart : zMok m_X0_readPart 2 := ⟨zT_3 (i := 173) rfl rfl, zT_1 (i := 7) rfl rfl, by decide, by decide, by decide +kernel⟩
theorem in_X0_readPart : Cond.instanceMethod yX0_readPart ∈ zT := zT_3 (i := 172) rfl rfl
theorem se_X0_readPart : Cond.selects yX0_readPart.cls yX0_readPart yX0_readPart ∈ zT := zT_sel (i := 12) rfl rfl
abbrev m_X0_readVertex : Mth := (yX0_readVertex, cX0_readVertex, 1, (some .int))
theorem mo_X0_readVertex : zMok m_X0_readVertex 1 := ⟨zT_3 (i := 184) rfl rfl, zT_1 (i := 7) rfl rfl, by decide, by decide, by decide +kernel⟩
theorem st_X0_readVertex : Cond.static yX0_readVertex ∈ zT := zT_3 (i := 183) rfl rfl
abbrev m_X0_readOther : Mth := (yX0_readOther, cX0_readOther, 4, (some .int))
theorem mo_X0_readOther : zMok m_X0_readOther 2 := ⟨zT_3 (i := 201) rfl rfl, zT_1 (i := 7) rfl rfl, by decide, by decide, by decide +kernel⟩
theorem st_X0_readOther : Cond.static yX0_readOther ∈ zT := zT_3 (i := 200) rfl rfl
abbrev m_X0_readWorth : Mth := (yX0_readWorth, cX0_readWorth, 3, (some .int))
theorem mo_X0_readWorth : zMok m_X0_readWorth 1 := ⟨zT_3 (i := 205) rfl rfl, zT_1 (i := 7) rfl rfl, by decide, by decide, by decide +kernel⟩
theorem st_X0_readWorth : Cond.static yX0_readWorth ∈ zT := zT_3 (i := 204) rfl rfl
abbrev m_X1_init : Mth := (yX1_init, cX1_init, 1, none)
theorem mo_X1_init : zMok m_X1_init 0 := ⟨zT_1 (i := 138) rfl rfl, zT_1 (i := 5) rfl rfl, by decide, by decide, by decide +kernel⟩
theorem in_X1_init : Cond.instanceMethod yX1_init ∈ zT := zT_1 (i := 137) rfl rfl
abbrev m_X1_breakAll : Mth := (yX1_breakAll, cX1_breakAll, 4, none)
theorem mo_X1_breakAll : zMok m_X1_breakAll 1 := ⟨zT_3 (i := 109) rfl rfl, zT_1 (i := 5) rfl rfl, by decide, by decide, by decide +kernel⟩
theorem in_X1_breakAll : Cond.instanceMethod yX1_breakAll ∈ zT := zT_3 (i := 107) rfl rfl
theorem se_X1_breakAll : Cond.selects yX1_breakAll.cls yX1_breakAll yX1_breakAll ∈ zT := zT_3 (i := 108) rfl rfl
abbrev m_X1_mostSupported : Mth := (yX1_mostSupported, cX1_mostSupported, 5, (some .int))
theorem mo_X1_mostSupported : zMok m_X1_mostSupported 0 := ⟨zT_3 (i := 114) rfl rfl, zT_1 (i := 5) rfl rfl, by decide, by decide, by decide +kernel⟩
theorem in_X1_mostSupported : Cond.instanceMethod yX1_mostSupported ∈ zT := zT_3 (i := 113) rfl rfl
theorem se_X1_mostSupported : Cond.selects yX1_mostSupported.cls yX1_mostSupported yX1_mostSupported ∈ zT := zT_sel (i := 11) rfl rfl
abbrev m_X1_fewestOf : Mth := (yX1_fewestOf, cX1_fewestOf, 3, (some .int))
theorem mo_X1_fewestOf : zMok m_X1_fewestOf 1 := ⟨zT_3 (i := 128) rfl rfl, zT_1 (i := 5) rfl rfl, by decide, by decide, by decide +kernel⟩
theorem in_X1_fewestOf : Cond.instanceMethod yX1_fewestOf ∈ zT := zT_3 (i := 126) rfl rfl
theorem se_X1_fewestOf : Cond.selects yX1_fewestOf.cls yX1_fewestOf yX1_fewestOf ∈ zT := zT_3 (i := 127) rfl rfl
abbrev m_X1_breaksWith : Mth := (yX1_breaksWith, cX1_breaksWith, 6, (some .boolean))
theorem mo_X1_breaksWith : zMok m_X1_breaksWith 2 := ⟨zT_3 (i := 131) rfl rfl, zT_1 (i := 5) rfl rfl, by decide, by decide, by decide +kernel⟩
theorem st_X1_breaksWith : Cond.static yX1_breaksWith ∈ zT := zT_3 (i := 130) rfl rfl
abbrev m_X1_breaksWithout : Mth := (yX1_breaksWithout, cX1_breaksWithout, 5, (some .boolean))
theorem mo_X1_breaksWithout : zMok m_X1_breaksWithout 4 := ⟨zT_3 (i := 145) rfl rfl, zT_1 (i := 5) rfl rfl, by decide, by decide, by decide +kernel⟩
theorem st_X1_breaksWithout : Cond.static yX1_breaksWithout ∈ zT := zT_3 (i := 144) rfl rfl
abbrev m_X1_anyTriangle : Mth := (yX1_anyTriangle, cX1_anyTriangle, 5, (some .int))
theorem mo_X1_anyTriangle : zMok m_X1_anyTriangle 1 := ⟨zT_3 (i := 134) rfl rfl, zT_1 (i := 5) rfl rfl, by decide, by decide, by decide +kernel⟩
theorem st_X1_anyTriangle : Cond.static yX1_anyTriangle ∈ zT := zT_3 (i := 133) rfl rfl
abbrev m_X1_flip : Mth := (yX1_flip, cX1_flip, 3, none)
theorem mo_X1_flip : zMok m_X1_flip 3 := ⟨zT_3 (i := 120) rfl rfl, zT_1 (i := 5) rfl rfl, by decide, by decide, by decide +kernel⟩
theorem st_X1_flip : Cond.static yX1_flip ∈ zT := zT_3 (i := 119) rfl rfl
abbrev m_X2_degree : Mth := (yX2_degree, cX2_degree, 2, (some .int))
theorem mo_X2_degree : zMok m_X2_degree 2 := ⟨zT_2 (i := 114) rfl rfl, zT_1 (i := 14) rfl rfl, by decide, by decide, by decide +kernel⟩
theorem st_X2_degree : Cond.static yX2_degree ∈ zT := zT_2 (i := 113) rfl rfl
abbrev m_X2_shared : Mth := (yX2_shared, cX2_shared, 3, (some .int))
theorem mo_X2_shared : zMok m_X2_shared 3 := ⟨zT_2 (i := 133) rfl rfl, zT_1 (i := 14) rfl rfl, by decide, by decide, by decide +kernel⟩
theorem st_X2_shared : Cond.static yX2_shared ∈ zT := zT_2 (i := 132) rfl rfl
abbrev m_X2_trianglesAt : Mth := (yX2_trianglesAt, cX2_trianglesAt, 4, (some .int))
theorem mo_X2_trianglesAt : zMok m_X2_trianglesAt 2 := ⟨zT_2 (i := 160) rfl rfl, zT_1 (i := 14) rfl rfl, by decide, by decide, by decide +kernel⟩
theorem st_X2_trianglesAt : Cond.static yX2_trianglesAt ∈ zT := zT_2 (i := 159) rfl rfl
abbrev m_X2_triangles : Mth := (yX2_triangles, cX2_triangles, 3, (some .int))
theorem mo_X2_triangles : zMok m_X2_triangles 1 := ⟨zT_2 (i := 236) rfl rfl, zT_1 (i := 14) rfl rfl, by decide, by decide, by decide +kernel⟩
theorem st_X2_triangles : Cond.static yX2_triangles ∈ zT := zT_2 (i := 235) rfl rfl
abbrev m_X2_twosAt : Mth := (yX2_twosAt, cX2_twosAt, 3, (some .int))
theorem mo_X2_twosAt : zMok m_X2_twosAt 2 := ⟨zT_3 (i := 16) rfl rfl, zT_1 (i := 14) rfl rfl, by decide, by decide, by decide +kernel⟩
theorem st_X2_twosAt : Cond.static yX2_twosAt ∈ zT := zT_3 (i := 15) rfl rfl
abbrev m_X2_twos : Mth := (yX2_twos, cX2_twos, 3, (some .int))
theorem mo_X2_twos : zMok m_X2_twos 1 := ⟨zT_3 (i := 13) rfl rfl, zT_1 (i := 14) rfl rfl, by decide, by decide, by decide +kernel⟩
theorem st_X2_twos : Cond.static yX2_twos ∈ zT := zT_3 (i := 12) rfl rfl
abbrev m_X2_ringsAt : Mth := (yX2_ringsAt, cX2_ringsAt, 5, (some .int))
theorem mo_X2_ringsAt : zMok m_X2_ringsAt 2 := ⟨zT_2 (i := 176) rfl rfl, zT_1 (i := 14) rfl rfl, by decide, by decide, by decide +kernel⟩
theorem st_X2_ringsAt : Cond.static yX2_ringsAt ∈ zT := zT_2 (i := 175) rfl rfl
abbrev m_X2_rings : Mth := (yX2_rings, cX2_rings, 3, (some .int))
theorem mo_X2_rings : zMok m_X2_rings 1 := ⟨zT_3 (i := 8) rfl rfl, zT_1 (i := 14) rfl rfl, by decide, by decide, by decide +kernel⟩
theorem st_X2_rings : Cond.static yX2_rings ∈ zT := zT_3 (i := 7) rfl rfl
abbrev m_X2_foursOn : Mth := (yX2_foursOn, cX2_foursOn, 7, (some .int))
theorem mo_X2_foursOn : zMok m_X2_foursOn 3 := ⟨zT_2 (i := 182) rfl rfl, zT_1 (i := 14) rfl rfl, by decide, by decide, by decide +kernel⟩
theorem st_X2_foursOn : Cond.static yX2_foursOn ∈ zT := zT_2 (i := 181) rfl rfl
abbrev m_X2_foursAt : Mth := (yX2_foursAt, cX2_foursAt, 4, (some .int))
theorem mo_X2_foursAt : zMok m_X2_foursAt 2 := ⟨zT_2 (i := 179) rfl rfl, zT_1 (i := 14) rfl rfl, by decide, by decide, by decide +kernel⟩
theorem st_X2_foursAt : Cond.static yX2_foursAt ∈ zT := zT_2 (i := 178) rfl rfl
abbrev m_X2_fours : Mth := (yX2_fours, cX2_fours, 3, (some .int))
theorem mo_X2_fours : zMok m_X2_fours 1 := ⟨zT_3 (i := 20) rfl rfl, zT_1 (i := 14) rfl rfl, by decide, by decide, by decide +kernel⟩
theorem st_X2_fours : Cond.static yX2_fours ∈ zT := zT_3 (i := 19) rfl rfl
abbrev m_X2_waysByThree : Mth := (yX2_waysByThree, cX2_waysByThree, 9, (some .int))
theorem mo_X2_waysByThree : zMok m_X2_waysByThree 3 := ⟨zT_2 (i := 191) rfl rfl, zT_1 (i := 14) rfl rfl, by decide, by decide, by decide +kernel⟩
theorem st_X2_waysByThree : Cond.static yX2_waysByThree ∈ zT := zT_2 (i := 190) rfl rfl
abbrev m_X2_far : Mth := (yX2_far, cX2_far, 6, (some .int))
theorem mo_X2_far : zMok m_X2_far 3 := ⟨zT_2 (i := 195) rfl rfl, zT_1 (i := 14) rfl rfl, by decide, by decide, by decide +kernel⟩
theorem st_X2_far : Cond.static yX2_far ∈ zT := zT_2 (i := 194) rfl rfl
abbrev m_X2_nearAny : Mth := (yX2_nearAny, cX2_nearAny, 6, (some .long))
theorem mo_X2_nearAny : zMok m_X2_nearAny 2 := ⟨zT_2 (i := 198) rfl rfl, zT_1 (i := 14) rfl rfl, by decide, by decide, by decide +kernel⟩
theorem st_X2_nearAny : Cond.static yX2_nearAny ∈ zT := zT_2 (i := 197) rfl rfl
abbrev m_X2_nearOnly : Mth := (yX2_nearOnly, cX2_nearOnly, 6, (some .long))
theorem mo_X2_nearOnly : zMok m_X2_nearOnly 2 := ⟨zT_4 (i := 26) rfl rfl, zT_1 (i := 14) rfl rfl, by decide, by decide, by decide +kernel⟩
theorem st_X2_nearOnly : Cond.static yX2_nearOnly ∈ zT := zT_4 (i := 25) rfl rfl
abbrev m_X2_coreWithin : Mth := (yX2_coreWithin, cX2_coreWithin, 10, (some .long))
theorem mo_X2_coreWithin : zMok m_X2_coreWithin 3 := ⟨zT_2 (i := 173) rfl rfl, zT_1 (i := 14) rfl rfl, by decide, by decide, by decide +kernel⟩
theorem st_X2_coreWithin : Cond.static yX2_coreWithin ∈ zT := zT_2 (i := 172) rfl rfl
abbrev m_X2_layCores : Mth := (yX2_layCores, cX2_layCores, 6, none)
theorem mo_X2_layCores : zMok m_X2_layCores 2 := ⟨zT_2 (i := 166) rfl rfl, zT_1 (i := 14) rfl rfl, by decide, by decide, by decide +kernel⟩
theorem st_X2_layCores : Cond.static yX2_layCores ∈ zT := zT_2 (i := 165) rfl rfl
abbrev m_X2_layFigures : Mth := (yX2_layFigures, cX2_layFigures, 4, none)
theorem mo_X2_layFigures : zMok m_X2_layFigures 3 := ⟨zT_3 (i := 230) rfl rfl, zT_1 (i := 14) rfl rfl, by decide, by decide, by decide +kernel⟩
theorem st_X2_layFigures : Cond.static yX2_layFigures ∈ zT := zT_3 (i := 229) rfl rfl
abbrev m_X3_init : Mth := (yX3_init, cX3_init, 1, none)
theorem mo_X3_init : zMok m_X3_init 0 := ⟨zT_1 (i := 31) rfl rfl, zT_1 (i := 2) rfl rfl, by decide, by decide, by decide +kernel⟩
theorem in_X3_init : Cond.instanceMethod yX3_init ∈ zT := zT_1 (i := 30) rfl rfl
abbrev m_X3_joins : Mth := (yX3_joins, cX3_joins, 3, (some .boolean))
theorem mo_X3_joins : zMok m_X3_joins 2 := ⟨zT_2 (i := 76) rfl rfl, zT_1 (i := 2) rfl rfl, by decide, by decide, by decide +kernel⟩
theorem in_X3_joins : Cond.instanceMethod yX3_joins ∈ zT := zT_2 (i := 74) rfl rfl
theorem se_X3_joins : Cond.selects yX3_joins.cls yX3_joins yX3_joins ∈ zT := zT_2 (i := 75) rfl rfl
abbrev m_X3_isHeavy : Mth := (yX3_isHeavy, cX3_isHeavy, 2, (some .boolean))
theorem mo_X3_isHeavy : zMok m_X3_isHeavy 1 := ⟨zT_2 (i := 129) rfl rfl, zT_1 (i := 2) rfl rfl, by decide, by decide, by decide +kernel⟩
theorem in_X3_isHeavy : Cond.instanceMethod yX3_isHeavy ∈ zT := zT_2 (i := 127) rfl rfl
theorem se_X3_isHeavy : Cond.selects yX3_isHeavy.cls yX3_isHeavy yX3_isHeavy ∈ zT := zT_2 (i := 128) rfl rfl
abbrev m_X3_bound : Mth := (yX3_bound, cX3_bound, 2, (some .int))
theorem mo_X3_bound : zMok m_X3_bound 0 := ⟨zT_2 (i := 111) rfl rfl, zT_1 (i := 2) rfl rfl, by decide, by decide, by decide +kernel⟩
theorem in_X3_bound : Cond.instanceMethod yX3_bound ∈ zT := zT_2 (i := 109) rfl rfl
theorem se_X3_bound : Cond.selects yX3_bound.cls yX3_bound yX3_bound ∈ zT := zT_2 (i := 110) rfl rfl
abbrev m_X3_bring : Mth := (yX3_bring, cX3_bring, 4, none)
theorem mo_X3_bring : zMok m_X3_bring 3 := ⟨zT_2 (i := 83) rfl rfl, zT_1 (i := 2) rfl rfl, by decide, by decide, by decide +kernel⟩
theorem in_X3_bring : Cond.instanceMethod yX3_bring ∈ zT := zT_2 (i := 81) rfl rfl
theorem se_X3_bring : Cond.selects yX3_bring.cls yX3_bring yX3_bring ∈ zT := zT_2 (i := 82) rfl rfl
abbrev m_X3_drop : Mth := (yX3_drop, cX3_drop, 3, none)
theorem mo_X3_drop : zMok m_X3_drop 2 := ⟨zT_2 (i := 141) rfl rfl, zT_1 (i := 2) rfl rfl, by decide, by decide, by decide +kernel⟩
theorem in_X3_drop : Cond.instanceMethod yX3_drop ∈ zT := zT_2 (i := 139) rfl rfl
theorem se_X3_drop : Cond.selects yX3_drop.cls yX3_drop yX3_drop ∈ zT := zT_2 (i := 140) rfl rfl
abbrev m_X3_takeBack : Mth := (yX3_takeBack, cX3_takeBack, 5, (some .int))
theorem mo_X3_takeBack : zMok m_X3_takeBack 1 := ⟨zT_4 (i := 76) rfl rfl, zT_1 (i := 2) rfl rfl, by decide, by decide, by decide +kernel⟩
theorem in_X3_takeBack : Cond.instanceMethod yX3_takeBack ∈ zT := zT_4 (i := 74) rfl rfl
theorem se_X3_takeBack : Cond.selects yX3_takeBack.cls yX3_takeBack yX3_takeBack ∈ zT := zT_4 (i := 75) rfl rfl
abbrev m_X3_become : Mth := (yX3_become, cX3_become, 2, none)
theorem mo_X3_become : zMok m_X3_become 1 := ⟨zT_4 (i := 146) rfl rfl, zT_1 (i := 2) rfl rfl, by decide, by decide, by decide +kernel⟩
theorem in_X3_become : Cond.instanceMethod yX3_become ∈ zT := zT_4 (i := 144) rfl rfl
theorem se_X3_become : Cond.selects yX3_become.cls yX3_become yX3_become ∈ zT := zT_4 (i := 145) rfl rfl
abbrev m_X3_come : Mth := (yX3_come, cX3_come, 4, none)
theorem mo_X3_come : zMok m_X3_come 3 := ⟨zT_2 (i := 94) rfl rfl, zT_1 (i := 2) rfl rfl, by decide, by decide, by decide +kernel⟩
theorem in_X3_come : Cond.instanceMethod yX3_come ∈ zT := zT_2 (i := 93) rfl rfl
theorem se_X3_come : Cond.selects yX3_come.cls yX3_come yX3_come ∈ zT := zT_sel (i := 0) rfl rfl
abbrev m_X3_go : Mth := (yX3_go, cX3_go, 3, none)
theorem mo_X3_go : zMok m_X3_go 2 := ⟨zT_2 (i := 145) rfl rfl, zT_1 (i := 2) rfl rfl, by decide, by decide, by decide +kernel⟩
theorem in_X3_go : Cond.instanceMethod yX3_go ∈ zT := zT_2 (i := 144) rfl rfl
theorem se_X3_go : Cond.selects yX3_go.cls yX3_go yX3_go ∈ zT := zT_sel (i := 3) rfl rfl
abbrev m_X3_rebase : Mth := (yX3_rebase, cX3_rebase, 4, none)
theorem mo_X3_rebase : zMok m_X3_rebase 1 := ⟨zT_2 (i := 107) rfl rfl, zT_1 (i := 2) rfl rfl, by decide, by decide, by decide +kernel⟩
theorem in_X3_rebase : Cond.instanceMethod yX3_rebase ∈ zT := zT_2 (i := 106) rfl rfl
theorem se_X3_rebase : Cond.selects yX3_rebase.cls yX3_rebase yX3_rebase ∈ zT := zT_sel (i := 1) rfl rfl
abbrev m_X3_lookAt : Mth := (yX3_lookAt, cX3_lookAt, 5, none)
theorem mo_X3_lookAt : zMok m_X3_lookAt 1 := ⟨zT_2 (i := 125) rfl rfl, zT_1 (i := 2) rfl rfl, by decide, by decide, by decide +kernel⟩
theorem in_X3_lookAt : Cond.instanceMethod yX3_lookAt ∈ zT := zT_2 (i := 124) rfl rfl
theorem se_X3_lookAt : Cond.selects yX3_lookAt.cls yX3_lookAt yX3_lookAt ∈ zT := zT_sel (i := 2) rfl rfl
abbrev m_X4_init : Mth := (yX4_init, cX4_init, 1, none)
theorem mo_X4_init : zMok m_X4_init 0 := ⟨zT_1 (i := 232) rfl rfl, zT_1 (i := 9) rfl rfl, by decide, by decide, by decide +kernel⟩
theorem in_X4_init : Cond.instanceMethod yX4_init ∈ zT := zT_1 (i := 231) rfl rfl
abbrev m_X4_writeEdge : Mth := (yX4_writeEdge, cX4_writeEdge, 4, none)
theorem mo_X4_writeEdge : zMok m_X4_writeEdge 3 := ⟨zT_4 (i := 40) rfl rfl, zT_1 (i := 9) rfl rfl, by decide, by decide, by decide +kernel⟩
theorem in_X4_writeEdge : Cond.instanceMethod yX4_writeEdge ∈ zT := zT_4 (i := 38) rfl rfl
theorem se_X4_writeEdge : Cond.selects yX4_writeEdge.cls yX4_writeEdge yX4_writeEdge ∈ zT := zT_4 (i := 39) rfl rfl
abbrev m_X4_writeNumber : Mth := (yX4_writeNumber, cX4_writeNumber, 4, none)
theorem mo_X4_writeNumber : zMok m_X4_writeNumber 1 := ⟨zT_4 (i := 60) rfl rfl, zT_1 (i := 9) rfl rfl, by decide, by decide, by decide +kernel⟩
theorem in_X4_writeNumber : Cond.instanceMethod yX4_writeNumber ∈ zT := zT_4 (i := 59) rfl rfl
theorem se_X4_writeNumber : Cond.selects yX4_writeNumber.cls yX4_writeNumber yX4_writeNumber ∈ zT := zT_sel (i := 20) rfl rfl
abbrev m_X4_write : Mth := (yX4_write, cX4_write, 2, none)
theorem mo_X4_write : zMok m_X4_write 1 := ⟨zT_4 (i := 44) rfl rfl, zT_1 (i := 9) rfl rfl, by decide, by decide, by decide +kernel⟩
theorem in_X4_write : Cond.instanceMethod yX4_write ∈ zT := zT_4 (i := 43) rfl rfl
theorem se_X4_write : Cond.selects yX4_write.cls yX4_write yX4_write ∈ zT := zT_sel (i := 19) rfl rfl
abbrev m_X5_init : Mth := (yX5_init, cX5_init, 1, none)
theorem mo_X5_init : zMok m_X5_init 0 := ⟨zT_1 (i := 37) rfl rfl, zT_1 (i := 3) rfl rfl, by decide, by decide, by decide +kernel⟩
theorem in_X5_init : Cond.instanceMethod yX5_init ∈ zT := zT_1 (i := 36) rfl rfl
abbrev m_X5_keep : Mth := (yX5_keep, cX5_keep, 6, none)
theorem mo_X5_keep : zMok m_X5_keep 4 := ⟨zT_2 (i := 87) rfl rfl, zT_1 (i := 3) rfl rfl, by decide, by decide, by decide +kernel⟩
theorem in_X5_keep : Cond.instanceMethod yX5_keep ∈ zT := zT_2 (i := 85) rfl rfl
theorem se_X5_keep : Cond.selects yX5_keep.cls yX5_keep yX5_keep ∈ zT := zT_2 (i := 86) rfl rfl
abbrev m_X5_hadCome : Mth := (yX5_hadCome, cX5_hadCome, 2, (some .boolean))
theorem mo_X5_hadCome : zMok m_X5_hadCome 1 := ⟨zT_4 (i := 88) rfl rfl, zT_1 (i := 3) rfl rfl, by decide, by decide, by decide +kernel⟩
theorem in_X5_hadCome : Cond.instanceMethod yX5_hadCome ∈ zT := zT_4 (i := 86) rfl rfl
theorem se_X5_hadCome : Cond.selects yX5_hadCome.cls yX5_hadCome yX5_hadCome ∈ zT := zT_4 (i := 87) rfl rfl
abbrev m_X5_firstOf : Mth := (yX5_firstOf, cX5_firstOf, 2, (some .int))
theorem mo_X5_firstOf : zMok m_X5_firstOf 1 := ⟨zT_4 (i := 80) rfl rfl, zT_1 (i := 3) rfl rfl, by decide, by decide, by decide +kernel⟩
theorem in_X5_firstOf : Cond.instanceMethod yX5_firstOf ∈ zT := zT_4 (i := 78) rfl rfl
theorem se_X5_firstOf : Cond.selects yX5_firstOf.cls yX5_firstOf yX5_firstOf ∈ zT := zT_4 (i := 79) rfl rfl
abbrev m_X5_secondOf : Mth := (yX5_secondOf, cX5_secondOf, 2, (some .int))
theorem mo_X5_secondOf : zMok m_X5_secondOf 1 := ⟨zT_4 (i := 84) rfl rfl, zT_1 (i := 3) rfl rfl, by decide, by decide, by decide +kernel⟩
theorem in_X5_secondOf : Cond.instanceMethod yX5_secondOf ∈ zT := zT_4 (i := 82) rfl rfl
theorem se_X5_secondOf : Cond.selects yX5_secondOf.cls yX5_secondOf yX5_secondOf ∈ zT := zT_4 (i := 83) rfl rfl
abbrev m_X5_worthOf : Mth := (yX5_worthOf, cX5_worthOf, 2, (some .int))
theorem mo_X5_worthOf : zMok m_X5_worthOf 1 := ⟨zT_4 (i := 92) rfl rfl, zT_1 (i := 3) rfl rfl, by decide, by decide, by decide +kernel⟩
theorem in_X5_worthOf : Cond.instanceMethod yX5_worthOf ∈ zT := zT_4 (i := 90) rfl rfl
theorem se_X5_worthOf : Cond.selects yX5_worthOf.cls yX5_worthOf yX5_worthOf ∈ zT := zT_4 (i := 91) rfl rfl
abbrev m_X5_become : Mth := (yX5_become, cX5_become, 2, none)
theorem mo_X5_become : zMok m_X5_become 1 := ⟨zT_4 (i := 151) rfl rfl, zT_1 (i := 3) rfl rfl, by decide, by decide, by decide +kernel⟩
theorem in_X5_become : Cond.instanceMethod yX5_become ∈ zT := zT_4 (i := 149) rfl rfl
theorem se_X5_become : Cond.selects yX5_become.cls yX5_become yX5_become ∈ zT := zT_4 (i := 150) rfl rfl
abbrev m_X6_init : Mth := (yX6_init, cX6_init, 1, none)
theorem mo_X6_init : zMok m_X6_init 0 := ⟨zT_1 (i := 100) rfl rfl, zT_1 (i := 4) rfl rfl, by decide, by decide, by decide +kernel⟩
theorem in_X6_init : Cond.instanceMethod yX6_init ∈ zT := zT_1 (i := 99) rfl rfl
abbrev m_X6_follow : Mth := (yX6_follow, cX6_follow, 4, none)
theorem mo_X6_follow : zMok m_X6_follow 1 := ⟨zT_2 (i := 206) rfl rfl, zT_1 (i := 4) rfl rfl, by decide, by decide, by decide +kernel⟩
theorem in_X6_follow : Cond.instanceMethod yX6_follow ∈ zT := zT_2 (i := 204) rfl rfl
theorem se_X6_follow : Cond.selects yX6_follow.cls yX6_follow yX6_follow ∈ zT := zT_2 (i := 205) rfl rfl
abbrev m_X6_gather : Mth := (yX6_gather, cX6_gather, 4, none)
theorem mo_X6_gather : zMok m_X6_gather 0 := ⟨zT_2 (i := 211) rfl rfl, zT_1 (i := 4) rfl rfl, by decide, by decide, by decide +kernel⟩
theorem in_X6_gather : Cond.instanceMethod yX6_gather ∈ zT := zT_2 (i := 210) rfl rfl
theorem se_X6_gather : Cond.selects yX6_gather.cls yX6_gather yX6_gather ∈ zT := zT_sel (i := 4) rfl rfl
abbrev m_X6_peel : Mth := (yX6_peel, cX6_peel, 5, none)
theorem mo_X6_peel : zMok m_X6_peel 0 := ⟨zT_2 (i := 218) rfl rfl, zT_1 (i := 4) rfl rfl, by decide, by decide, by decide +kernel⟩
theorem in_X6_peel : Cond.instanceMethod yX6_peel ∈ zT := zT_2 (i := 217) rfl rfl
theorem se_X6_peel : Cond.selects yX6_peel.cls yX6_peel yX6_peel ∈ zT := zT_sel (i := 5) rfl rfl
abbrev m_X6_leastFrom : Mth := (yX6_leastFrom, cX6_leastFrom, 5, (some .int))
theorem mo_X6_leastFrom : zMok m_X6_leastFrom 1 := ⟨zT_2 (i := 222) rfl rfl, zT_1 (i := 4) rfl rfl, by decide, by decide, by decide +kernel⟩
theorem in_X6_leastFrom : Cond.instanceMethod yX6_leastFrom ∈ zT := zT_2 (i := 221) rfl rfl
theorem se_X6_leastFrom : Cond.selects yX6_leastFrom.cls yX6_leastFrom yX6_leastFrom ∈ zT := zT_sel (i := 6) rfl rfl
abbrev m_X6_takeAway : Mth := (yX6_takeAway, cX6_takeAway, 6, none)
theorem mo_X6_takeAway : zMok m_X6_takeAway 2 := ⟨zT_2 (i := 227) rfl rfl, zT_1 (i := 4) rfl rfl, by decide, by decide, by decide +kernel⟩
theorem in_X6_takeAway : Cond.instanceMethod yX6_takeAway ∈ zT := zT_2 (i := 226) rfl rfl
theorem se_X6_takeAway : Cond.selects yX6_takeAway.cls yX6_takeAway yX6_takeAway ∈ zT := zT_sel (i := 7) rfl rfl
abbrev m_X6_edgesFrom : Mth := (yX6_edgesFrom, cX6_edgesFrom, 4, (some .int))
theorem mo_X6_edgesFrom : zMok m_X6_edgesFrom 1 := ⟨zT_3 (i := 29) rfl rfl, zT_1 (i := 4) rfl rfl, by decide, by decide, by decide +kernel⟩
theorem in_X6_edgesFrom : Cond.instanceMethod yX6_edgesFrom ∈ zT := zT_3 (i := 27) rfl rfl
theorem se_X6_edgesFrom : Cond.selects yX6_edgesFrom.cls yX6_edgesFrom yX6_edgesFrom ∈ zT := zT_3 (i := 28) rfl rfl
abbrev m_X6_piecesFrom : Mth := (yX6_piecesFrom, cX6_piecesFrom, 6, (some .int))
theorem mo_X6_piecesFrom : zMok m_X6_piecesFrom 1 := ⟨zT_3 (i := 37) rfl rfl, zT_1 (i := 4) rfl rfl, by decide, by decide, by decide +kernel⟩
theorem in_X6_piecesFrom : Cond.instanceMethod yX6_piecesFrom ∈ zT := zT_3 (i := 35) rfl rfl
theorem se_X6_piecesFrom : Cond.selects yX6_piecesFrom.cls yX6_piecesFrom yX6_piecesFrom ∈ zT := zT_3 (i := 36) rfl rfl
abbrev m_X6_pieceOf : Mth := (yX6_pieceOf, cX6_pieceOf, 7, (some .long))
theorem mo_X6_pieceOf : zMok m_X6_pieceOf 1 := ⟨zT_3 (i := 44) rfl rfl, zT_1 (i := 4) rfl rfl, by decide, by decide, by decide +kernel⟩
theorem in_X6_pieceOf : Cond.instanceMethod yX6_pieceOf ∈ zT := zT_3 (i := 43) rfl rfl
theorem se_X6_pieceOf : Cond.selects yX6_pieceOf.cls yX6_pieceOf yX6_pieceOf ∈ zT := zT_sel (i := 8) rfl rfl
abbrev m_X6_hoodOf : Mth := (yX6_hoodOf, cX6_hoodOf, 3, (some .int))
theorem mo_X6_hoodOf : zMok m_X6_hoodOf 2 := ⟨zT_3 (i := 53) rfl rfl, zT_1 (i := 4) rfl rfl, by decide, by decide, by decide +kernel⟩
theorem in_X6_hoodOf : Cond.instanceMethod yX6_hoodOf ∈ zT := zT_3 (i := 51) rfl rfl
theorem se_X6_hoodOf : Cond.selects yX6_hoodOf.cls yX6_hoodOf yX6_hoodOf ∈ zT := zT_3 (i := 52) rfl rfl
abbrev m_X6_hoodsFrom : Mth := (yX6_hoodsFrom, cX6_hoodsFrom, 4, (some .int))
theorem mo_X6_hoodsFrom : zMok m_X6_hoodsFrom 1 := ⟨zT_3 (i := 70) rfl rfl, zT_1 (i := 4) rfl rfl, by decide, by decide, by decide +kernel⟩
theorem in_X6_hoodsFrom : Cond.instanceMethod yX6_hoodsFrom ∈ zT := zT_3 (i := 68) rfl rfl
theorem se_X6_hoodsFrom : Cond.selects yX6_hoodsFrom.cls yX6_hoodsFrom yX6_hoodsFrom ∈ zT := zT_3 (i := 69) rfl rfl
abbrev m_X6_walkFrom : Mth := (yX6_walkFrom, cX6_walkFrom, 10, (some .int))
theorem mo_X6_walkFrom : zMok m_X6_walkFrom 2 := ⟨zT_3 (i := 58) rfl rfl, zT_1 (i := 4) rfl rfl, by decide, by decide, by decide +kernel⟩
theorem in_X6_walkFrom : Cond.instanceMethod yX6_walkFrom ∈ zT := zT_3 (i := 57) rfl rfl
theorem se_X6_walkFrom : Cond.selects yX6_walkFrom.cls yX6_walkFrom yX6_walkFrom ∈ zT := zT_sel (i := 9) rfl rfl
abbrev m_X6_meet : Mth := (yX6_meet, cX6_meet, 3, (some .int))
theorem mo_X6_meet : zMok m_X6_meet 2 := ⟨zT_3 (i := 62) rfl rfl, zT_1 (i := 4) rfl rfl, by decide, by decide, by decide +kernel⟩
theorem in_X6_meet : Cond.instanceMethod yX6_meet ∈ zT := zT_3 (i := 61) rfl rfl
theorem se_X6_meet : Cond.selects yX6_meet.cls yX6_meet yX6_meet ∈ zT := zT_sel (i := 10) rfl rfl
abbrev m_X7_init : Mth := (yX7_init, cX7_init, 1, none)
theorem mo_X7_init : zMok m_X7_init 0 := ⟨zT_1 (i := 207) rfl rfl, zT_1 (i := 8) rfl rfl, by decide, by decide, by decide +kernel⟩
theorem in_X7_init : Cond.instanceMethod yX7_init ∈ zT := zT_1 (i := 206) rfl rfl
abbrev m_X7_read : Mth := (yX7_read, cX7_read, 5, (some .long))
theorem mo_X7_read : zMok m_X7_read 2 := ⟨zT_3 (i := 226) rfl rfl, zT_1 (i := 8) rfl rfl, by decide, by decide, by decide +kernel⟩
theorem in_X7_read : Cond.instanceMethod yX7_read ∈ zT := zT_3 (i := 224) rfl rfl
theorem se_X7_read : Cond.selects yX7_read.cls yX7_read yX7_read ∈ zT := zT_3 (i := 225) rfl rfl
abbrev m_X7_either : Mth := (yX7_either, cX7_either, 6, (some .long))
theorem mo_X7_either : zMok m_X7_either 2 := ⟨zT_3 (i := 237) rfl rfl, zT_1 (i := 8) rfl rfl, by decide, by decide, by decide +kernel⟩
theorem in_X7_either : Cond.instanceMethod yX7_either ∈ zT := zT_3 (i := 236) rfl rfl
theorem se_X7_either : Cond.selects yX7_either.cls yX7_either yX7_either ∈ zT := zT_sel (i := 14) rfl rfl
abbrev m_X7_both : Mth := (yX7_both, cX7_both, 6, (some .long))
theorem mo_X7_both : zMok m_X7_both 2 := ⟨zT_4 (i := 1) rfl rfl, zT_1 (i := 8) rfl rfl, by decide, by decide, by decide +kernel⟩
theorem in_X7_both : Cond.instanceMethod yX7_both ∈ zT := zT_4 (i := 0) rfl rfl
theorem se_X7_both : Cond.selects yX7_both.cls yX7_both yX7_both ∈ zT := zT_sel (i := 15) rfl rfl
abbrev m_X7_single : Mth := (yX7_single, cX7_single, 6, (some .long))
theorem mo_X7_single : zMok m_X7_single 2 := ⟨zT_4 (i := 5) rfl rfl, zT_1 (i := 8) rfl rfl, by decide, by decide, by decide +kernel⟩
theorem in_X7_single : Cond.instanceMethod yX7_single ∈ zT := zT_4 (i := 4) rfl rfl
theorem se_X7_single : Cond.selects yX7_single.cls yX7_single yX7_single ∈ zT := zT_sel (i := 16) rfl rfl
abbrev m_X7_test : Mth := (yX7_test, cX7_test, 8, (some .long))
theorem mo_X7_test : zMok m_X7_test 1 := ⟨zT_4 (i := 10) rfl rfl, zT_1 (i := 8) rfl rfl, by decide, by decide, by decide +kernel⟩
theorem in_X7_test : Cond.instanceMethod yX7_test ∈ zT := zT_4 (i := 9) rfl rfl
theorem se_X7_test : Cond.selects yX7_test.cls yX7_test yX7_test ∈ zT := zT_sel (i := 17) rfl rfl
abbrev m_X7_figuresOf : Mth := (yX7_figuresOf, cX7_figuresOf, 2, (some (.array .int)))
theorem mo_X7_figuresOf : zMok m_X7_figuresOf 1 := ⟨zT_4 (i := 14) rfl rfl, zT_1 (i := 8) rfl rfl, by decide, by decide, by decide +kernel⟩
theorem in_X7_figuresOf : Cond.instanceMethod yX7_figuresOf ∈ zT := zT_4 (i := 13) rfl rfl
theorem se_X7_figuresOf : Cond.selects yX7_figuresOf.cls yX7_figuresOf yX7_figuresOf ∈ zT := zT_sel (i := 18) rfl rfl
abbrev m_X7_holds : Mth := (yX7_holds, cX7_holds, 3, (some .boolean))
theorem mo_X7_holds : zMok m_X7_holds 3 := ⟨zT_4 (i := 19) rfl rfl, zT_1 (i := 8) rfl rfl, by decide, by decide, by decide +kernel⟩
theorem st_X7_holds : Cond.static yX7_holds ∈ zT := zT_4 (i := 18) rfl rfl
abbrev m_X8_init : Mth := (yX8_init, cX8_init, 2, none)
theorem mo_X8_init : zMok m_X8_init 1 := ⟨zT_2 (i := 8) rfl rfl, zT_1 (i := 10) rfl rfl, by decide, by decide, by decide +kernel⟩
theorem in_X8_init : Cond.instanceMethod yX8_init ∈ zT := zT_2 (i := 7) rfl rfl
abbrev m_X8_begin : Mth := (yX8_begin, cX8_begin, 2, none)
theorem mo_X8_begin : zMok m_X8_begin 1 := ⟨zT_4 (i := 104) rfl rfl, zT_1 (i := 10) rfl rfl, by decide, by decide, by decide +kernel⟩
theorem in_X8_begin : Cond.instanceMethod yX8_begin ∈ zT := zT_4 (i := 102) rfl rfl
theorem se_X8_begin : Cond.selects yX8_begin.cls yX8_begin yX8_begin ∈ zT := zT_4 (i := 103) rfl rfl
abbrev m_X8_placesFrom : Mth := (yX8_placesFrom, cX8_placesFrom, 2, (some .int))
theorem mo_X8_placesFrom : zMok m_X8_placesFrom 1 := ⟨zT_4 (i := 113) rfl rfl, zT_1 (i := 10) rfl rfl, by decide, by decide, by decide +kernel⟩
theorem in_X8_placesFrom : Cond.instanceMethod yX8_placesFrom ∈ zT := zT_4 (i := 111) rfl rfl
theorem se_X8_placesFrom : Cond.selects yX8_placesFrom.cls yX8_placesFrom yX8_placesFrom ∈ zT := zT_4 (i := 112) rfl rfl
abbrev m_X8_put : Mth := (yX8_put, cX8_put, 4, none)
theorem mo_X8_put : zMok m_X8_put 2 := ⟨zT_4 (i := 117) rfl rfl, zT_1 (i := 10) rfl rfl, by decide, by decide, by decide +kernel⟩
theorem in_X8_put : Cond.instanceMethod yX8_put ∈ zT := zT_4 (i := 115) rfl rfl
theorem se_X8_put : Cond.selects yX8_put.cls yX8_put yX8_put ∈ zT := zT_4 (i := 116) rfl rfl
abbrev m_X9_init : Mth := (yX9_init, cX9_init, 1, none)
theorem mo_X9_init : zMok m_X9_init 0 := ⟨zT_1 (i := 156) rfl rfl, zT_1 (i := 6) rfl rfl, by decide, by decide, by decide +kernel⟩
theorem in_X9_init : Cond.instanceMethod yX9_init ∈ zT := zT_1 (i := 155) rfl rfl
abbrev m_X9_append : Mth := (yX9_append, cX9_append, 2, none)
theorem mo_X9_append : zMok m_X9_append 1 := ⟨zT_3 (i := 153) rfl rfl, zT_1 (i := 6) rfl rfl, by decide, by decide, by decide +kernel⟩
theorem in_X9_append : Cond.instanceMethod yX9_append ∈ zT := zT_3 (i := 151) rfl rfl
theorem se_X9_append : Cond.selects yX9_append.cls yX9_append yX9_append ∈ zT := zT_3 (i := 152) rfl rfl
abbrev m_X9_rewind : Mth := (yX9_rewind, cX9_rewind, 1, none)
theorem mo_X9_rewind : zMok m_X9_rewind 0 := ⟨zT_3 (i := 169) rfl rfl, zT_1 (i := 6) rfl rfl, by decide, by decide, by decide +kernel⟩
theorem in_X9_rewind : Cond.instanceMethod yX9_rewind ∈ zT := zT_3 (i := 167) rfl rfl
theorem se_X9_rewind : Cond.selects yX9_rewind.cls yX9_rewind yX9_rewind ∈ zT := zT_3 (i := 168) rfl rfl
abbrev m_X9_hasFault : Mth := (yX9_hasFault, cX9_hasFault, 1, (some .boolean))
theorem mo_X9_hasFault : zMok m_X9_hasFault 0 := ⟨zT_3 (i := 214) rfl rfl, zT_1 (i := 6) rfl rfl, by decide, by decide, by decide +kernel⟩
theorem in_X9_hasFault : Cond.instanceMethod yX9_hasFault ∈ zT := zT_3 (i := 212) rfl rfl
theorem se_X9_hasFault : Cond.selects yX9_hasFault.cls yX9_hasFault yX9_hasFault ∈ zT := zT_3 (i := 213) rfl rfl
abbrev m_X9_fail : Mth := (yX9_fail, cX9_fail, 2, none)
theorem mo_X9_fail : zMok m_X9_fail 1 := ⟨zT_3 (i := 181) rfl rfl, zT_1 (i := 6) rfl rfl, by decide, by decide, by decide +kernel⟩
theorem in_X9_fail : Cond.instanceMethod yX9_fail ∈ zT := zT_3 (i := 179) rfl rfl
theorem se_X9_fail : Cond.selects yX9_fail.cls yX9_fail yX9_fail ∈ zT := zT_3 (i := 180) rfl rfl
abbrev m_X9_next : Mth := (yX9_next, cX9_next, 1, (some .int))
theorem mo_X9_next : zMok m_X9_next 0 := ⟨zT_3 (i := 177) rfl rfl, zT_1 (i := 6) rfl rfl, by decide, by decide, by decide +kernel⟩
theorem in_X9_next : Cond.instanceMethod yX9_next ∈ zT := zT_3 (i := 175) rfl rfl
theorem se_X9_next : Cond.selects yX9_next.cls yX9_next yX9_next ∈ zT := zT_3 (i := 176) rfl rfl
abbrev m_X9_takes : Mth := (yX9_takes, cX9_takes, 3, (some .boolean))
theorem mo_X9_takes : zMok m_X9_takes 1 := ⟨zT_3 (i := 198) rfl rfl, zT_1 (i := 6) rfl rfl, by decide, by decide, by decide +kernel⟩
theorem in_X9_takes : Cond.instanceMethod yX9_takes ∈ zT := zT_3 (i := 196) rfl rfl
theorem se_X9_takes : Cond.selects yX9_takes.cls yX9_takes yX9_takes ∈ zT := zT_3 (i := 197) rfl rfl
abbrev m_X9_need : Mth := (yX9_need, cX9_need, 2, none)
theorem mo_X9_need : zMok m_X9_need 1 := ⟨zT_3 (i := 194) rfl rfl, zT_1 (i := 6) rfl rfl, by decide, by decide, by decide +kernel⟩
theorem in_X9_need : Cond.instanceMethod yX9_need ∈ zT := zT_3 (i := 192) rfl rfl
theorem se_X9_need : Cond.selects yX9_need.cls yX9_need yX9_need ∈ zT := zT_3 (i := 193) rfl rfl
abbrev m_X9_needEnd : Mth := (yX9_needEnd, cX9_needEnd, 1, none)
theorem mo_X9_needEnd : zMok m_X9_needEnd 0 := ⟨zT_3 (i := 210) rfl rfl, zT_1 (i := 6) rfl rfl, by decide, by decide, by decide +kernel⟩
theorem in_X9_needEnd : Cond.instanceMethod yX9_needEnd ∈ zT := zT_3 (i := 208) rfl rfl
theorem se_X9_needEnd : Cond.selects yX9_needEnd.cls yX9_needEnd yX9_needEnd ∈ zT := zT_3 (i := 209) rfl rfl
abbrev m_X9_number : Mth := (yX9_number, cX9_number, 7, (some .int))
theorem mo_X9_number : zMok m_X9_number 2 := ⟨zT_3 (i := 188) rfl rfl, zT_1 (i := 6) rfl rfl, by decide, by decide, by decide +kernel⟩
theorem in_X9_number : Cond.instanceMethod yX9_number ∈ zT := zT_3 (i := 186) rfl rfl
theorem se_X9_number : Cond.selects yX9_number.cls yX9_number yX9_number ∈ zT := zT_3 (i := 187) rfl rfl
abbrev m_X10_init : Mth := (yX10_init, cX10_init, 2, none)
theorem mo_X10_init : zMok m_X10_init 0 := ⟨zT_1 (i := 23) rfl rfl, zT_1 (i := 1) rfl rfl, by decide, by decide, by decide +kernel⟩
theorem in_X10_init : Cond.instanceMethod yX10_init ∈ zT := zT_1 (i := 22) rfl rfl
abbrev m_X10_add : Mth := (yX10_add, cX10_add, 4, (some .int))
theorem mo_X10_add : zMok m_X10_add 3 := ⟨zT_2 (i := 64) rfl rfl, zT_1 (i := 1) rfl rfl, by decide, by decide, by decide +kernel⟩
theorem in_X10_add : Cond.instanceMethod yX10_add ∈ zT := zT_2 (i := 62) rfl rfl
theorem se_X10_add : Cond.selects yX10_add.cls yX10_add yX10_add ∈ zT := zT_2 (i := 63) rfl rfl
abbrev m_X10_cut : Mth := (yX10_cut, cX10_cut, 3, (some .int))
theorem mo_X10_cut : zMok m_X10_cut 2 := ⟨zT_2 (i := 137) rfl rfl, zT_1 (i := 1) rfl rfl, by decide, by decide, by decide +kernel⟩
theorem in_X10_cut : Cond.instanceMethod yX10_cut ∈ zT := zT_2 (i := 135) rfl rfl
theorem se_X10_cut : Cond.selects yX10_cut.cls yX10_cut yX10_cut ∈ zT := zT_2 (i := 136) rfl rfl
abbrev m_X10_worth : Mth := (yX10_worth, cX10_worth, 3, (some .long))
theorem mo_X10_worth : zMok m_X10_worth 2 := ⟨zT_2 (i := 150) rfl rfl, zT_1 (i := 1) rfl rfl, by decide, by decide, by decide +kernel⟩
theorem in_X10_worth : Cond.instanceMethod yX10_worth ∈ zT := zT_2 (i := 148) rfl rfl
theorem se_X10_worth : Cond.selects yX10_worth.cls yX10_worth yX10_worth ∈ zT := zT_2 (i := 149) rfl rfl
abbrev m_X10_of : Mth := (yX10_of, cX10_of, 3, (some .int))
theorem mo_X10_of : zMok m_X10_of 2 := ⟨zT_2 (i := 156) rfl rfl, zT_1 (i := 1) rfl rfl, by decide, by decide, by decide +kernel⟩
theorem in_X10_of : Cond.instanceMethod yX10_of ∈ zT := zT_2 (i := 154) rfl rfl
theorem se_X10_of : Cond.selects yX10_of.cls yX10_of yX10_of ∈ zT := zT_2 (i := 155) rfl rfl
abbrev m_X10_two : Mth := (yX10_two, cX10_two, 4, (some .int))
theorem mo_X10_two : zMok m_X10_two 3 := ⟨zT_2 (i := 186) rfl rfl, zT_1 (i := 1) rfl rfl, by decide, by decide, by decide +kernel⟩
theorem in_X10_two : Cond.instanceMethod yX10_two ∈ zT := zT_2 (i := 184) rfl rfl
theorem se_X10_two : Cond.selects yX10_two.cls yX10_two yX10_two ∈ zT := zT_2 (i := 185) rfl rfl
abbrev m_X10_edge : Mth := (yX10_edge, cX10_edge, 4, (some .int))
theorem mo_X10_edge : zMok m_X10_edge 3 := ⟨zT_2 (i := 202) rfl rfl, zT_1 (i := 1) rfl rfl, by decide, by decide, by decide +kernel⟩
theorem in_X10_edge : Cond.instanceMethod yX10_edge ∈ zT := zT_2 (i := 200) rfl rfl
theorem se_X10_edge : Cond.selects yX10_edge.cls yX10_edge yX10_edge ∈ zT := zT_2 (i := 201) rfl rfl
abbrev m_X10_swap : Mth := (yX10_swap, cX10_swap, 7, (some .int))
theorem mo_X10_swap : zMok m_X10_swap 4 := ⟨zT_2 (i := 233) rfl rfl, zT_1 (i := 1) rfl rfl, by decide, by decide, by decide +kernel⟩
theorem in_X10_swap : Cond.instanceMethod yX10_swap ∈ zT := zT_2 (i := 231) rfl rfl
theorem se_X10_swap : Cond.selects yX10_swap.cls yX10_swap yX10_swap ∈ zT := zT_2 (i := 232) rfl rfl
abbrev m_X10_near : Mth := (yX10_near, cX10_near, 2, (some .long))
theorem mo_X10_near : zMok m_X10_near 1 := ⟨zT_3 (i := 1) rfl rfl, zT_1 (i := 1) rfl rfl, by decide, by decide, by decide +kernel⟩
theorem in_X10_near : Cond.instanceMethod yX10_near ∈ zT := zT_2 (i := 239) rfl rfl
theorem se_X10_near : Cond.selects yX10_near.cls yX10_near yX10_near ∈ zT := zT_3 (i := 0) rfl rfl
abbrev m_X10_told : Mth := (yX10_told, cX10_told, 2, (some .long))
theorem mo_X10_told : zMok m_X10_told 1 := ⟨zT_3 (i := 5) rfl rfl, zT_1 (i := 1) rfl rfl, by decide, by decide, by decide +kernel⟩
theorem in_X10_told : Cond.instanceMethod yX10_told ∈ zT := zT_3 (i := 3) rfl rfl
theorem se_X10_told : Cond.selects yX10_told.cls yX10_told yX10_told ∈ zT := zT_3 (i := 4) rfl rfl
abbrev m_X10_truss : Mth := (yX10_truss, cX10_truss, 2, (some .int))
theorem mo_X10_truss : zMok m_X10_truss 1 := ⟨zT_3 (i := 25) rfl rfl, zT_1 (i := 1) rfl rfl, by decide, by decide, by decide +kernel⟩
theorem in_X10_truss : Cond.instanceMethod yX10_truss ∈ zT := zT_3 (i := 23) rfl rfl
theorem se_X10_truss : Cond.selects yX10_truss.cls yX10_truss yX10_truss ∈ zT := zT_3 (i := 24) rfl rfl
abbrev m_X10_pieces : Mth := (yX10_pieces, cX10_pieces, 2, (some .int))
theorem mo_X10_pieces : zMok m_X10_pieces 1 := ⟨zT_3 (i := 33) rfl rfl, zT_1 (i := 1) rfl rfl, by decide, by decide, by decide +kernel⟩
theorem in_X10_pieces : Cond.instanceMethod yX10_pieces ∈ zT := zT_3 (i := 31) rfl rfl
theorem se_X10_pieces : Cond.selects yX10_pieces.cls yX10_pieces yX10_pieces ∈ zT := zT_3 (i := 32) rfl rfl
abbrev m_X10_hood : Mth := (yX10_hood, cX10_hood, 4, (some .int))
theorem mo_X10_hood : zMok m_X10_hood 3 := ⟨zT_3 (i := 49) rfl rfl, zT_1 (i := 1) rfl rfl, by decide, by decide, by decide +kernel⟩
theorem in_X10_hood : Cond.instanceMethod yX10_hood ∈ zT := zT_3 (i := 47) rfl rfl
theorem se_X10_hood : Cond.selects yX10_hood.cls yX10_hood yX10_hood ∈ zT := zT_3 (i := 48) rfl rfl
abbrev m_X10_hoods : Mth := (yX10_hoods, cX10_hoods, 2, (some .int))
theorem mo_X10_hoods : zMok m_X10_hoods 1 := ⟨zT_3 (i := 66) rfl rfl, zT_1 (i := 1) rfl rfl, by decide, by decide, by decide +kernel⟩
theorem in_X10_hoods : Cond.instanceMethod yX10_hoods ∈ zT := zT_3 (i := 64) rfl rfl
theorem se_X10_hoods : Cond.selects yX10_hoods.cls yX10_hoods yX10_hoods ∈ zT := zT_3 (i := 65) rfl rfl
abbrev m_X10_core : Mth := (yX10_core, cX10_core, 2, (some .long))
theorem mo_X10_core : zMok m_X10_core 1 := ⟨zT_3 (i := 74) rfl rfl, zT_1 (i := 1) rfl rfl, by decide, by decide, by decide +kernel⟩
theorem in_X10_core : Cond.instanceMethod yX10_core ∈ zT := zT_3 (i := 72) rfl rfl
theorem se_X10_core : Cond.selects yX10_core.cls yX10_core yX10_core ∈ zT := zT_3 (i := 73) rfl rfl
abbrev m_X10_peeled : Mth := (yX10_peeled, cX10_peeled, 4, (some .int))
theorem mo_X10_peeled : zMok m_X10_peeled 2 := ⟨zT_3 (i := 80) rfl rfl, zT_1 (i := 1) rfl rfl, by decide, by decide, by decide +kernel⟩
theorem in_X10_peeled : Cond.instanceMethod yX10_peeled ∈ zT := zT_3 (i := 78) rfl rfl
theorem se_X10_peeled : Cond.selects yX10_peeled.cls yX10_peeled yX10_peeled ∈ zT := zT_3 (i := 79) rfl rfl
abbrev m_X10_closed : Mth := (yX10_closed, cX10_closed, 6, (some .long))
theorem mo_X10_closed : zMok m_X10_closed 2 := ⟨zT_3 (i := 84) rfl rfl, zT_1 (i := 1) rfl rfl, by decide, by decide, by decide +kernel⟩
theorem in_X10_closed : Cond.instanceMethod yX10_closed ∈ zT := zT_3 (i := 82) rfl rfl
theorem se_X10_closed : Cond.selects yX10_closed.cls yX10_closed yX10_closed ∈ zT := zT_3 (i := 83) rfl rfl
abbrev m_X10_value : Mth := (yX10_value, cX10_value, 10, (some .long))
theorem mo_X10_value : zMok m_X10_value 0 := ⟨zT_3 (i := 92) rfl rfl, zT_1 (i := 1) rfl rfl, by decide, by decide, by decide +kernel⟩
theorem in_X10_value : Cond.instanceMethod yX10_value ∈ zT := zT_3 (i := 90) rfl rfl
theorem se_X10_value : Cond.selects yX10_value.cls yX10_value yX10_value ∈ zT := zT_3 (i := 91) rfl rfl
abbrev m_X10_broken : Mth := (yX10_broken, cX10_broken, 2, (some .int))
theorem mo_X10_broken : zMok m_X10_broken 1 := ⟨zT_3 (i := 105) rfl rfl, zT_1 (i := 1) rfl rfl, by decide, by decide, by decide +kernel⟩
theorem in_X10_broken : Cond.instanceMethod yX10_broken ∈ zT := zT_3 (i := 103) rfl rfl
theorem se_X10_broken : Cond.selects yX10_broken.cls yX10_broken yX10_broken ∈ zT := zT_3 (i := 104) rfl rfl
abbrev m_X10_fewest : Mth := (yX10_fewest, cX10_fewest, 1, (some .int))
theorem mo_X10_fewest : zMok m_X10_fewest 0 := ⟨zT_3 (i := 124) rfl rfl, zT_1 (i := 1) rfl rfl, by decide, by decide, by decide +kernel⟩
theorem in_X10_fewest : Cond.instanceMethod yX10_fewest ∈ zT := zT_3 (i := 122) rfl rfl
theorem se_X10_fewest : Cond.selects yX10_fewest.cls yX10_fewest yX10_fewest ∈ zT := zT_3 (i := 123) rfl rfl
abbrev m_X10_feed : Mth := (yX10_feed, cX10_feed, 2, (some .int))
theorem mo_X10_feed : zMok m_X10_feed 1 := ⟨zT_3 (i := 149) rfl rfl, zT_1 (i := 1) rfl rfl, by decide, by decide, by decide +kernel⟩
theorem in_X10_feed : Cond.instanceMethod yX10_feed ∈ zT := zT_3 (i := 147) rfl rfl
theorem se_X10_feed : Cond.selects yX10_feed.cls yX10_feed yX10_feed ∈ zT := zT_3 (i := 148) rfl rfl
abbrev m_X10_clear : Mth := (yX10_clear, cX10_clear, 2, (some .int))
theorem mo_X10_clear : zMok m_X10_clear 0 := ⟨zT_3 (i := 157) rfl rfl, zT_1 (i := 1) rfl rfl, by decide, by decide, by decide +kernel⟩
theorem in_X10_clear : Cond.instanceMethod yX10_clear ∈ zT := zT_3 (i := 155) rfl rfl
theorem se_X10_clear : Cond.selects yX10_clear.cls yX10_clear yX10_clear ∈ zT := zT_3 (i := 156) rfl rfl
abbrev m_X10_batch : Mth := (yX10_batch, cX10_batch, 4, (some .int))
theorem mo_X10_batch : zMok m_X10_batch 0 := ⟨zT_3 (i := 161) rfl rfl, zT_1 (i := 1) rfl rfl, by decide, by decide, by decide +kernel⟩
theorem in_X10_batch : Cond.instanceMethod yX10_batch ∈ zT := zT_3 (i := 159) rfl rfl
theorem se_X10_batch : Cond.selects yX10_batch.cls yX10_batch yX10_batch ∈ zT := zT_3 (i := 160) rfl rfl
abbrev m_X10_pick : Mth := (yX10_pick, cX10_pick, 3, (some .int))
theorem mo_X10_pick : zMok m_X10_pick 0 := ⟨zT_3 (i := 222) rfl rfl, zT_1 (i := 1) rfl rfl, by decide, by decide, by decide +kernel⟩
theorem in_X10_pick : Cond.instanceMethod yX10_pick ∈ zT := zT_3 (i := 220) rfl rfl
theorem se_X10_pick : Cond.selects yX10_pick.cls yX10_pick yX10_pick ∈ zT := zT_3 (i := 221) rfl rfl
abbrev m_X10_picked : Mth := (yX10_picked, cX10_picked, 1, (some .long))
theorem mo_X10_picked : zMok m_X10_picked 0 := ⟨zT_4 (i := 32) rfl rfl, zT_1 (i := 1) rfl rfl, by decide, by decide, by decide +kernel⟩
theorem in_X10_picked : Cond.instanceMethod yX10_picked ∈ zT := zT_4 (i := 30) rfl rfl
theorem se_X10_picked : Cond.selects yX10_picked.cls yX10_picked yX10_picked ∈ zT := zT_4 (i := 31) rfl rfl
abbrev m_X10_spell : Mth := (yX10_spell, cX10_spell, 3, (some .int))
theorem mo_X10_spell : zMok m_X10_spell 0 := ⟨zT_4 (i := 36) rfl rfl, zT_1 (i := 1) rfl rfl, by decide, by decide, by decide +kernel⟩
theorem in_X10_spell : Cond.instanceMethod yX10_spell ∈ zT := zT_4 (i := 34) rfl rfl
theorem se_X10_spell : Cond.selects yX10_spell.cls yX10_spell yX10_spell ∈ zT := zT_4 (i := 35) rfl rfl
abbrev m_X10_paper : Mth := (yX10_paper, cX10_paper, 2, (some .int))
theorem mo_X10_paper : zMok m_X10_paper 1 := ⟨zT_4 (i := 68) rfl rfl, zT_1 (i := 1) rfl rfl, by decide, by decide, by decide +kernel⟩
theorem in_X10_paper : Cond.instanceMethod yX10_paper ∈ zT := zT_4 (i := 66) rfl rfl
theorem se_X10_paper : Cond.selects yX10_paper.cls yX10_paper yX10_paper ∈ zT := zT_4 (i := 67) rfl rfl
abbrev m_X10_back : Mth := (yX10_back, cX10_back, 2, (some .int))
theorem mo_X10_back : zMok m_X10_back 1 := ⟨zT_4 (i := 72) rfl rfl, zT_1 (i := 1) rfl rfl, by decide, by decide, by decide +kernel⟩
theorem in_X10_back : Cond.instanceMethod yX10_back ∈ zT := zT_4 (i := 70) rfl rfl
theorem se_X10_back : Cond.selects yX10_back.cls yX10_back yX10_back ∈ zT := zT_4 (i := 71) rfl rfl
abbrev m_X10_list : Mth := (yX10_list, cX10_list, 4, (some .int))
theorem mo_X10_list : zMok m_X10_list 2 := ⟨zT_4 (i := 96) rfl rfl, zT_1 (i := 1) rfl rfl, by decide, by decide, by decide +kernel⟩
theorem in_X10_list : Cond.instanceMethod yX10_list ∈ zT := zT_4 (i := 94) rfl rfl
theorem se_X10_list : Cond.selects yX10_list.cls yX10_list yX10_list ∈ zT := zT_4 (i := 95) rfl rfl
abbrev m_X10_set : Mth := (yX10_set, cX10_set, 6, (some .int))
theorem mo_X10_set : zMok m_X10_set 3 := ⟨zT_4 (i := 109) rfl rfl, zT_1 (i := 1) rfl rfl, by decide, by decide, by decide +kernel⟩
theorem in_X10_set : Cond.instanceMethod yX10_set ∈ zT := zT_4 (i := 107) rfl rfl
theorem se_X10_set : Cond.selects yX10_set.cls yX10_set yX10_set ∈ zT := zT_4 (i := 108) rfl rfl
abbrev m_X10_get : Mth := (yX10_get, cX10_get, 4, (some .long))
theorem mo_X10_get : zMok m_X10_get 2 := ⟨zT_4 (i := 121) rfl rfl, zT_1 (i := 1) rfl rfl, by decide, by decide, by decide +kernel⟩
theorem in_X10_get : Cond.instanceMethod yX10_get ∈ zT := zT_4 (i := 119) rfl rfl
theorem se_X10_get : Cond.selects yX10_get.cls yX10_get yX10_get ∈ zT := zT_4 (i := 120) rfl rfl
abbrev m_X10_move : Mth := (yX10_move, cX10_move, 8, (some .int))
theorem mo_X10_move : zMok m_X10_move 5 := ⟨zT_4 (i := 125) rfl rfl, zT_1 (i := 1) rfl rfl, by decide, by decide, by decide +kernel⟩
theorem in_X10_move : Cond.instanceMethod yX10_move ∈ zT := zT_4 (i := 123) rfl rfl
theorem se_X10_move : Cond.selects yX10_move.cls yX10_move yX10_move ∈ zT := zT_4 (i := 124) rfl rfl
abbrev m_X10_lay : Mth := (yX10_lay, cX10_lay, 7, (some .int))
theorem mo_X10_lay : zMok m_X10_lay 3 := ⟨zT_4 (i := 130) rfl rfl, zT_1 (i := 1) rfl rfl, by decide, by decide, by decide +kernel⟩
theorem in_X10_lay : Cond.instanceMethod yX10_lay ∈ zT := zT_4 (i := 128) rfl rfl
theorem se_X10_lay : Cond.selects yX10_lay.cls yX10_lay yX10_lay ∈ zT := zT_4 (i := 129) rfl rfl
abbrev m_X10_judge : Mth := (yX10_judge, cX10_judge, 7, (some .int))
theorem mo_X10_judge : zMok m_X10_judge 3 := ⟨zT_4 (i := 138) rfl rfl, zT_1 (i := 1) rfl rfl, by decide, by decide, by decide +kernel⟩
theorem in_X10_judge : Cond.instanceMethod yX10_judge ∈ zT := zT_4 (i := 136) rfl rfl
theorem se_X10_judge : Cond.selects yX10_judge.cls yX10_judge yX10_judge ∈ zT := zT_4 (i := 137) rfl rfl
abbrev m_X10_image : Mth := (yX10_image, cX10_image, 1, (some .int))
theorem mo_X10_image : zMok m_X10_image 0 := ⟨zT_4 (i := 142) rfl rfl, zT_1 (i := 1) rfl rfl, by decide, by decide, by decide +kernel⟩
theorem in_X10_image : Cond.instanceMethod yX10_image ∈ zT := zT_4 (i := 140) rfl rfl
theorem se_X10_image : Cond.selects yX10_image.cls yX10_image yX10_image ∈ zT := zT_4 (i := 141) rfl rfl
abbrev m_X10_undo : Mth := (yX10_undo, cX10_undo, 1, (some .int))
theorem mo_X10_undo : zMok m_X10_undo 0 := ⟨zT_4 (i := 155) rfl rfl, zT_1 (i := 1) rfl rfl, by decide, by decide, by decide +kernel⟩
theorem in_X10_undo : Cond.instanceMethod yX10_undo ∈ zT := zT_4 (i := 153) rfl rfl
theorem se_X10_undo : Cond.selects yX10_undo.cls yX10_undo yX10_undo ∈ zT := zT_4 (i := 154) rfl rfl
abbrev m_X10_doPart : Mth := (yX10_doPart, cX10_doPart, 6, none)
theorem mo_X10_doPart : zMok m_X10_doPart 1 := ⟨zT_3 (i := 218) rfl rfl, zT_1 (i := 1) rfl rfl, by decide, by decide, by decide +kernel⟩
theorem in_X10_doPart : Cond.instanceMethod yX10_doPart ∈ zT := zT_3 (i := 217) rfl rfl
theorem se_X10_doPart : Cond.selects yX10_doPart.cls yX10_doPart yX10_doPart ∈ zT := zT_sel (i := 13) rfl rfl
abbrev m_X10_isVertex : Mth := (yX10_isVertex, cX10_isVertex, 1, (some .boolean))
theorem mo_X10_isVertex : zMok m_X10_isVertex 1 := ⟨zT_2 (i := 70) rfl rfl, zT_1 (i := 1) rfl rfl, by decide, by decide, by decide +kernel⟩
theorem st_X10_isVertex : Cond.static yX10_isVertex ∈ zT := zT_2 (i := 69) rfl rfl
abbrev m_X10_isTwo : Mth := (yX10_isTwo, cX10_isTwo, 2, (some .boolean))
theorem mo_X10_isTwo : zMok m_X10_isTwo 2 := ⟨zT_2 (i := 67) rfl rfl, zT_1 (i := 1) rfl rfl, by decide, by decide, by decide +kernel⟩
theorem st_X10_isTwo : Cond.static yX10_isTwo ∈ zT := zT_2 (i := 66) rfl rfl
abbrev m_X10_rowOf : Mth := (yX10_rowOf, cX10_rowOf, 2, (some (.object "RingCounts$Row")))
theorem mo_X10_rowOf : zMok m_X10_rowOf 1 := ⟨zT_4 (i := 100) rfl rfl, zT_1 (i := 1) rfl rfl, by decide, by decide, by decide +kernel⟩
theorem in_X10_rowOf : Cond.instanceMethod yX10_rowOf ∈ zT := zT_4 (i := 99) rfl rfl
theorem se_X10_rowOf : Cond.selects yX10_rowOf.cls yX10_rowOf yX10_rowOf ∈ zT := zT_sel (i := 21) rfl rfl
abbrev m_X10_isSort : Mth := (yX10_isSort, cX10_isSort, 1, (some .boolean))
theorem mo_X10_isSort : zMok m_X10_isSort 1 := ⟨zT_4 (i := 133) rfl rfl, zT_1 (i := 1) rfl rfl, by decide, by decide, by decide +kernel⟩
theorem st_X10_isSort : Cond.static yX10_isSort ∈ zT := zT_4 (i := 132) rfl rfl
abbrev m_X10_pairOf : Mth := (yX10_pairOf, cX10_pairOf, 2, (some .int))
theorem mo_X10_pairOf : zMok m_X10_pairOf 2 := ⟨zT_2 (i := 97) rfl rfl, zT_1 (i := 1) rfl rfl, by decide, by decide, by decide +kernel⟩
theorem st_X10_pairOf : Cond.static yX10_pairOf ∈ zT := zT_2 (i := 96) rfl rfl
abbrev m_X10_hasBit : Mth := (yX10_hasBit, cX10_hasBit, 3, (some .boolean))
theorem mo_X10_hasBit : zMok m_X10_hasBit 2 := ⟨zT_2 (i := 79) rfl rfl, zT_1 (i := 1) rfl rfl, by decide, by decide, by decide +kernel⟩
theorem st_X10_hasBit : Cond.static yX10_hasBit ∈ zT := zT_2 (i := 78) rfl rfl
abbrev m_X10_above : Mth := (yX10_above, cX10_above, 1, (some .long))
theorem mo_X10_above : zMok m_X10_above 1 := ⟨zT_3 (i := 95) rfl rfl, zT_1 (i := 1) rfl rfl, by decide, by decide, by decide +kernel⟩
theorem st_X10_above : Cond.static yX10_above ∈ zT := zT_3 (i := 94) rfl rfl
abbrev m_X10_sumLeavesLong : Mth := (yX10_sumLeavesLong, cX10_sumLeavesLong, 6, (some .boolean))
theorem mo_X10_sumLeavesLong : zMok m_X10_sumLeavesLong 2 := ⟨zT_3 (i := 100) rfl rfl, zT_1 (i := 1) rfl rfl, by decide, by decide, by decide +kernel⟩
theorem st_X10_sumLeavesLong : Cond.static yX10_sumLeavesLong ∈ zT := zT_3 (i := 99) rfl rfl
abbrev m_X10_greatestDivisor : Mth := (yX10_greatestDivisor, cX10_greatestDivisor, 6, (some .int))
theorem mo_X10_greatestDivisor : zMok m_X10_greatestDivisor 2 := ⟨zT_3 (i := 88) rfl rfl, zT_1 (i := 1) rfl rfl, by decide, by decide, by decide +kernel⟩
theorem st_X10_greatestDivisor : Cond.static yX10_greatestDivisor ∈ zT := zT_3 (i := 87) rfl rfl
abbrev m_X11_init : Mth := (yX11_init, cX11_init, 1, none)
theorem mo_X11_init : zMok m_X11_init 0 := ⟨zT_4 (i := 160) rfl rfl, zT_1 (i := 11) rfl rfl, by decide, by decide, by decide +kernel⟩
theorem in_X11_init : Cond.instanceMethod yX11_init ∈ zT := zT_4 (i := 159) rfl rfl
abbrev m_X11_isIn : Mth := (yX11_isIn, cX11_isIn, 3, (some .boolean))
theorem mo_X11_isIn : zMok m_X11_isIn 3 := ⟨zT_5 (i := 19) rfl rfl, zT_1 (i := 11) rfl rfl, by decide, by decide, by decide +kernel⟩
theorem st_X11_isIn : Cond.static yX11_isIn ∈ zT := zT_5 (i := 18) rfl rfl
abbrev m_X11_isVertex : Mth := (yX11_isVertex, cX11_isVertex, 1, (some .boolean))
theorem mo_X11_isVertex : zMok m_X11_isVertex 1 := ⟨zT_5 (i := 16) rfl rfl, zT_1 (i := 11) rfl rfl, by decide, by decide, by decide +kernel⟩
theorem st_X11_isVertex : Cond.static yX11_isVertex ∈ zT := zT_5 (i := 15) rfl rfl
abbrev m_X11_areTwo : Mth := (yX11_areTwo, cX11_areTwo, 2, (some .boolean))
theorem mo_X11_areTwo : zMok m_X11_areTwo 2 := ⟨zT_5 (i := 13) rfl rfl, zT_1 (i := 11) rfl rfl, by decide, by decide, by decide +kernel⟩
theorem st_X11_areTwo : Cond.static yX11_areTwo ∈ zT := zT_5 (i := 12) rfl rfl
abbrev m_X11_has : Mth := (yX11_has, cX11_has, 3, (some .boolean))
theorem mo_X11_has : zMok m_X11_has 2 := ⟨zT_5 (i := 28) rfl rfl, zT_1 (i := 11) rfl rfl, by decide, by decide, by decide +kernel⟩
theorem st_X11_has : Cond.static yX11_has ∈ zT := zT_5 (i := 27) rfl rfl
abbrev m_X11_bits : Mth := (yX11_bits, cX11_bits, 5, (some .int))
theorem mo_X11_bits : zMok m_X11_bits 1 := ⟨zT_5 (i := 54) rfl rfl, zT_1 (i := 11) rfl rfl, by decide, by decide, by decide +kernel⟩
theorem st_X11_bits : Cond.static yX11_bits ∈ zT := zT_5 (i := 53) rfl rfl
abbrev m_X11_edge : Mth := (yX11_edge, cX11_edge, 2, (some .int))
theorem mo_X11_edge : zMok m_X11_edge 2 := ⟨zT_5 (i := 39) rfl rfl, zT_1 (i := 11) rfl rfl, by decide, by decide, by decide +kernel⟩
theorem st_X11_edge : Cond.static yX11_edge ∈ zT := zT_5 (i := 38) rfl rfl
abbrev m_X11_isEdge : Mth := (yX11_isEdge, cX11_isEdge, 3, (some .boolean))
theorem mo_X11_isEdge : zMok m_X11_isEdge 2 := ⟨zT_5 (i := 25) rfl rfl, zT_1 (i := 11) rfl rfl, by decide, by decide, by decide +kernel⟩
theorem in_X11_isEdge : Cond.instanceMethod yX11_isEdge ∈ zT := zT_5 (i := 24) rfl rfl
theorem se_X11_isEdge : Cond.selects yX11_isEdge.cls yX11_isEdge yX11_isEdge ∈ zT := zT_sel (i := 22) rfl rfl
abbrev m_X11_degree : Mth := (yX11_degree, cX11_degree, 2, (some .int))
theorem mo_X11_degree : zMok m_X11_degree 1 := ⟨zT_5 (i := 51) rfl rfl, zT_1 (i := 11) rfl rfl, by decide, by decide, by decide +kernel⟩
theorem in_X11_degree : Cond.instanceMethod yX11_degree ∈ zT := zT_5 (i := 50) rfl rfl
theorem se_X11_degree : Cond.selects yX11_degree.cls yX11_degree yX11_degree ∈ zT := zT_sel (i := 27) rfl rfl
abbrev m_X11_shared : Mth := (yX11_shared, cX11_shared, 3, (some .int))
theorem mo_X11_shared : zMok m_X11_shared 2 := ⟨zT_5 (i := 66) rfl rfl, zT_1 (i := 11) rfl rfl, by decide, by decide, by decide +kernel⟩
theorem in_X11_shared : Cond.instanceMethod yX11_shared ∈ zT := zT_5 (i := 65) rfl rfl
theorem se_X11_shared : Cond.selects yX11_shared.cls yX11_shared yX11_shared ∈ zT := zT_sel (i := 30) rfl rfl
abbrev m_X11_twos : Mth := (yX11_twos, cX11_twos, 1, (some .int))
theorem mo_X11_twos : zMok m_X11_twos 1 := ⟨zT_5 (i := 112) rfl rfl, zT_1 (i := 11) rfl rfl, by decide, by decide, by decide +kernel⟩
theorem st_X11_twos : Cond.static yX11_twos ∈ zT := zT_5 (i := 111) rfl rfl
abbrev m_X11_bound : Mth := (yX11_bound, cX11_bound, 2, (some .int))
theorem mo_X11_bound : zMok m_X11_bound 0 := ⟨zT_5 (i := 58) rfl rfl, zT_1 (i := 11) rfl rfl, by decide, by decide, by decide +kernel⟩
theorem in_X11_bound : Cond.instanceMethod yX11_bound ∈ zT := zT_5 (i := 57) rfl rfl
theorem se_X11_bound : Cond.selects yX11_bound.cls yX11_bound yX11_bound ∈ zT := zT_sel (i := 28) rfl rfl
abbrev m_X11_rebases : Mth := (yX11_rebases, cX11_rebases, 2, none)
theorem mo_X11_rebases : zMok m_X11_rebases 0 := ⟨zT_5 (i := 47) rfl rfl, zT_1 (i := 11) rfl rfl, by decide, by decide, by decide +kernel⟩
theorem in_X11_rebases : Cond.instanceMethod yX11_rebases ∈ zT := zT_5 (i := 46) rfl rfl
theorem se_X11_rebases : Cond.selects yX11_rebases.cls yX11_rebases yX11_rebases ∈ zT := zT_sel (i := 26) rfl rfl
abbrev m_X11_looksAt : Mth := (yX11_looksAt, cX11_looksAt, 4, none)
theorem mo_X11_looksAt : zMok m_X11_looksAt 1 := ⟨zT_5 (i := 62) rfl rfl, zT_1 (i := 11) rfl rfl, by decide, by decide, by decide +kernel⟩
theorem in_X11_looksAt : Cond.instanceMethod yX11_looksAt ∈ zT := zT_5 (i := 61) rfl rfl
theorem se_X11_looksAt : Cond.selects yX11_looksAt.cls yX11_looksAt yX11_looksAt ∈ zT := zT_sel (i := 29) rfl rfl
abbrev m_X11_changes : Mth := (yX11_changes, cX11_changes, 5, none)
theorem mo_X11_changes : zMok m_X11_changes 4 := ⟨zT_5 (i := 43) rfl rfl, zT_1 (i := 11) rfl rfl, by decide, by decide, by decide +kernel⟩
theorem in_X11_changes : Cond.instanceMethod yX11_changes ∈ zT := zT_5 (i := 42) rfl rfl
theorem se_X11_changes : Cond.selects yX11_changes.cls yX11_changes yX11_changes ∈ zT := zT_sel (i := 25) rfl rfl
abbrev m_X11_logs : Mth := (yX11_logs, cX11_logs, 6, none)
theorem mo_X11_logs : zMok m_X11_logs 4 := ⟨zT_5 (i := 36) rfl rfl, zT_1 (i := 11) rfl rfl, by decide, by decide, by decide +kernel⟩
theorem in_X11_logs : Cond.instanceMethod yX11_logs ∈ zT := zT_5 (i := 35) rfl rfl
theorem se_X11_logs : Cond.selects yX11_logs.cls yX11_logs yX11_logs ∈ zT := zT_sel (i := 24) rfl rfl
abbrev m_X11_comes : Mth := (yX11_comes, cX11_comes, 4, none)
theorem mo_X11_comes : zMok m_X11_comes 3 := ⟨zT_5 (i := 32) rfl rfl, zT_1 (i := 11) rfl rfl, by decide, by decide, by decide +kernel⟩
theorem in_X11_comes : Cond.instanceMethod yX11_comes ∈ zT := zT_5 (i := 31) rfl rfl
theorem se_X11_comes : Cond.selects yX11_comes.cls yX11_comes yX11_comes ∈ zT := zT_sel (i := 23) rfl rfl
abbrev m_X11_goes : Mth := (yX11_goes, cX11_goes, 3, none)
theorem mo_X11_goes : zMok m_X11_goes 2 := ⟨zT_5 (i := 74) rfl rfl, zT_1 (i := 11) rfl rfl, by decide, by decide, by decide +kernel⟩
theorem in_X11_goes : Cond.instanceMethod yX11_goes ∈ zT := zT_5 (i := 73) rfl rfl
theorem se_X11_goes : Cond.selects yX11_goes.cls yX11_goes yX11_goes ∈ zT := zT_sel (i := 31) rfl rfl
abbrev m_X11_add : Mth := (yX11_add, cX11_add, 4, (some .int))
theorem mo_X11_add : zMok m_X11_add 3 := ⟨zT_5 (i := 10) rfl rfl, zT_1 (i := 11) rfl rfl, by decide, by decide, by decide +kernel⟩
theorem in_X11_add : Cond.instanceMethod yX11_add ∈ zT := zT_5 (i := 8) rfl rfl
theorem se_X11_add : Cond.selects yX11_add.cls yX11_add yX11_add ∈ zT := zT_5 (i := 9) rfl rfl
abbrev m_X11_cut : Mth := (yX11_cut, cX11_cut, 3, (some .int))
theorem mo_X11_cut : zMok m_X11_cut 2 := ⟨zT_5 (i := 70) rfl rfl, zT_1 (i := 11) rfl rfl, by decide, by decide, by decide +kernel⟩
theorem in_X11_cut : Cond.instanceMethod yX11_cut ∈ zT := zT_5 (i := 68) rfl rfl
theorem se_X11_cut : Cond.selects yX11_cut.cls yX11_cut yX11_cut ∈ zT := zT_5 (i := 69) rfl rfl
abbrev m_X11_worth : Mth := (yX11_worth, cX11_worth, 3, (some .long))
theorem mo_X11_worth : zMok m_X11_worth 2 := ⟨zT_5 (i := 78) rfl rfl, zT_1 (i := 11) rfl rfl, by decide, by decide, by decide +kernel⟩
theorem in_X11_worth : Cond.instanceMethod yX11_worth ∈ zT := zT_5 (i := 76) rfl rfl
theorem se_X11_worth : Cond.selects yX11_worth.cls yX11_worth yX11_worth ∈ zT := zT_5 (i := 77) rfl rfl
abbrev m_X11_back : Mth := (yX11_back, cX11_back, 4, (some .int))
theorem mo_X11_back : zMok m_X11_back 1 := ⟨zT_5 (i := 83) rfl rfl, zT_1 (i := 11) rfl rfl, by decide, by decide, by decide +kernel⟩
theorem in_X11_back : Cond.instanceMethod yX11_back ∈ zT := zT_5 (i := 81) rfl rfl
theorem se_X11_back : Cond.selects yX11_back.cls yX11_back yX11_back ∈ zT := zT_5 (i := 82) rfl rfl
abbrev m_X11_trianglesOf : Mth := (yX11_trianglesOf, cX11_trianglesOf, 4, (some .int))
theorem mo_X11_trianglesOf : zMok m_X11_trianglesOf 1 := ⟨zT_5 (i := 91) rfl rfl, zT_1 (i := 11) rfl rfl, by decide, by decide, by decide +kernel⟩
theorem in_X11_trianglesOf : Cond.instanceMethod yX11_trianglesOf ∈ zT := zT_5 (i := 90) rfl rfl
theorem se_X11_trianglesOf : Cond.selects yX11_trianglesOf.cls yX11_trianglesOf yX11_trianglesOf ∈ zT := zT_sel (i := 32) rfl rfl
abbrev m_X11_triangles : Mth := (yX11_triangles, cX11_triangles, 3, (some .int))
theorem mo_X11_triangles : zMok m_X11_triangles 0 := ⟨zT_5 (i := 200) rfl rfl, zT_1 (i := 11) rfl rfl, by decide, by decide, by decide +kernel⟩
theorem in_X11_triangles : Cond.instanceMethod yX11_triangles ∈ zT := zT_5 (i := 199) rfl rfl
theorem se_X11_triangles : Cond.selects yX11_triangles.cls yX11_triangles yX11_triangles ∈ zT := zT_sel (i := 49) rfl rfl
abbrev m_X11_ringsOf : Mth := (yX11_ringsOf, cX11_ringsOf, 4, (some .int))
theorem mo_X11_ringsOf : zMok m_X11_ringsOf 1 := ⟨zT_5 (i := 109) rfl rfl, zT_1 (i := 11) rfl rfl, by decide, by decide, by decide +kernel⟩
theorem in_X11_ringsOf : Cond.instanceMethod yX11_ringsOf ∈ zT := zT_5 (i := 108) rfl rfl
theorem se_X11_ringsOf : Cond.selects yX11_ringsOf.cls yX11_ringsOf yX11_ringsOf ∈ zT := zT_sel (i := 36) rfl rfl
abbrev m_X11_rings : Mth := (yX11_rings, cX11_rings, 3, (some .int))
theorem mo_X11_rings : zMok m_X11_rings 0 := ⟨zT_5 (i := 212) rfl rfl, zT_1 (i := 11) rfl rfl, by decide, by decide, by decide +kernel⟩
theorem in_X11_rings : Cond.instanceMethod yX11_rings ∈ zT := zT_5 (i := 211) rfl rfl
theorem se_X11_rings : Cond.selects yX11_rings.cls yX11_rings yX11_rings ∈ zT := zT_sel (i := 50) rfl rfl
abbrev m_X11_joinedIn : Mth := (yX11_joinedIn, cX11_joinedIn, 5, (some .int))
theorem mo_X11_joinedIn : zMok m_X11_joinedIn 1 := ⟨zT_5 (i := 124) rfl rfl, zT_1 (i := 11) rfl rfl, by decide, by decide, by decide +kernel⟩
theorem in_X11_joinedIn : Cond.instanceMethod yX11_joinedIn ∈ zT := zT_5 (i := 123) rfl rfl
theorem se_X11_joinedIn : Cond.selects yX11_joinedIn.cls yX11_joinedIn yX11_joinedIn ∈ zT := zT_sel (i := 39) rfl rfl
abbrev m_X11_foursAt : Mth := (yX11_foursAt, cX11_foursAt, 3, (some .int))
theorem mo_X11_foursAt : zMok m_X11_foursAt 2 := ⟨zT_5 (i := 120) rfl rfl, zT_1 (i := 11) rfl rfl, by decide, by decide, by decide +kernel⟩
theorem in_X11_foursAt : Cond.instanceMethod yX11_foursAt ∈ zT := zT_5 (i := 119) rfl rfl
theorem se_X11_foursAt : Cond.selects yX11_foursAt.cls yX11_foursAt yX11_foursAt ∈ zT := zT_sel (i := 38) rfl rfl
abbrev m_X11_foursOf : Mth := (yX11_foursOf, cX11_foursOf, 4, (some .int))
theorem mo_X11_foursOf : zMok m_X11_foursOf 1 := ⟨zT_5 (i := 116) rfl rfl, zT_1 (i := 11) rfl rfl, by decide, by decide, by decide +kernel⟩
theorem in_X11_foursOf : Cond.instanceMethod yX11_foursOf ∈ zT := zT_5 (i := 115) rfl rfl
theorem se_X11_foursOf : Cond.selects yX11_foursOf.cls yX11_foursOf yX11_foursOf ∈ zT := zT_sel (i := 37) rfl rfl
abbrev m_X11_fours : Mth := (yX11_fours, cX11_fours, 3, (some .int))
theorem mo_X11_fours : zMok m_X11_fours 0 := ⟨zT_5 (i := 220) rfl rfl, zT_1 (i := 11) rfl rfl, by decide, by decide, by decide +kernel⟩
theorem in_X11_fours : Cond.instanceMethod yX11_fours ∈ zT := zT_5 (i := 219) rfl rfl
theorem se_X11_fours : Cond.selects yX11_fours.cls yX11_fours yX11_fours ∈ zT := zT_sel (i := 52) rfl rfl
abbrev m_X11_ways : Mth := (yX11_ways, cX11_ways, 5, (some .int))
theorem mo_X11_ways : zMok m_X11_ways 2 := ⟨zT_5 (i := 132) rfl rfl, zT_1 (i := 11) rfl rfl, by decide, by decide, by decide +kernel⟩
theorem in_X11_ways : Cond.instanceMethod yX11_ways ∈ zT := zT_5 (i := 131) rfl rfl
theorem se_X11_ways : Cond.selects yX11_ways.cls yX11_ways yX11_ways ∈ zT := zT_sel (i := 40) rfl rfl
abbrev m_X11_far : Mth := (yX11_far, cX11_far, 9, (some .int))
theorem mo_X11_far : zMok m_X11_far 2 := ⟨zT_5 (i := 136) rfl rfl, zT_1 (i := 11) rfl rfl, by decide, by decide, by decide +kernel⟩
theorem in_X11_far : Cond.instanceMethod yX11_far ∈ zT := zT_5 (i := 135) rfl rfl
theorem se_X11_far : Cond.selects yX11_far.cls yX11_far yX11_far ∈ zT := zT_sel (i := 41) rfl rfl
abbrev m_X11_coreOf : Mth := (yX11_coreOf, cX11_coreOf, 6, (some .long))
theorem mo_X11_coreOf : zMok m_X11_coreOf 1 := ⟨zT_5 (i := 103) rfl rfl, zT_1 (i := 11) rfl rfl, by decide, by decide, by decide +kernel⟩
theorem in_X11_coreOf : Cond.instanceMethod yX11_coreOf ∈ zT := zT_5 (i := 102) rfl rfl
theorem se_X11_coreOf : Cond.selects yX11_coreOf.cls yX11_coreOf yX11_coreOf ∈ zT := zT_sel (i := 35) rfl rfl
abbrev m_X11_cores : Mth := (yX11_cores, cX11_cores, 5, none)
theorem mo_X11_cores : zMok m_X11_cores 0 := ⟨zT_5 (i := 99) rfl rfl, zT_1 (i := 11) rfl rfl, by decide, by decide, by decide +kernel⟩
theorem in_X11_cores : Cond.instanceMethod yX11_cores ∈ zT := zT_5 (i := 98) rfl rfl
theorem se_X11_cores : Cond.selects yX11_cores.cls yX11_cores yX11_cores ∈ zT := zT_sel (i := 34) rfl rfl
abbrev m_X11_coreAt : Mth := (yX11_coreAt, cX11_coreAt, 2, (some .int))
theorem mo_X11_coreAt : zMok m_X11_coreAt 1 := ⟨zT_5 (i := 95) rfl rfl, zT_1 (i := 11) rfl rfl, by decide, by decide, by decide +kernel⟩
theorem in_X11_coreAt : Cond.instanceMethod yX11_coreAt ∈ zT := zT_5 (i := 94) rfl rfl
theorem se_X11_coreAt : Cond.selects yX11_coreAt.cls yX11_coreAt yX11_coreAt ∈ zT := zT_sel (i := 33) rfl rfl
abbrev m_X11_of : Mth := (yX11_of, cX11_of, 3, (some .int))
theorem mo_X11_of : zMok m_X11_of 2 := ⟨zT_5 (i := 87) rfl rfl, zT_1 (i := 11) rfl rfl, by decide, by decide, by decide +kernel⟩
theorem in_X11_of : Cond.instanceMethod yX11_of ∈ zT := zT_5 (i := 85) rfl rfl
theorem se_X11_of : Cond.selects yX11_of.cls yX11_of yX11_of ∈ zT := zT_5 (i := 86) rfl rfl
abbrev m_X11_two : Mth := (yX11_two, cX11_two, 4, (some .int))
theorem mo_X11_two : zMok m_X11_two 3 := ⟨zT_5 (i := 128) rfl rfl, zT_1 (i := 11) rfl rfl, by decide, by decide, by decide +kernel⟩
theorem in_X11_two : Cond.instanceMethod yX11_two ∈ zT := zT_5 (i := 126) rfl rfl
theorem se_X11_two : Cond.selects yX11_two.cls yX11_two yX11_two ∈ zT := zT_5 (i := 127) rfl rfl
abbrev m_X11_leaves : Mth := (yX11_leaves, cX11_leaves, 2, none)
theorem mo_X11_leaves : zMok m_X11_leaves 0 := ⟨zT_5 (i := 148) rfl rfl, zT_1 (i := 11) rfl rfl, by decide, by decide, by decide +kernel⟩
theorem in_X11_leaves : Cond.instanceMethod yX11_leaves ∈ zT := zT_5 (i := 147) rfl rfl
theorem se_X11_leaves : Cond.selects yX11_leaves.cls yX11_leaves yX11_leaves ∈ zT := zT_sel (i := 43) rfl rfl
abbrev m_X11_leaves_ : Mth := (yX11_leaves_, cX11_leaves_, 3, none)
theorem mo_X11_leaves_ : zMok m_X11_leaves_ 2 := ⟨zT_5 (i := 160) rfl rfl, zT_1 (i := 11) rfl rfl, by decide, by decide, by decide +kernel⟩
theorem in_X11_leaves_ : Cond.instanceMethod yX11_leaves_ ∈ zT := zT_5 (i := 159) rfl rfl
theorem se_X11_leaves_ : Cond.selects yX11_leaves_.cls yX11_leaves_ yX11_leaves_ ∈ zT := zT_sel (i := 46) rfl rfl
abbrev m_X11_supportLeft : Mth := (yX11_supportLeft, cX11_supportLeft, 2, (some .int))
theorem mo_X11_supportLeft : zMok m_X11_supportLeft 1 := ⟨zT_5 (i := 156) rfl rfl, zT_1 (i := 11) rfl rfl, by decide, by decide, by decide +kernel⟩
theorem in_X11_supportLeft : Cond.instanceMethod yX11_supportLeft ∈ zT := zT_5 (i := 155) rfl rfl
theorem se_X11_supportLeft : Cond.selects yX11_supportLeft.cls yX11_supportLeft yX11_supportLeft ∈ zT := zT_sel (i := 45) rfl rfl
abbrev m_X11_isLeft : Mth := (yX11_isLeft, cX11_isLeft, 2, (some .boolean))
theorem mo_X11_isLeft : zMok m_X11_isLeft 1 := ⟨zT_5 (i := 152) rfl rfl, zT_1 (i := 11) rfl rfl, by decide, by decide, by decide +kernel⟩
theorem in_X11_isLeft : Cond.instanceMethod yX11_isLeft ∈ zT := zT_5 (i := 151) rfl rfl
theorem se_X11_isLeft : Cond.selects yX11_isLeft.cls yX11_isLeft yX11_isLeft ∈ zT := zT_sel (i := 44) rfl rfl
abbrev m_X11_peels : Mth := (yX11_peels, cX11_peels, 4, none)
theorem mo_X11_peels : zMok m_X11_peels 0 := ⟨zT_5 (i := 144) rfl rfl, zT_1 (i := 11) rfl rfl, by decide, by decide, by decide +kernel⟩
theorem in_X11_peels : Cond.instanceMethod yX11_peels ∈ zT := zT_5 (i := 143) rfl rfl
theorem se_X11_peels : Cond.selects yX11_peels.cls yX11_peels yX11_peels ∈ zT := zT_sel (i := 42) rfl rfl
abbrev m_X11_edge_ : Mth := (yX11_edge_, cX11_edge_, 4, (some .int))
theorem mo_X11_edge_ : zMok m_X11_edge_ 3 := ⟨zT_5 (i := 140) rfl rfl, zT_1 (i := 11) rfl rfl, by decide, by decide, by decide +kernel⟩
theorem in_X11_edge_ : Cond.instanceMethod yX11_edge_ ∈ zT := zT_5 (i := 138) rfl rfl
theorem se_X11_edge_ : Cond.selects yX11_edge_.cls yX11_edge_ yX11_edge_ ∈ zT := zT_5 (i := 139) rfl rfl
abbrev m_X11_peeled : Mth := (yX11_peeled, cX11_peeled, 4, (some .int))
theorem mo_X11_peeled : zMok m_X11_peeled 2 := ⟨zT_5 (i := 164) rfl rfl, zT_1 (i := 11) rfl rfl, by decide, by decide, by decide +kernel⟩
theorem in_X11_peeled : Cond.instanceMethod yX11_peeled ∈ zT := zT_5 (i := 162) rfl rfl
theorem se_X11_peeled : Cond.selects yX11_peeled.cls yX11_peeled yX11_peeled ∈ zT := zT_5 (i := 163) rfl rfl
abbrev m_X11_isInTruss : Mth := (yX11_isInTruss, cX11_isInTruss, 3, (some .boolean))
theorem mo_X11_isInTruss : zMok m_X11_isInTruss 2 := ⟨zT_5 (i := 172) rfl rfl, zT_1 (i := 11) rfl rfl, by decide, by decide, by decide +kernel⟩
theorem in_X11_isInTruss : Cond.instanceMethod yX11_isInTruss ∈ zT := zT_5 (i := 171) rfl rfl
theorem se_X11_isInTruss : Cond.selects yX11_isInTruss.cls yX11_isInTruss yX11_isInTruss ∈ zT := zT_sel (i := 47) rfl rfl
abbrev m_X11_truss : Mth := (yX11_truss, cX11_truss, 4, (some .int))
theorem mo_X11_truss : zMok m_X11_truss 1 := ⟨zT_5 (i := 168) rfl rfl, zT_1 (i := 11) rfl rfl, by decide, by decide, by decide +kernel⟩
theorem in_X11_truss : Cond.instanceMethod yX11_truss ∈ zT := zT_5 (i := 166) rfl rfl
theorem se_X11_truss : Cond.selects yX11_truss.cls yX11_truss yX11_truss ∈ zT := zT_5 (i := 167) rfl rfl
abbrev m_X11_pieces : Mth := (yX11_pieces, cX11_pieces, 7, (some .int))
theorem mo_X11_pieces : zMok m_X11_pieces 1 := ⟨zT_5 (i := 176) rfl rfl, zT_1 (i := 11) rfl rfl, by decide, by decide, by decide +kernel⟩
theorem in_X11_pieces : Cond.instanceMethod yX11_pieces ∈ zT := zT_5 (i := 174) rfl rfl
theorem se_X11_pieces : Cond.selects yX11_pieces.cls yX11_pieces yX11_pieces ∈ zT := zT_5 (i := 175) rfl rfl
abbrev m_X11_hoodsBy : Mth := (yX11_hoodsBy, cX11_hoodsBy, 8, none)
theorem mo_X11_hoodsBy : zMok m_X11_hoodsBy 1 := ⟨zT_5 (i := 184) rfl rfl, zT_1 (i := 11) rfl rfl, by decide, by decide, by decide +kernel⟩
theorem in_X11_hoodsBy : Cond.instanceMethod yX11_hoodsBy ∈ zT := zT_5 (i := 183) rfl rfl
theorem se_X11_hoodsBy : Cond.selects yX11_hoodsBy.cls yX11_hoodsBy yX11_hoodsBy ∈ zT := zT_sel (i := 48) rfl rfl
abbrev m_X11_hood : Mth := (yX11_hood, cX11_hood, 6, (some .int))
theorem mo_X11_hood : zMok m_X11_hood 3 := ⟨zT_5 (i := 180) rfl rfl, zT_1 (i := 11) rfl rfl, by decide, by decide, by decide +kernel⟩
theorem in_X11_hood : Cond.instanceMethod yX11_hood ∈ zT := zT_5 (i := 178) rfl rfl
theorem se_X11_hood : Cond.selects yX11_hood.cls yX11_hood yX11_hood ∈ zT := zT_5 (i := 179) rfl rfl
abbrev m_X11_hoods : Mth := (yX11_hoods, cX11_hoods, 4, (some .int))
theorem mo_X11_hoods : zMok m_X11_hoods 1 := ⟨zT_5 (i := 188) rfl rfl, zT_1 (i := 11) rfl rfl, by decide, by decide, by decide +kernel⟩
theorem in_X11_hoods : Cond.instanceMethod yX11_hoods ∈ zT := zT_5 (i := 186) rfl rfl
theorem se_X11_hoods : Cond.selects yX11_hoods.cls yX11_hoods yX11_hoods ∈ zT := zT_5 (i := 187) rfl rfl
abbrev m_X11_core : Mth := (yX11_core, cX11_core, 2, (some .long))
theorem mo_X11_core : zMok m_X11_core 1 := ⟨zT_5 (i := 192) rfl rfl, zT_1 (i := 11) rfl rfl, by decide, by decide, by decide +kernel⟩
theorem in_X11_core : Cond.instanceMethod yX11_core ∈ zT := zT_5 (i := 190) rfl rfl
theorem se_X11_core : Cond.selects yX11_core.cls yX11_core yX11_core ∈ zT := zT_5 (i := 191) rfl rfl
abbrev m_X11_swap : Mth := (yX11_swap, cX11_swap, 7, (some .int))
theorem mo_X11_swap : zMok m_X11_swap 4 := ⟨zT_5 (i := 196) rfl rfl, zT_1 (i := 11) rfl rfl, by decide, by decide, by decide +kernel⟩
theorem in_X11_swap : Cond.instanceMethod yX11_swap ∈ zT := zT_5 (i := 194) rfl rfl
theorem se_X11_swap : Cond.selects yX11_swap.cls yX11_swap yX11_swap ∈ zT := zT_5 (i := 195) rfl rfl
abbrev m_X11_near : Mth := (yX11_near, cX11_near, 2, (some .long))
theorem mo_X11_near : zMok m_X11_near 1 := ⟨zT_5 (i := 204) rfl rfl, zT_1 (i := 11) rfl rfl, by decide, by decide, by decide +kernel⟩
theorem in_X11_near : Cond.instanceMethod yX11_near ∈ zT := zT_5 (i := 202) rfl rfl
theorem se_X11_near : Cond.selects yX11_near.cls yX11_near yX11_near ∈ zT := zT_5 (i := 203) rfl rfl
abbrev m_X11_allTwos : Mth := (yX11_allTwos, cX11_allTwos, 3, (some .int))
theorem mo_X11_allTwos : zMok m_X11_allTwos 0 := ⟨zT_5 (i := 216) rfl rfl, zT_1 (i := 11) rfl rfl, by decide, by decide, by decide +kernel⟩
theorem in_X11_allTwos : Cond.instanceMethod yX11_allTwos ∈ zT := zT_5 (i := 215) rfl rfl
theorem se_X11_allTwos : Cond.selects yX11_allTwos.cls yX11_allTwos yX11_allTwos ∈ zT := zT_sel (i := 51) rfl rfl
abbrev m_X11_told : Mth := (yX11_told, cX11_told, 2, (some .long))
theorem mo_X11_told : zMok m_X11_told 1 := ⟨zT_5 (i := 208) rfl rfl, zT_1 (i := 11) rfl rfl, by decide, by decide, by decide +kernel⟩
theorem in_X11_told : Cond.instanceMethod yX11_told ∈ zT := zT_5 (i := 206) rfl rfl
theorem se_X11_told : Cond.selects yX11_told.cls yX11_told yX11_told ∈ zT := zT_5 (i := 207) rfl rfl
abbrev m_X11_gcd : Mth := (yX11_gcd, cX11_gcd, 10, (some .long))
theorem mo_X11_gcd : zMok m_X11_gcd 2 := ⟨zT_5 (i := 228) rfl rfl, zT_1 (i := 11) rfl rfl, by decide, by decide, by decide +kernel⟩
theorem st_X11_gcd : Cond.static yX11_gcd ∈ zT := zT_5 (i := 227) rfl rfl
abbrev m_X11_closed : Mth := (yX11_closed, cX11_closed, 7, (some .long))
theorem mo_X11_closed : zMok m_X11_closed 2 := ⟨zT_5 (i := 224) rfl rfl, zT_1 (i := 11) rfl rfl, by decide, by decide, by decide +kernel⟩
theorem in_X11_closed : Cond.instanceMethod yX11_closed ∈ zT := zT_5 (i := 222) rfl rfl
theorem se_X11_closed : Cond.selects yX11_closed.cls yX11_closed yX11_closed ∈ zT := zT_5 (i := 223) rfl rfl
abbrev m_X11_value : Mth := (yX11_value, cX11_value, 11, (some .long))
theorem mo_X11_value : zMok m_X11_value 0 := ⟨zT_5 (i := 232) rfl rfl, zT_1 (i := 11) rfl rfl, by decide, by decide, by decide +kernel⟩
theorem in_X11_value : Cond.instanceMethod yX11_value ∈ zT := zT_5 (i := 230) rfl rfl
theorem se_X11_value : Cond.selects yX11_value.cls yX11_value yX11_value ∈ zT := zT_5 (i := 231) rfl rfl
abbrev m_X11_broken : Mth := (yX11_broken, cX11_broken, 6, (some .int))
theorem mo_X11_broken : zMok m_X11_broken 1 := ⟨zT_5 (i := 237) rfl rfl, zT_1 (i := 11) rfl rfl, by decide, by decide, by decide +kernel⟩
theorem in_X11_broken : Cond.instanceMethod yX11_broken ∈ zT := zT_5 (i := 235) rfl rfl
theorem se_X11_broken : Cond.selects yX11_broken.cls yX11_broken yX11_broken ∈ zT := zT_5 (i := 236) rfl rfl
abbrev m_X11_isEnough : Mth := (yX11_isEnough, cX11_isEnough, 5, (some .boolean))
theorem mo_X11_isEnough : zMok m_X11_isEnough 1 := ⟨zT_6 (i := 5) rfl rfl, zT_1 (i := 11) rfl rfl, by decide, by decide, by decide +kernel⟩
theorem in_X11_isEnough : Cond.instanceMethod yX11_isEnough ∈ zT := zT_6 (i := 4) rfl rfl
theorem se_X11_isEnough : Cond.selects yX11_isEnough.cls yX11_isEnough yX11_isEnough ∈ zT := zT_sel (i := 53) rfl rfl
abbrev m_X11_isEnoughWithout : Mth := (yX11_isEnoughWithout, cX11_isEnoughWithout, 5, (some .boolean))
theorem mo_X11_isEnoughWithout : zMok m_X11_isEnoughWithout 3 := ⟨zT_6 (i := 9) rfl rfl, zT_1 (i := 11) rfl rfl, by decide, by decide, by decide +kernel⟩
theorem in_X11_isEnoughWithout : Cond.instanceMethod yX11_isEnoughWithout ∈ zT := zT_6 (i := 8) rfl rfl
theorem se_X11_isEnoughWithout : Cond.selects yX11_isEnoughWithout.cls yX11_isEnoughWithout yX11_isEnoughWithout ∈ zT := zT_sel (i := 54) rfl rfl
abbrev m_X11_fewest : Mth := (yX11_fewest, cX11_fewest, 2, (some .int))
theorem mo_X11_fewest : zMok m_X11_fewest 0 := ⟨zT_6 (i := 1) rfl rfl, zT_1 (i := 11) rfl rfl, by decide, by decide, by decide +kernel⟩
theorem in_X11_fewest : Cond.instanceMethod yX11_fewest ∈ zT := zT_5 (i := 239) rfl rfl
theorem se_X11_fewest : Cond.selects yX11_fewest.cls yX11_fewest yX11_fewest ∈ zT := zT_6 (i := 0) rfl rfl
abbrev m_X11_feed : Mth := (yX11_feed, cX11_feed, 2, (some .int))
theorem mo_X11_feed : zMok m_X11_feed 1 := ⟨zT_6 (i := 13) rfl rfl, zT_1 (i := 11) rfl rfl, by decide, by decide, by decide +kernel⟩
theorem in_X11_feed : Cond.instanceMethod yX11_feed ∈ zT := zT_6 (i := 11) rfl rfl
theorem se_X11_feed : Cond.selects yX11_feed.cls yX11_feed yX11_feed ∈ zT := zT_6 (i := 12) rfl rfl
abbrev m_X11_clear : Mth := (yX11_clear, cX11_clear, 2, (some .int))
theorem mo_X11_clear : zMok m_X11_clear 0 := ⟨zT_6 (i := 17) rfl rfl, zT_1 (i := 11) rfl rfl, by decide, by decide, by decide +kernel⟩
theorem in_X11_clear : Cond.instanceMethod yX11_clear ∈ zT := zT_6 (i := 15) rfl rfl
theorem se_X11_clear : Cond.selects yX11_clear.cls yX11_clear yX11_clear ∈ zT := zT_6 (i := 16) rfl rfl
abbrev m_X11_here : Mth := (yX11_here, cX11_here, 1, (some .int))
theorem mo_X11_here : zMok m_X11_here 0 := ⟨zT_6 (i := 33) rfl rfl, zT_1 (i := 11) rfl rfl, by decide, by decide, by decide +kernel⟩
theorem in_X11_here : Cond.instanceMethod yX11_here ∈ zT := zT_6 (i := 32) rfl rfl
theorem se_X11_here : Cond.selects yX11_here.cls yX11_here yX11_here ∈ zT := zT_sel (i := 57) rfl rfl
abbrev m_X11_fails : Mth := (yX11_fails, cX11_fails, 2, (some .boolean))
theorem mo_X11_fails : zMok m_X11_fails 1 := ⟨zT_6 (i := 37) rfl rfl, zT_1 (i := 11) rfl rfl, by decide, by decide, by decide +kernel⟩
theorem in_X11_fails : Cond.instanceMethod yX11_fails ∈ zT := zT_6 (i := 36) rfl rfl
theorem se_X11_fails : Cond.selects yX11_fails.cls yX11_fails yX11_fails ∈ zT := zT_sel (i := 58) rfl rfl
abbrev m_X11_isSign : Mth := (yX11_isSign, cX11_isSign, 2, (some .boolean))
theorem mo_X11_isSign : zMok m_X11_isSign 1 := ⟨zT_6 (i := 49) rfl rfl, zT_1 (i := 11) rfl rfl, by decide, by decide, by decide +kernel⟩
theorem in_X11_isSign : Cond.instanceMethod yX11_isSign ∈ zT := zT_6 (i := 48) rfl rfl
theorem se_X11_isSign : Cond.selects yX11_isSign.cls yX11_isSign yX11_isSign ∈ zT := zT_sel (i := 61) rfl rfl
abbrev m_X11_isNumber : Mth := (yX11_isNumber, cX11_isNumber, 5, (some .boolean))
theorem mo_X11_isNumber : zMok m_X11_isNumber 2 := ⟨zT_6 (i := 41) rfl rfl, zT_1 (i := 11) rfl rfl, by decide, by decide, by decide +kernel⟩
theorem in_X11_isNumber : Cond.instanceMethod yX11_isNumber ∈ zT := zT_6 (i := 40) rfl rfl
theorem se_X11_isNumber : Cond.selects yX11_isNumber.cls yX11_isNumber yX11_isNumber ∈ zT := zT_sel (i := 59) rfl rfl
abbrev m_X11_begins : Mth := (yX11_begins, cX11_begins, 1, none)
theorem mo_X11_begins : zMok m_X11_begins 0 := ⟨zT_6 (i := 25) rfl rfl, zT_1 (i := 11) rfl rfl, by decide, by decide, by decide +kernel⟩
theorem in_X11_begins : Cond.instanceMethod yX11_begins ∈ zT := zT_6 (i := 24) rfl rfl
theorem se_X11_begins : Cond.selects yX11_begins.cls yX11_begins yX11_begins ∈ zT := zT_sel (i := 55) rfl rfl
abbrev m_X11_isTwo : Mth := (yX11_isTwo, cX11_isTwo, 3, (some .boolean))
theorem mo_X11_isTwo : zMok m_X11_isTwo 1 := ⟨zT_6 (i := 45) rfl rfl, zT_1 (i := 11) rfl rfl, by decide, by decide, by decide +kernel⟩
theorem in_X11_isTwo : Cond.instanceMethod yX11_isTwo ∈ zT := zT_6 (i := 44) rfl rfl
theorem se_X11_isTwo : Cond.selects yX11_isTwo.cls yX11_isTwo yX11_isTwo ∈ zT := zT_sel (i := 60) rfl rfl
abbrev m_X11_isPart : Mth := (yX11_isPart, cX11_isPart, 4, (some .boolean))
theorem mo_X11_isPart : zMok m_X11_isPart 1 := ⟨zT_6 (i := 29) rfl rfl, zT_1 (i := 11) rfl rfl, by decide, by decide, by decide +kernel⟩
theorem in_X11_isPart : Cond.instanceMethod yX11_isPart ∈ zT := zT_6 (i := 28) rfl rfl
theorem se_X11_isPart : Cond.selects yX11_isPart.cls yX11_isPart yX11_isPart ∈ zT := zT_sel (i := 56) rfl rfl
abbrev m_X11_does : Mth := (yX11_does, cX11_does, 5, none)
theorem mo_X11_does : zMok m_X11_does 1 := ⟨zT_6 (i := 53) rfl rfl, zT_1 (i := 11) rfl rfl, by decide, by decide, by decide +kernel⟩
theorem in_X11_does : Cond.instanceMethod yX11_does ∈ zT := zT_6 (i := 52) rfl rfl
theorem se_X11_does : Cond.selects yX11_does.cls yX11_does yX11_does ∈ zT := zT_sel (i := 62) rfl rfl
abbrev m_X11_batch : Mth := (yX11_batch, cX11_batch, 5, (some .int))
theorem mo_X11_batch : zMok m_X11_batch 0 := ⟨zT_6 (i := 21) rfl rfl, zT_1 (i := 11) rfl rfl, by decide, by decide, by decide +kernel⟩
theorem in_X11_batch : Cond.instanceMethod yX11_batch ∈ zT := zT_6 (i := 19) rfl rfl
theorem se_X11_batch : Cond.selects yX11_batch.cls yX11_batch yX11_batch ∈ zT := zT_6 (i := 20) rfl rfl
abbrev m_X11_letterOf : Mth := (yX11_letterOf, cX11_letterOf, 3, (some .int))
theorem mo_X11_letterOf : zMok m_X11_letterOf 2 := ⟨zT_6 (i := 77) rfl rfl, zT_1 (i := 11) rfl rfl, by decide, by decide, by decide +kernel⟩
theorem in_X11_letterOf : Cond.instanceMethod yX11_letterOf ∈ zT := zT_6 (i := 76) rfl rfl
theorem se_X11_letterOf : Cond.selects yX11_letterOf.cls yX11_letterOf yX11_letterOf ∈ zT := zT_sel (i := 67) rfl rfl
abbrev m_X11_tested : Mth := (yX11_tested, cX11_tested, 7, (some .long))
theorem mo_X11_tested : zMok m_X11_tested 0 := ⟨zT_6 (i := 73) rfl rfl, zT_1 (i := 11) rfl rfl, by decide, by decide, by decide +kernel⟩
theorem in_X11_tested : Cond.instanceMethod yX11_tested ∈ zT := zT_6 (i := 72) rfl rfl
theorem se_X11_tested : Cond.selects yX11_tested.cls yX11_tested yX11_tested ∈ zT := zT_sel (i := 66) rfl rfl
abbrev m_X11_factor : Mth := (yX11_factor, cX11_factor, 8, (some .long))
theorem mo_X11_factor : zMok m_X11_factor 1 := ⟨zT_6 (i := 69) rfl rfl, zT_1 (i := 11) rfl rfl, by decide, by decide, by decide +kernel⟩
theorem in_X11_factor : Cond.instanceMethod yX11_factor ∈ zT := zT_6 (i := 68) rfl rfl
theorem se_X11_factor : Cond.selects yX11_factor.cls yX11_factor yX11_factor ∈ zT := zT_sel (i := 65) rfl rfl
abbrev m_X11_both : Mth := (yX11_both, cX11_both, 4, (some .long))
theorem mo_X11_both : zMok m_X11_both 1 := ⟨zT_6 (i := 65) rfl rfl, zT_1 (i := 11) rfl rfl, by decide, by decide, by decide +kernel⟩
theorem in_X11_both : Cond.instanceMethod yX11_both ∈ zT := zT_6 (i := 64) rfl rfl
theorem se_X11_both : Cond.selects yX11_both.cls yX11_both yX11_both ∈ zT := zT_sel (i := 64) rfl rfl
abbrev m_X11_either : Mth := (yX11_either, cX11_either, 4, (some .long))
theorem mo_X11_either : zMok m_X11_either 1 := ⟨zT_6 (i := 61) rfl rfl, zT_1 (i := 11) rfl rfl, by decide, by decide, by decide +kernel⟩
theorem in_X11_either : Cond.instanceMethod yX11_either ∈ zT := zT_6 (i := 60) rfl rfl
theorem se_X11_either : Cond.selects yX11_either.cls yX11_either yX11_either ∈ zT := zT_sel (i := 63) rfl rfl
abbrev m_X11_pick : Mth := (yX11_pick, cX11_pick, 3, (some .int))
theorem mo_X11_pick : zMok m_X11_pick 0 := ⟨zT_6 (i := 57) rfl rfl, zT_1 (i := 11) rfl rfl, by decide, by decide, by decide +kernel⟩
theorem in_X11_pick : Cond.instanceMethod yX11_pick ∈ zT := zT_6 (i := 55) rfl rfl
theorem se_X11_pick : Cond.selects yX11_pick.cls yX11_pick yX11_pick ∈ zT := zT_6 (i := 56) rfl rfl
abbrev m_X11_picked : Mth := (yX11_picked, cX11_picked, 1, (some .long))
theorem mo_X11_picked : zMok m_X11_picked 0 := ⟨zT_6 (i := 81) rfl rfl, zT_1 (i := 11) rfl rfl, by decide, by decide, by decide +kernel⟩
theorem in_X11_picked : Cond.instanceMethod yX11_picked ∈ zT := zT_6 (i := 79) rfl rfl
theorem se_X11_picked : Cond.selects yX11_picked.cls yX11_picked yX11_picked ∈ zT := zT_6 (i := 80) rfl rfl
abbrev m_X11_says : Mth := (yX11_says, cX11_says, 2, none)
theorem mo_X11_says : zMok m_X11_says 1 := ⟨zT_6 (i := 89) rfl rfl, zT_1 (i := 11) rfl rfl, by decide, by decide, by decide +kernel⟩
theorem in_X11_says : Cond.instanceMethod yX11_says ∈ zT := zT_6 (i := 88) rfl rfl
theorem se_X11_says : Cond.selects yX11_says.cls yX11_says yX11_says ∈ zT := zT_sel (i := 68) rfl rfl
abbrev m_X11_saysNumber : Mth := (yX11_saysNumber, cX11_saysNumber, 2, none)
theorem mo_X11_saysNumber : zMok m_X11_saysNumber 1 := ⟨zT_6 (i := 93) rfl rfl, zT_1 (i := 11) rfl rfl, by decide, by decide, by decide +kernel⟩
theorem in_X11_saysNumber : Cond.instanceMethod yX11_saysNumber ∈ zT := zT_6 (i := 92) rfl rfl
theorem se_X11_saysNumber : Cond.selects yX11_saysNumber.cls yX11_saysNumber yX11_saysNumber ∈ zT := zT_sel (i := 69) rfl rfl
abbrev m_X11_spell : Mth := (yX11_spell, cX11_spell, 2, (some .int))
theorem mo_X11_spell : zMok m_X11_spell 0 := ⟨zT_6 (i := 85) rfl rfl, zT_1 (i := 11) rfl rfl, by decide, by decide, by decide +kernel⟩
theorem in_X11_spell : Cond.instanceMethod yX11_spell ∈ zT := zT_6 (i := 83) rfl rfl
theorem se_X11_spell : Cond.selects yX11_spell.cls yX11_spell yX11_spell ∈ zT := zT_6 (i := 84) rfl rfl
abbrev m_X11_paper : Mth := (yX11_paper, cX11_paper, 2, (some .int))
theorem mo_X11_paper : zMok m_X11_paper 1 := ⟨zT_6 (i := 97) rfl rfl, zT_1 (i := 11) rfl rfl, by decide, by decide, by decide +kernel⟩
theorem in_X11_paper : Cond.instanceMethod yX11_paper ∈ zT := zT_6 (i := 95) rfl rfl
theorem se_X11_paper : Cond.selects yX11_paper.cls yX11_paper yX11_paper ∈ zT := zT_6 (i := 96) rfl rfl
abbrev m_X11_isList : Mth := (yX11_isList, cX11_isList, 1, (some .boolean))
theorem mo_X11_isList : zMok m_X11_isList 1 := ⟨zT_6 (i := 104) rfl rfl, zT_1 (i := 11) rfl rfl, by decide, by decide, by decide +kernel⟩
theorem st_X11_isList : Cond.static yX11_isList ∈ zT := zT_6 (i := 103) rfl rfl
abbrev m_X11_isWide : Mth := (yX11_isWide, cX11_isWide, 1, (some .boolean))
theorem mo_X11_isWide : zMok m_X11_isWide 1 := ⟨zT_6 (i := 115) rfl rfl, zT_1 (i := 11) rfl rfl, by decide, by decide, by decide +kernel⟩
theorem st_X11_isWide : Cond.static yX11_isWide ∈ zT := zT_6 (i := 114) rfl rfl
abbrev m_X11_wrong : Mth := (yX11_wrong, cX11_wrong, 2, (some .int))
theorem mo_X11_wrong : zMok m_X11_wrong 1 := ⟨zT_6 (i := 112) rfl rfl, zT_1 (i := 11) rfl rfl, by decide, by decide, by decide +kernel⟩
theorem in_X11_wrong : Cond.instanceMethod yX11_wrong ∈ zT := zT_6 (i := 111) rfl rfl
theorem se_X11_wrong : Cond.selects yX11_wrong.cls yX11_wrong yX11_wrong ∈ zT := zT_sel (i := 70) rfl rfl
abbrev m_X11_list : Mth := (yX11_list, cX11_list, 4, (some .int))
theorem mo_X11_list : zMok m_X11_list 2 := ⟨zT_6 (i := 101) rfl rfl, zT_1 (i := 11) rfl rfl, by decide, by decide, by decide +kernel⟩
theorem in_X11_list : Cond.instanceMethod yX11_list ∈ zT := zT_6 (i := 99) rfl rfl
theorem se_X11_list : Cond.selects yX11_list.cls yX11_list yX11_list ∈ zT := zT_6 (i := 100) rfl rfl
abbrev m_X11_set : Mth := (yX11_set, cX11_set, 6, (some .int))
theorem mo_X11_set : zMok m_X11_set 3 := ⟨zT_6 (i := 108) rfl rfl, zT_1 (i := 11) rfl rfl, by decide, by decide, by decide +kernel⟩
theorem in_X11_set : Cond.instanceMethod yX11_set ∈ zT := zT_6 (i := 106) rfl rfl
theorem se_X11_set : Cond.selects yX11_set.cls yX11_set yX11_set ∈ zT := zT_6 (i := 107) rfl rfl
abbrev m_X11_get : Mth := (yX11_get, cX11_get, 3, (some .long))
theorem mo_X11_get : zMok m_X11_get 2 := ⟨zT_6 (i := 119) rfl rfl, zT_1 (i := 11) rfl rfl, by decide, by decide, by decide +kernel⟩
theorem in_X11_get : Cond.instanceMethod yX11_get ∈ zT := zT_6 (i := 117) rfl rfl
theorem se_X11_get : Cond.selects yX11_get.cls yX11_get yX11_get ∈ zT := zT_6 (i := 118) rfl rfl
abbrev m_X11_move : Mth := (yX11_move, cX11_move, 8, (some .int))
theorem mo_X11_move : zMok m_X11_move 5 := ⟨zT_6 (i := 123) rfl rfl, zT_1 (i := 11) rfl rfl, by decide, by decide, by decide +kernel⟩
theorem in_X11_move : Cond.instanceMethod yX11_move ∈ zT := zT_6 (i := 121) rfl rfl
theorem se_X11_move : Cond.selects yX11_move.cls yX11_move yX11_move ∈ zT := zT_6 (i := 122) rfl rfl
abbrev m_X11_figure : Mth := (yX11_figure, cX11_figure, 3, (some .int))
theorem mo_X11_figure : zMok m_X11_figure 2 := ⟨zT_6 (i := 131) rfl rfl, zT_1 (i := 11) rfl rfl, by decide, by decide, by decide +kernel⟩
theorem in_X11_figure : Cond.instanceMethod yX11_figure ∈ zT := zT_6 (i := 130) rfl rfl
theorem se_X11_figure : Cond.selects yX11_figure.cls yX11_figure yX11_figure ∈ zT := zT_sel (i := 71) rfl rfl
abbrev m_X11_lay : Mth := (yX11_lay, cX11_lay, 5, (some .int))
theorem mo_X11_lay : zMok m_X11_lay 3 := ⟨zT_6 (i := 127) rfl rfl, zT_1 (i := 11) rfl rfl, by decide, by decide, by decide +kernel⟩
theorem in_X11_lay : Cond.instanceMethod yX11_lay ∈ zT := zT_6 (i := 125) rfl rfl
theorem se_X11_lay : Cond.selects yX11_lay.cls yX11_lay yX11_lay ∈ zT := zT_6 (i := 126) rfl rfl
abbrev m_X11_judge : Mth := (yX11_judge, cX11_judge, 5, (some .int))
theorem mo_X11_judge : zMok m_X11_judge 3 := ⟨zT_6 (i := 135) rfl rfl, zT_1 (i := 11) rfl rfl, by decide, by decide, by decide +kernel⟩
theorem in_X11_judge : Cond.instanceMethod yX11_judge ∈ zT := zT_6 (i := 133) rfl rfl
theorem se_X11_judge : Cond.selects yX11_judge.cls yX11_judge yX11_judge ∈ zT := zT_6 (i := 134) rfl rfl
abbrev m_X11_image : Mth := (yX11_image, cX11_image, 2, (some .int))
theorem mo_X11_image : zMok m_X11_image 0 := ⟨zT_6 (i := 139) rfl rfl, zT_1 (i := 11) rfl rfl, by decide, by decide, by decide +kernel⟩
theorem in_X11_image : Cond.instanceMethod yX11_image ∈ zT := zT_6 (i := 137) rfl rfl
theorem se_X11_image : Cond.selects yX11_image.cls yX11_image yX11_image ∈ zT := zT_6 (i := 138) rfl rfl
abbrev m_X11_undo : Mth := (yX11_undo, cX11_undo, 2, (some .int))
theorem mo_X11_undo : zMok m_X11_undo 0 := ⟨zT_6 (i := 143) rfl rfl, zT_1 (i := 11) rfl rfl, by decide, by decide, by decide +kernel⟩
theorem in_X11_undo : Cond.instanceMethod yX11_undo ∈ zT := zT_6 (i := 141) rfl rfl
theorem se_X11_undo : Cond.selects yX11_undo.cls yX11_undo yX11_undo ∈ zT := zT_6 (i := 142) rfl rfl
abbrev m_J6_numberOfTrailingZeros_0f7a4 : Mth := (yJ6_numberOfTrailingZeros_0f7a4, cJ6_numberOfTrailingZeros_0f7a4, 2, (some .int))
theorem mo_J6_numberOfTrailingZeros_0f7a4 : zMok m_J6_numberOfTrailingZeros_0f7a4 1 := ⟨zT_3 (i := 141) rfl rfl, zT_1 (i := 18) rfl rfl, by decide, by decide, by decide +kernel⟩
theorem st_J6_numberOfTrailingZeros_0f7a4 : Cond.static yJ6_numberOfTrailingZeros_0f7a4 ∈ zT := zT_3 (i := 140) rfl rfl
abbrev m_J13_numberOfTrailingZeros_95d88 : Mth := (yJ13_numberOfTrailingZeros_95d88, cJ13_numberOfTrailingZeros_95d88, 3, (some .int))
theorem mo_J13_numberOfTrailingZeros_95d88 : zMok m_J13_numberOfTrailingZeros_95d88 1 := ⟨zT_3 (i := 138) rfl rfl, zT_1 (i := 16) rfl rfl, by decide, by decide, by decide +kernel⟩
theorem st_J13_numberOfTrailingZeros_95d88 : Cond.static yJ13_numberOfTrailingZeros_95d88 ∈ zT := zT_3 (i := 137) rfl rfl
abbrev m_J13_bitCount_95d88 : Mth := (yJ13_bitCount_95d88, cJ13_bitCount_95d88, 2, (some .int))
theorem mo_J13_bitCount_95d88 : zMok m_J13_bitCount_95d88 1 := ⟨zT_2 (i := 117) rfl rfl, zT_1 (i := 16) rfl rfl, by decide, by decide, by decide +kernel⟩
theorem st_J13_bitCount_95d88 : Cond.static yJ13_bitCount_95d88 ∈ zT := zT_2 (i := 116) rfl rfl
abbrev m_J7_fill_d0a16 : Mth := (yJ7_fill_d0a16, cJ7_fill_d0a16, 5, none)
theorem mo_J7_fill_d0a16 : zMok m_J7_fill_d0a16 2 := ⟨zT_3 (i := 40) rfl rfl, zT_1 (i := 17) rfl rfl, by decide, by decide, by decide +kernel⟩
theorem st_J7_fill_d0a16 : Cond.static yJ7_fill_d0a16 ∈ zT := zT_3 (i := 39) rfl rfl
abbrev m_J7_fill_53178 : Mth := (yJ7_fill_53178, cJ7_fill_53178, 4, none)
theorem mo_J7_fill_53178 : zMok m_J7_fill_53178 2 := ⟨zT_2 (i := 169) rfl rfl, zT_1 (i := 17) rfl rfl, by decide, by decide, by decide +kernel⟩
theorem st_J7_fill_53178 : Cond.static yJ7_fill_53178 ∈ zT := zT_2 (i := 168) rfl rfl
abbrev m_J7_copyOf_9075b : Mth := (yJ7_copyOf_9075b, cJ7_copyOf_9075b, 3, (some (.array .byte)))
theorem mo_J7_copyOf_9075b : zMok m_J7_copyOf_9075b 2 := ⟨zT_4 (i := 47) rfl rfl, zT_1 (i := 17) rfl rfl, by decide, by decide, by decide +kernel⟩
theorem st_J7_copyOf_9075b : Cond.static yJ7_copyOf_9075b ∈ zT := zT_4 (i := 46) rfl rfl
abbrev m_L_law : Mth := (yL_law, cL_law, 4, (some .boolean))
theorem fl_RX10_14 : zFL RX10 14 9 0 := ⟨by decide, by decide, zT_2 (i := 27) rfl rfl⟩
theorem fl_RX10_18 : zFL RX10 18 9 1 := ⟨by decide, by decide, zT_2 (i := 28) rfl rfl⟩
theorem fl_RX10_21 : zFL RX10 21 9 2 := ⟨by decide, by decide, zT_2 (i := 29) rfl rfl⟩
theorem fl_RX10_28 : zFL RX10 28 9 3 := ⟨by decide, by decide, zT_2 (i := 30) rfl rfl⟩
theorem fl_RX10_35 : zFL RX10 35 9 4 := ⟨by decide, by decide, zT_2 (i := 31) rfl rfl⟩
theorem fl_RX10_42 : zFL RX10 42 9 5 := ⟨by decide, by decide, zT_2 (i := 32) rfl rfl⟩
theorem fl_RX10_49 : zFL RX10 49 9 6 := ⟨by decide, by decide, zT_2 (i := 33) rfl rfl⟩
theorem fl_RX10_56 : zFL RX10 56 9 7 := ⟨by decide, by decide, zT_2 (i := 34) rfl rfl⟩
theorem fl_RX10_63 : zFL RX10 63 9 8 := ⟨by decide, by decide, zT_2 (i := 35) rfl rfl⟩
theorem fl_RX10_69 : zFL RX10 69 9 9 := ⟨by decide, by decide, zT_2 (i := 36) rfl rfl⟩
theorem fl_RX10_73 : zFL RX10 73 9 10 := ⟨by decide, by decide, zT_2 (i := 37) rfl rfl⟩
theorem fl_RX10_93 : zFL RX10 93 2 0 := ⟨by decide, by decide, zT_1 (i := 52) rfl rfl⟩
theorem fl_RX10_109 : zFL RX10 109 2 1 := ⟨by decide, by decide, zT_1 (i := 54) rfl rfl⟩
theorem fl_RX10_140 : zFL RX10 140 2 5 := ⟨by decide, by decide, zT_1 (i := 62) rfl rfl⟩
theorem fl_RX10_160 : zFL RX10 160 5 3 := ⟨by decide, by decide, zT_1 (i := 106) rfl rfl⟩
theorem fl_RX10_163 : zFL RX10 163 5 4 := ⟨by decide, by decide, zT_1 (i := 108) rfl rfl⟩
theorem fl_RX10_173 : zFL RX10 173 2 3 := ⟨by decide, by decide, zT_1 (i := 58) rfl rfl⟩
theorem fl_RX10_180 : zFL RX10 180 2 4 := ⟨by decide, by decide, zT_1 (i := 60) rfl rfl⟩
theorem fl_RX10_187 : zFL RX10 187 2 6 := ⟨by decide, by decide, zT_1 (i := 64) rfl rfl⟩
theorem fl_RX10_190 : zFL RX10 190 2 7 := ⟨by decide, by decide, zT_1 (i := 66) rfl rfl⟩
theorem fl_RX10_193 : zFL RX10 193 2 8 := ⟨by decide, by decide, zT_1 (i := 68) rfl rfl⟩
theorem fl_RX10_196 : zFL RX10 196 2 9 := ⟨by decide, by decide, zT_1 (i := 70) rfl rfl⟩
theorem fl_RX10_199 : zFL RX10 199 2 2 := ⟨by decide, by decide, zT_1 (i := 56) rfl rfl⟩
theorem fl_RX10_203 : zFL RX10 203 4 1 := ⟨by decide, by decide, zT_1 (i := 42) rfl rfl⟩
theorem fl_RX10_211 : zFL RX10 211 3 1 := ⟨by decide, by decide, zT_1 (i := 237) rfl rfl⟩
theorem fl_RX10_236 : zFL RX10 236 5 8 := ⟨by decide, by decide, zT_1 (i := 114) rfl rfl⟩
theorem fl_RX10_237 : zFL RX10 237 5 5 := ⟨by decide, by decide, zT_1 (i := 110) rfl rfl⟩
theorem fl_RX10_263 : zFL RX10 263 1 1 := ⟨by decide, by decide, zT_1 (i := 142) rfl rfl⟩
theorem fl_RX10_266 : zFL RX10 266 1 2 := ⟨by decide, by decide, zT_1 (i := 144) rfl rfl⟩
theorem fl_RX10_272 : zFL RX10 272 8 1 := ⟨by decide, by decide, zT_1 (i := 160) rfl rfl⟩
theorem fl_RX10_285 : zFL RX10 285 8 3 := ⟨by decide, by decide, zT_1 (i := 165) rfl rfl⟩
theorem fl_RX10_288 : zFL RX10 288 0 4 := ⟨by decide, by decide, zT_1 (i := 191) rfl rfl⟩
theorem fl_RX10_297 : zFL RX10 297 2 10 := ⟨by decide, by decide, zT_1 (i := 72) rfl rfl⟩
theorem fl_RX10_303 : zFL RX10 303 3 0 := ⟨by decide, by decide, zT_1 (i := 235) rfl rfl⟩
theorem fl_RX10_317 : zFL RX10 317 7 2 := ⟨by decide, by decide, zT_2 (i := 15) rfl rfl⟩
theorem fl_RX10_327 : zFL RX10 327 7 1 := ⟨by decide, by decide, zT_2 (i := 13) rfl rfl⟩
theorem fl_RX10_330 : zFL RX10 330 7 0 := ⟨by decide, by decide, zT_2 (i := 11) rfl rfl⟩
theorem fl_RX10_333 : zFL RX10 333 7 3 := ⟨by decide, by decide, zT_2 (i := 17) rfl rfl⟩
theorem fl_RX10_356 : zFL RX10 356 0 1 := ⟨by decide, by decide, zT_1 (i := 185) rfl rfl⟩
theorem fl_RX10_359 : zFL RX10 359 0 2 := ⟨by decide, by decide, zT_1 (i := 187) rfl rfl⟩
theorem fl_RX10_362 : zFL RX10 362 0 0 := ⟨by decide, by decide, zT_1 (i := 183) rfl rfl⟩
theorem fl_RX10_365 : zFL RX10 365 0 3 := ⟨by decide, by decide, zT_1 (i := 189) rfl rfl⟩
theorem fl_RX0_11 : zFL RX0 11 0 0 := ⟨by decide, by decide, zT_1 (i := 182) rfl rfl⟩
theorem fl_RX0_15 : zFL RX0 15 0 1 := ⟨by decide, by decide, zT_1 (i := 184) rfl rfl⟩
theorem fl_RX0_18 : zFL RX0 18 0 2 := ⟨by decide, by decide, zT_1 (i := 186) rfl rfl⟩
theorem fl_RX0_21 : zFL RX0 21 0 3 := ⟨by decide, by decide, zT_1 (i := 188) rfl rfl⟩
theorem fl_RX0_24 : zFL RX0 24 0 4 := ⟨by decide, by decide, zT_1 (i := 190) rfl rfl⟩
theorem fl_RX0_48 : zFL RX0 48 8 2 := ⟨by decide, by decide, zT_1 (i := 162) rfl rfl⟩
theorem fl_RX1_9 : zFL RX1 9 1 0 := ⟨by decide, by decide, zT_1 (i := 140) rfl rfl⟩
theorem fl_RX1_15 : zFL RX1 15 1 1 := ⟨by decide, by decide, zT_1 (i := 141) rfl rfl⟩
theorem fl_RX1_19 : zFL RX1 19 1 2 := ⟨by decide, by decide, zT_1 (i := 143) rfl rfl⟩
theorem fl_RX3_9 : zFL RX3 9 2 0 := ⟨by decide, by decide, zT_1 (i := 50) rfl rfl⟩
theorem fl_RX3_15 : zFL RX3 15 2 1 := ⟨by decide, by decide, zT_1 (i := 53) rfl rfl⟩
theorem fl_RX3_22 : zFL RX3 22 2 2 := ⟨by decide, by decide, zT_1 (i := 55) rfl rfl⟩
theorem fl_RX3_26 : zFL RX3 26 2 3 := ⟨by decide, by decide, zT_1 (i := 57) rfl rfl⟩
theorem fl_RX3_30 : zFL RX3 30 2 4 := ⟨by decide, by decide, zT_1 (i := 59) rfl rfl⟩
theorem fl_RX3_33 : zFL RX3 33 2 5 := ⟨by decide, by decide, zT_1 (i := 61) rfl rfl⟩
theorem fl_RX3_37 : zFL RX3 37 2 6 := ⟨by decide, by decide, zT_1 (i := 63) rfl rfl⟩
theorem fl_RX3_40 : zFL RX3 40 2 7 := ⟨by decide, by decide, zT_1 (i := 65) rfl rfl⟩
theorem fl_RX3_43 : zFL RX3 43 2 8 := ⟨by decide, by decide, zT_1 (i := 67) rfl rfl⟩
theorem fl_RX3_46 : zFL RX3 46 2 9 := ⟨by decide, by decide, zT_1 (i := 69) rfl rfl⟩
theorem fl_RX3_49 : zFL RX3 49 2 10 := ⟨by decide, by decide, zT_1 (i := 71) rfl rfl⟩
theorem fl_RX3_72 : zFL RX3 72 4 1 := ⟨by decide, by decide, zT_1 (i := 41) rfl rfl⟩
theorem fl_RX4_11 : zFL RX4 11 3 0 := ⟨by decide, by decide, zT_1 (i := 234) rfl rfl⟩
theorem fl_RX4_15 : zFL RX4 15 3 1 := ⟨by decide, by decide, zT_1 (i := 236) rfl rfl⟩
theorem fl_RX5_11 : zFL RX5 11 4 0 := ⟨by decide, by decide, zT_1 (i := 39) rfl rfl⟩
theorem fl_RX5_15 : zFL RX5 15 4 1 := ⟨by decide, by decide, zT_1 (i := 40) rfl rfl⟩
theorem fl_RX6_9 : zFL RX6 9 5 0 := ⟨by decide, by decide, zT_1 (i := 102) rfl rfl⟩
theorem fl_RX6_15 : zFL RX6 15 5 1 := ⟨by decide, by decide, zT_1 (i := 103) rfl rfl⟩
theorem fl_RX6_18 : zFL RX6 18 5 2 := ⟨by decide, by decide, zT_1 (i := 104) rfl rfl⟩
theorem fl_RX6_22 : zFL RX6 22 5 3 := ⟨by decide, by decide, zT_1 (i := 105) rfl rfl⟩
theorem fl_RX6_25 : zFL RX6 25 5 4 := ⟨by decide, by decide, zT_1 (i := 107) rfl rfl⟩
theorem fl_RX6_28 : zFL RX6 28 5 5 := ⟨by decide, by decide, zT_1 (i := 109) rfl rfl⟩
theorem fl_RX6_31 : zFL RX6 31 5 6 := ⟨by decide, by decide, zT_1 (i := 111) rfl rfl⟩
theorem fl_RX6_34 : zFL RX6 34 5 7 := ⟨by decide, by decide, zT_1 (i := 112) rfl rfl⟩
theorem fl_RX6_37 : zFL RX6 37 5 8 := ⟨by decide, by decide, zT_1 (i := 113) rfl rfl⟩
theorem fl_RX7_9 : zFL RX7 9 6 0 := ⟨by decide, by decide, zT_1 (i := 209) rfl rfl⟩
theorem fl_RX7_15 : zFL RX7 15 6 1 := ⟨by decide, by decide, zT_1 (i := 210) rfl rfl⟩
theorem fl_RX7_19 : zFL RX7 19 6 2 := ⟨by decide, by decide, zT_1 (i := 211) rfl rfl⟩
theorem fl_RX7_22 : zFL RX7 22 6 3 := ⟨by decide, by decide, zT_1 (i := 212) rfl rfl⟩
theorem fl_RX7_25 : zFL RX7 25 6 4 := ⟨by decide, by decide, zT_1 (i := 213) rfl rfl⟩
theorem fl_RX7_28 : zFL RX7 28 6 5 := ⟨by decide, by decide, zT_1 (i := 214) rfl rfl⟩
theorem fl_RX7_31 : zFL RX7 31 2 0 := ⟨by decide, by decide, zT_1 (i := 51) rfl rfl⟩
theorem fl_RX7_79 : zFL RX7 79 8 2 := ⟨by decide, by decide, zT_1 (i := 163) rfl rfl⟩
theorem fl_RX8_9 : zFL RX8 9 7 1 := ⟨by decide, by decide, zT_2 (i := 12) rfl rfl⟩
theorem fl_RX8_15 : zFL RX8 15 7 2 := ⟨by decide, by decide, zT_2 (i := 14) rfl rfl⟩
theorem fl_RX8_19 : zFL RX8 19 7 3 := ⟨by decide, by decide, zT_2 (i := 16) rfl rfl⟩
theorem fl_RX8_23 : zFL RX8 23 7 0 := ⟨by decide, by decide, zT_2 (i := 10) rfl rfl⟩
theorem fl_RX9_9 : zFL RX9 9 8 0 := ⟨by decide, by decide, zT_1 (i := 158) rfl rfl⟩
theorem fl_RX9_15 : zFL RX9 15 8 1 := ⟨by decide, by decide, zT_1 (i := 159) rfl rfl⟩
theorem fl_RX9_19 : zFL RX9 19 8 2 := ⟨by decide, by decide, zT_1 (i := 161) rfl rfl⟩
theorem fl_RX9_22 : zFL RX9 22 8 3 := ⟨by decide, by decide, zT_1 (i := 164) rfl rfl⟩
theorem fl_RX11_11 : zFL RX11 11 10 0 := ⟨by decide, by decide, zT_4 (i := 162) rfl rfl⟩
theorem fl_RX11_15 : zFL RX11 15 10 1 := ⟨by decide, by decide, zT_4 (i := 163) rfl rfl⟩
theorem fl_RX11_18 : zFL RX11 18 10 2 := ⟨by decide, by decide, zT_4 (i := 164) rfl rfl⟩
theorem fl_RX11_21 : zFL RX11 21 10 3 := ⟨by decide, by decide, zT_4 (i := 165) rfl rfl⟩
theorem fl_RX11_24 : zFL RX11 24 10 4 := ⟨by decide, by decide, zT_4 (i := 166) rfl rfl⟩
theorem fl_RX11_28 : zFL RX11 28 10 5 := ⟨by decide, by decide, zT_4 (i := 167) rfl rfl⟩
theorem fl_RX11_31 : zFL RX11 31 10 11 := ⟨by decide, by decide, zT_4 (i := 173) rfl rfl⟩
theorem fl_RX11_34 : zFL RX11 34 10 12 := ⟨by decide, by decide, zT_4 (i := 174) rfl rfl⟩
theorem fl_RX11_37 : zFL RX11 37 10 13 := ⟨by decide, by decide, zT_4 (i := 175) rfl rfl⟩
theorem fl_RX11_40 : zFL RX11 40 10 14 := ⟨by decide, by decide, zT_4 (i := 176) rfl rfl⟩
theorem fl_RX11_43 : zFL RX11 43 10 15 := ⟨by decide, by decide, zT_4 (i := 177) rfl rfl⟩
theorem fl_RX11_46 : zFL RX11 46 10 17 := ⟨by decide, by decide, zT_4 (i := 179) rfl rfl⟩
theorem fl_RX11_49 : zFL RX11 49 10 18 := ⟨by decide, by decide, zT_4 (i := 180) rfl rfl⟩
theorem fl_RX11_52 : zFL RX11 52 10 23 := ⟨by decide, by decide, zT_4 (i := 185) rfl rfl⟩
theorem fl_RX11_55 : zFL RX11 55 10 24 := ⟨by decide, by decide, zT_4 (i := 186) rfl rfl⟩
theorem fl_RX11_58 : zFL RX11 58 10 26 := ⟨by decide, by decide, zT_4 (i := 188) rfl rfl⟩
theorem fl_RX11_61 : zFL RX11 61 10 27 := ⟨by decide, by decide, zT_4 (i := 189) rfl rfl⟩
theorem fl_RX11_80 : zFL RX11 80 10 6 := ⟨by decide, by decide, zT_4 (i := 168) rfl rfl⟩
theorem fl_RX11_173 : zFL RX11 173 10 16 := ⟨by decide, by decide, zT_4 (i := 178) rfl rfl⟩
theorem fl_RX11_203 : zFL RX11 203 10 25 := ⟨by decide, by decide, zT_4 (i := 187) rfl rfl⟩
theorem fl_RX11_223 : zFL RX11 223 10 19 := ⟨by decide, by decide, zT_4 (i := 181) rfl rfl⟩
theorem fl_RX11_226 : zFL RX11 226 10 20 := ⟨by decide, by decide, zT_4 (i := 182) rfl rfl⟩
theorem fl_RX11_229 : zFL RX11 229 10 21 := ⟨by decide, by decide, zT_4 (i := 183) rfl rfl⟩
theorem fl_RX11_238 : zFL RX11 238 10 22 := ⟨by decide, by decide, zT_4 (i := 184) rfl rfl⟩
theorem fl_RX11_275 : zFL RX11 275 10 7 := ⟨by decide, by decide, zT_4 (i := 169) rfl rfl⟩
theorem fl_RX11_296 : zFL RX11 296 10 8 := ⟨by decide, by decide, zT_4 (i := 170) rfl rfl⟩
theorem fl_RX11_299 : zFL RX11 299 10 9 := ⟨by decide, by decide, zT_4 (i := 171) rfl rfl⟩
theorem fl_RX11_302 : zFL RX11 302 10 10 := ⟨by decide, by decide, zT_4 (i := 172) rfl rfl⟩
theorem ml_RX10_13 : zML RX10 13 m_X3_init := Or.inr ⟨"RingCounts", zE_1 (i := 29) rfl rfl⟩
theorem ml_RX10_27 : zML RX10 27 m_X6_init := Or.inr ⟨"RingCounts", zE_1 (i := 98) rfl rfl⟩
theorem ml_RX10_34 : zML RX10 34 m_X1_init := Or.inr ⟨"RingCounts", zE_1 (i := 136) rfl rfl⟩
theorem ml_RX10_41 : zML RX10 41 m_X9_init := Or.inr ⟨"RingCounts", zE_1 (i := 154) rfl rfl⟩
theorem ml_RX10_48 : zML RX10 48 m_X0_init := Or.inr ⟨"RingCounts", zE_1 (i := 178) rfl rfl⟩
theorem ml_RX10_55 : zML RX10 55 m_X7_init := Or.inr ⟨"RingCounts", zE_1 (i := 205) rfl rfl⟩
theorem ml_RX10_62 : zML RX10 62 m_X4_init := Or.inr ⟨"RingCounts", zE_1 (i := 230) rfl rfl⟩
theorem ml_RX10_77 : zML RX10 77 m_X8_init := Or.inl (zT_2 (i := 6) rfl rfl)
theorem ml_RX10_80 : zML RX10 80 m_X10_isTwo := Or.inl (zT_2 (i := 65) rfl rfl)
theorem ml_RX10_86 : zML RX10 86 m_X3_joins := Or.inl (zT_2 (i := 73) rfl rfl)
theorem ml_RX10_89 : zML RX10 89 m_X3_bring := Or.inl (zT_2 (i := 80) rfl rfl)
theorem ml_RX10_97 : zML RX10 97 m_X2_shared := Or.inl (zT_2 (i := 131) rfl rfl)
theorem ml_RX10_103 : zML RX10 103 m_X3_drop := Or.inl (zT_2 (i := 138) rfl rfl)
theorem ml_RX10_112 : zML RX10 112 m_X10_pairOf := Or.inl (zT_2 (i := 152) rfl rfl)
theorem ml_RX10_116 : zML RX10 116 m_X10_isVertex := Or.inl (zT_2 (i := 68) rfl rfl)
theorem ml_RX10_120 : zML RX10 120 m_X2_degree := Or.inl (zT_2 (i := 157) rfl rfl)
theorem ml_RX10_124 : zML RX10 124 m_X2_trianglesAt := Or.inl (zT_2 (i := 158) rfl rfl)
theorem ml_RX10_127 : zML RX10 127 m_X3_isHeavy := Or.inl (zT_2 (i := 163) rfl rfl)
theorem ml_RX10_130 : zML RX10 130 m_X2_layCores := Or.inl (zT_2 (i := 164) rfl rfl)
theorem ml_RX10_134 : zML RX10 134 m_X2_ringsAt := Or.inl (zT_2 (i := 174) rfl rfl)
theorem ml_RX10_137 : zML RX10 137 m_X2_foursAt := Or.inl (zT_2 (i := 177) rfl rfl)
theorem ml_RX10_146 : zML RX10 146 m_J13_bitCount_95d88 := Or.inl (zT_2 (i := 188) rfl rfl)
theorem ml_RX10_150 : zML RX10 150 m_X2_waysByThree := Or.inl (zT_2 (i := 189) rfl rfl)
theorem ml_RX10_153 : zML RX10 153 m_X2_far := Or.inl (zT_2 (i := 193) rfl rfl)
theorem ml_RX10_156 : zML RX10 156 m_X6_follow := Or.inl (zT_2 (i := 203) rfl rfl)
theorem ml_RX10_166 : zML RX10 166 m_X2_foursOn := Or.inl (zT_2 (i := 229) rfl rfl)
theorem ml_RX10_169 : zML RX10 169 m_X2_triangles := Or.inl (zT_2 (i := 234) rfl rfl)
theorem ml_RX10_177 : zML RX10 177 m_X2_rings := Or.inl (zT_3 (i := 6) rfl rfl)
theorem ml_RX10_183 : zML RX10 183 m_X3_bound := Or.inl (zT_3 (i := 10) rfl rfl)
theorem ml_RX10_208 : zML RX10 208 m_X2_twos := Or.inl (zT_3 (i := 11) rfl rfl)
theorem ml_RX10_214 : zML RX10 214 m_X2_fours := Or.inl (zT_3 (i := 18) rfl rfl)
theorem ml_RX10_217 : zML RX10 217 m_X6_edgesFrom := Or.inl (zT_3 (i := 26) rfl rfl)
theorem ml_RX10_221 : zML RX10 221 m_X6_piecesFrom := Or.inl (zT_3 (i := 34) rfl rfl)
theorem ml_RX10_224 : zML RX10 224 m_X6_hoodOf := Or.inl (zT_3 (i := 50) rfl rfl)
theorem ml_RX10_227 : zML RX10 227 m_X6_hoodsFrom := Or.inl (zT_3 (i := 67) rfl rfl)
theorem ml_RX10_232 : zML RX10 232 m_X2_coreWithin := Or.inl (zT_3 (i := 76) rfl rfl)
theorem ml_RX10_240 : zML RX10 240 m_X2_twosAt := Or.inl (zT_3 (i := 85) rfl rfl)
theorem ml_RX10_243 : zML RX10 243 m_X10_greatestDivisor := Or.inl (zT_3 (i := 86) rfl rfl)
theorem ml_RX10_246 : zML RX10 246 m_X10_above := Or.inl (zT_3 (i := 93) rfl rfl)
theorem ml_RX10_250 : zML RX10 250 m_X10_hasBit := Or.inl (zT_3 (i := 97) rfl rfl)
theorem ml_RX10_254 : zML RX10 254 m_X10_sumLeavesLong := Or.inl (zT_3 (i := 98) rfl rfl)
theorem ml_RX10_260 : zML RX10 260 m_X1_breakAll := Or.inl (zT_3 (i := 106) rfl rfl)
theorem ml_RX10_269 : zML RX10 269 m_X1_fewestOf := Or.inl (zT_3 (i := 125) rfl rfl)
theorem ml_RX10_273 : zML RX10 273 m_X9_append := Or.inl (zT_3 (i := 150) rfl rfl)
theorem ml_RX10_277 : zML RX10 277 m_X0_read := Or.inl (zT_3 (i := 162) rfl rfl)
theorem ml_RX10_281 : zML RX10 281 m_X9_hasFault := Or.inl (zT_3 (i := 211) rfl rfl)
theorem ml_RX10_291 : zML RX10 291 m_X10_doPart := Or.inl (zT_3 (i := 215) rfl rfl)
theorem ml_RX10_294 : zML RX10 294 m_X7_read := Or.inl (zT_3 (i := 223) rfl rfl)
theorem ml_RX10_300 : zML RX10 300 m_X4_writeEdge := Or.inl (zT_4 (i := 37) rfl rfl)
theorem ml_RX10_307 : zML RX10 307 m_X3_takeBack := Or.inl (zT_4 (i := 73) rfl rfl)
theorem ml_RX10_310 : zML RX10 310 m_X10_rowOf := Or.inl (zT_4 (i := 97) rfl rfl)
theorem ml_RX10_314 : zML RX10 314 m_X8_begin := Or.inl (zT_4 (i := 101) rfl rfl)
theorem ml_RX10_320 : zML RX10 320 m_X8_placesFrom := Or.inl (zT_4 (i := 110) rfl rfl)
theorem ml_RX10_323 : zML RX10 323 m_X8_put := Or.inl (zT_4 (i := 114) rfl rfl)
theorem ml_RX10_340 : zML RX10 340 m_X10_isSort := Or.inl (zT_4 (i := 131) rfl rfl)
theorem ml_RX10_343 : zML RX10 343 m_X2_layFigures := Or.inl (zT_4 (i := 134) rfl rfl)
theorem ml_RX10_352 : zML RX10 352 m_X3_become := Or.inl (zT_4 (i := 143) rfl rfl)
theorem ml_RX0_28 : zML RX0 28 m_X9_rewind := Or.inl (zT_3 (i := 166) rfl rfl)
theorem ml_RX0_33 : zML RX0 33 m_X0_readPart := Or.inl (zT_3 (i := 170) rfl rfl)
theorem ml_RX0_37 : zML RX0 37 m_X9_takes := Or.inl (zT_3 (i := 202) rfl rfl)
theorem ml_RX0_41 : zML RX0 41 m_X9_needEnd := Or.inl (zT_3 (i := 207) rfl rfl)
theorem ml_RX0_44 : zML RX0 44 m_X9_next := Or.inl (zT_3 (i := 174) rfl rfl)
theorem ml_RX0_51 : zML RX0 51 m_X9_fail := Or.inl (zT_3 (i := 178) rfl rfl)
theorem ml_RX0_55 : zML RX0 55 m_X0_readVertex := Or.inl (zT_3 (i := 182) rfl rfl)
theorem ml_RX0_59 : zML RX0 59 m_X9_need := Or.inl (zT_3 (i := 191) rfl rfl)
theorem ml_RX0_62 : zML RX0 62 m_X0_readOther := Or.inl (zT_3 (i := 199) rfl rfl)
theorem ml_RX0_66 : zML RX0 66 m_X0_readWorth := Or.inl (zT_3 (i := 203) rfl rfl)
theorem ml_RX0_69 : zML RX0 69 m_X9_number := Or.inl (zT_3 (i := 185) rfl rfl)
theorem ml_RX1_28 : zML RX1 28 m_X1_mostSupported := Or.inl (zT_3 (i := 111) rfl rfl)
theorem ml_RX1_32 : zML RX1 32 m_X1_flip := Or.inl (zT_3 (i := 118) rfl rfl)
theorem ml_RX1_36 : zML RX1 36 m_X10_hasBit := Or.inr ⟨"RingCounts", zE_3 (i := 115) rfl rfl⟩
theorem ml_RX1_40 : zML RX1 40 m_X2_shared := Or.inl (zT_3 (i := 116) rfl rfl)
theorem ml_RX1_46 : zML RX1 46 m_X10_pairOf := Or.inr ⟨"RingCounts", zE_3 (i := 117) rfl rfl⟩
theorem ml_RX1_50 : zML RX1 50 m_X1_breaksWith := Or.inl (zT_3 (i := 129) rfl rfl)
theorem ml_RX1_54 : zML RX1 54 m_X1_anyTriangle := Or.inl (zT_3 (i := 132) rfl rfl)
theorem ml_RX1_58 : zML RX1 58 m_X1_breaksWithout := Or.inl (zT_3 (i := 143) rfl rfl)
theorem ml_RX1_62 : zML RX1 62 m_X10_above := Or.inr ⟨"RingCounts", zE_3 (i := 135) rfl rfl⟩
theorem ml_RX1_66 : zML RX1 66 m_J13_numberOfTrailingZeros_95d88 := Or.inl (zT_3 (i := 136) rfl rfl)
theorem ml_RX2_9 : zML RX2 9 m_J13_bitCount_95d88 := Or.inl (zT_2 (i := 115) rfl rfl)
theorem ml_RX2_15 : zML RX2 15 m_X10_hasBit := Or.inr ⟨"RingCounts", zE_2 (i := 161) rfl rfl⟩
theorem ml_RX2_19 : zML RX2 19 m_X2_shared := Or.inl (zT_2 (i := 162) rfl rfl)
theorem ml_RX2_25 : zML RX2 25 m_X2_trianglesAt := Or.inl (zT_2 (i := 237) rfl rfl)
theorem ml_RX2_29 : zML RX2 29 m_X2_degree := Or.inl (zT_3 (i := 17) rfl rfl)
theorem ml_RX2_32 : zML RX2 32 m_X2_twosAt := Or.inl (zT_3 (i := 14) rfl rfl)
theorem ml_RX2_35 : zML RX2 35 m_X2_ringsAt := Or.inl (zT_3 (i := 9) rfl rfl)
theorem ml_RX2_38 : zML RX2 38 m_X2_foursOn := Or.inl (zT_2 (i := 180) rfl rfl)
theorem ml_RX2_41 : zML RX2 41 m_X2_foursAt := Or.inl (zT_3 (i := 21) rfl rfl)
theorem ml_RX2_46 : zML RX2 46 m_X2_nearAny := Or.inl (zT_2 (i := 196) rfl rfl)
theorem ml_RX2_50 : zML RX2 50 m_J7_fill_53178 := Or.inl (zT_2 (i := 167) rfl rfl)
theorem ml_RX2_58 : zML RX2 58 m_X2_coreWithin := Or.inl (zT_2 (i := 171) rfl rfl)
theorem ml_RX2_62 : zML RX2 62 m_X2_layCores := Or.inl (zT_3 (i := 231) rfl rfl)
theorem ml_RX3_21 : zML RX3 21 m_X5_init := Or.inr ⟨"RingCounts", zE_1 (i := 35) rfl rfl⟩
theorem ml_RX3_52 : zML RX3 52 m_X10_hasBit := Or.inr ⟨"RingCounts", zE_2 (i := 77) rfl rfl⟩
theorem ml_RX3_56 : zML RX3 56 m_X5_keep := Or.inl (zT_2 (i := 84) rfl rfl)
theorem ml_RX3_60 : zML RX3 60 m_X3_come := Or.inl (zT_2 (i := 91) rfl rfl)
theorem ml_RX3_64 : zML RX3 64 m_X10_pairOf := Or.inr ⟨"RingCounts", zE_2 (i := 95) rfl rfl⟩
theorem ml_RX3_68 : zML RX3 68 m_X3_go := Or.inl (zT_2 (i := 142) rfl rfl)
theorem ml_RX3_75 : zML RX3 75 m_X5_firstOf := Or.inl (zT_4 (i := 77) rfl rfl)
theorem ml_RX3_79 : zML RX3 79 m_X5_secondOf := Or.inl (zT_4 (i := 81) rfl rfl)
theorem ml_RX3_82 : zML RX3 82 m_X5_hadCome := Or.inl (zT_4 (i := 85) rfl rfl)
theorem ml_RX3_86 : zML RX3 86 m_X5_worthOf := Or.inl (zT_4 (i := 89) rfl rfl)
theorem ml_RX3_95 : zML RX3 95 m_X5_become := Or.inl (zT_4 (i := 148) rfl rfl)
theorem ml_RX3_99 : zML RX3 99 m_X3_rebase := Or.inl (zT_2 (i := 104) rfl rfl)
theorem ml_RX3_108 : zML RX3 108 m_X3_lookAt := Or.inl (zT_2 (i := 122) rfl rfl)
theorem ml_RX3_116 : zML RX3 116 m_X3_bound := Or.inl (zT_2 (i := 108) rfl rfl)
theorem ml_RX3_120 : zML RX3 120 m_X2_degree := Or.inl (zT_2 (i := 112) rfl rfl)
theorem ml_RX3_126 : zML RX3 126 m_X3_isHeavy := Or.inl (zT_2 (i := 126) rfl rfl)
theorem ml_RX4_19 : zML RX4 19 m_X4_write := Or.inl (zT_4 (i := 41) rfl rfl)
theorem ml_RX4_23 : zML RX4 23 m_X4_writeNumber := Or.inl (zT_4 (i := 57) rfl rfl)
theorem ml_RX4_33 : zML RX4 33 m_J7_copyOf_9075b := Or.inl (zT_4 (i := 45) rfl rfl)
theorem ml_RX6_47 : zML RX6 47 m_X6_gather := Or.inl (zT_2 (i := 208) rfl rfl)
theorem ml_RX6_50 : zML RX6 50 m_X6_peel := Or.inl (zT_2 (i := 215) rfl rfl)
theorem ml_RX6_53 : zML RX6 53 m_X10_hasBit := Or.inr ⟨"RingCounts", zE_2 (i := 212) rfl rfl⟩
theorem ml_RX6_57 : zML RX6 57 m_X10_pairOf := Or.inr ⟨"RingCounts", zE_2 (i := 213) rfl rfl⟩
theorem ml_RX6_61 : zML RX6 61 m_X2_shared := Or.inl (zT_2 (i := 214) rfl rfl)
theorem ml_RX6_67 : zML RX6 67 m_X6_leastFrom := Or.inl (zT_2 (i := 219) rfl rfl)
theorem ml_RX6_76 : zML RX6 76 m_X6_takeAway := Or.inl (zT_2 (i := 224) rfl rfl)
theorem ml_RX6_82 : zML RX6 82 m_J7_fill_d0a16 := Or.inl (zT_3 (i := 38) rfl rfl)
theorem ml_RX6_88 : zML RX6 88 m_X6_pieceOf := Or.inl (zT_3 (i := 41) rfl rfl)
theorem ml_RX6_92 : zML RX6 92 m_X2_nearAny := Or.inl (zT_3 (i := 45) rfl rfl)
theorem ml_RX6_96 : zML RX6 96 m_J7_fill_53178 := Or.inl (zT_3 (i := 54) rfl rfl)
theorem ml_RX6_99 : zML RX6 99 m_X6_walkFrom := Or.inl (zT_3 (i := 55) rfl rfl)
theorem ml_RX6_102 : zML RX6 102 m_X6_meet := Or.inl (zT_3 (i := 59) rfl rfl)
theorem ml_RX7_40 : zML RX7 40 m_X2_layFigures := Or.inl (zT_3 (i := 228) rfl rfl)
theorem ml_RX7_46 : zML RX7 46 m_X3_isHeavy := Or.inl (zT_3 (i := 232) rfl rfl)
theorem ml_RX7_50 : zML RX7 50 m_X9_rewind := Or.inl (zT_3 (i := 233) rfl rfl)
theorem ml_RX7_55 : zML RX7 55 m_X7_either := Or.inl (zT_3 (i := 234) rfl rfl)
theorem ml_RX7_59 : zML RX7 59 m_X9_needEnd := Or.inl (zT_4 (i := 28) rfl rfl)
theorem ml_RX7_62 : zML RX7 62 m_X7_both := Or.inl (zT_3 (i := 238) rfl rfl)
theorem ml_RX7_65 : zML RX7 65 m_X9_takes := Or.inl (zT_4 (i := 27) rfl rfl)
theorem ml_RX7_68 : zML RX7 68 m_X7_single := Or.inl (zT_4 (i := 2) rfl rfl)
theorem ml_RX7_71 : zML RX7 71 m_X9_next := Or.inl (zT_4 (i := 6) rfl rfl)
theorem ml_RX7_75 : zML RX7 75 m_X7_test := Or.inl (zT_4 (i := 7) rfl rfl)
theorem ml_RX7_83 : zML RX7 83 m_X9_fail := Or.inl (zT_4 (i := 15) rfl rfl)
theorem ml_RX7_87 : zML RX7 87 m_X9_need := Or.inl (zT_4 (i := 20) rfl rfl)
theorem ml_RX7_94 : zML RX7 94 m_X2_nearAny := Or.inl (zT_4 (i := 23) rfl rfl)
theorem ml_RX7_98 : zML RX7 98 m_X2_nearOnly := Or.inl (zT_4 (i := 24) rfl rfl)
theorem ml_RX7_101 : zML RX7 101 m_X7_figuresOf := Or.inl (zT_4 (i := 11) rfl rfl)
theorem ml_RX7_105 : zML RX7 105 m_X9_number := Or.inl (zT_4 (i := 16) rfl rfl)
theorem ml_RX7_109 : zML RX7 109 m_X7_holds := Or.inl (zT_4 (i := 17) rfl rfl)
theorem ml_RX8_26 : zML RX8 26 m_J7_fill_d0a16 := Or.inl (zT_4 (i := 105) rfl rfl)
theorem ml_RX9_25 : zML RX9 25 m_X9_next := Or.inl (zT_3 (i := 189) rfl rfl)
theorem ml_RX9_29 : zML RX9 29 m_X9_takes := Or.inl (zT_3 (i := 195) rfl rfl)
theorem ml_RX9_33 : zML RX9 33 m_X9_fail := Or.inl (zT_3 (i := 190) rfl rfl)
theorem ml_RL_9 : zML RL 9 m_X10_init := Or.inl (zT_1 (i := 21) rfl rfl)
theorem ml_RL_12 : zML RL 12 m_X11_init := Or.inl (zT_4 (i := 158) rfl rfl)
theorem ml_RL_13 : zML RL 13 m_X10_add := Or.inl (zT_2 (i := 61) rfl rfl)
theorem ml_RL_17 : zML RL 17 m_X11_add := Or.inl (zT_5 (i := 7) rfl rfl)
theorem ml_RL_18 : zML RL 18 m_X10_cut := Or.inl (zT_2 (i := 134) rfl rfl)
theorem ml_RL_22 : zML RL 22 m_X11_cut := Or.inl (zT_5 (i := 67) rfl rfl)
theorem ml_RL_23 : zML RL 23 m_X10_worth := Or.inl (zT_2 (i := 147) rfl rfl)
theorem ml_RL_27 : zML RL 27 m_X11_worth := Or.inl (zT_5 (i := 75) rfl rfl)
theorem ml_RL_28 : zML RL 28 m_X10_of := Or.inl (zT_2 (i := 153) rfl rfl)
theorem ml_RL_31 : zML RL 31 m_X11_of := Or.inl (zT_5 (i := 84) rfl rfl)
theorem ml_RL_32 : zML RL 32 m_X10_two := Or.inl (zT_2 (i := 183) rfl rfl)
theorem ml_RL_35 : zML RL 35 m_X11_two := Or.inl (zT_5 (i := 125) rfl rfl)
theorem ml_RL_36 : zML RL 36 m_X10_edge := Or.inl (zT_2 (i := 199) rfl rfl)
theorem ml_RL_39 : zML RL 39 m_X11_edge_ := Or.inl (zT_5 (i := 137) rfl rfl)
theorem ml_RL_40 : zML RL 40 m_X10_swap := Or.inl (zT_2 (i := 230) rfl rfl)
theorem ml_RL_44 : zML RL 44 m_X11_swap := Or.inl (zT_5 (i := 193) rfl rfl)
theorem ml_RL_45 : zML RL 45 m_X10_near := Or.inl (zT_2 (i := 238) rfl rfl)
theorem ml_RL_49 : zML RL 49 m_X11_near := Or.inl (zT_5 (i := 201) rfl rfl)
theorem ml_RL_50 : zML RL 50 m_X10_told := Or.inl (zT_3 (i := 2) rfl rfl)
theorem ml_RL_53 : zML RL 53 m_X11_told := Or.inl (zT_5 (i := 205) rfl rfl)
theorem ml_RL_54 : zML RL 54 m_X10_truss := Or.inl (zT_3 (i := 22) rfl rfl)
theorem ml_RL_58 : zML RL 58 m_X11_truss := Or.inl (zT_5 (i := 165) rfl rfl)
theorem ml_RL_59 : zML RL 59 m_X10_pieces := Or.inl (zT_3 (i := 30) rfl rfl)
theorem ml_RL_62 : zML RL 62 m_X11_pieces := Or.inl (zT_5 (i := 173) rfl rfl)
theorem ml_RL_63 : zML RL 63 m_X10_hood := Or.inl (zT_3 (i := 46) rfl rfl)
theorem ml_RL_66 : zML RL 66 m_X11_hood := Or.inl (zT_5 (i := 177) rfl rfl)
theorem ml_RL_67 : zML RL 67 m_X10_hoods := Or.inl (zT_3 (i := 63) rfl rfl)
theorem ml_RL_70 : zML RL 70 m_X11_hoods := Or.inl (zT_5 (i := 185) rfl rfl)
theorem ml_RL_71 : zML RL 71 m_X10_core := Or.inl (zT_3 (i := 71) rfl rfl)
theorem ml_RL_74 : zML RL 74 m_X11_core := Or.inl (zT_5 (i := 189) rfl rfl)
theorem ml_RL_75 : zML RL 75 m_X10_peeled := Or.inl (zT_3 (i := 77) rfl rfl)
theorem ml_RL_78 : zML RL 78 m_X11_peeled := Or.inl (zT_5 (i := 161) rfl rfl)
theorem ml_RL_79 : zML RL 79 m_X10_closed := Or.inl (zT_3 (i := 81) rfl rfl)
theorem ml_RL_82 : zML RL 82 m_X11_closed := Or.inl (zT_5 (i := 221) rfl rfl)
theorem ml_RL_83 : zML RL 83 m_X10_value := Or.inl (zT_3 (i := 89) rfl rfl)
theorem ml_RL_87 : zML RL 87 m_X11_value := Or.inl (zT_5 (i := 229) rfl rfl)
theorem ml_RL_88 : zML RL 88 m_X10_broken := Or.inl (zT_3 (i := 102) rfl rfl)
theorem ml_RL_91 : zML RL 91 m_X11_broken := Or.inl (zT_5 (i := 234) rfl rfl)
theorem ml_RL_92 : zML RL 92 m_X10_fewest := Or.inl (zT_3 (i := 121) rfl rfl)
theorem ml_RL_96 : zML RL 96 m_X11_fewest := Or.inl (zT_5 (i := 238) rfl rfl)
theorem ml_RL_97 : zML RL 97 m_X10_feed := Or.inl (zT_3 (i := 146) rfl rfl)
theorem ml_RL_100 : zML RL 100 m_X11_feed := Or.inl (zT_6 (i := 10) rfl rfl)
theorem ml_RL_101 : zML RL 101 m_X10_clear := Or.inl (zT_3 (i := 154) rfl rfl)
theorem ml_RL_104 : zML RL 104 m_X11_clear := Or.inl (zT_6 (i := 14) rfl rfl)
theorem ml_RL_105 : zML RL 105 m_X10_batch := Or.inl (zT_3 (i := 158) rfl rfl)
theorem ml_RL_108 : zML RL 108 m_X11_batch := Or.inl (zT_6 (i := 18) rfl rfl)
theorem ml_RL_109 : zML RL 109 m_X10_pick := Or.inl (zT_3 (i := 219) rfl rfl)
theorem ml_RL_112 : zML RL 112 m_X11_pick := Or.inl (zT_6 (i := 54) rfl rfl)
theorem ml_RL_113 : zML RL 113 m_X10_picked := Or.inl (zT_4 (i := 29) rfl rfl)
theorem ml_RL_116 : zML RL 116 m_X11_picked := Or.inl (zT_6 (i := 78) rfl rfl)
theorem ml_RL_117 : zML RL 117 m_X10_spell := Or.inl (zT_4 (i := 33) rfl rfl)
theorem ml_RL_120 : zML RL 120 m_X11_spell := Or.inl (zT_6 (i := 82) rfl rfl)
theorem ml_RL_121 : zML RL 121 m_X10_paper := Or.inl (zT_4 (i := 65) rfl rfl)
theorem ml_RL_124 : zML RL 124 m_X11_paper := Or.inl (zT_6 (i := 94) rfl rfl)
theorem ml_RL_125 : zML RL 125 m_X10_back := Or.inl (zT_4 (i := 69) rfl rfl)
theorem ml_RL_128 : zML RL 128 m_X11_back := Or.inl (zT_5 (i := 80) rfl rfl)
theorem ml_RL_129 : zML RL 129 m_X10_list := Or.inl (zT_4 (i := 93) rfl rfl)
theorem ml_RL_132 : zML RL 132 m_X11_list := Or.inl (zT_6 (i := 98) rfl rfl)
theorem ml_RL_135 : zML RL 135 m_X10_set := Or.inl (zT_4 (i := 106) rfl rfl)
theorem ml_RL_139 : zML RL 139 m_X11_set := Or.inl (zT_6 (i := 105) rfl rfl)
theorem ml_RL_140 : zML RL 140 m_X10_get := Or.inl (zT_4 (i := 118) rfl rfl)
theorem ml_RL_143 : zML RL 143 m_X11_get := Or.inl (zT_6 (i := 116) rfl rfl)
theorem ml_RL_144 : zML RL 144 m_X10_move := Or.inl (zT_4 (i := 122) rfl rfl)
theorem ml_RL_148 : zML RL 148 m_X11_move := Or.inl (zT_6 (i := 120) rfl rfl)
theorem ml_RL_149 : zML RL 149 m_X10_lay := Or.inl (zT_4 (i := 127) rfl rfl)
theorem ml_RL_152 : zML RL 152 m_X11_lay := Or.inl (zT_6 (i := 124) rfl rfl)
theorem ml_RL_153 : zML RL 153 m_X10_judge := Or.inl (zT_4 (i := 135) rfl rfl)
theorem ml_RL_156 : zML RL 156 m_X11_judge := Or.inl (zT_6 (i := 132) rfl rfl)
theorem ml_RL_157 : zML RL 157 m_X10_image := Or.inl (zT_4 (i := 139) rfl rfl)
theorem ml_RL_160 : zML RL 160 m_X11_image := Or.inl (zT_6 (i := 136) rfl rfl)
theorem ml_RL_161 : zML RL 161 m_X10_undo := Or.inl (zT_4 (i := 152) rfl rfl)
theorem ml_RL_164 : zML RL 164 m_X11_undo := Or.inl (zT_6 (i := 140) rfl rfl)
theorem ml_RX11_64 : zML RX11 64 m_X11_isIn := Or.inl (zT_5 (i := 17) rfl rfl)
theorem ml_RX11_68 : zML RX11 68 m_X11_isVertex := Or.inl (zT_5 (i := 14) rfl rfl)
theorem ml_RX11_72 : zML RX11 72 m_X11_has := Or.inl (zT_5 (i := 26) rfl rfl)
theorem ml_RX11_76 : zML RX11 76 m_X11_bits := Or.inl (zT_5 (i := 52) rfl rfl)
theorem ml_RX11_84 : zML RX11 84 m_X11_degree := Or.inl (zT_5 (i := 48) rfl rfl)
theorem ml_RX11_88 : zML RX11 88 m_X11_bound := Or.inl (zT_5 (i := 55) rfl rfl)
theorem ml_RX11_92 : zML RX11 92 m_X11_edge := Or.inl (zT_5 (i := 37) rfl rfl)
theorem ml_RX11_96 : zML RX11 96 m_X11_rebases := Or.inl (zT_5 (i := 44) rfl rfl)
theorem ml_RX11_99 : zML RX11 99 m_X11_looksAt := Or.inl (zT_5 (i := 59) rfl rfl)
theorem ml_RX11_103 : zML RX11 103 m_X11_logs := Or.inl (zT_5 (i := 33) rfl rfl)
theorem ml_RX11_107 : zML RX11 107 m_X11_changes := Or.inl (zT_5 (i := 40) rfl rfl)
theorem ml_RX11_110 : zML RX11 110 m_X11_areTwo := Or.inl (zT_5 (i := 11) rfl rfl)
theorem ml_RX11_116 : zML RX11 116 m_X11_isEdge := Or.inl (zT_5 (i := 22) rfl rfl)
theorem ml_RX11_119 : zML RX11 119 m_X11_comes := Or.inl (zT_5 (i := 29) rfl rfl)
theorem ml_RX11_123 : zML RX11 123 m_X11_shared := Or.inl (zT_5 (i := 63) rfl rfl)
theorem ml_RX11_126 : zML RX11 126 m_X11_goes := Or.inl (zT_5 (i := 71) rfl rfl)
theorem ml_RX11_132 : zML RX11 132 m_X11_trianglesOf := Or.inl (zT_5 (i := 88) rfl rfl)
theorem ml_RX11_135 : zML RX11 135 m_X11_twos := Or.inl (zT_5 (i := 110) rfl rfl)
theorem ml_RX11_138 : zML RX11 138 m_X11_ringsOf := Or.inl (zT_5 (i := 106) rfl rfl)
theorem ml_RX11_141 : zML RX11 141 m_X11_joinedIn := Or.inl (zT_5 (i := 121) rfl rfl)
theorem ml_RX11_144 : zML RX11 144 m_X11_foursAt := Or.inl (zT_5 (i := 117) rfl rfl)
theorem ml_RX11_147 : zML RX11 147 m_X11_foursOf := Or.inl (zT_5 (i := 113) rfl rfl)
theorem ml_RX11_154 : zML RX11 154 m_X11_coreOf := Or.inl (zT_5 (i := 100) rfl rfl)
theorem ml_RX11_158 : zML RX11 158 m_X11_cores := Or.inl (zT_5 (i := 96) rfl rfl)
theorem ml_RX11_161 : zML RX11 161 m_X11_coreAt := Or.inl (zT_5 (i := 92) rfl rfl)
theorem ml_RX11_164 : zML RX11 164 m_X11_ways := Or.inl (zT_5 (i := 129) rfl rfl)
theorem ml_RX11_167 : zML RX11 167 m_X11_far := Or.inl (zT_5 (i := 133) rfl rfl)
theorem ml_RX11_170 : zML RX11 170 m_X11_leaves := Or.inl (zT_5 (i := 145) rfl rfl)
theorem ml_RX11_177 : zML RX11 177 m_X11_isLeft := Or.inl (zT_5 (i := 149) rfl rfl)
theorem ml_RX11_180 : zML RX11 180 m_X11_supportLeft := Or.inl (zT_5 (i := 153) rfl rfl)
theorem ml_RX11_183 : zML RX11 183 m_X11_leaves_ := Or.inl (zT_5 (i := 157) rfl rfl)
theorem ml_RX11_185 : zML RX11 185 m_X11_peels := Or.inl (zT_5 (i := 141) rfl rfl)
theorem ml_RX11_188 : zML RX11 188 m_X11_isInTruss := Or.inl (zT_5 (i := 169) rfl rfl)
theorem ml_RX11_191 : zML RX11 191 m_X11_hoodsBy := Or.inl (zT_5 (i := 181) rfl rfl)
theorem ml_RX11_194 : zML RX11 194 m_X11_triangles := Or.inl (zT_5 (i := 197) rfl rfl)
theorem ml_RX11_197 : zML RX11 197 m_X11_rings := Or.inl (zT_5 (i := 209) rfl rfl)
theorem ml_RX11_200 : zML RX11 200 m_X11_allTwos := Or.inl (zT_5 (i := 213) rfl rfl)
theorem ml_RX11_206 : zML RX11 206 m_X11_fours := Or.inl (zT_5 (i := 217) rfl rfl)
theorem ml_RX11_211 : zML RX11 211 m_X11_gcd := Or.inl (zT_5 (i := 226) rfl rfl)
theorem ml_RX11_217 : zML RX11 217 m_X11_isEnoughWithout := Or.inl (zT_6 (i := 6) rfl rfl)
theorem ml_RX11_220 : zML RX11 220 m_X11_isEnough := Or.inl (zT_6 (i := 2) rfl rfl)
theorem ml_RX11_232 : zML RX11 232 m_X11_here := Or.inl (zT_6 (i := 30) rfl rfl)
theorem ml_RX11_235 : zML RX11 235 m_X11_fails := Or.inl (zT_6 (i := 34) rfl rfl)
theorem ml_RX11_241 : zML RX11 241 m_X11_isNumber := Or.inl (zT_6 (i := 38) rfl rfl)
theorem ml_RX11_244 : zML RX11 244 m_X11_isSign := Or.inl (zT_6 (i := 46) rfl rfl)
theorem ml_RX11_247 : zML RX11 247 m_X11_isTwo := Or.inl (zT_6 (i := 42) rfl rfl)
theorem ml_RX11_250 : zML RX11 250 m_X11_begins := Or.inl (zT_6 (i := 22) rfl rfl)
theorem ml_RX11_253 : zML RX11 253 m_X11_isPart := Or.inl (zT_6 (i := 26) rfl rfl)
theorem ml_RX11_256 : zML RX11 256 m_X11_does := Or.inl (zT_6 (i := 50) rfl rfl)
theorem ml_RX11_259 : zML RX11 259 m_X11_letterOf := Or.inl (zT_6 (i := 74) rfl rfl)
theorem ml_RX11_262 : zML RX11 262 m_X11_tested := Or.inl (zT_6 (i := 70) rfl rfl)
theorem ml_RX11_266 : zML RX11 266 m_X11_either := Or.inl (zT_6 (i := 58) rfl rfl)
theorem ml_RX11_269 : zML RX11 269 m_X11_factor := Or.inl (zT_6 (i := 66) rfl rfl)
theorem ml_RX11_272 : zML RX11 272 m_X11_both := Or.inl (zT_6 (i := 62) rfl rfl)
theorem ml_RX11_278 : zML RX11 278 m_X11_saysNumber := Or.inl (zT_6 (i := 90) rfl rfl)
theorem ml_RX11_281 : zML RX11 281 m_X11_says := Or.inl (zT_6 (i := 86) rfl rfl)
theorem ml_RX11_284 : zML RX11 284 m_X11_isList := Or.inl (zT_6 (i := 102) rfl rfl)
theorem ml_RX11_287 : zML RX11 287 m_X11_wrong := Or.inl (zT_6 (i := 109) rfl rfl)
theorem ml_RX11_290 : zML RX11 290 m_X11_isWide := Or.inl (zT_6 (i := 113) rfl rfl)
theorem ml_RX11_293 : zML RX11 293 m_X11_figure := Or.inl (zT_6 (i := 128) rfl rfl)
theorem ml_RJ13_311 : zML RJ13 311 m_J6_numberOfTrailingZeros_0f7a4 := Or.inl (zT_3 (i := 139) rfl rfl)
theorem co_RX10_84 : Cond.constant RX10 84 (-2000000) ∈ zT := zT_2 (i := 71) rfl rfl
theorem co_RX10_85 : Cond.constant RX10 85 (2000000) ∈ zT := zT_2 (i := 72) rfl rfl
theorem co_RX0_73 : Cond.constant RX0 73 (2000000) ∈ zT := zT_3 (i := 206) rfl rfl
theorem co_RX4_32 : Cond.constant RX4 32 (1000000) ∈ zT := zT_4 (i := 61) rfl rfl
theorem co_RX11_114 : Cond.constant RX11 114 (-2000000) ∈ zT := zT_5 (i := 20) rfl rfl
theorem co_RX11_115 : Cond.constant RX11 115 (2000000) ∈ zT := zT_5 (i := 21) rfl rfl
theorem co_RJ6_264 : Cond.constant RJ6 264 (65536) ∈ zT := zT_3 (i := 142) rfl rfl
theorem cl_RX10_107 : Cond.constantLong RX10 107 (-9223372036854775808) ∈ zT := zT_2 (i := 151) rfl rfl
theorem cl_RX10_144 : Cond.constantLong RX10 144 (-1) ∈ zT := zT_2 (i := 187) rfl rfl
theorem cl_RX10_230 : Cond.constantLong RX10 230 (1099511627775) ∈ zT := zT_3 (i := 75) rfl rfl
theorem cl_RX10_258 : Cond.constantLong RX10 258 (-9223372036854775807) ∈ zT := zT_3 (i := 101) rfl rfl
theorem cl_RX10_369 : Cond.constantLong RX10 369 (-2) ∈ zT := zT_3 (i := 96) rfl rfl
theorem cl_RX2_44 : Cond.constantLong RX2 44 (-1) ∈ zT := zT_2 (i := 192) rfl rfl
theorem cl_RX2_56 : Cond.constantLong RX2 56 (1099511627775) ∈ zT := zT_2 (i := 170) rfl rfl
theorem cl_RX3_114 : Cond.constantLong RX3 114 (-1) ∈ zT := zT_2 (i := 146) rfl rfl
theorem cl_RX6_80 : Cond.constantLong RX6 80 (-1) ∈ zT := zT_2 (i := 228) rfl rfl
theorem cl_RX7_90 : Cond.constantLong RX7 90 (1099511627775) ∈ zT := zT_4 (i := 21) rfl rfl
theorem cl_RX7_92 : Cond.constantLong RX7 92 (-1) ∈ zT := zT_4 (i := 22) rfl rfl
theorem cl_RL_133 : Cond.constantLong RL 133 (4294967295) ∈ zT := zT_6 (i := 144) rfl rfl
theorem cl_RX11_130 : Cond.constantLong RX11 130 (-9223372036854775808) ∈ zT := zT_5 (i := 79) rfl rfl
theorem cl_RX11_150 : Cond.constantLong RX11 150 (-1) ∈ zT := zT_5 (i := 105) rfl rfl
theorem cl_RX11_152 : Cond.constantLong RX11 152 (1099511627775) ∈ zT := zT_5 (i := 104) rfl rfl
theorem cl_RX11_209 : Cond.constantLong RX11 209 (3) ∈ zT := zT_5 (i := 225) rfl rfl
theorem cl_RX11_215 : Cond.constantLong RX11 215 (-9223372036854775807) ∈ zT := zT_5 (i := 233) rfl rfl
theorem cl_RJ13_314 : Cond.constantLong RJ13 314 (6148914691236517205) ∈ zT := zT_2 (i := 118) rfl rfl
theorem cl_RJ13_316 : Cond.constantLong RJ13 316 (3689348814741910323) ∈ zT := zT_2 (i := 119) rfl rfl
theorem cl_RJ13_318 : Cond.constantLong RJ13 318 (1085102592571150095) ∈ zT := zT_2 (i := 120) rfl rfl
theorem cx_RX10_11 : Cond.classLink RX10 11 (zR 2) ∈ zT := zT_1 (i := 27) rfl rfl
theorem cx_RX10_25 : Cond.classLink RX10 25 (zR 5) ∈ zT := zT_1 (i := 96) rfl rfl
theorem cx_RX10_32 : Cond.classLink RX10 32 (zR 1) ∈ zT := zT_1 (i := 134) rfl rfl
theorem cx_RX10_39 : Cond.classLink RX10 39 (zR 8) ∈ zT := zT_1 (i := 152) rfl rfl
theorem cx_RX10_46 : Cond.classLink RX10 46 (zR 0) ∈ zT := zT_1 (i := 176) rfl rfl
theorem cx_RX10_53 : Cond.classLink RX10 53 (zR 6) ∈ zT := zT_1 (i := 203) rfl rfl
theorem cx_RX10_60 : Cond.classLink RX10 60 (zR 3) ∈ zT := zT_1 (i := 228) rfl rfl
theorem cx_RX10_67 : Cond.classLink RX10 67 (zR 7) ∈ zT := zT_2 (i := 3) rfl rfl
theorem cx_RX3_19 : Cond.classLink RX3 19 (zR 4) ∈ zT := zT_1 (i := 33) rfl rfl
theorem cx_RL_7 : Cond.classLink RL 7 (zR 9) ∈ zT := zT_1 (i := 19) rfl rfl
theorem cx_RL_10 : Cond.classLink RL 10 (zR 10) ∈ zT := zT_4 (i := 156) rfl rfl
theorem is_0 : Cond.instantiable (zR 0) (zN 0) ∈ zT := zT_1 (i := 177) rfl rfl
theorem ni_0 : Cond.initialized (zR 0) ∈ zT := zT_1 (i := 7) rfl rfl
theorem is_1 : Cond.instantiable (zR 1) (zN 1) ∈ zT := zT_1 (i := 135) rfl rfl
theorem ni_1 : Cond.initialized (zR 1) ∈ zT := zT_1 (i := 5) rfl rfl
theorem is_2 : Cond.instantiable (zR 2) (zN 2) ∈ zT := zT_1 (i := 28) rfl rfl
theorem ni_2 : Cond.initialized (zR 2) ∈ zT := zT_1 (i := 2) rfl rfl
theorem is_3 : Cond.instantiable (zR 3) (zN 3) ∈ zT := zT_1 (i := 229) rfl rfl
theorem ni_3 : Cond.initialized (zR 3) ∈ zT := zT_1 (i := 9) rfl rfl
theorem is_4 : Cond.instantiable (zR 4) (zN 4) ∈ zT := zT_1 (i := 34) rfl rfl
theorem ni_4 : Cond.initialized (zR 4) ∈ zT := zT_1 (i := 3) rfl rfl
theorem is_5 : Cond.instantiable (zR 5) (zN 5) ∈ zT := zT_1 (i := 97) rfl rfl
theorem ni_5 : Cond.initialized (zR 5) ∈ zT := zT_1 (i := 4) rfl rfl
theorem is_6 : Cond.instantiable (zR 6) (zN 6) ∈ zT := zT_1 (i := 204) rfl rfl
theorem ni_6 : Cond.initialized (zR 6) ∈ zT := zT_1 (i := 8) rfl rfl
theorem is_7 : Cond.instantiable (zR 7) (zN 7) ∈ zT := zT_2 (i := 5) rfl rfl
theorem ni_7 : Cond.initialized (zR 7) ∈ zT := zT_1 (i := 10) rfl rfl
theorem is_8 : Cond.instantiable (zR 8) (zN 8) ∈ zT := zT_1 (i := 153) rfl rfl
theorem ni_8 : Cond.initialized (zR 8) ∈ zT := zT_1 (i := 6) rfl rfl
theorem is_9 : Cond.instantiable (zR 9) (zN 9) ∈ zT := zT_1 (i := 20) rfl rfl
theorem ni_9 : Cond.initialized (zR 9) ∈ zT := zT_1 (i := 1) rfl rfl
theorem is_10 : Cond.instantiable (zR 10) (zN 10) ∈ zT := zT_4 (i := 157) rfl rfl
theorem ni_10 : Cond.initialized (zR 10) ∈ zT := zT_1 (i := 11) rfl rfl
theorem oi_RX10_5 : Cond.methodLink RX10 5 objectInit ∈ zT := zT_1 (i := 24) rfl rfl
theorem oi_RX3_3 : Cond.methodLink RX3 3 objectInit ∈ zT := zT_1 (i := 32) rfl rfl
theorem oi_RX5_3 : Cond.methodLink RX5 3 objectInit ∈ zT := zT_1 (i := 38) rfl rfl
theorem oi_RX6_3 : Cond.methodLink RX6 3 objectInit ∈ zT := zT_1 (i := 101) rfl rfl
theorem oi_RX1_3 : Cond.methodLink RX1 3 objectInit ∈ zT := zT_1 (i := 139) rfl rfl
theorem oi_RX9_3 : Cond.methodLink RX9 3 objectInit ∈ zT := zT_1 (i := 157) rfl rfl
theorem oi_RX0_3 : Cond.methodLink RX0 3 objectInit ∈ zT := zT_1 (i := 181) rfl rfl
theorem oi_RX7_3 : Cond.methodLink RX7 3 objectInit ∈ zT := zT_1 (i := 208) rfl rfl
theorem oi_RX4_3 : Cond.methodLink RX4 3 objectInit ∈ zT := zT_1 (i := 233) rfl rfl
theorem oi_RX8_3 : Cond.methodLink RX8 3 objectInit ∈ zT := zT_2 (i := 9) rfl rfl
theorem oi_RX11_5 : Cond.methodLink RX11 5 objectInit ∈ zT := zT_4 (i := 161) rfl rfl
theorem mm_RX10_347 : Cond.methodLink RX10 347 Lib.Math.min.name ∈ zT := zT_2 (i := 98) rfl rfl
theorem mm_RX10_366 : Cond.methodLink RX10 366 Lib.Math.max.name ∈ zT := zT_2 (i := 101) rfl rfl
theorem mm_RX3_103 : Cond.methodLink RX3 103 Lib.Math.min.name ∈ zT := zT_2 (i := 121) rfl rfl
theorem mm_RX3_111 : Cond.methodLink RX3 111 Lib.Math.max.name ∈ zT := zT_2 (i := 130) rfl rfl
theorem mm_RX6_71 : Cond.methodLink RX6 71 Lib.Math.max.name ∈ zT := zT_2 (i := 223) rfl rfl
theorem mm_RJ7_304 : Cond.methodLink RJ7 304 Lib.Math.min.name ∈ zT := zT_4 (i := 55) rfl rfl
theorem mm_RX4_26 : Cond.methodLink RX4 26 Lib.Math.abs.name ∈ zT := zT_4 (i := 62) rfl rfl
theorem ac_RX5_19 : Cond.methodLink RX5 19 arraycopyName ∈ zT := zT_2 (i := 88) rfl rfl
theorem ac_RX6_41 : Cond.methodLink RX6 41 arraycopyName ∈ zT := zT_2 (i := 207) rfl rfl
theorem ac_RX1_22 : Cond.methodLink RX1 22 arraycopyName ∈ zT := zT_3 (i := 110) rfl rfl
theorem ac_RX7_34 : Cond.methodLink RX7 34 arraycopyName ∈ zT := zT_3 (i := 227) rfl rfl
theorem ac_RJ7_150 : Cond.methodLink RJ7 150 arraycopyName ∈ zT := zT_4 (i := 56) rfl rfl
theorem ac_RX10_334 : Cond.methodLink RX10 334 arraycopyName ∈ zT := zT_4 (i := 126) rfl rfl
theorem ac_RX3_89 : Cond.methodLink RX3 89 arraycopyName ∈ zT := zT_4 (i := 147) rfl rfl
