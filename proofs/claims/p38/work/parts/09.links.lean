/-! methods by name, fields and calls by their places in the pool -/
abbrev m_X0_init : Mth := (yX0_init, cX0_init, 1, none)
theorem mo_X0_init : zMok m_X0_init 0 := ⟨zT_1 (i := 171) rfl rfl, zT_1 (i := 7) rfl rfl, by decide, by decide, by decide +kernel⟩
theorem in_X0_init : Cond.instanceMethod yX0_init ∈ zT := zT_1 (i := 170) rfl rfl
abbrev m_X1_init : Mth := (yX1_init, cX1_init, 1, none)
theorem mo_X1_init : zMok m_X1_init 0 := ⟨zT_1 (i := 133) rfl rfl, zT_1 (i := 5) rfl rfl, by decide, by decide, by decide +kernel⟩
theorem in_X1_init : Cond.instanceMethod yX1_init ∈ zT := zT_1 (i := 132) rfl rfl
abbrev m_X1_breakAll : Mth := (yX1_breakAll, cX1_breakAll, 4, none)
theorem mo_X1_breakAll : zMok m_X1_breakAll 1 := ⟨zT_3 (i := 35) rfl rfl, zT_1 (i := 5) rfl rfl, by decide, by decide, by decide +kernel⟩
theorem in_X1_breakAll : Cond.instanceMethod yX1_breakAll ∈ zT := zT_3 (i := 33) rfl rfl
theorem se_X1_breakAll : Cond.selects yX1_breakAll.cls yX1_breakAll yX1_breakAll ∈ zT := zT_3 (i := 34) rfl rfl
abbrev m_X1_mostSupported : Mth := (yX1_mostSupported, cX1_mostSupported, 5, (some .int))
theorem mo_X1_mostSupported : zMok m_X1_mostSupported 0 := ⟨zT_3 (i := 40) rfl rfl, zT_1 (i := 5) rfl rfl, by decide, by decide, by decide +kernel⟩
theorem in_X1_mostSupported : Cond.instanceMethod yX1_mostSupported ∈ zT := zT_3 (i := 39) rfl rfl
theorem se_X1_mostSupported : Cond.selects yX1_mostSupported.cls yX1_mostSupported yX1_mostSupported ∈ zT := zT_sel (i := 10) rfl rfl
abbrev m_X1_fewestOf : Mth := (yX1_fewestOf, cX1_fewestOf, 3, (some .int))
theorem mo_X1_fewestOf : zMok m_X1_fewestOf 1 := ⟨zT_3 (i := 54) rfl rfl, zT_1 (i := 5) rfl rfl, by decide, by decide, by decide +kernel⟩
theorem in_X1_fewestOf : Cond.instanceMethod yX1_fewestOf ∈ zT := zT_3 (i := 52) rfl rfl
theorem se_X1_fewestOf : Cond.selects yX1_fewestOf.cls yX1_fewestOf yX1_fewestOf ∈ zT := zT_3 (i := 53) rfl rfl
abbrev m_X1_breaksWith : Mth := (yX1_breaksWith, cX1_breaksWith, 6, (some .boolean))
theorem mo_X1_breaksWith : zMok m_X1_breaksWith 2 := ⟨zT_3 (i := 57) rfl rfl, zT_1 (i := 5) rfl rfl, by decide, by decide, by decide +kernel⟩
theorem st_X1_breaksWith : Cond.static yX1_breaksWith ∈ zT := zT_3 (i := 56) rfl rfl
abbrev m_X1_breaksWithout : Mth := (yX1_breaksWithout, cX1_breaksWithout, 5, (some .boolean))
theorem mo_X1_breaksWithout : zMok m_X1_breaksWithout 4 := ⟨zT_3 (i := 75) rfl rfl, zT_1 (i := 5) rfl rfl, by decide, by decide, by decide +kernel⟩
theorem st_X1_breaksWithout : Cond.static yX1_breaksWithout ∈ zT := zT_3 (i := 74) rfl rfl
abbrev m_X1_anyTriangle : Mth := (yX1_anyTriangle, cX1_anyTriangle, 5, (some .int))
theorem mo_X1_anyTriangle : zMok m_X1_anyTriangle 1 := ⟨zT_3 (i := 60) rfl rfl, zT_1 (i := 5) rfl rfl, by decide, by decide, by decide +kernel⟩
theorem st_X1_anyTriangle : Cond.static yX1_anyTriangle ∈ zT := zT_3 (i := 59) rfl rfl
abbrev m_X1_flip : Mth := (yX1_flip, cX1_flip, 3, none)
theorem mo_X1_flip : zMok m_X1_flip 3 := ⟨zT_3 (i := 46) rfl rfl, zT_1 (i := 5) rfl rfl, by decide, by decide, by decide +kernel⟩
theorem st_X1_flip : Cond.static yX1_flip ∈ zT := zT_3 (i := 45) rfl rfl
abbrev m_X2_degree : Mth := (yX2_degree, cX2_degree, 2, (some .int))
theorem mo_X2_degree : zMok m_X2_degree 2 := ⟨zT_2 (i := 95) rfl rfl, zT_1 (i := 13) rfl rfl, by decide, by decide, by decide +kernel⟩
theorem st_X2_degree : Cond.static yX2_degree ∈ zT := zT_2 (i := 94) rfl rfl
abbrev m_X2_shared : Mth := (yX2_shared, cX2_shared, 3, (some .int))
theorem mo_X2_shared : zMok m_X2_shared 3 := ⟨zT_2 (i := 114) rfl rfl, zT_1 (i := 13) rfl rfl, by decide, by decide, by decide +kernel⟩
theorem st_X2_shared : Cond.static yX2_shared ∈ zT := zT_2 (i := 113) rfl rfl
abbrev m_X2_trianglesAt : Mth := (yX2_trianglesAt, cX2_trianglesAt, 4, (some .int))
theorem mo_X2_trianglesAt : zMok m_X2_trianglesAt 2 := ⟨zT_2 (i := 135) rfl rfl, zT_1 (i := 13) rfl rfl, by decide, by decide, by decide +kernel⟩
theorem st_X2_trianglesAt : Cond.static yX2_trianglesAt ∈ zT := zT_2 (i := 134) rfl rfl
abbrev m_X2_triangles : Mth := (yX2_triangles, cX2_triangles, 3, (some .int))
theorem mo_X2_triangles : zMok m_X2_triangles 1 := ⟨zT_2 (i := 217) rfl rfl, zT_1 (i := 13) rfl rfl, by decide, by decide, by decide +kernel⟩
theorem st_X2_triangles : Cond.static yX2_triangles ∈ zT := zT_2 (i := 216) rfl rfl
abbrev m_X2_twosAt : Mth := (yX2_twosAt, cX2_twosAt, 3, (some .int))
theorem mo_X2_twosAt : zMok m_X2_twosAt 2 := ⟨zT_2 (i := 229) rfl rfl, zT_1 (i := 13) rfl rfl, by decide, by decide, by decide +kernel⟩
theorem st_X2_twosAt : Cond.static yX2_twosAt ∈ zT := zT_2 (i := 228) rfl rfl
abbrev m_X2_twos : Mth := (yX2_twos, cX2_twos, 3, (some .int))
theorem mo_X2_twos : zMok m_X2_twos 1 := ⟨zT_2 (i := 226) rfl rfl, zT_1 (i := 13) rfl rfl, by decide, by decide, by decide +kernel⟩
theorem st_X2_twos : Cond.static yX2_twos ∈ zT := zT_2 (i := 225) rfl rfl
abbrev m_X2_ringsAt : Mth := (yX2_ringsAt, cX2_ringsAt, 5, (some .int))
theorem mo_X2_ringsAt : zMok m_X2_ringsAt 2 := ⟨zT_2 (i := 151) rfl rfl, zT_1 (i := 13) rfl rfl, by decide, by decide, by decide +kernel⟩
theorem st_X2_ringsAt : Cond.static yX2_ringsAt ∈ zT := zT_2 (i := 150) rfl rfl
abbrev m_X2_rings : Mth := (yX2_rings, cX2_rings, 3, (some .int))
theorem mo_X2_rings : zMok m_X2_rings 1 := ⟨zT_2 (i := 221) rfl rfl, zT_1 (i := 13) rfl rfl, by decide, by decide, by decide +kernel⟩
theorem st_X2_rings : Cond.static yX2_rings ∈ zT := zT_2 (i := 220) rfl rfl
abbrev m_X2_foursOn : Mth := (yX2_foursOn, cX2_foursOn, 7, (some .int))
theorem mo_X2_foursOn : zMok m_X2_foursOn 3 := ⟨zT_2 (i := 157) rfl rfl, zT_1 (i := 13) rfl rfl, by decide, by decide, by decide +kernel⟩
theorem st_X2_foursOn : Cond.static yX2_foursOn ∈ zT := zT_2 (i := 156) rfl rfl
abbrev m_X2_foursAt : Mth := (yX2_foursAt, cX2_foursAt, 4, (some .int))
theorem mo_X2_foursAt : zMok m_X2_foursAt 2 := ⟨zT_2 (i := 154) rfl rfl, zT_1 (i := 13) rfl rfl, by decide, by decide, by decide +kernel⟩
theorem st_X2_foursAt : Cond.static yX2_foursAt ∈ zT := zT_2 (i := 153) rfl rfl
abbrev m_X2_fours : Mth := (yX2_fours, cX2_fours, 3, (some .int))
theorem mo_X2_fours : zMok m_X2_fours 1 := ⟨zT_2 (i := 233) rfl rfl, zT_1 (i := 13) rfl rfl, by decide, by decide, by decide +kernel⟩
theorem st_X2_fours : Cond.static yX2_fours ∈ zT := zT_2 (i := 232) rfl rfl
abbrev m_X2_waysByThree : Mth := (yX2_waysByThree, cX2_waysByThree, 9, (some .int))
theorem mo_X2_waysByThree : zMok m_X2_waysByThree 3 := ⟨zT_2 (i := 166) rfl rfl, zT_1 (i := 13) rfl rfl, by decide, by decide, by decide +kernel⟩
theorem st_X2_waysByThree : Cond.static yX2_waysByThree ∈ zT := zT_2 (i := 165) rfl rfl
abbrev m_X2_far : Mth := (yX2_far, cX2_far, 6, (some .int))
theorem mo_X2_far : zMok m_X2_far 3 := ⟨zT_2 (i := 170) rfl rfl, zT_1 (i := 13) rfl rfl, by decide, by decide, by decide +kernel⟩
theorem st_X2_far : Cond.static yX2_far ∈ zT := zT_2 (i := 169) rfl rfl
abbrev m_X2_nearAny : Mth := (yX2_nearAny, cX2_nearAny, 6, (some .long))
theorem mo_X2_nearAny : zMok m_X2_nearAny 2 := ⟨zT_2 (i := 173) rfl rfl, zT_1 (i := 13) rfl rfl, by decide, by decide, by decide +kernel⟩
theorem st_X2_nearAny : Cond.static yX2_nearAny ∈ zT := zT_2 (i := 172) rfl rfl
abbrev m_X2_coreWithin : Mth := (yX2_coreWithin, cX2_coreWithin, 10, (some .long))
theorem mo_X2_coreWithin : zMok m_X2_coreWithin 3 := ⟨zT_2 (i := 148) rfl rfl, zT_1 (i := 13) rfl rfl, by decide, by decide, by decide +kernel⟩
theorem st_X2_coreWithin : Cond.static yX2_coreWithin ∈ zT := zT_2 (i := 147) rfl rfl
abbrev m_X2_layCores : Mth := (yX2_layCores, cX2_layCores, 6, none)
theorem mo_X2_layCores : zMok m_X2_layCores 2 := ⟨zT_2 (i := 141) rfl rfl, zT_1 (i := 13) rfl rfl, by decide, by decide, by decide +kernel⟩
theorem st_X2_layCores : Cond.static yX2_layCores ∈ zT := zT_2 (i := 140) rfl rfl
abbrev m_X3_init : Mth := (yX3_init, cX3_init, 1, none)
theorem mo_X3_init : zMok m_X3_init 0 := ⟨zT_1 (i := 30) rfl rfl, zT_1 (i := 2) rfl rfl, by decide, by decide, by decide +kernel⟩
theorem in_X3_init : Cond.instanceMethod yX3_init ∈ zT := zT_1 (i := 29) rfl rfl
abbrev m_X3_joins : Mth := (yX3_joins, cX3_joins, 3, (some .boolean))
theorem mo_X3_joins : zMok m_X3_joins 2 := ⟨zT_2 (i := 57) rfl rfl, zT_1 (i := 2) rfl rfl, by decide, by decide, by decide +kernel⟩
theorem in_X3_joins : Cond.instanceMethod yX3_joins ∈ zT := zT_2 (i := 55) rfl rfl
theorem se_X3_joins : Cond.selects yX3_joins.cls yX3_joins yX3_joins ∈ zT := zT_2 (i := 56) rfl rfl
abbrev m_X3_isHeavy : Mth := (yX3_isHeavy, cX3_isHeavy, 2, (some .boolean))
theorem mo_X3_isHeavy : zMok m_X3_isHeavy 1 := ⟨zT_2 (i := 110) rfl rfl, zT_1 (i := 2) rfl rfl, by decide, by decide, by decide +kernel⟩
theorem in_X3_isHeavy : Cond.instanceMethod yX3_isHeavy ∈ zT := zT_2 (i := 108) rfl rfl
theorem se_X3_isHeavy : Cond.selects yX3_isHeavy.cls yX3_isHeavy yX3_isHeavy ∈ zT := zT_2 (i := 109) rfl rfl
abbrev m_X3_bound : Mth := (yX3_bound, cX3_bound, 2, (some .int))
theorem mo_X3_bound : zMok m_X3_bound 0 := ⟨zT_2 (i := 92) rfl rfl, zT_1 (i := 2) rfl rfl, by decide, by decide, by decide +kernel⟩
theorem in_X3_bound : Cond.instanceMethod yX3_bound ∈ zT := zT_2 (i := 90) rfl rfl
theorem se_X3_bound : Cond.selects yX3_bound.cls yX3_bound yX3_bound ∈ zT := zT_2 (i := 91) rfl rfl
abbrev m_X3_bring : Mth := (yX3_bring, cX3_bring, 4, none)
theorem mo_X3_bring : zMok m_X3_bring 3 := ⟨zT_2 (i := 64) rfl rfl, zT_1 (i := 2) rfl rfl, by decide, by decide, by decide +kernel⟩
theorem in_X3_bring : Cond.instanceMethod yX3_bring ∈ zT := zT_2 (i := 62) rfl rfl
theorem se_X3_bring : Cond.selects yX3_bring.cls yX3_bring yX3_bring ∈ zT := zT_2 (i := 63) rfl rfl
abbrev m_X3_drop : Mth := (yX3_drop, cX3_drop, 3, none)
theorem mo_X3_drop : zMok m_X3_drop 2 := ⟨zT_2 (i := 122) rfl rfl, zT_1 (i := 2) rfl rfl, by decide, by decide, by decide +kernel⟩
theorem in_X3_drop : Cond.instanceMethod yX3_drop ∈ zT := zT_2 (i := 120) rfl rfl
theorem se_X3_drop : Cond.selects yX3_drop.cls yX3_drop yX3_drop ∈ zT := zT_2 (i := 121) rfl rfl
abbrev m_X3_takeBack : Mth := (yX3_takeBack, cX3_takeBack, 5, (some .int))
theorem mo_X3_takeBack : zMok m_X3_takeBack 1 := ⟨zT_3 (i := 115) rfl rfl, zT_1 (i := 2) rfl rfl, by decide, by decide, by decide +kernel⟩
theorem in_X3_takeBack : Cond.instanceMethod yX3_takeBack ∈ zT := zT_3 (i := 113) rfl rfl
theorem se_X3_takeBack : Cond.selects yX3_takeBack.cls yX3_takeBack yX3_takeBack ∈ zT := zT_3 (i := 114) rfl rfl
abbrev m_X3_become : Mth := (yX3_become, cX3_become, 2, none)
theorem mo_X3_become : zMok m_X3_become 1 := ⟨zT_3 (i := 139) rfl rfl, zT_1 (i := 2) rfl rfl, by decide, by decide, by decide +kernel⟩
theorem in_X3_become : Cond.instanceMethod yX3_become ∈ zT := zT_3 (i := 137) rfl rfl
theorem se_X3_become : Cond.selects yX3_become.cls yX3_become yX3_become ∈ zT := zT_3 (i := 138) rfl rfl
abbrev m_X3_come : Mth := (yX3_come, cX3_come, 4, none)
theorem mo_X3_come : zMok m_X3_come 3 := ⟨zT_2 (i := 75) rfl rfl, zT_1 (i := 2) rfl rfl, by decide, by decide, by decide +kernel⟩
theorem in_X3_come : Cond.instanceMethod yX3_come ∈ zT := zT_2 (i := 74) rfl rfl
theorem se_X3_come : Cond.selects yX3_come.cls yX3_come yX3_come ∈ zT := zT_sel (i := 0) rfl rfl
abbrev m_X3_go : Mth := (yX3_go, cX3_go, 3, none)
theorem mo_X3_go : zMok m_X3_go 2 := ⟨zT_2 (i := 126) rfl rfl, zT_1 (i := 2) rfl rfl, by decide, by decide, by decide +kernel⟩
theorem in_X3_go : Cond.instanceMethod yX3_go ∈ zT := zT_2 (i := 125) rfl rfl
theorem se_X3_go : Cond.selects yX3_go.cls yX3_go yX3_go ∈ zT := zT_sel (i := 3) rfl rfl
abbrev m_X3_rebase : Mth := (yX3_rebase, cX3_rebase, 4, none)
theorem mo_X3_rebase : zMok m_X3_rebase 1 := ⟨zT_2 (i := 88) rfl rfl, zT_1 (i := 2) rfl rfl, by decide, by decide, by decide +kernel⟩
theorem in_X3_rebase : Cond.instanceMethod yX3_rebase ∈ zT := zT_2 (i := 87) rfl rfl
theorem se_X3_rebase : Cond.selects yX3_rebase.cls yX3_rebase yX3_rebase ∈ zT := zT_sel (i := 1) rfl rfl
abbrev m_X3_lookAt : Mth := (yX3_lookAt, cX3_lookAt, 5, none)
theorem mo_X3_lookAt : zMok m_X3_lookAt 1 := ⟨zT_2 (i := 106) rfl rfl, zT_1 (i := 2) rfl rfl, by decide, by decide, by decide +kernel⟩
theorem in_X3_lookAt : Cond.instanceMethod yX3_lookAt ∈ zT := zT_2 (i := 105) rfl rfl
theorem se_X3_lookAt : Cond.selects yX3_lookAt.cls yX3_lookAt yX3_lookAt ∈ zT := zT_sel (i := 2) rfl rfl
abbrev m_X4_init : Mth := (yX4_init, cX4_init, 1, none)
theorem mo_X4_init : zMok m_X4_init 0 := ⟨zT_1 (i := 218) rfl rfl, zT_1 (i := 9) rfl rfl, by decide, by decide, by decide +kernel⟩
theorem in_X4_init : Cond.instanceMethod yX4_init ∈ zT := zT_1 (i := 217) rfl rfl
abbrev m_X4_writeEdge : Mth := (yX4_writeEdge, cX4_writeEdge, 4, none)
theorem mo_X4_writeEdge : zMok m_X4_writeEdge 3 := ⟨zT_3 (i := 83) rfl rfl, zT_1 (i := 9) rfl rfl, by decide, by decide, by decide +kernel⟩
theorem in_X4_writeEdge : Cond.instanceMethod yX4_writeEdge ∈ zT := zT_3 (i := 81) rfl rfl
theorem se_X4_writeEdge : Cond.selects yX4_writeEdge.cls yX4_writeEdge yX4_writeEdge ∈ zT := zT_3 (i := 82) rfl rfl
abbrev m_X4_writeNumber : Mth := (yX4_writeNumber, cX4_writeNumber, 4, none)
theorem mo_X4_writeNumber : zMok m_X4_writeNumber 1 := ⟨zT_3 (i := 103) rfl rfl, zT_1 (i := 9) rfl rfl, by decide, by decide, by decide +kernel⟩
theorem in_X4_writeNumber : Cond.instanceMethod yX4_writeNumber ∈ zT := zT_3 (i := 102) rfl rfl
theorem se_X4_writeNumber : Cond.selects yX4_writeNumber.cls yX4_writeNumber yX4_writeNumber ∈ zT := zT_sel (i := 12) rfl rfl
abbrev m_X4_write : Mth := (yX4_write, cX4_write, 2, none)
theorem mo_X4_write : zMok m_X4_write 1 := ⟨zT_3 (i := 87) rfl rfl, zT_1 (i := 9) rfl rfl, by decide, by decide, by decide +kernel⟩
theorem in_X4_write : Cond.instanceMethod yX4_write ∈ zT := zT_3 (i := 86) rfl rfl
theorem se_X4_write : Cond.selects yX4_write.cls yX4_write yX4_write ∈ zT := zT_sel (i := 11) rfl rfl
abbrev m_X5_init : Mth := (yX5_init, cX5_init, 1, none)
theorem mo_X5_init : zMok m_X5_init 0 := ⟨zT_1 (i := 36) rfl rfl, zT_1 (i := 3) rfl rfl, by decide, by decide, by decide +kernel⟩
theorem in_X5_init : Cond.instanceMethod yX5_init ∈ zT := zT_1 (i := 35) rfl rfl
abbrev m_X5_keep : Mth := (yX5_keep, cX5_keep, 6, none)
theorem mo_X5_keep : zMok m_X5_keep 4 := ⟨zT_2 (i := 68) rfl rfl, zT_1 (i := 3) rfl rfl, by decide, by decide, by decide +kernel⟩
theorem in_X5_keep : Cond.instanceMethod yX5_keep ∈ zT := zT_2 (i := 66) rfl rfl
theorem se_X5_keep : Cond.selects yX5_keep.cls yX5_keep yX5_keep ∈ zT := zT_2 (i := 67) rfl rfl
abbrev m_X5_hadCome : Mth := (yX5_hadCome, cX5_hadCome, 2, (some .boolean))
theorem mo_X5_hadCome : zMok m_X5_hadCome 1 := ⟨zT_3 (i := 127) rfl rfl, zT_1 (i := 3) rfl rfl, by decide, by decide, by decide +kernel⟩
theorem in_X5_hadCome : Cond.instanceMethod yX5_hadCome ∈ zT := zT_3 (i := 125) rfl rfl
theorem se_X5_hadCome : Cond.selects yX5_hadCome.cls yX5_hadCome yX5_hadCome ∈ zT := zT_3 (i := 126) rfl rfl
abbrev m_X5_firstOf : Mth := (yX5_firstOf, cX5_firstOf, 2, (some .int))
theorem mo_X5_firstOf : zMok m_X5_firstOf 1 := ⟨zT_3 (i := 119) rfl rfl, zT_1 (i := 3) rfl rfl, by decide, by decide, by decide +kernel⟩
theorem in_X5_firstOf : Cond.instanceMethod yX5_firstOf ∈ zT := zT_3 (i := 117) rfl rfl
theorem se_X5_firstOf : Cond.selects yX5_firstOf.cls yX5_firstOf yX5_firstOf ∈ zT := zT_3 (i := 118) rfl rfl
abbrev m_X5_secondOf : Mth := (yX5_secondOf, cX5_secondOf, 2, (some .int))
theorem mo_X5_secondOf : zMok m_X5_secondOf 1 := ⟨zT_3 (i := 123) rfl rfl, zT_1 (i := 3) rfl rfl, by decide, by decide, by decide +kernel⟩
theorem in_X5_secondOf : Cond.instanceMethod yX5_secondOf ∈ zT := zT_3 (i := 121) rfl rfl
theorem se_X5_secondOf : Cond.selects yX5_secondOf.cls yX5_secondOf yX5_secondOf ∈ zT := zT_3 (i := 122) rfl rfl
abbrev m_X5_worthOf : Mth := (yX5_worthOf, cX5_worthOf, 2, (some .int))
theorem mo_X5_worthOf : zMok m_X5_worthOf 1 := ⟨zT_3 (i := 131) rfl rfl, zT_1 (i := 3) rfl rfl, by decide, by decide, by decide +kernel⟩
theorem in_X5_worthOf : Cond.instanceMethod yX5_worthOf ∈ zT := zT_3 (i := 129) rfl rfl
theorem se_X5_worthOf : Cond.selects yX5_worthOf.cls yX5_worthOf yX5_worthOf ∈ zT := zT_3 (i := 130) rfl rfl
abbrev m_X5_become : Mth := (yX5_become, cX5_become, 2, none)
theorem mo_X5_become : zMok m_X5_become 1 := ⟨zT_3 (i := 144) rfl rfl, zT_1 (i := 3) rfl rfl, by decide, by decide, by decide +kernel⟩
theorem in_X5_become : Cond.instanceMethod yX5_become ∈ zT := zT_3 (i := 142) rfl rfl
theorem se_X5_become : Cond.selects yX5_become.cls yX5_become yX5_become ∈ zT := zT_3 (i := 143) rfl rfl
abbrev m_X6_init : Mth := (yX6_init, cX6_init, 1, none)
theorem mo_X6_init : zMok m_X6_init 0 := ⟨zT_1 (i := 97) rfl rfl, zT_1 (i := 4) rfl rfl, by decide, by decide, by decide +kernel⟩
theorem in_X6_init : Cond.instanceMethod yX6_init ∈ zT := zT_1 (i := 96) rfl rfl
abbrev m_X6_follow : Mth := (yX6_follow, cX6_follow, 4, none)
theorem mo_X6_follow : zMok m_X6_follow 1 := ⟨zT_2 (i := 181) rfl rfl, zT_1 (i := 4) rfl rfl, by decide, by decide, by decide +kernel⟩
theorem in_X6_follow : Cond.instanceMethod yX6_follow ∈ zT := zT_2 (i := 179) rfl rfl
theorem se_X6_follow : Cond.selects yX6_follow.cls yX6_follow yX6_follow ∈ zT := zT_2 (i := 180) rfl rfl
abbrev m_X6_gather : Mth := (yX6_gather, cX6_gather, 4, none)
theorem mo_X6_gather : zMok m_X6_gather 0 := ⟨zT_2 (i := 186) rfl rfl, zT_1 (i := 4) rfl rfl, by decide, by decide, by decide +kernel⟩
theorem in_X6_gather : Cond.instanceMethod yX6_gather ∈ zT := zT_2 (i := 185) rfl rfl
theorem se_X6_gather : Cond.selects yX6_gather.cls yX6_gather yX6_gather ∈ zT := zT_sel (i := 4) rfl rfl
abbrev m_X6_peel : Mth := (yX6_peel, cX6_peel, 5, none)
theorem mo_X6_peel : zMok m_X6_peel 0 := ⟨zT_2 (i := 193) rfl rfl, zT_1 (i := 4) rfl rfl, by decide, by decide, by decide +kernel⟩
theorem in_X6_peel : Cond.instanceMethod yX6_peel ∈ zT := zT_2 (i := 192) rfl rfl
theorem se_X6_peel : Cond.selects yX6_peel.cls yX6_peel yX6_peel ∈ zT := zT_sel (i := 5) rfl rfl
abbrev m_X6_leastFrom : Mth := (yX6_leastFrom, cX6_leastFrom, 5, (some .int))
theorem mo_X6_leastFrom : zMok m_X6_leastFrom 1 := ⟨zT_2 (i := 197) rfl rfl, zT_1 (i := 4) rfl rfl, by decide, by decide, by decide +kernel⟩
theorem in_X6_leastFrom : Cond.instanceMethod yX6_leastFrom ∈ zT := zT_2 (i := 196) rfl rfl
theorem se_X6_leastFrom : Cond.selects yX6_leastFrom.cls yX6_leastFrom yX6_leastFrom ∈ zT := zT_sel (i := 6) rfl rfl
abbrev m_X6_takeAway : Mth := (yX6_takeAway, cX6_takeAway, 6, none)
theorem mo_X6_takeAway : zMok m_X6_takeAway 2 := ⟨zT_2 (i := 202) rfl rfl, zT_1 (i := 4) rfl rfl, by decide, by decide, by decide +kernel⟩
theorem in_X6_takeAway : Cond.instanceMethod yX6_takeAway ∈ zT := zT_2 (i := 201) rfl rfl
theorem se_X6_takeAway : Cond.selects yX6_takeAway.cls yX6_takeAway yX6_takeAway ∈ zT := zT_sel (i := 7) rfl rfl
abbrev m_X6_edgesFrom : Mth := (yX6_edgesFrom, cX6_edgesFrom, 4, (some .int))
theorem mo_X6_edgesFrom : zMok m_X6_edgesFrom 1 := ⟨zT_3 (i := 2) rfl rfl, zT_1 (i := 4) rfl rfl, by decide, by decide, by decide +kernel⟩
theorem in_X6_edgesFrom : Cond.instanceMethod yX6_edgesFrom ∈ zT := zT_3 (i := 0) rfl rfl
theorem se_X6_edgesFrom : Cond.selects yX6_edgesFrom.cls yX6_edgesFrom yX6_edgesFrom ∈ zT := zT_3 (i := 1) rfl rfl
abbrev m_X6_hoodOf : Mth := (yX6_hoodOf, cX6_hoodOf, 3, (some .int))
theorem mo_X6_hoodOf : zMok m_X6_hoodOf 2 := ⟨zT_3 (i := 10) rfl rfl, zT_1 (i := 4) rfl rfl, by decide, by decide, by decide +kernel⟩
theorem in_X6_hoodOf : Cond.instanceMethod yX6_hoodOf ∈ zT := zT_3 (i := 8) rfl rfl
theorem se_X6_hoodOf : Cond.selects yX6_hoodOf.cls yX6_hoodOf yX6_hoodOf ∈ zT := zT_3 (i := 9) rfl rfl
abbrev m_X6_hoodsFrom : Mth := (yX6_hoodsFrom, cX6_hoodsFrom, 4, (some .int))
theorem mo_X6_hoodsFrom : zMok m_X6_hoodsFrom 1 := ⟨zT_3 (i := 27) rfl rfl, zT_1 (i := 4) rfl rfl, by decide, by decide, by decide +kernel⟩
theorem in_X6_hoodsFrom : Cond.instanceMethod yX6_hoodsFrom ∈ zT := zT_3 (i := 25) rfl rfl
theorem se_X6_hoodsFrom : Cond.selects yX6_hoodsFrom.cls yX6_hoodsFrom yX6_hoodsFrom ∈ zT := zT_3 (i := 26) rfl rfl
abbrev m_X6_walkFrom : Mth := (yX6_walkFrom, cX6_walkFrom, 10, (some .int))
theorem mo_X6_walkFrom : zMok m_X6_walkFrom 2 := ⟨zT_3 (i := 15) rfl rfl, zT_1 (i := 4) rfl rfl, by decide, by decide, by decide +kernel⟩
theorem in_X6_walkFrom : Cond.instanceMethod yX6_walkFrom ∈ zT := zT_3 (i := 14) rfl rfl
theorem se_X6_walkFrom : Cond.selects yX6_walkFrom.cls yX6_walkFrom yX6_walkFrom ∈ zT := zT_sel (i := 8) rfl rfl
abbrev m_X6_meet : Mth := (yX6_meet, cX6_meet, 3, (some .int))
theorem mo_X6_meet : zMok m_X6_meet 2 := ⟨zT_3 (i := 19) rfl rfl, zT_1 (i := 4) rfl rfl, by decide, by decide, by decide +kernel⟩
theorem in_X6_meet : Cond.instanceMethod yX6_meet ∈ zT := zT_3 (i := 18) rfl rfl
theorem se_X6_meet : Cond.selects yX6_meet.cls yX6_meet yX6_meet ∈ zT := zT_sel (i := 9) rfl rfl
abbrev m_X7_init : Mth := (yX7_init, cX7_init, 1, none)
theorem mo_X7_init : zMok m_X7_init 0 := ⟨zT_1 (i := 193) rfl rfl, zT_1 (i := 8) rfl rfl, by decide, by decide, by decide +kernel⟩
theorem in_X7_init : Cond.instanceMethod yX7_init ∈ zT := zT_1 (i := 192) rfl rfl
abbrev m_X8_init : Mth := (yX8_init, cX8_init, 2, none)
theorem mo_X8_init : zMok m_X8_init 1 := ⟨zT_1 (i := 233) rfl rfl, zT_1 (i := 10) rfl rfl, by decide, by decide, by decide +kernel⟩
theorem in_X8_init : Cond.instanceMethod yX8_init ∈ zT := zT_1 (i := 232) rfl rfl
abbrev m_X9_init : Mth := (yX9_init, cX9_init, 1, none)
theorem mo_X9_init : zMok m_X9_init 0 := ⟨zT_1 (i := 151) rfl rfl, zT_1 (i := 6) rfl rfl, by decide, by decide, by decide +kernel⟩
theorem in_X9_init : Cond.instanceMethod yX9_init ∈ zT := zT_1 (i := 150) rfl rfl
abbrev m_X10_init : Mth := (yX10_init, cX10_init, 2, none)
theorem mo_X10_init : zMok m_X10_init 0 := ⟨zT_1 (i := 22) rfl rfl, zT_1 (i := 1) rfl rfl, by decide, by decide, by decide +kernel⟩
theorem in_X10_init : Cond.instanceMethod yX10_init ∈ zT := zT_1 (i := 21) rfl rfl
abbrev m_X10_add : Mth := (yX10_add, cX10_add, 4, (some .int))
theorem mo_X10_add : zMok m_X10_add 3 := ⟨zT_2 (i := 45) rfl rfl, zT_1 (i := 1) rfl rfl, by decide, by decide, by decide +kernel⟩
theorem in_X10_add : Cond.instanceMethod yX10_add ∈ zT := zT_2 (i := 43) rfl rfl
theorem se_X10_add : Cond.selects yX10_add.cls yX10_add yX10_add ∈ zT := zT_2 (i := 44) rfl rfl
abbrev m_X10_cut : Mth := (yX10_cut, cX10_cut, 3, (some .int))
theorem mo_X10_cut : zMok m_X10_cut 2 := ⟨zT_2 (i := 118) rfl rfl, zT_1 (i := 1) rfl rfl, by decide, by decide, by decide +kernel⟩
theorem in_X10_cut : Cond.instanceMethod yX10_cut ∈ zT := zT_2 (i := 116) rfl rfl
theorem se_X10_cut : Cond.selects yX10_cut.cls yX10_cut yX10_cut ∈ zT := zT_2 (i := 117) rfl rfl
abbrev m_X10_of : Mth := (yX10_of, cX10_of, 3, (some .int))
theorem mo_X10_of : zMok m_X10_of 2 := ⟨zT_2 (i := 131) rfl rfl, zT_1 (i := 1) rfl rfl, by decide, by decide, by decide +kernel⟩
theorem in_X10_of : Cond.instanceMethod yX10_of ∈ zT := zT_2 (i := 129) rfl rfl
theorem se_X10_of : Cond.selects yX10_of.cls yX10_of yX10_of ∈ zT := zT_2 (i := 130) rfl rfl
abbrev m_X10_two : Mth := (yX10_two, cX10_two, 4, (some .int))
theorem mo_X10_two : zMok m_X10_two 3 := ⟨zT_2 (i := 161) rfl rfl, zT_1 (i := 1) rfl rfl, by decide, by decide, by decide +kernel⟩
theorem in_X10_two : Cond.instanceMethod yX10_two ∈ zT := zT_2 (i := 159) rfl rfl
theorem se_X10_two : Cond.selects yX10_two.cls yX10_two yX10_two ∈ zT := zT_2 (i := 160) rfl rfl
abbrev m_X10_edge : Mth := (yX10_edge, cX10_edge, 4, (some .int))
theorem mo_X10_edge : zMok m_X10_edge 3 := ⟨zT_2 (i := 177) rfl rfl, zT_1 (i := 1) rfl rfl, by decide, by decide, by decide +kernel⟩
theorem in_X10_edge : Cond.instanceMethod yX10_edge ∈ zT := zT_2 (i := 175) rfl rfl
theorem se_X10_edge : Cond.selects yX10_edge.cls yX10_edge yX10_edge ∈ zT := zT_2 (i := 176) rfl rfl
abbrev m_X10_near : Mth := (yX10_near, cX10_near, 2, (some .long))
theorem mo_X10_near : zMok m_X10_near 1 := ⟨zT_2 (i := 209) rfl rfl, zT_1 (i := 1) rfl rfl, by decide, by decide, by decide +kernel⟩
theorem in_X10_near : Cond.instanceMethod yX10_near ∈ zT := zT_2 (i := 207) rfl rfl
theorem se_X10_near : Cond.selects yX10_near.cls yX10_near yX10_near ∈ zT := zT_2 (i := 208) rfl rfl
abbrev m_X10_told : Mth := (yX10_told, cX10_told, 2, (some .long))
theorem mo_X10_told : zMok m_X10_told 1 := ⟨zT_2 (i := 214) rfl rfl, zT_1 (i := 1) rfl rfl, by decide, by decide, by decide +kernel⟩
theorem in_X10_told : Cond.instanceMethod yX10_told ∈ zT := zT_2 (i := 212) rfl rfl
theorem se_X10_told : Cond.selects yX10_told.cls yX10_told yX10_told ∈ zT := zT_2 (i := 213) rfl rfl
abbrev m_X10_truss : Mth := (yX10_truss, cX10_truss, 2, (some .int))
theorem mo_X10_truss : zMok m_X10_truss 1 := ⟨zT_2 (i := 238) rfl rfl, zT_1 (i := 1) rfl rfl, by decide, by decide, by decide +kernel⟩
theorem in_X10_truss : Cond.instanceMethod yX10_truss ∈ zT := zT_2 (i := 236) rfl rfl
theorem se_X10_truss : Cond.selects yX10_truss.cls yX10_truss yX10_truss ∈ zT := zT_2 (i := 237) rfl rfl
abbrev m_X10_hood : Mth := (yX10_hood, cX10_hood, 4, (some .int))
theorem mo_X10_hood : zMok m_X10_hood 3 := ⟨zT_3 (i := 6) rfl rfl, zT_1 (i := 1) rfl rfl, by decide, by decide, by decide +kernel⟩
theorem in_X10_hood : Cond.instanceMethod yX10_hood ∈ zT := zT_3 (i := 4) rfl rfl
theorem se_X10_hood : Cond.selects yX10_hood.cls yX10_hood yX10_hood ∈ zT := zT_3 (i := 5) rfl rfl
abbrev m_X10_hoods : Mth := (yX10_hoods, cX10_hoods, 2, (some .int))
theorem mo_X10_hoods : zMok m_X10_hoods 1 := ⟨zT_3 (i := 23) rfl rfl, zT_1 (i := 1) rfl rfl, by decide, by decide, by decide +kernel⟩
theorem in_X10_hoods : Cond.instanceMethod yX10_hoods ∈ zT := zT_3 (i := 21) rfl rfl
theorem se_X10_hoods : Cond.selects yX10_hoods.cls yX10_hoods yX10_hoods ∈ zT := zT_3 (i := 22) rfl rfl
abbrev m_X10_broken : Mth := (yX10_broken, cX10_broken, 2, (some .int))
theorem mo_X10_broken : zMok m_X10_broken 1 := ⟨zT_3 (i := 31) rfl rfl, zT_1 (i := 1) rfl rfl, by decide, by decide, by decide +kernel⟩
theorem in_X10_broken : Cond.instanceMethod yX10_broken ∈ zT := zT_3 (i := 29) rfl rfl
theorem se_X10_broken : Cond.selects yX10_broken.cls yX10_broken yX10_broken ∈ zT := zT_3 (i := 30) rfl rfl
abbrev m_X10_fewest : Mth := (yX10_fewest, cX10_fewest, 1, (some .int))
theorem mo_X10_fewest : zMok m_X10_fewest 0 := ⟨zT_3 (i := 50) rfl rfl, zT_1 (i := 1) rfl rfl, by decide, by decide, by decide +kernel⟩
theorem in_X10_fewest : Cond.instanceMethod yX10_fewest ∈ zT := zT_3 (i := 48) rfl rfl
theorem se_X10_fewest : Cond.selects yX10_fewest.cls yX10_fewest yX10_fewest ∈ zT := zT_3 (i := 49) rfl rfl
abbrev m_X10_spell : Mth := (yX10_spell, cX10_spell, 3, (some .int))
theorem mo_X10_spell : zMok m_X10_spell 0 := ⟨zT_3 (i := 79) rfl rfl, zT_1 (i := 1) rfl rfl, by decide, by decide, by decide +kernel⟩
theorem in_X10_spell : Cond.instanceMethod yX10_spell ∈ zT := zT_3 (i := 77) rfl rfl
theorem se_X10_spell : Cond.selects yX10_spell.cls yX10_spell yX10_spell ∈ zT := zT_3 (i := 78) rfl rfl
abbrev m_X10_back : Mth := (yX10_back, cX10_back, 2, (some .int))
theorem mo_X10_back : zMok m_X10_back 1 := ⟨zT_3 (i := 111) rfl rfl, zT_1 (i := 1) rfl rfl, by decide, by decide, by decide +kernel⟩
theorem in_X10_back : Cond.instanceMethod yX10_back ∈ zT := zT_3 (i := 109) rfl rfl
theorem se_X10_back : Cond.selects yX10_back.cls yX10_back yX10_back ∈ zT := zT_3 (i := 110) rfl rfl
abbrev m_X10_image : Mth := (yX10_image, cX10_image, 1, (some .int))
theorem mo_X10_image : zMok m_X10_image 0 := ⟨zT_3 (i := 135) rfl rfl, zT_1 (i := 1) rfl rfl, by decide, by decide, by decide +kernel⟩
theorem in_X10_image : Cond.instanceMethod yX10_image ∈ zT := zT_3 (i := 133) rfl rfl
theorem se_X10_image : Cond.selects yX10_image.cls yX10_image yX10_image ∈ zT := zT_3 (i := 134) rfl rfl
abbrev m_X10_undo : Mth := (yX10_undo, cX10_undo, 1, (some .int))
theorem mo_X10_undo : zMok m_X10_undo 0 := ⟨zT_3 (i := 148) rfl rfl, zT_1 (i := 1) rfl rfl, by decide, by decide, by decide +kernel⟩
theorem in_X10_undo : Cond.instanceMethod yX10_undo ∈ zT := zT_3 (i := 146) rfl rfl
theorem se_X10_undo : Cond.selects yX10_undo.cls yX10_undo yX10_undo ∈ zT := zT_3 (i := 147) rfl rfl
abbrev m_X10_isVertex : Mth := (yX10_isVertex, cX10_isVertex, 1, (some .boolean))
theorem mo_X10_isVertex : zMok m_X10_isVertex 1 := ⟨zT_2 (i := 51) rfl rfl, zT_1 (i := 1) rfl rfl, by decide, by decide, by decide +kernel⟩
theorem st_X10_isVertex : Cond.static yX10_isVertex ∈ zT := zT_2 (i := 50) rfl rfl
abbrev m_X10_isTwo : Mth := (yX10_isTwo, cX10_isTwo, 2, (some .boolean))
theorem mo_X10_isTwo : zMok m_X10_isTwo 2 := ⟨zT_2 (i := 48) rfl rfl, zT_1 (i := 1) rfl rfl, by decide, by decide, by decide +kernel⟩
theorem st_X10_isTwo : Cond.static yX10_isTwo ∈ zT := zT_2 (i := 47) rfl rfl
abbrev m_X10_pairOf : Mth := (yX10_pairOf, cX10_pairOf, 2, (some .int))
theorem mo_X10_pairOf : zMok m_X10_pairOf 2 := ⟨zT_2 (i := 78) rfl rfl, zT_1 (i := 1) rfl rfl, by decide, by decide, by decide +kernel⟩
theorem st_X10_pairOf : Cond.static yX10_pairOf ∈ zT := zT_2 (i := 77) rfl rfl
abbrev m_X10_hasBit : Mth := (yX10_hasBit, cX10_hasBit, 3, (some .boolean))
theorem mo_X10_hasBit : zMok m_X10_hasBit 2 := ⟨zT_2 (i := 60) rfl rfl, zT_1 (i := 1) rfl rfl, by decide, by decide, by decide +kernel⟩
theorem st_X10_hasBit : Cond.static yX10_hasBit ∈ zT := zT_2 (i := 59) rfl rfl
abbrev m_X10_above : Mth := (yX10_above, cX10_above, 1, (some .long))
theorem mo_X10_above : zMok m_X10_above 1 := ⟨zT_3 (i := 63) rfl rfl, zT_1 (i := 1) rfl rfl, by decide, by decide, by decide +kernel⟩
theorem st_X10_above : Cond.static yX10_above ∈ zT := zT_3 (i := 62) rfl rfl
abbrev m_J6_numberOfTrailingZeros_0f7a4 : Mth := (yJ6_numberOfTrailingZeros_0f7a4, cJ6_numberOfTrailingZeros_0f7a4, 2, (some .int))
theorem mo_J6_numberOfTrailingZeros_0f7a4 : zMok m_J6_numberOfTrailingZeros_0f7a4 1 := ⟨zT_3 (i := 71) rfl rfl, zT_1 (i := 17) rfl rfl, by decide, by decide, by decide +kernel⟩
theorem st_J6_numberOfTrailingZeros_0f7a4 : Cond.static yJ6_numberOfTrailingZeros_0f7a4 ∈ zT := zT_3 (i := 70) rfl rfl
abbrev m_J13_numberOfTrailingZeros_95d88 : Mth := (yJ13_numberOfTrailingZeros_95d88, cJ13_numberOfTrailingZeros_95d88, 3, (some .int))
theorem mo_J13_numberOfTrailingZeros_95d88 : zMok m_J13_numberOfTrailingZeros_95d88 1 := ⟨zT_3 (i := 68) rfl rfl, zT_1 (i := 15) rfl rfl, by decide, by decide, by decide +kernel⟩
theorem st_J13_numberOfTrailingZeros_95d88 : Cond.static yJ13_numberOfTrailingZeros_95d88 ∈ zT := zT_3 (i := 67) rfl rfl
abbrev m_J13_bitCount_95d88 : Mth := (yJ13_bitCount_95d88, cJ13_bitCount_95d88, 2, (some .int))
theorem mo_J13_bitCount_95d88 : zMok m_J13_bitCount_95d88 1 := ⟨zT_2 (i := 98) rfl rfl, zT_1 (i := 15) rfl rfl, by decide, by decide, by decide +kernel⟩
theorem st_J13_bitCount_95d88 : Cond.static yJ13_bitCount_95d88 ∈ zT := zT_2 (i := 97) rfl rfl
abbrev m_J7_fill_53178 : Mth := (yJ7_fill_53178, cJ7_fill_53178, 4, none)
theorem mo_J7_fill_53178 : zMok m_J7_fill_53178 2 := ⟨zT_2 (i := 144) rfl rfl, zT_1 (i := 16) rfl rfl, by decide, by decide, by decide +kernel⟩
theorem st_J7_fill_53178 : Cond.static yJ7_fill_53178 ∈ zT := zT_2 (i := 143) rfl rfl
abbrev m_J7_copyOf_9075b : Mth := (yJ7_copyOf_9075b, cJ7_copyOf_9075b, 3, (some (.array .byte)))
theorem mo_J7_copyOf_9075b : zMok m_J7_copyOf_9075b 2 := ⟨zT_3 (i := 90) rfl rfl, zT_1 (i := 16) rfl rfl, by decide, by decide, by decide +kernel⟩
theorem st_J7_copyOf_9075b : Cond.static yJ7_copyOf_9075b ∈ zT := zT_3 (i := 89) rfl rfl
abbrev m_L_cell : Mth := (yL_cell, cL_cell, 3, (some .int))
theorem mo_L_cell : zMok m_L_cell 2 := ⟨zT_3 (i := 151) rfl rfl, zT_1 (i := 0) rfl rfl, by decide, by decide, by decide +kernel⟩
theorem st_L_cell : Cond.static yL_cell ∈ zT := zT_3 (i := 150) rfl rfl
abbrev m_L_bits : Mth := (yL_bits, cL_bits, 5, (some .int))
theorem mo_L_bits : zMok m_L_bits 1 := ⟨zT_3 (i := 156) rfl rfl, zT_1 (i := 0) rfl rfl, by decide, by decide, by decide +kernel⟩
theorem st_L_bits : Cond.static yL_bits ∈ zT := zT_3 (i := 155) rfl rfl
abbrev m_L_has : Mth := (yL_has, cL_has, 3, (some .boolean))
theorem mo_L_has : zMok m_L_has 2 := ⟨zT_3 (i := 159) rfl rfl, zT_1 (i := 0) rfl rfl, by decide, by decide, by decide +kernel⟩
theorem st_L_has : Cond.static yL_has ∈ zT := zT_3 (i := 158) rfl rfl
abbrev m_L_bound : Mth := (yL_bound, cL_bound, 2, (some .int))
theorem mo_L_bound : zMok m_L_bound 1 := ⟨zT_3 (i := 165) rfl rfl, zT_1 (i := 0) rfl rfl, by decide, by decide, by decide +kernel⟩
theorem st_L_bound : Cond.static yL_bound ∈ zT := zT_3 (i := 164) rfl rfl
abbrev m_L_looks : Mth := (yL_looks, cL_looks, 6, none)
theorem mo_L_looks : zMok m_L_looks 4 := ⟨zT_3 (i := 168) rfl rfl, zT_1 (i := 0) rfl rfl, by decide, by decide, by decide +kernel⟩
theorem st_L_looks : Cond.static yL_looks ∈ zT := zT_3 (i := 167) rfl rfl
abbrev m_L_change : Mth := (yL_change, cL_change, 9, none)
theorem mo_L_change : zMok m_L_change 5 := ⟨zT_3 (i := 162) rfl rfl, zT_1 (i := 0) rfl rfl, by decide, by decide, by decide +kernel⟩
theorem st_L_change : Cond.static yL_change ∈ zT := zT_3 (i := 161) rfl rfl
abbrev m_L_shared : Mth := (yL_shared, cL_shared, 3, (some .int))
theorem mo_L_shared : zMok m_L_shared 3 := ⟨zT_3 (i := 174) rfl rfl, zT_1 (i := 0) rfl rfl, by decide, by decide, by decide +kernel⟩
theorem st_L_shared : Cond.static yL_shared ∈ zT := zT_3 (i := 173) rfl rfl
abbrev m_L_worth : Mth := (yL_worth, cL_worth, 4, (some .int))
theorem mo_L_worth : zMok m_L_worth 3 := ⟨zT_3 (i := 177) rfl rfl, zT_1 (i := 0) rfl rfl, by decide, by decide, by decide +kernel⟩
theorem st_L_worth : Cond.static yL_worth ∈ zT := zT_3 (i := 176) rfl rfl
abbrev m_L_net : Mth := (yL_net, cL_net, 17, (some .boolean))
theorem mo_L_net : zMok m_L_net 7 := ⟨zT_3 (i := 171) rfl rfl, zT_1 (i := 0) rfl rfl, by decide, by decide, by decide +kernel⟩
theorem st_L_net : Cond.static yL_net ∈ zT := zT_3 (i := 170) rfl rfl
abbrev m_L_sees : Mth := (yL_sees, cL_sees, 6, (some .boolean))
theorem mo_L_sees : zMok m_L_sees 4 := ⟨zT_3 (i := 182) rfl rfl, zT_1 (i := 0) rfl rfl, by decide, by decide, by decide +kernel⟩
theorem st_L_sees : Cond.static yL_sees ∈ zT := zT_3 (i := 181) rfl rfl
abbrev m_L_law : Mth := (yL_law, cL_law, 20, (some .boolean))
theorem fl_RX10_14 : zFL RX10 14 9 0 := ⟨by decide, by decide, zT_2 (i := 8) rfl rfl⟩
theorem fl_RX10_18 : zFL RX10 18 9 1 := ⟨by decide, by decide, zT_2 (i := 9) rfl rfl⟩
theorem fl_RX10_21 : zFL RX10 21 9 2 := ⟨by decide, by decide, zT_2 (i := 10) rfl rfl⟩
theorem fl_RX10_28 : zFL RX10 28 9 3 := ⟨by decide, by decide, zT_2 (i := 11) rfl rfl⟩
theorem fl_RX10_35 : zFL RX10 35 9 4 := ⟨by decide, by decide, zT_2 (i := 12) rfl rfl⟩
theorem fl_RX10_42 : zFL RX10 42 9 5 := ⟨by decide, by decide, zT_2 (i := 13) rfl rfl⟩
theorem fl_RX10_49 : zFL RX10 49 9 6 := ⟨by decide, by decide, zT_2 (i := 14) rfl rfl⟩
theorem fl_RX10_56 : zFL RX10 56 9 7 := ⟨by decide, by decide, zT_2 (i := 15) rfl rfl⟩
theorem fl_RX10_63 : zFL RX10 63 9 8 := ⟨by decide, by decide, zT_2 (i := 16) rfl rfl⟩
theorem fl_RX10_69 : zFL RX10 69 9 9 := ⟨by decide, by decide, zT_2 (i := 17) rfl rfl⟩
theorem fl_RX10_73 : zFL RX10 73 9 10 := ⟨by decide, by decide, zT_2 (i := 18) rfl rfl⟩
theorem fl_RX10_93 : zFL RX10 93 2 0 := ⟨by decide, by decide, zT_1 (i := 50) rfl rfl⟩
theorem fl_RX10_109 : zFL RX10 109 2 1 := ⟨by decide, by decide, zT_1 (i := 52) rfl rfl⟩
theorem fl_RX10_140 : zFL RX10 140 2 5 := ⟨by decide, by decide, zT_1 (i := 60) rfl rfl⟩
theorem fl_RX10_160 : zFL RX10 160 5 3 := ⟨by decide, by decide, zT_1 (i := 103) rfl rfl⟩
theorem fl_RX10_163 : zFL RX10 163 5 4 := ⟨by decide, by decide, zT_1 (i := 105) rfl rfl⟩
theorem fl_RX10_173 : zFL RX10 173 2 3 := ⟨by decide, by decide, zT_1 (i := 56) rfl rfl⟩
theorem fl_RX10_180 : zFL RX10 180 2 4 := ⟨by decide, by decide, zT_1 (i := 58) rfl rfl⟩
theorem fl_RX10_187 : zFL RX10 187 2 6 := ⟨by decide, by decide, zT_1 (i := 62) rfl rfl⟩
theorem fl_RX10_190 : zFL RX10 190 2 7 := ⟨by decide, by decide, zT_1 (i := 64) rfl rfl⟩
theorem fl_RX10_193 : zFL RX10 193 2 8 := ⟨by decide, by decide, zT_1 (i := 66) rfl rfl⟩
theorem fl_RX10_196 : zFL RX10 196 2 9 := ⟨by decide, by decide, zT_1 (i := 68) rfl rfl⟩
theorem fl_RX10_199 : zFL RX10 199 2 2 := ⟨by decide, by decide, zT_1 (i := 54) rfl rfl⟩
theorem fl_RX10_203 : zFL RX10 203 4 1 := ⟨by decide, by decide, zT_1 (i := 41) rfl rfl⟩
theorem fl_RX10_211 : zFL RX10 211 3 1 := ⟨by decide, by decide, zT_1 (i := 222) rfl rfl⟩
theorem fl_RX10_263 : zFL RX10 263 1 1 := ⟨by decide, by decide, zT_1 (i := 137) rfl rfl⟩
theorem fl_RX10_266 : zFL RX10 266 1 2 := ⟨by decide, by decide, zT_1 (i := 139) rfl rfl⟩
theorem fl_RX0_11 : zFL RX0 11 0 0 := ⟨by decide, by decide, zT_1 (i := 173) rfl rfl⟩
theorem fl_RX0_15 : zFL RX0 15 0 1 := ⟨by decide, by decide, zT_1 (i := 174) rfl rfl⟩
theorem fl_RX0_18 : zFL RX0 18 0 2 := ⟨by decide, by decide, zT_1 (i := 175) rfl rfl⟩
theorem fl_RX0_21 : zFL RX0 21 0 3 := ⟨by decide, by decide, zT_1 (i := 176) rfl rfl⟩
theorem fl_RX0_24 : zFL RX0 24 0 4 := ⟨by decide, by decide, zT_1 (i := 177) rfl rfl⟩
theorem fl_RX1_9 : zFL RX1 9 1 0 := ⟨by decide, by decide, zT_1 (i := 135) rfl rfl⟩
theorem fl_RX1_15 : zFL RX1 15 1 1 := ⟨by decide, by decide, zT_1 (i := 136) rfl rfl⟩
theorem fl_RX1_19 : zFL RX1 19 1 2 := ⟨by decide, by decide, zT_1 (i := 138) rfl rfl⟩
theorem fl_RX3_9 : zFL RX3 9 2 0 := ⟨by decide, by decide, zT_1 (i := 49) rfl rfl⟩
theorem fl_RX3_15 : zFL RX3 15 2 1 := ⟨by decide, by decide, zT_1 (i := 51) rfl rfl⟩
theorem fl_RX3_22 : zFL RX3 22 2 2 := ⟨by decide, by decide, zT_1 (i := 53) rfl rfl⟩
theorem fl_RX3_26 : zFL RX3 26 2 3 := ⟨by decide, by decide, zT_1 (i := 55) rfl rfl⟩
theorem fl_RX3_30 : zFL RX3 30 2 4 := ⟨by decide, by decide, zT_1 (i := 57) rfl rfl⟩
theorem fl_RX3_33 : zFL RX3 33 2 5 := ⟨by decide, by decide, zT_1 (i := 59) rfl rfl⟩
theorem fl_RX3_37 : zFL RX3 37 2 6 := ⟨by decide, by decide, zT_1 (i := 61) rfl rfl⟩
theorem fl_RX3_40 : zFL RX3 40 2 7 := ⟨by decide, by decide, zT_1 (i := 63) rfl rfl⟩
theorem fl_RX3_43 : zFL RX3 43 2 8 := ⟨by decide, by decide, zT_1 (i := 65) rfl rfl⟩
theorem fl_RX3_46 : zFL RX3 46 2 9 := ⟨by decide, by decide, zT_1 (i := 67) rfl rfl⟩
theorem fl_RX3_49 : zFL RX3 49 2 10 := ⟨by decide, by decide, zT_1 (i := 69) rfl rfl⟩
theorem fl_RX3_72 : zFL RX3 72 4 1 := ⟨by decide, by decide, zT_1 (i := 40) rfl rfl⟩
theorem fl_RX4_11 : zFL RX4 11 3 0 := ⟨by decide, by decide, zT_1 (i := 220) rfl rfl⟩
theorem fl_RX4_15 : zFL RX4 15 3 1 := ⟨by decide, by decide, zT_1 (i := 221) rfl rfl⟩
theorem fl_RX5_11 : zFL RX5 11 4 0 := ⟨by decide, by decide, zT_1 (i := 38) rfl rfl⟩
theorem fl_RX5_15 : zFL RX5 15 4 1 := ⟨by decide, by decide, zT_1 (i := 39) rfl rfl⟩
theorem fl_RX6_9 : zFL RX6 9 5 0 := ⟨by decide, by decide, zT_1 (i := 99) rfl rfl⟩
theorem fl_RX6_15 : zFL RX6 15 5 1 := ⟨by decide, by decide, zT_1 (i := 100) rfl rfl⟩
theorem fl_RX6_18 : zFL RX6 18 5 2 := ⟨by decide, by decide, zT_1 (i := 101) rfl rfl⟩
theorem fl_RX6_22 : zFL RX6 22 5 3 := ⟨by decide, by decide, zT_1 (i := 102) rfl rfl⟩
theorem fl_RX6_25 : zFL RX6 25 5 4 := ⟨by decide, by decide, zT_1 (i := 104) rfl rfl⟩
theorem fl_RX6_28 : zFL RX6 28 5 5 := ⟨by decide, by decide, zT_1 (i := 106) rfl rfl⟩
theorem fl_RX6_31 : zFL RX6 31 5 6 := ⟨by decide, by decide, zT_1 (i := 107) rfl rfl⟩
theorem fl_RX6_34 : zFL RX6 34 5 7 := ⟨by decide, by decide, zT_1 (i := 108) rfl rfl⟩
theorem fl_RX6_37 : zFL RX6 37 5 8 := ⟨by decide, by decide, zT_1 (i := 109) rfl rfl⟩
theorem fl_RX7_9 : zFL RX7 9 6 0 := ⟨by decide, by decide, zT_1 (i := 195) rfl rfl⟩
theorem fl_RX7_15 : zFL RX7 15 6 1 := ⟨by decide, by decide, zT_1 (i := 196) rfl rfl⟩
theorem fl_RX7_19 : zFL RX7 19 6 2 := ⟨by decide, by decide, zT_1 (i := 197) rfl rfl⟩
theorem fl_RX7_22 : zFL RX7 22 6 3 := ⟨by decide, by decide, zT_1 (i := 198) rfl rfl⟩
theorem fl_RX7_25 : zFL RX7 25 6 4 := ⟨by decide, by decide, zT_1 (i := 199) rfl rfl⟩
theorem fl_RX7_28 : zFL RX7 28 6 5 := ⟨by decide, by decide, zT_1 (i := 200) rfl rfl⟩
theorem fl_RX8_9 : zFL RX8 9 7 1 := ⟨by decide, by decide, zT_1 (i := 236) rfl rfl⟩
theorem fl_RX8_15 : zFL RX8 15 7 2 := ⟨by decide, by decide, zT_1 (i := 237) rfl rfl⟩
theorem fl_RX8_19 : zFL RX8 19 7 3 := ⟨by decide, by decide, zT_1 (i := 238) rfl rfl⟩
theorem fl_RX8_23 : zFL RX8 23 7 0 := ⟨by decide, by decide, zT_1 (i := 235) rfl rfl⟩
theorem fl_RX9_9 : zFL RX9 9 8 0 := ⟨by decide, by decide, zT_1 (i := 153) rfl rfl⟩
theorem fl_RX9_15 : zFL RX9 15 8 1 := ⟨by decide, by decide, zT_1 (i := 154) rfl rfl⟩
theorem fl_RX9_19 : zFL RX9 19 8 2 := ⟨by decide, by decide, zT_1 (i := 155) rfl rfl⟩
theorem fl_RX9_22 : zFL RX9 22 8 3 := ⟨by decide, by decide, zT_1 (i := 156) rfl rfl⟩
theorem ml_RX10_13 : zML RX10 13 m_X3_init := Or.inr ⟨"RingCounts", zE_1 (i := 28) rfl rfl⟩
theorem ml_RX10_27 : zML RX10 27 m_X6_init := Or.inr ⟨"RingCounts", zE_1 (i := 95) rfl rfl⟩
theorem ml_RX10_34 : zML RX10 34 m_X1_init := Or.inr ⟨"RingCounts", zE_1 (i := 131) rfl rfl⟩
theorem ml_RX10_41 : zML RX10 41 m_X9_init := Or.inr ⟨"RingCounts", zE_1 (i := 149) rfl rfl⟩
theorem ml_RX10_48 : zML RX10 48 m_X0_init := Or.inr ⟨"RingCounts", zE_1 (i := 169) rfl rfl⟩
theorem ml_RX10_55 : zML RX10 55 m_X7_init := Or.inr ⟨"RingCounts", zE_1 (i := 191) rfl rfl⟩
theorem ml_RX10_62 : zML RX10 62 m_X4_init := Or.inr ⟨"RingCounts", zE_1 (i := 216) rfl rfl⟩
theorem ml_RX10_77 : zML RX10 77 m_X8_init := Or.inl (zT_1 (i := 231) rfl rfl)
theorem ml_RX10_80 : zML RX10 80 m_X10_isTwo := Or.inl (zT_2 (i := 46) rfl rfl)
theorem ml_RX10_86 : zML RX10 86 m_X3_joins := Or.inl (zT_2 (i := 54) rfl rfl)
theorem ml_RX10_89 : zML RX10 89 m_X3_bring := Or.inl (zT_2 (i := 61) rfl rfl)
theorem ml_RX10_97 : zML RX10 97 m_X2_shared := Or.inl (zT_2 (i := 112) rfl rfl)
theorem ml_RX10_103 : zML RX10 103 m_X3_drop := Or.inl (zT_2 (i := 119) rfl rfl)
theorem ml_RX10_112 : zML RX10 112 m_X10_pairOf := Or.inl (zT_2 (i := 204) rfl rfl)
theorem ml_RX10_116 : zML RX10 116 m_X10_isVertex := Or.inl (zT_2 (i := 49) rfl rfl)
theorem ml_RX10_120 : zML RX10 120 m_X2_degree := Or.inl (zT_2 (i := 132) rfl rfl)
theorem ml_RX10_124 : zML RX10 124 m_X2_trianglesAt := Or.inl (zT_2 (i := 133) rfl rfl)
theorem ml_RX10_127 : zML RX10 127 m_X3_isHeavy := Or.inl (zT_2 (i := 138) rfl rfl)
theorem ml_RX10_130 : zML RX10 130 m_X2_layCores := Or.inl (zT_2 (i := 139) rfl rfl)
theorem ml_RX10_134 : zML RX10 134 m_X2_ringsAt := Or.inl (zT_2 (i := 149) rfl rfl)
theorem ml_RX10_137 : zML RX10 137 m_X2_foursAt := Or.inl (zT_2 (i := 152) rfl rfl)
theorem ml_RX10_146 : zML RX10 146 m_J13_bitCount_95d88 := Or.inl (zT_2 (i := 163) rfl rfl)
theorem ml_RX10_150 : zML RX10 150 m_X2_waysByThree := Or.inl (zT_2 (i := 164) rfl rfl)
theorem ml_RX10_153 : zML RX10 153 m_X2_far := Or.inl (zT_2 (i := 168) rfl rfl)
theorem ml_RX10_156 : zML RX10 156 m_X6_follow := Or.inl (zT_2 (i := 178) rfl rfl)
theorem ml_RX10_166 : zML RX10 166 m_X2_foursOn := Or.inl (zT_2 (i := 205) rfl rfl)
theorem ml_RX10_169 : zML RX10 169 m_X2_triangles := Or.inl (zT_2 (i := 215) rfl rfl)
theorem ml_RX10_177 : zML RX10 177 m_X2_rings := Or.inl (zT_2 (i := 219) rfl rfl)
theorem ml_RX10_183 : zML RX10 183 m_X3_bound := Or.inl (zT_2 (i := 223) rfl rfl)
theorem ml_RX10_208 : zML RX10 208 m_X2_twos := Or.inl (zT_2 (i := 224) rfl rfl)
theorem ml_RX10_214 : zML RX10 214 m_X2_fours := Or.inl (zT_2 (i := 231) rfl rfl)
theorem ml_RX10_217 : zML RX10 217 m_X6_edgesFrom := Or.inl (zT_2 (i := 239) rfl rfl)
theorem ml_RX10_224 : zML RX10 224 m_X6_hoodOf := Or.inl (zT_3 (i := 7) rfl rfl)
theorem ml_RX10_227 : zML RX10 227 m_X6_hoodsFrom := Or.inl (zT_3 (i := 24) rfl rfl)
theorem ml_RX10_260 : zML RX10 260 m_X1_breakAll := Or.inl (zT_3 (i := 32) rfl rfl)
theorem ml_RX10_269 : zML RX10 269 m_X1_fewestOf := Or.inl (zT_3 (i := 51) rfl rfl)
theorem ml_RX10_300 : zML RX10 300 m_X4_writeEdge := Or.inl (zT_3 (i := 80) rfl rfl)
theorem ml_RX10_307 : zML RX10 307 m_X3_takeBack := Or.inl (zT_3 (i := 112) rfl rfl)
theorem ml_RX10_352 : zML RX10 352 m_X3_become := Or.inl (zT_3 (i := 136) rfl rfl)
theorem ml_RX1_28 : zML RX1 28 m_X1_mostSupported := Or.inl (zT_3 (i := 37) rfl rfl)
theorem ml_RX1_32 : zML RX1 32 m_X1_flip := Or.inl (zT_3 (i := 44) rfl rfl)
theorem ml_RX1_36 : zML RX1 36 m_X10_hasBit := Or.inr ⟨"RingCounts", zE_3 (i := 41) rfl rfl⟩
theorem ml_RX1_40 : zML RX1 40 m_X2_shared := Or.inl (zT_3 (i := 42) rfl rfl)
theorem ml_RX1_46 : zML RX1 46 m_X10_pairOf := Or.inr ⟨"RingCounts", zE_3 (i := 43) rfl rfl⟩
theorem ml_RX1_50 : zML RX1 50 m_X1_breaksWith := Or.inl (zT_3 (i := 55) rfl rfl)
theorem ml_RX1_54 : zML RX1 54 m_X1_anyTriangle := Or.inl (zT_3 (i := 58) rfl rfl)
theorem ml_RX1_58 : zML RX1 58 m_X1_breaksWithout := Or.inl (zT_3 (i := 73) rfl rfl)
theorem ml_RX1_62 : zML RX1 62 m_X10_above := Or.inr ⟨"RingCounts", zE_3 (i := 61) rfl rfl⟩
theorem ml_RX1_66 : zML RX1 66 m_J13_numberOfTrailingZeros_95d88 := Or.inl (zT_3 (i := 66) rfl rfl)
theorem ml_RX2_9 : zML RX2 9 m_J13_bitCount_95d88 := Or.inl (zT_2 (i := 96) rfl rfl)
theorem ml_RX2_15 : zML RX2 15 m_X10_hasBit := Or.inr ⟨"RingCounts", zE_2 (i := 136) rfl rfl⟩
theorem ml_RX2_19 : zML RX2 19 m_X2_shared := Or.inl (zT_2 (i := 137) rfl rfl)
theorem ml_RX2_25 : zML RX2 25 m_X2_trianglesAt := Or.inl (zT_2 (i := 218) rfl rfl)
theorem ml_RX2_29 : zML RX2 29 m_X2_degree := Or.inl (zT_2 (i := 230) rfl rfl)
theorem ml_RX2_32 : zML RX2 32 m_X2_twosAt := Or.inl (zT_2 (i := 227) rfl rfl)
theorem ml_RX2_35 : zML RX2 35 m_X2_ringsAt := Or.inl (zT_2 (i := 222) rfl rfl)
theorem ml_RX2_38 : zML RX2 38 m_X2_foursOn := Or.inl (zT_2 (i := 155) rfl rfl)
theorem ml_RX2_41 : zML RX2 41 m_X2_foursAt := Or.inl (zT_2 (i := 234) rfl rfl)
theorem ml_RX2_46 : zML RX2 46 m_X2_nearAny := Or.inl (zT_2 (i := 171) rfl rfl)
theorem ml_RX2_50 : zML RX2 50 m_J7_fill_53178 := Or.inl (zT_2 (i := 142) rfl rfl)
theorem ml_RX2_58 : zML RX2 58 m_X2_coreWithin := Or.inl (zT_2 (i := 146) rfl rfl)
theorem ml_RX3_21 : zML RX3 21 m_X5_init := Or.inr ⟨"RingCounts", zE_1 (i := 34) rfl rfl⟩
theorem ml_RX3_52 : zML RX3 52 m_X10_hasBit := Or.inr ⟨"RingCounts", zE_2 (i := 58) rfl rfl⟩
theorem ml_RX3_56 : zML RX3 56 m_X5_keep := Or.inl (zT_2 (i := 65) rfl rfl)
theorem ml_RX3_60 : zML RX3 60 m_X3_come := Or.inl (zT_2 (i := 72) rfl rfl)
theorem ml_RX3_64 : zML RX3 64 m_X10_pairOf := Or.inr ⟨"RingCounts", zE_2 (i := 76) rfl rfl⟩
theorem ml_RX3_68 : zML RX3 68 m_X3_go := Or.inl (zT_2 (i := 123) rfl rfl)
theorem ml_RX3_75 : zML RX3 75 m_X5_firstOf := Or.inl (zT_3 (i := 116) rfl rfl)
theorem ml_RX3_79 : zML RX3 79 m_X5_secondOf := Or.inl (zT_3 (i := 120) rfl rfl)
theorem ml_RX3_82 : zML RX3 82 m_X5_hadCome := Or.inl (zT_3 (i := 124) rfl rfl)
theorem ml_RX3_86 : zML RX3 86 m_X5_worthOf := Or.inl (zT_3 (i := 128) rfl rfl)
theorem ml_RX3_95 : zML RX3 95 m_X5_become := Or.inl (zT_3 (i := 141) rfl rfl)
theorem ml_RX3_99 : zML RX3 99 m_X3_rebase := Or.inl (zT_2 (i := 85) rfl rfl)
theorem ml_RX3_108 : zML RX3 108 m_X3_lookAt := Or.inl (zT_2 (i := 103) rfl rfl)
theorem ml_RX3_116 : zML RX3 116 m_X3_bound := Or.inl (zT_2 (i := 89) rfl rfl)
theorem ml_RX3_120 : zML RX3 120 m_X2_degree := Or.inl (zT_2 (i := 93) rfl rfl)
theorem ml_RX3_126 : zML RX3 126 m_X3_isHeavy := Or.inl (zT_2 (i := 107) rfl rfl)
theorem ml_RX4_19 : zML RX4 19 m_X4_write := Or.inl (zT_3 (i := 84) rfl rfl)
theorem ml_RX4_23 : zML RX4 23 m_X4_writeNumber := Or.inl (zT_3 (i := 100) rfl rfl)
theorem ml_RX4_33 : zML RX4 33 m_J7_copyOf_9075b := Or.inl (zT_3 (i := 88) rfl rfl)
theorem ml_RX6_47 : zML RX6 47 m_X6_gather := Or.inl (zT_2 (i := 183) rfl rfl)
theorem ml_RX6_50 : zML RX6 50 m_X6_peel := Or.inl (zT_2 (i := 190) rfl rfl)
theorem ml_RX6_53 : zML RX6 53 m_X10_hasBit := Or.inr ⟨"RingCounts", zE_2 (i := 187) rfl rfl⟩
theorem ml_RX6_57 : zML RX6 57 m_X10_pairOf := Or.inr ⟨"RingCounts", zE_2 (i := 188) rfl rfl⟩
theorem ml_RX6_61 : zML RX6 61 m_X2_shared := Or.inl (zT_2 (i := 189) rfl rfl)
theorem ml_RX6_67 : zML RX6 67 m_X6_leastFrom := Or.inl (zT_2 (i := 194) rfl rfl)
theorem ml_RX6_76 : zML RX6 76 m_X6_takeAway := Or.inl (zT_2 (i := 199) rfl rfl)
theorem ml_RX6_96 : zML RX6 96 m_J7_fill_53178 := Or.inl (zT_3 (i := 11) rfl rfl)
theorem ml_RX6_99 : zML RX6 99 m_X6_walkFrom := Or.inl (zT_3 (i := 12) rfl rfl)
theorem ml_RX6_102 : zML RX6 102 m_X6_meet := Or.inl (zT_3 (i := 16) rfl rfl)
theorem ml_RL_9 : zML RL 9 m_L_bits := Or.inl (zT_3 (i := 154) rfl rfl)
theorem ml_RL_15 : zML RL 15 m_L_has := Or.inl (zT_3 (i := 157) rfl rfl)
theorem ml_RL_19 : zML RL 19 m_L_bound := Or.inl (zT_3 (i := 163) rfl rfl)
theorem ml_RL_23 : zML RL 23 m_L_looks := Or.inl (zT_3 (i := 166) rfl rfl)
theorem ml_RL_27 : zML RL 27 m_L_shared := Or.inl (zT_3 (i := 172) rfl rfl)
theorem ml_RL_41 : zML RL 41 m_L_cell := Or.inl (zT_3 (i := 149) rfl rfl)
theorem ml_RL_45 : zML RL 45 m_X10_cut := Or.inl (zT_2 (i := 115) rfl rfl)
theorem ml_RL_51 : zML RL 51 m_L_worth := Or.inl (zT_3 (i := 175) rfl rfl)
theorem ml_RL_55 : zML RL 55 m_X10_add := Or.inl (zT_2 (i := 42) rfl rfl)
theorem ml_RL_58 : zML RL 58 m_L_change := Or.inl (zT_3 (i := 160) rfl rfl)
theorem ml_RL_62 : zML RL 62 m_X10_told := Or.inl (zT_2 (i := 211) rfl rfl)
theorem ml_RL_66 : zML RL 66 m_X10_near := Or.inl (zT_2 (i := 206) rfl rfl)
theorem ml_RL_69 : zML RL 69 m_X10_init := Or.inl (zT_1 (i := 20) rfl rfl)
theorem ml_RL_70 : zML RL 70 m_L_net := Or.inl (zT_3 (i := 169) rfl rfl)
theorem ml_RL_74 : zML RL 74 m_X10_two := Or.inl (zT_2 (i := 158) rfl rfl)
theorem ml_RL_77 : zML RL 77 m_X10_image := Or.inl (zT_3 (i := 132) rfl rfl)
theorem ml_RL_81 : zML RL 81 m_X10_back := Or.inl (zT_3 (i := 108) rfl rfl)
theorem ml_RL_85 : zML RL 85 m_X10_undo := Or.inl (zT_3 (i := 145) rfl rfl)
theorem ml_RL_88 : zML RL 88 m_X10_edge := Or.inl (zT_2 (i := 174) rfl rfl)
theorem ml_RL_91 : zML RL 91 m_X10_truss := Or.inl (zT_2 (i := 235) rfl rfl)
theorem ml_RL_94 : zML RL 94 m_X10_hood := Or.inl (zT_3 (i := 3) rfl rfl)
theorem ml_RL_97 : zML RL 97 m_X10_of := Or.inl (zT_2 (i := 128) rfl rfl)
theorem ml_RL_100 : zML RL 100 m_X10_spell := Or.inl (zT_3 (i := 76) rfl rfl)
theorem ml_RL_103 : zML RL 103 m_X10_fewest := Or.inl (zT_3 (i := 47) rfl rfl)
theorem ml_RL_106 : zML RL 106 m_X10_broken := Or.inl (zT_3 (i := 28) rfl rfl)
theorem ml_RL_109 : zML RL 109 m_X10_hoods := Or.inl (zT_3 (i := 20) rfl rfl)
theorem ml_RL_112 : zML RL 112 m_L_sees := Or.inl (zT_3 (i := 180) rfl rfl)
theorem ml_RJ13_311 : zML RJ13 311 m_J6_numberOfTrailingZeros_0f7a4 := Or.inl (zT_3 (i := 69) rfl rfl)
theorem co_RX10_84 : Cond.constant RX10 84 (-2000000) ∈ zT := zT_2 (i := 52) rfl rfl
theorem co_RX10_85 : Cond.constant RX10 85 (2000000) ∈ zT := zT_2 (i := 53) rfl rfl
theorem co_RX4_32 : Cond.constant RX4 32 (1000000) ∈ zT := zT_3 (i := 104) rfl rfl
theorem co_RL_7 : Cond.constant RL 7 (69069) ∈ zT := zT_3 (i := 152) rfl rfl
theorem co_RL_8 : Cond.constant RL 8 (1103515245) ∈ zT := zT_3 (i := 153) rfl rfl
theorem co_RL_39 : Cond.constant RL 39 (2000000) ∈ zT := zT_3 (i := 178) rfl rfl
theorem co_RL_40 : Cond.constant RL 40 (1200000) ∈ zT := zT_3 (i := 179) rfl rfl
theorem co_RJ6_264 : Cond.constant RJ6 264 (65536) ∈ zT := zT_3 (i := 72) rfl rfl
theorem cl_RX10_107 : Cond.constantLong RX10 107 (-9223372036854775808) ∈ zT := zT_2 (i := 210) rfl rfl
theorem cl_RX10_144 : Cond.constantLong RX10 144 (-1) ∈ zT := zT_2 (i := 162) rfl rfl
theorem cl_RX10_230 : Cond.constantLong RX10 230 (1099511627775) ∈ zT := zT_3 (i := 64) rfl rfl
theorem cl_RX10_369 : Cond.constantLong RX10 369 (-2) ∈ zT := zT_3 (i := 65) rfl rfl
theorem cl_RX2_44 : Cond.constantLong RX2 44 (-1) ∈ zT := zT_2 (i := 167) rfl rfl
theorem cl_RX2_56 : Cond.constantLong RX2 56 (1099511627775) ∈ zT := zT_2 (i := 145) rfl rfl
theorem cl_RX3_114 : Cond.constantLong RX3 114 (-1) ∈ zT := zT_2 (i := 127) rfl rfl
theorem cl_RX6_80 : Cond.constantLong RX6 80 (-1) ∈ zT := zT_2 (i := 203) rfl rfl
theorem cl_RL_116 : Cond.constantLong RL 116 (2) ∈ zT := zT_3 (i := 183) rfl rfl
theorem cl_RJ13_314 : Cond.constantLong RJ13 314 (6148914691236517205) ∈ zT := zT_2 (i := 99) rfl rfl
theorem cl_RJ13_316 : Cond.constantLong RJ13 316 (3689348814741910323) ∈ zT := zT_2 (i := 100) rfl rfl
theorem cl_RJ13_318 : Cond.constantLong RJ13 318 (1085102592571150095) ∈ zT := zT_2 (i := 101) rfl rfl
theorem cx_RX10_11 : Cond.classLink RX10 11 (zR 2) ∈ zT := zT_1 (i := 26) rfl rfl
theorem cx_RX10_25 : Cond.classLink RX10 25 (zR 5) ∈ zT := zT_1 (i := 93) rfl rfl
theorem cx_RX10_32 : Cond.classLink RX10 32 (zR 1) ∈ zT := zT_1 (i := 129) rfl rfl
theorem cx_RX10_39 : Cond.classLink RX10 39 (zR 8) ∈ zT := zT_1 (i := 147) rfl rfl
theorem cx_RX10_46 : Cond.classLink RX10 46 (zR 0) ∈ zT := zT_1 (i := 167) rfl rfl
theorem cx_RX10_53 : Cond.classLink RX10 53 (zR 6) ∈ zT := zT_1 (i := 189) rfl rfl
theorem cx_RX10_60 : Cond.classLink RX10 60 (zR 3) ∈ zT := zT_1 (i := 214) rfl rfl
theorem cx_RX10_67 : Cond.classLink RX10 67 (zR 7) ∈ zT := zT_1 (i := 228) rfl rfl
theorem cx_RX3_19 : Cond.classLink RX3 19 (zR 4) ∈ zT := zT_1 (i := 32) rfl rfl
theorem cx_RL_46 : Cond.classLink RL 46 (zR 9) ∈ zT := zT_1 (i := 18) rfl rfl
theorem is_0 : Cond.instantiable (zR 0) (zN 0) ∈ zT := zT_1 (i := 168) rfl rfl
theorem ni_0 : Cond.initialized (zR 0) ∈ zT := zT_1 (i := 7) rfl rfl
theorem is_1 : Cond.instantiable (zR 1) (zN 1) ∈ zT := zT_1 (i := 130) rfl rfl
theorem ni_1 : Cond.initialized (zR 1) ∈ zT := zT_1 (i := 5) rfl rfl
theorem is_2 : Cond.instantiable (zR 2) (zN 2) ∈ zT := zT_1 (i := 27) rfl rfl
theorem ni_2 : Cond.initialized (zR 2) ∈ zT := zT_1 (i := 2) rfl rfl
theorem is_3 : Cond.instantiable (zR 3) (zN 3) ∈ zT := zT_1 (i := 215) rfl rfl
theorem ni_3 : Cond.initialized (zR 3) ∈ zT := zT_1 (i := 9) rfl rfl
theorem is_4 : Cond.instantiable (zR 4) (zN 4) ∈ zT := zT_1 (i := 33) rfl rfl
theorem ni_4 : Cond.initialized (zR 4) ∈ zT := zT_1 (i := 3) rfl rfl
theorem is_5 : Cond.instantiable (zR 5) (zN 5) ∈ zT := zT_1 (i := 94) rfl rfl
theorem ni_5 : Cond.initialized (zR 5) ∈ zT := zT_1 (i := 4) rfl rfl
theorem is_6 : Cond.instantiable (zR 6) (zN 6) ∈ zT := zT_1 (i := 190) rfl rfl
theorem ni_6 : Cond.initialized (zR 6) ∈ zT := zT_1 (i := 8) rfl rfl
theorem is_7 : Cond.instantiable (zR 7) (zN 7) ∈ zT := zT_1 (i := 230) rfl rfl
theorem ni_7 : Cond.initialized (zR 7) ∈ zT := zT_1 (i := 10) rfl rfl
theorem is_8 : Cond.instantiable (zR 8) (zN 8) ∈ zT := zT_1 (i := 148) rfl rfl
theorem ni_8 : Cond.initialized (zR 8) ∈ zT := zT_1 (i := 6) rfl rfl
theorem is_9 : Cond.instantiable (zR 9) (zN 9) ∈ zT := zT_1 (i := 19) rfl rfl
theorem ni_9 : Cond.initialized (zR 9) ∈ zT := zT_1 (i := 1) rfl rfl
theorem oi_RX10_5 : Cond.methodLink RX10 5 objectInit ∈ zT := zT_1 (i := 23) rfl rfl
theorem oi_RX3_3 : Cond.methodLink RX3 3 objectInit ∈ zT := zT_1 (i := 31) rfl rfl
theorem oi_RX5_3 : Cond.methodLink RX5 3 objectInit ∈ zT := zT_1 (i := 37) rfl rfl
theorem oi_RX6_3 : Cond.methodLink RX6 3 objectInit ∈ zT := zT_1 (i := 98) rfl rfl
theorem oi_RX1_3 : Cond.methodLink RX1 3 objectInit ∈ zT := zT_1 (i := 134) rfl rfl
theorem oi_RX9_3 : Cond.methodLink RX9 3 objectInit ∈ zT := zT_1 (i := 152) rfl rfl
theorem oi_RX0_3 : Cond.methodLink RX0 3 objectInit ∈ zT := zT_1 (i := 172) rfl rfl
theorem oi_RX7_3 : Cond.methodLink RX7 3 objectInit ∈ zT := zT_1 (i := 194) rfl rfl
theorem oi_RX4_3 : Cond.methodLink RX4 3 objectInit ∈ zT := zT_1 (i := 219) rfl rfl
theorem oi_RX8_3 : Cond.methodLink RX8 3 objectInit ∈ zT := zT_1 (i := 234) rfl rfl
theorem mm_RX10_347 : Cond.methodLink RX10 347 Lib.Math.min.name ∈ zT := zT_2 (i := 79) rfl rfl
theorem mm_RX10_366 : Cond.methodLink RX10 366 Lib.Math.max.name ∈ zT := zT_2 (i := 82) rfl rfl
theorem mm_RX3_103 : Cond.methodLink RX3 103 Lib.Math.min.name ∈ zT := zT_2 (i := 102) rfl rfl
theorem mm_RX3_111 : Cond.methodLink RX3 111 Lib.Math.max.name ∈ zT := zT_2 (i := 111) rfl rfl
theorem mm_RX6_71 : Cond.methodLink RX6 71 Lib.Math.max.name ∈ zT := zT_2 (i := 198) rfl rfl
theorem mm_RJ7_304 : Cond.methodLink RJ7 304 Lib.Math.min.name ∈ zT := zT_3 (i := 98) rfl rfl
theorem mm_RX4_26 : Cond.methodLink RX4 26 Lib.Math.abs.name ∈ zT := zT_3 (i := 105) rfl rfl
theorem ac_RX5_19 : Cond.methodLink RX5 19 arraycopyName ∈ zT := zT_2 (i := 69) rfl rfl
theorem ac_RX6_41 : Cond.methodLink RX6 41 arraycopyName ∈ zT := zT_2 (i := 182) rfl rfl
theorem ac_RX1_22 : Cond.methodLink RX1 22 arraycopyName ∈ zT := zT_3 (i := 36) rfl rfl
theorem ac_RJ7_150 : Cond.methodLink RJ7 150 arraycopyName ∈ zT := zT_3 (i := 99) rfl rfl
theorem ac_RX3_89 : Cond.methodLink RX3 89 arraycopyName ∈ zT := zT_3 (i := 140) rfl rfl
