theorem w_1 : (.selects RX0 yX0_cellAt yX0_cellAt : Cond) ∈ W0 := W0_of 1 (by decide +kernel) (by decide +kernel)
theorem w_5 : (.selects RX0 yX0_roomForBlack yX0_roomForBlack : Cond) ∈ W0 := W0_of 5 (by decide +kernel) (by decide +kernel)
theorem w_6 : (.selects RX0 yX0_mayStand yX0_mayStand : Cond) ∈ W0 := W0_of 6 (by decide +kernel) (by decide +kernel)
theorem w_7 : (.selects RX0 yX0_rankOf yX0_rankOf : Cond) ∈ W0 := W0_of 7 (by decide +kernel) (by decide +kernel)
theorem w_8 : (.selects RX0 yX0_squareOf yX0_squareOf : Cond) ∈ W0 := W0_of 8 (by decide +kernel) (by decide +kernel)
theorem w_9 : (.selects RX0 yX0_around yX0_around : Cond) ∈ W0 := W0_of 9 (by decide +kernel) (by decide +kernel)
theorem w_10 : (.selects RX0 yX0_nextTo yX0_nextTo : Cond) ∈ W0 := W0_of 10 (by decide +kernel) (by decide +kernel)
theorem w_11 : (.selects RX0 yX0_inCheck yX0_inCheck : Cond) ∈ W0 := W0_of 11 (by decide +kernel) (by decide +kernel)
theorem w_12 : (.selects RX0 yX0_attacked yX0_attacked : Cond) ∈ W0 := W0_of 12 (by decide +kernel) (by decide +kernel)
theorem w_13 : (.selects RX0 yX0_step yX0_step : Cond) ∈ W0 := W0_of 13 (by decide +kernel) (by decide +kernel)
theorem w_76 : (.initialized RX4 : Cond) ∈ W0 := W0_of 76 (by decide +kernel) (by decide +kernel)
theorem w_77 : (.initialized RX0 : Cond) ∈ W0 := W0_of 77 (by decide +kernel) (by decide +kernel)
theorem w_107 : (.methodLink RX0 32 yX0_bit : Cond) ∈ W0 := W0_of 107 (by decide +kernel) (by decide +kernel)
theorem w_108 : (.static yX0_bit : Cond) ∈ W0 := W0_of 108 (by decide +kernel) (by decide +kernel)
theorem w_109 : (.code yX0_bit cX0_bit 1 (some (.long)) : Cond) ∈ W0 := W0_of 109 (by decide +kernel) (by decide +kernel)
theorem w_114 : (.methodLink RX0 52 yX0_cellAt : Cond) ∈ W0 := W0_of 114 (by decide +kernel) (by decide +kernel)
theorem w_116 : (.instanceMethod yX0_cellAt : Cond) ∈ W0 := W0_of 116 (by decide +kernel) (by decide +kernel)
theorem w_117 : (.code yX0_cellAt cX0_cellAt 4 (some (.int)) : Cond) ∈ W0 := W0_of 117 (by decide +kernel) (by decide +kernel)
theorem w_122 : (.constantLong RX0 40 (-1) : Cond) ∈ W0 := W0_of 122 (by decide +kernel) (by decide +kernel)
theorem w_123 : (.fieldLink RX0 15 "EndTables$Board" "files" "I" : Cond) ∈ W0 := W0_of 123 (by decide +kernel) (by decide +kernel)
theorem w_125 : (.fieldLink RX0 19 "EndTables$Board" "ranks" "I" : Cond) ∈ W0 := W0_of 125 (by decide +kernel) (by decide +kernel)
theorem w_130 : (.fieldLink RX0 22 "EndTables$Board" "cells" "I" : Cond) ∈ W0 := W0_of 130 (by decide +kernel) (by decide +kernel)
theorem w_132 : (.fieldLink RX0 25 "EndTables$Board" "squares" "[I" : Cond) ∈ W0 := W0_of 132 (by decide +kernel) (by decide +kernel)
theorem w_133 : (.fieldLink RX0 29 "EndTables$Board" "steps" "[I" : Cond) ∈ W0 := W0_of 133 (by decide +kernel) (by decide +kernel)
theorem w_134 : (.fieldLink RX0 42 "EndTables$Board" "all" "J" : Cond) ∈ W0 := W0_of 134 (by decide +kernel) (by decide +kernel)
theorem w_135 : (.fieldLink RX0 46 "EndTables$Board" "firstFile" "J" : Cond) ∈ W0 := W0_of 135 (by decide +kernel) (by decide +kernel)
theorem w_136 : (.fieldLink RX0 49 "EndTables$Board" "lastFile" "J" : Cond) ∈ W0 := W0_of 136 (by decide +kernel) (by decide +kernel)
theorem w_290 : (.static yX4_isMan : Cond) ∈ W0 := W0_of 290 (by decide +kernel) (by decide +kernel)
theorem w_291 : (.code yX4_isMan cX4_isMan 1 (some (.boolean)) : Cond) ∈ W0 := W0_of 291 (by decide +kernel) (by decide +kernel)
theorem w_293 : (.static yX4_isSide : Cond) ∈ W0 := W0_of 293 (by decide +kernel) (by decide +kernel)
theorem w_294 : (.code yX4_isSide cX4_isSide 1 (some (.boolean)) : Cond) ∈ W0 := W0_of 294 (by decide +kernel) (by decide +kernel)
theorem w_295 : (.methodLink RX0 119 yX0_roomForBlack : Cond) ∈ W0 := W0_of 295 (by decide +kernel) (by decide +kernel)
theorem w_297 : (.instanceMethod yX0_roomForBlack : Cond) ∈ W0 := W0_of 297 (by decide +kernel) (by decide +kernel)
theorem w_298 : (.code yX0_roomForBlack cX0_roomForBlack 4 (some (.long)) : Cond) ∈ W0 := W0_of 298 (by decide +kernel) (by decide +kernel)
theorem w_299 : (.methodLink RX0 81 yX0_mayStand : Cond) ∈ W0 := W0_of 299 (by decide +kernel) (by decide +kernel)
theorem w_301 : (.instanceMethod yX0_mayStand : Cond) ∈ W0 := W0_of 301 (by decide +kernel) (by decide +kernel)
theorem w_302 : (.code yX0_mayStand cX0_mayStand 4 (some (.boolean)) : Cond) ∈ W0 := W0_of 302 (by decide +kernel) (by decide +kernel)
theorem w_303 : (.methodLink RX0 88 yX0_rankOf : Cond) ∈ W0 := W0_of 303 (by decide +kernel) (by decide +kernel)
theorem w_305 : (.instanceMethod yX0_rankOf : Cond) ∈ W0 := W0_of 305 (by decide +kernel) (by decide +kernel)
theorem w_306 : (.code yX0_rankOf cX0_rankOf 2 (some (.int)) : Cond) ∈ W0 := W0_of 306 (by decide +kernel) (by decide +kernel)
theorem w_307 : (.methodLink RX0 62 yX0_squareOf : Cond) ∈ W0 := W0_of 307 (by decide +kernel) (by decide +kernel)
theorem w_309 : (.instanceMethod yX0_squareOf : Cond) ∈ W0 := W0_of 309 (by decide +kernel) (by decide +kernel)
theorem w_310 : (.code yX0_squareOf cX0_squareOf 2 (some (.int)) : Cond) ∈ W0 := W0_of 310 (by decide +kernel) (by decide +kernel)
theorem w_311 : (.methodLink RX0 85 yX0_around : Cond) ∈ W0 := W0_of 311 (by decide +kernel) (by decide +kernel)
theorem w_313 : (.instanceMethod yX0_around : Cond) ∈ W0 := W0_of 313 (by decide +kernel) (by decide +kernel)
theorem w_314 : (.code yX0_around cX0_around 2 (some (.long)) : Cond) ∈ W0 := W0_of 314 (by decide +kernel) (by decide +kernel)
theorem w_315 : (.methodLink RX0 65 yX0_nextTo : Cond) ∈ W0 := W0_of 315 (by decide +kernel) (by decide +kernel)
theorem w_317 : (.instanceMethod yX0_nextTo : Cond) ∈ W0 := W0_of 317 (by decide +kernel) (by decide +kernel)
theorem w_318 : (.code yX0_nextTo cX0_nextTo 9 (some (.long)) : Cond) ∈ W0 := W0_of 318 (by decide +kernel) (by decide +kernel)
theorem w_319 : (.methodLink RX0 123 yX0_inCheck : Cond) ∈ W0 := W0_of 319 (by decide +kernel) (by decide +kernel)
theorem w_321 : (.instanceMethod yX0_inCheck : Cond) ∈ W0 := W0_of 321 (by decide +kernel) (by decide +kernel)
theorem w_322 : (.code yX0_inCheck cX0_inCheck 2 (some (.boolean)) : Cond) ∈ W0 := W0_of 322 (by decide +kernel) (by decide +kernel)
theorem w_323 : (.methodLink RX0 102 yX0_attacked : Cond) ∈ W0 := W0_of 323 (by decide +kernel) (by decide +kernel)
theorem w_325 : (.instanceMethod yX0_attacked : Cond) ∈ W0 := W0_of 325 (by decide +kernel) (by decide +kernel)
theorem w_326 : (.code yX0_attacked cX0_attacked 11 (some (.long)) : Cond) ∈ W0 := W0_of 326 (by decide +kernel) (by decide +kernel)
theorem w_327 : (.methodLink RX0 69 yX0_step : Cond) ∈ W0 := W0_of 327 (by decide +kernel) (by decide +kernel)
theorem w_329 : (.instanceMethod yX0_step : Cond) ∈ W0 := W0_of 329 (by decide +kernel) (by decide +kernel)
theorem w_330 : (.code yX0_step cX0_step 3 (some (.int)) : Cond) ∈ W0 := W0_of 330 (by decide +kernel) (by decide +kernel)
theorem w_331 : (.methodLink RX0 72 yX0_reach : Cond) ∈ W0 := W0_of 331 (by decide +kernel) (by decide +kernel)
theorem w_332 : (.static yX0_reach : Cond) ∈ W0 := W0_of 332 (by decide +kernel) (by decide +kernel)
theorem w_333 : (.code yX0_reach cX0_reach 1 (some (.int)) : Cond) ∈ W0 := W0_of 333 (by decide +kernel) (by decide +kernel)
theorem w_334 : (.methodLink RX0 75 yX0_firstWay : Cond) ∈ W0 := W0_of 334 (by decide +kernel) (by decide +kernel)
theorem w_335 : (.static yX0_firstWay : Cond) ∈ W0 := W0_of 335 (by decide +kernel) (by decide +kernel)
theorem w_336 : (.code yX0_firstWay cX0_firstWay 1 (some (.int)) : Cond) ∈ W0 := W0_of 336 (by decide +kernel) (by decide +kernel)
theorem w_337 : (.methodLink RX0 78 yX0_endOfWays : Cond) ∈ W0 := W0_of 337 (by decide +kernel) (by decide +kernel)
theorem w_338 : (.static yX0_endOfWays : Cond) ∈ W0 := W0_of 338 (by decide +kernel) (by decide +kernel)
theorem w_339 : (.code yX0_endOfWays cX0_endOfWays 1 (some (.int)) : Cond) ∈ W0 := W0_of 339 (by decide +kernel) (by decide +kernel)
theorem inW_X0 : ∀ w ∈ u_ws RX0 TX0 8, w ∈ W0 := by
  show ∀ w ∈ [u_lay RX0 TX0 0, u_lay RX0 TX0 1, u_lay RX0 TX0 2, u_lay RX0 TX0 3, u_lay RX0 TX0 4, u_lay RX0 TX0 5, u_lay RX0 TX0 6, u_lay RX0 TX0 7], w ∈ W0
  exact List.forall_mem_cons.mpr ⟨W0_of (w := .laysFinal "EndTables$Board" "EndTables$Board" "files" "I") 137 (by decide +kernel) (by decide +kernel), List.forall_mem_cons.mpr ⟨W0_of (w := .laysFinal "EndTables$Board" "EndTables$Board" "ranks" "I") 139 (by decide +kernel) (by decide +kernel), List.forall_mem_cons.mpr ⟨W0_of (w := .laysFinal "EndTables$Board" "EndTables$Board" "cells" "I") 141 (by decide +kernel) (by decide +kernel), List.forall_mem_cons.mpr ⟨W0_of (w := .laysFinal "EndTables$Board" "EndTables$Board" "squares" "[I") 143 (by decide +kernel) (by decide +kernel), List.forall_mem_cons.mpr ⟨W0_of (w := .laysFinal "EndTables$Board" "EndTables$Board" "steps" "[I") 145 (by decide +kernel) (by decide +kernel), List.forall_mem_cons.mpr ⟨W0_of (w := .laysFinal "EndTables$Board" "EndTables$Board" "all" "J") 147 (by decide +kernel) (by decide +kernel), List.forall_mem_cons.mpr ⟨W0_of (w := .laysFinal "EndTables$Board" "EndTables$Board" "firstFile" "J") 149 (by decide +kernel) (by decide +kernel), List.forall_mem_cons.mpr ⟨W0_of (w := .laysFinal "EndTables$Board" "EndTables$Board" "lastFile" "J") 151 (by decide +kernel) (by decide +kernel), fun _ h => absurd h List.not_mem_nil⟩⟩⟩⟩⟩⟩⟩⟩
theorem inW_X1 : ∀ w ∈ u_ws RX1 TX1 2, w ∈ W0 := by
  show ∀ w ∈ [u_lay RX1 TX1 0, u_lay RX1 TX1 1], w ∈ W0
  exact List.forall_mem_cons.mpr ⟨W0_of (w := .laysFinal "EndTables$MoveList" "EndTables$MoveList" "told" "[I") 245 (by decide +kernel) (by decide +kernel), List.forall_mem_cons.mpr ⟨W0_of (w := .lays "EndTables$MoveList" "EndTables$MoveList" "listed" "I") 247 (by decide +kernel) (by decide +kernel), fun _ h => absurd h List.not_mem_nil⟩⟩
theorem inW_X2 : ∀ w ∈ u_ws RX2 TX2 5, w ∈ W0 := by
  show ∀ w ∈ [u_lay RX2 TX2 0, u_lay RX2 TX2 1, u_lay RX2 TX2 2, u_lay RX2 TX2 3, u_lay RX2 TX2 4], w ∈ W0
  exact List.forall_mem_cons.mpr ⟨W0_of (w := .lays "EndTables$Position" "EndTables$Position" "kind" "I") 225 (by decide +kernel) (by decide +kernel), List.forall_mem_cons.mpr ⟨W0_of (w := .lays "EndTables$Position" "EndTables$Position" "white" "I") 227 (by decide +kernel) (by decide +kernel), List.forall_mem_cons.mpr ⟨W0_of (w := .lays "EndTables$Position" "EndTables$Position" "man" "I") 229 (by decide +kernel) (by decide +kernel), List.forall_mem_cons.mpr ⟨W0_of (w := .lays "EndTables$Position" "EndTables$Position" "black" "I") 231 (by decide +kernel) (by decide +kernel), List.forall_mem_cons.mpr ⟨W0_of (w := .lays "EndTables$Position" "EndTables$Position" "side" "I") 233 (by decide +kernel) (by decide +kernel), fun _ h => absurd h List.not_mem_nil⟩⟩⟩⟩⟩
theorem inW_X3 : ∀ w ∈ u_ws RX3 TX3 9, w ∈ W0 := by
  show ∀ w ∈ [u_lay RX3 TX3 0, u_lay RX3 TX3 1, u_lay RX3 TX3 2, u_lay RX3 TX3 3, u_lay RX3 TX3 4, u_lay RX3 TX3 5, u_lay RX3 TX3 6, u_lay RX3 TX3 7, u_lay RX3 TX3 8], w ∈ W0
  exact List.forall_mem_cons.mpr ⟨W0_of (w := .laysFinal "EndTables$Table" "EndTables$Table" "board" "LEndTables$Board;") 179 (by decide +kernel) (by decide +kernel), List.forall_mem_cons.mpr ⟨W0_of (w := .laysFinal "EndTables$Table" "EndTables$Table" "kind" "I") 181 (by decide +kernel) (by decide +kernel), List.forall_mem_cons.mpr ⟨W0_of (w := .laysFinal "EndTables$Table" "EndTables$Table" "rows" "I") 183 (by decide +kernel) (by decide +kernel), List.forall_mem_cons.mpr ⟨W0_of (w := .laysFinal "EndTables$Table" "EndTables$Table" "valid" "[J") 185 (by decide +kernel) (by decide +kernel), List.forall_mem_cons.mpr ⟨W0_of (w := .laysFinal "EndTables$Table" "EndTables$Table" "known" "[J") 187 (by decide +kernel) (by decide +kernel), List.forall_mem_cons.mpr ⟨W0_of (w := .laysFinal "EndTables$Table" "EndTables$Table" "fresh" "[J") 189 (by decide +kernel) (by decide +kernel), List.forall_mem_cons.mpr ⟨W0_of (w := .laysFinal "EndTables$Table" "EndTables$Table" "planes" "[J") 191 (by decide +kernel) (by decide +kernel), List.forall_mem_cons.mpr ⟨W0_of (w := .lays "EndTables$Table" "EndTables$Table" "deepest" "I") 193 (by decide +kernel) (by decide +kernel), List.forall_mem_cons.mpr ⟨W0_of (w := .lays "EndTables$Table" "EndTables$Table" "solved" "Z") 195 (by decide +kernel) (by decide +kernel), fun _ h => absurd h List.not_mem_nil⟩⟩⟩⟩⟩⟩⟩⟩⟩
theorem inW_X4 : ∀ w ∈ u_ws RX4 TX4 6, w ∈ W0 := by
  show ∀ w ∈ [u_lay RX4 TX4 0, u_lay RX4 TX4 1, u_lay RX4 TX4 2, u_lay RX4 TX4 3, u_lay RX4 TX4 4, u_lay RX4 TX4 5], w ∈ W0
  exact List.forall_mem_cons.mpr ⟨W0_of (w := .laysFinal "EndTables" "EndTables" "board" "LEndTables$Board;") 256 (by decide +kernel) (by decide +kernel), List.forall_mem_cons.mpr ⟨W0_of (w := .laysFinal "EndTables" "EndTables" "tables" "[LEndTables$Table;") 258 (by decide +kernel) (by decide +kernel), List.forall_mem_cons.mpr ⟨W0_of (w := .laysFinal "EndTables" "EndTables" "now" "LEndTables$Position;") 260 (by decide +kernel) (by decide +kernel), List.forall_mem_cons.mpr ⟨W0_of (w := .laysFinal "EndTables" "EndTables" "ahead" "LEndTables$Position;") 262 (by decide +kernel) (by decide +kernel), List.forall_mem_cons.mpr ⟨W0_of (w := .laysFinal "EndTables" "EndTables" "list" "LEndTables$MoveList;") 264 (by decide +kernel) (by decide +kernel), List.forall_mem_cons.mpr ⟨W0_of (w := .lays "EndTables" "EndTables" "placed" "Z") 266 (by decide +kernel) (by decide +kernel), fun _ h => absurd h List.not_mem_nil⟩⟩⟩⟩⟩⟩
theorem inW_X5 : ∀ w ∈ u_ws RX5 TX5 14, w ∈ W0 := by
  show ∀ w ∈ [u_lay RX5 TX5 0, u_lay RX5 TX5 1, u_lay RX5 TX5 2, u_lay RX5 TX5 3, u_lay RX5 TX5 4, u_lay RX5 TX5 5, u_lay RX5 TX5 6, u_lay RX5 TX5 7, u_lay RX5 TX5 8, u_lay RX5 TX5 9, u_lay RX5 TX5 10, u_lay RX5 TX5 11, u_lay RX5 TX5 12, u_lay RX5 TX5 13], w ∈ W0
  exact List.forall_mem_cons.mpr ⟨W0_of (w := .lays "EndTablesModel" "EndTablesModel" "thrown" "I") 747 (by decide +kernel) (by decide +kernel), List.forall_mem_cons.mpr ⟨W0_of (w := .laysFinal "EndTablesModel" "EndTablesModel" "files" "I") 749 (by decide +kernel) (by decide +kernel), List.forall_mem_cons.mpr ⟨W0_of (w := .laysFinal "EndTablesModel" "EndTablesModel" "ranks" "I") 751 (by decide +kernel) (by decide +kernel), List.forall_mem_cons.mpr ⟨W0_of (w := .laysFinal "EndTablesModel" "EndTablesModel" "table" "[J") 753 (by decide +kernel) (by decide +kernel), List.forall_mem_cons.mpr ⟨W0_of (w := .laysFinal "EndTablesModel" "EndTablesModel" "built" "[Z") 755 (by decide +kernel) (by decide +kernel), List.forall_mem_cons.mpr ⟨W0_of (w := .laysFinal "EndTablesModel" "EndTablesModel" "greatest" "[I") 757 (by decide +kernel) (by decide +kernel), List.forall_mem_cons.mpr ⟨W0_of (w := .lays "EndTablesModel" "EndTablesModel" "there" "Z") 759 (by decide +kernel) (by decide +kernel), List.forall_mem_cons.mpr ⟨W0_of (w := .lays "EndTablesModel" "EndTablesModel" "kind" "I") 761 (by decide +kernel) (by decide +kernel), List.forall_mem_cons.mpr ⟨W0_of (w := .lays "EndTablesModel" "EndTablesModel" "white" "I") 763 (by decide +kernel) (by decide +kernel), List.forall_mem_cons.mpr ⟨W0_of (w := .lays "EndTablesModel" "EndTablesModel" "man" "I") 765 (by decide +kernel) (by decide +kernel), List.forall_mem_cons.mpr ⟨W0_of (w := .lays "EndTablesModel" "EndTablesModel" "black" "I") 767 (by decide +kernel) (by decide +kernel), List.forall_mem_cons.mpr ⟨W0_of (w := .lays "EndTablesModel" "EndTablesModel" "side" "I") 769 (by decide +kernel) (by decide +kernel), List.forall_mem_cons.mpr ⟨W0_of (w := .laysFinal "EndTablesModel" "EndTablesModel" "list" "[I") 771 (by decide +kernel) (by decide +kernel), List.forall_mem_cons.mpr ⟨W0_of (w := .lays "EndTablesModel" "EndTablesModel" "many" "I") 773 (by decide +kernel) (by decide +kernel), fun _ h => absurd h List.not_mem_nil⟩⟩⟩⟩⟩⟩⟩⟩⟩⟩⟩⟩⟩⟩
