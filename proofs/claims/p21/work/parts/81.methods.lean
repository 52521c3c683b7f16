/-! METHODS in use: their words, their code -/
noncomputable def zi_ld6 : zq_LD := [(47, 1, 1000000000), (49, 1, -1000000000), (51, 1, 1000000001)]
theorem zi_ldk6 : zq_okD RX6 zt zi_ld6 := zq_ckD_ok (own := RX6) (l := [((47, 1, 1000000000), 638), ((49, 1, -1000000000), 639), ((51, 1, 1000000001), 637)]) (by decide +kernel)
noncomputable def zi_fl6 : zq_FL := [(11, 6, 0), (15, 6, 1), (28, 6, 2), (32, 9, 5), (40, 9, 3)]
theorem zi_flk6 : zq_okFL RX6 zt vwCl zi_fl6 := zq_ckFL_ok (own := RX6) zi_u (l := [((11, 6, 0), 142), ((15, 6, 1), 145), ((28, 6, 2), 146), ((32, 9, 5), 230), ((40, 9, 3), 223)]) (by decide +kernel)
noncomputable def zi_cl6 : zq_CLt := []
theorem zi_clk6 : zq_okCL RX6 zt vwCl zi_FT zi_cl6 := fun _ h => absurd h List.not_mem_nil
theorem zi_pl6 : plainName RX6 = true := by decide
theorem zi_fc6 : ∀ f, f < 3 → (TX6 f).1 = RX6 := by decide +kernel
set_option maxRecDepth 1000000 in
theorem zi_l6_5 : Cond.methodLink RX6 5 Lib.objectInit ∈ zt := zw_t1 (i := 34) rfl rfl
set_option maxRecDepth 1000000 in
theorem zi_l6_43 : Cond.methodLink RX6 43 yX6_joined ∈ zt := zw_t3 (i := 47) rfl rfl
set_option maxRecDepth 1000000 in
theorem zi_l6_20 : Cond.methodLink RX6 20 yX9_startOf ∈ zt := zw_t3 (i := 38) rfl rfl
set_option maxRecDepth 1000000 in
theorem zi_l6_24 : Cond.methodLink RX6 24 yX6_reckon ∈ zt := zw_t3 (i := 42) rfl rfl
noncomputable def zi_ld3 : zq_LD := []
theorem zi_ldk3 : zq_okD RX3 zt zi_ld3 := zq_ckD_ok (own := RX3) (l := []) (by decide +kernel)
noncomputable def zi_fl3 : zq_FL := [(9, 3, 0), (15, 4, 3), (21, 3, 1), (29, 9, 4), (40, 9, 0), (51, 6, 2), (67, 6, 0), (70, 4, 0), (73, 4, 2), (74, 4, 7)]
theorem zi_flk3 : zq_okFL RX3 zt vwCl zi_fl3 := zq_ckFL_ok (own := RX3) zi_u (l := [((9, 3, 0), 163), ((15, 4, 3), 408), ((21, 3, 1), 164), ((29, 9, 4), 226), ((40, 9, 0), 215), ((51, 6, 2), 147), ((67, 6, 0), 143), ((70, 4, 0), 398), ((73, 4, 2), 405), ((74, 4, 7), 420)]) (by decide +kernel)
noncomputable def zi_cl3 : zq_CLt := []
theorem zi_clk3 : zq_okCL RX3 zt vwCl zi_FT zi_cl3 := fun _ h => absurd h List.not_mem_nil
theorem zi_pl3 : plainName RX3 = true := by decide
theorem zi_fc3 : ∀ f, f < 2 → (TX3 f).1 = RX3 := by decide +kernel
set_option maxRecDepth 1000000 in
theorem zi_l3_3 : Cond.methodLink RX3 3 Lib.objectInit ∈ zt := zw_t1 (i := 55) rfl rfl
set_option maxRecDepth 1000000 in
theorem zi_l3_25 : Cond.methodLink RX3 25 yX3_setWords ∈ zt := zw_t3 (i := 30) rfl rfl
set_option maxRecDepth 1000000 in
theorem zi_l3_34 : Cond.methodLink RX3 34 yX6_isSo ∈ zt := zw_t3 (i := 34) rfl rfl
set_option maxRecDepth 1000000 in
theorem zi_l3_43 : Cond.methodLink RX3 43 yX9_startOf ∈ zt := zw_t3 (i := 53) rfl rfl
set_option maxRecDepth 1000000 in
theorem zi_l3_47 : Cond.methodLink RX3 47 yX6_reckon ∈ zt := zw_t3 (i := 54) rfl rfl
set_option maxRecDepth 1000000 in
theorem zi_l3_55 : Cond.methodLink RX3 55 yX4_hasPerson ∈ zt := zw_t3 (i := 55) rfl rfl
set_option maxRecDepth 1000000 in
theorem zi_l3_59 : Cond.methodLink RX3 59 yJ9_min_7cf53 ∈ zt := zw_t3 (i := 56) rfl rfl
set_option maxRecDepth 1000000 in
theorem zi_l3_64 : Cond.methodLink RX3 64 yJ9_max_7cf53 ∈ zt := zw_t3 (i := 59) rfl rfl
noncomputable def zi_ld8 : zq_LD := []
theorem zi_ldk8 : zq_okD RX8 zt zi_ld8 := zq_ckD_ok (own := RX8) (l := []) (by decide +kernel)
noncomputable def zi_fl8 : zq_FL := [(9, 8, 0), (15, 8, 1), (18, 8, 2), (21, 8, 3), (24, 8, 4), (27, 8, 5)]
theorem zi_flk8 : zq_okFL RX8 zt vwCl zi_fl8 := zq_ckFL_ok (own := RX8) zi_u (l := [((9, 8, 0), 178), ((15, 8, 1), 180), ((18, 8, 2), 182), ((21, 8, 3), 184), ((24, 8, 4), 185), ((27, 8, 5), 187)]) (by decide +kernel)
noncomputable def zi_cl8 : zq_CLt := []
theorem zi_clk8 : zq_okCL RX8 zt vwCl zi_FT zi_cl8 := fun _ h => absurd h List.not_mem_nil
theorem zi_pl8 : plainName RX8 = true := by decide
theorem zi_fc8 : ∀ f, f < 6 → (TX8 f).1 = RX8 := by decide +kernel
set_option maxRecDepth 1000000 in
theorem zi_l8_3 : Cond.methodLink RX8 3 Lib.objectInit ∈ zt := zw_t1 (i := 70) rfl rfl
set_option maxRecDepth 1000000 in
theorem zi_l8_48 : Cond.methodLink RX8 48 yJ0_length_8abf5 ∈ zt := zw_t3 (i := 112) rfl rfl
set_option maxRecDepth 1000000 in
theorem zi_l8_54 : Cond.methodLink RX8 54 yJ0_charAt_5068e ∈ zt := zw_t3 (i := 122) rfl rfl
set_option maxRecDepth 1000000 in
theorem zi_l8_58 : Cond.methodLink RX8 58 yJ9_min_7cf53 ∈ zt := zw_t3 (i := 164) rfl rfl
set_option maxRecDepth 1000000 in
theorem zi_l8_31 : Cond.methodLink RX8 31 yX8_kindOf ∈ zt := zw_t3 (i := 100) rfl rfl
set_option maxRecDepth 1000000 in
theorem zi_l8_39 : Cond.methodLink RX8 39 yX8_wordOf ∈ zt := zw_t3 (i := 107) rfl rfl
set_option maxRecDepth 1000000 in
theorem zi_l8_43 : Cond.methodLink RX8 43 yX8_numberOf ∈ zt := zw_t3 (i := 160) rfl rfl
set_option maxRecDepth 1000000 in
theorem zi_l8_35 : Cond.methodLink RX8 35 yX8_name ∈ zt := zw_t3 (i := 103) rfl rfl
noncomputable def zi_ld9 : zq_LD := []
theorem zi_ldk9 : zq_okD RX9 zt zi_ld9 := zq_ckD_ok (own := RX9) (l := []) (by decide +kernel)
noncomputable def zi_fl9 : zq_FL := [(11, 9, 0), (15, 9, 1), (18, 9, 2), (21, 9, 3), (24, 9, 4), (28, 9, 5)]
theorem zi_flk9 : zq_okFL RX9 zt vwCl zi_fl9 := zq_ckFL_ok (own := RX9) zi_u (l := [((11, 9, 0), 214), ((15, 9, 1), 218), ((18, 9, 2), 221), ((21, 9, 3), 222), ((24, 9, 4), 224), ((28, 9, 5), 228)]) (by decide +kernel)
noncomputable def zi_cl9 : zq_CLt := [(1, 9)]
theorem zi_clk9 : zq_okCL RX9 zt vwCl zi_FT zi_cl9 := List.forall_mem_cons.mpr ⟨⟨_, _, rfl, zq_hw_ok (i := 822) (by decide +kernel), zq_hw_ok (i := 209) (by decide +kernel), zi_in9, rfl, by decide⟩, fun _ h => absurd h List.not_mem_nil⟩
theorem zi_pl9 : plainName RX9 = true := by decide
theorem zi_fc9 : ∀ f, f < 6 → (TX9 f).1 = RX9 := by decide +kernel
set_option maxRecDepth 1000000 in
theorem zi_l9_5 : Cond.methodLink RX9 5 Lib.objectInit ∈ zt := zw_t1 (i := 106) rfl rfl
set_option maxRecDepth 1000000 in
theorem zi_l9_31 : Cond.methodLink RX9 31 yX9_init ∈ zt := zw_t3 (i := 236) rfl rfl
set_option maxRecDepth 1000000 in
theorem zi_l9_34 : Cond.methodLink RX9 34 arraycopyName ∈ zt := zw_t3 (i := 237) rfl rfl
noncomputable def zi_ld5 : zq_LD := []
theorem zi_ldk5 : zq_okD RX5 zt zi_ld5 := zq_ckD_ok (own := RX5) (l := []) (by decide +kernel)
noncomputable def zi_fl5 : zq_FL := [(14, 5, 1), (20, 5, 0), (24, 5, 2), (28, 5, 3), (32, 5, 4), (35, 9, 4), (38, 9, 5), (57, 8, 2), (77, 8, 1), (80, 9, 0), (93, 9, 1), (96, 8, 4)]
theorem zi_flk5 : zq_okFL RX5 zt vwCl zi_fl5 := zq_ckFL_ok (own := RX5) zi_u (l := [((14, 5, 1), 245), ((20, 5, 0), 244), ((24, 5, 2), 247), ((28, 5, 3), 248), ((32, 5, 4), 249), ((35, 9, 4), 225), ((38, 9, 5), 229), ((57, 8, 2), 183), ((77, 8, 1), 181), ((80, 9, 0), 216), ((93, 9, 1), 219), ((96, 8, 4), 186)]) (by decide +kernel)
noncomputable def zi_cl5 : zq_CLt := [(9, 9)]
theorem zi_clk5 : zq_okCL RX5 zt vwCl zi_FT zi_cl5 := List.forall_mem_cons.mpr ⟨⟨_, _, rfl, zq_hw_ok (i := 208) (by decide +kernel), zq_hw_ok (i := 209) (by decide +kernel), zi_in9, rfl, by decide⟩, fun _ h => absurd h List.not_mem_nil⟩
theorem zi_pl5 : plainName RX5 = true := by decide
theorem zi_fc5 : ∀ f, f < 5 → (TX5 f).1 = RX5 := by decide +kernel
set_option maxRecDepth 1000000 in
theorem zi_l5_3 : Cond.methodLink RX5 3 Lib.objectInit ∈ zt := zw_t1 (i := 100) rfl rfl
set_option maxRecDepth 1000000 in
theorem zi_l5_11 : Cond.methodLink RX5 11 yX9_init ∈ zt := zw_t1 (i := 103) rfl rfl
set_option maxRecDepth 1000000 in
theorem zi_l5_90 : Cond.methodLink RX5 90 yX5_isNumber ∈ zt := zw_t3 (i := 201) rfl rfl
set_option maxRecDepth 1000000 in
theorem zi_l5_70 : Cond.methodLink RX5 70 yX9_emit ∈ zt := zw_t3 (i := 205) rfl rfl
set_option maxRecDepth 1000000 in
theorem zi_l5_74 : Cond.methodLink RX5 74 yX5_is ∈ zt := zw_t3 (i := 193) rfl rfl
set_option maxRecDepth 1000000 in
theorem zi_l5_99 : Cond.methodLink RX5 99 yX5_readSum ∈ zt := zw_t3 (i := 185) rfl rfl
set_option maxRecDepth 1000000 in
theorem zi_l5_61 : Cond.methodLink RX5 61 yX5_skip ∈ zt := zw_t3 (i := 173) rfl rfl
set_option maxRecDepth 1000000 in
theorem zi_l5_111 : Cond.methodLink RX5 111 yX5_readNumber ∈ zt := zw_t3 (i := 197) rfl rfl
set_option maxRecDepth 1000000 in
theorem zi_l5_108 : Cond.methodLink RX5 108 yX5_readPart ∈ zt := zw_t3 (i := 189) rfl rfl
set_option maxRecDepth 1000000 in
theorem zi_l5_64 : Cond.methodLink RX5 64 yX9_begin ∈ zt := zw_t3 (i := 181) rfl rfl
set_option maxRecDepth 1000000 in
theorem zi_l5_83 : Cond.methodLink RX5 83 yX5_readSumOf ∈ zt := zw_t3 (i := 177) rfl rfl
set_option maxRecDepth 1000000 in
theorem zi_l5_67 : Cond.methodLink RX5 67 yX5_readTest ∈ zt := zw_t3 (i := 218) rfl rfl
set_option maxRecDepth 1000000 in
theorem zi_l5_102 : Cond.methodLink RX5 102 yX5_readPlain ∈ zt := zw_t3 (i := 222) rfl rfl
set_option maxRecDepth 1000000 in
theorem zi_l5_105 : Cond.methodLink RX5 105 yX9_aim ∈ zt := zw_t3 (i := 226) rfl rfl
set_option maxRecDepth 1000000 in
theorem zi_l5_41 : Cond.methodLink RX5 41 yX8_cut ∈ zt := zw_t3 (i := 96) rfl rfl
set_option maxRecDepth 1000000 in
theorem zi_l5_46 : Cond.methodLink RX5 46 yX9_open ∈ zt := zw_t3 (i := 165) rfl rfl
set_option maxRecDepth 1000000 in
theorem zi_l5_50 : Cond.methodLink RX5 50 yX5_readOrder ∈ zt := zw_t3 (i := 169) rfl rfl
set_option maxRecDepth 1000000 in
theorem zi_l5_54 : Cond.methodLink RX5 54 yX5_readLaw ∈ zt := zw_t3 (i := 214) rfl rfl
set_option maxRecDepth 1000000 in
theorem zi_l5_87 : Cond.methodLink RX5 87 yX5_readTimes ∈ zt := zw_t3 (i := 210) rfl rfl
noncomputable def zi_ld0 : zq_LD := [(179, 0, 1000003)]
theorem zi_ldk0 : zq_okD RX0 zt zi_ld0 := zq_ckD_ok (own := RX0) (l := [((179, 0, 1000003), 1129)]) (by decide +kernel)
noncomputable def zi_fl0 : zq_FL := [(9, 0, 2), (15, 0, 0), (19, 0, 1), (35, 4, 14), (53, 3, 1), (64, 4, 9), (77, 4, 1), (80, 4, 4), (83, 4, 7), (89, 2, 4), (92, 2, 0), (95, 2, 1), (98, 2, 2), (101, 2, 3), (104, 0, 3), (107, 0, 4), (110, 9, 4), (115, 9, 1), (140, 6, 2), (144, 9, 0), (160, 6, 0), (167, 0, 5), (170, 4, 11), (176, 4, 10)]
theorem zi_flk0 : zq_okFL RX0 zt vwCl zi_fl0 := zq_ckFL_ok (own := RX0) zi_u (l := [((9, 0, 2), 269), ((15, 0, 0), 267), ((19, 0, 1), 268), ((35, 4, 14), 444), ((53, 3, 1), 165), ((64, 4, 9), 426), ((77, 4, 1), 403), ((80, 4, 4), 411), ((83, 4, 7), 421), ((89, 2, 4), 385), ((92, 2, 0), 376), ((95, 2, 1), 378), ((98, 2, 2), 380), ((101, 2, 3), 382), ((104, 0, 3), 270), ((107, 0, 4), 272), ((110, 9, 4), 227), ((115, 9, 1), 220), ((140, 6, 2), 148), ((144, 9, 0), 217), ((160, 6, 0), 144), ((167, 0, 5), 273), ((170, 4, 11), 436), ((176, 4, 10), 431)]) (by decide +kernel)
noncomputable def zi_cl0 : zq_CLt := []
theorem zi_clk0 : zq_okCL RX0 zt vwCl zi_FT zi_cl0 := fun _ h => absurd h List.not_mem_nil
theorem zi_pl0 : plainName RX0 = true := by decide
theorem zi_fc0 : ∀ f, f < 6 → (TX0 f).1 = RX0 := by decide +kernel
set_option maxRecDepth 1000000 in
theorem zi_l0_3 : Cond.methodLink RX0 3 Lib.objectInit ∈ zt := zw_t1 (i := 159) rfl rfl
set_option maxRecDepth 1000000 in
theorem zi_l0_60 : Cond.methodLink RX0 60 yX4_move ∈ zt := zw_t4 (i := 52) rfl rfl
set_option maxRecDepth 1000000 in
theorem zi_l0_27 : Cond.methodLink RX0 27 yX4_hasDeed ∈ zt := zw_t4 (i := 44) rfl rfl
set_option maxRecDepth 1000000 in
theorem zi_l0_32 : Cond.methodLink RX0 32 yX4_hasPerson ∈ zt := zw_t4 (i := 35) rfl rfl
set_option maxRecDepth 1000000 in
theorem zi_l0_39 : Cond.methodLink RX0 39 yX4_textOf ∈ zt := zw_t4 (i := 45) rfl rfl
set_option maxRecDepth 1000000 in
theorem zi_l0_43 : Cond.methodLink RX0 43 yX4_dateOf ∈ zt := zw_t4 (i := 46) rfl rfl
set_option maxRecDepth 1000000 in
theorem zi_l0_47 : Cond.methodLink RX0 47 yX3_hear ∈ zt := zw_t4 (i := 47) rfl rfl
set_option maxRecDepth 1000000 in
theorem zi_l0_56 : Cond.methodLink RX0 56 yX4_canMove ∈ zt := zw_t4 (i := 48) rfl rfl
set_option maxRecDepth 1000000 in
theorem zi_l0_68 : Cond.methodLink RX0 68 yX2_note ∈ zt := zw_t4 (i := 56) rfl rfl
set_option maxRecDepth 1000000 in
theorem zi_l0_163 : Cond.methodLink RX0 163 yX4_peopleEven ∈ zt := zw_t4 (i := 31) rfl rfl
set_option maxRecDepth 1000000 in
theorem zi_l0_122 : Cond.methodLink RX0 122 yX0_setWords ∈ zt := zw_t4 (i := 27) rfl rfl
set_option maxRecDepth 1000000 in
theorem zi_l0_126 : Cond.methodLink RX0 126 yX6_isSo ∈ zt := zw_t4 (i := 36) rfl rfl
set_option maxRecDepth 1000000 in
theorem zi_l0_132 : Cond.methodLink RX0 132 yX9_startOf ∈ zt := zw_t4 (i := 37) rfl rfl
set_option maxRecDepth 1000000 in
theorem zi_l0_136 : Cond.methodLink RX0 136 yX6_reckon ∈ zt := zw_t4 (i := 38) rfl rfl
set_option maxRecDepth 1000000 in
theorem zi_l0_145 : Cond.methodLink RX0 145 yX0_commitOn ∈ zt := zw_t4 (i := 39) rfl rfl
set_option maxRecDepth 1000000 in
theorem zi_l0_149 : Cond.methodLink RX0 149 yX0_payOn ∈ zt := zw_t4 (i := 64) rfl rfl
set_option maxRecDepth 1000000 in
theorem zi_l0_152 : Cond.methodLink RX0 152 yX0_windOn ∈ zt := zw_t4 (i := 69) rfl rfl
set_option maxRecDepth 1000000 in
theorem zi_l0_156 : Cond.methodLink RX0 156 yX0_passOn ∈ zt := zw_t4 (i := 73) rfl rfl
set_option maxRecDepth 1000000 in
theorem zi_l0_118 : Cond.methodLink RX0 118 yX0_runOnce ∈ zt := zw_t4 (i := 23) rfl rfl
set_option maxRecDepth 1000000 in
theorem zi_l0_173 : Cond.methodLink RX0 173 yX0_drawOf ∈ zt := zw_t5 (i := 58) rfl rfl
noncomputable def zi_ld1 : zq_LD := []
theorem zi_ldk1 : zq_okD RX1 zt zi_ld1 := zq_ckD_ok (own := RX1) (l := []) (by decide +kernel)
noncomputable def zi_fl1 : zq_FL := [(11, 1, 1), (15, 1, 2), (18, 1, 3), (21, 1, 0), (25, 4, 14), (53, 4, 11), (56, 4, 10), (63, 4, 12), (66, 4, 6), (69, 4, 4), (76, 1, 4)]
theorem zi_flk1 : zq_okFL RX1 zt vwCl zi_fl1 := zq_ckFL_ok (own := RX1) zi_u (l := [((11, 1, 1), 295), ((15, 1, 2), 296), ((18, 1, 3), 297), ((21, 1, 0), 293), ((25, 4, 14), 443), ((53, 4, 11), 435), ((56, 4, 10), 430), ((63, 4, 12), 438), ((66, 4, 6), 418), ((69, 4, 4), 413), ((76, 1, 4), 298)]) (by decide +kernel)
noncomputable def zi_cl1 : zq_CLt := []
theorem zi_clk1 : zq_okCL RX1 zt vwCl zi_FT zi_cl1 := fun _ h => absurd h List.not_mem_nil
theorem zi_pl1 : plainName RX1 = true := by decide
theorem zi_fc1 : ∀ f, f < 5 → (TX1 f).1 = RX1 := by decide +kernel
set_option maxRecDepth 1000000 in
theorem zi_l1_5 : Cond.methodLink RX1 5 Lib.objectInit ∈ zt := zw_t1 (i := 185) rfl rfl
set_option maxRecDepth 1000000 in
theorem zi_l1_31 : Cond.methodLink RX1 31 yX4_textOf ∈ zt := zw_t3 (i := 17) rfl rfl
set_option maxRecDepth 1000000 in
theorem zi_l1_35 : Cond.methodLink RX1 35 yX4_dateOf ∈ zt := zw_t3 (i := 25) rfl rfl
set_option maxRecDepth 1000000 in
theorem zi_l1_39 : Cond.methodLink RX1 39 yX3_hear ∈ zt := zw_t3 (i := 26) rfl rfl
set_option maxRecDepth 1000000 in
theorem zi_l1_45 : Cond.methodLink RX1 45 yX1_toldOn ∈ zt := zw_t4 (i := 135) rfl rfl
set_option maxRecDepth 1000000 in
theorem zi_l1_49 : Cond.methodLink RX1 49 yX1_comesAgainAfter ∈ zt := zw_t4 (i := 144) rfl rfl
set_option maxRecDepth 1000000 in
theorem zi_l1_59 : Cond.methodLink RX1 59 yX1_fitsSights ∈ zt := zw_t4 (i := 224) rfl rfl
set_option maxRecDepth 1000000 in
theorem zi_l1_82 : Cond.methodLink RX1 82 yJ9_max_7cf53 ∈ zt := zw_t5 (i := 1) rfl rfl
set_option maxRecDepth 1000000 in
theorem zi_l1_72 : Cond.methodLink RX1 72 yX1_doersOf ∈ zt := zw_t4 (i := 236) rfl rfl
set_option maxRecDepth 1000000 in
theorem zi_l1_79 : Cond.methodLink RX1 79 yX1_mostAlike ∈ zt := zw_t4 (i := 237) rfl rfl
set_option maxRecDepth 1000000 in
theorem zi_l1_95 : Cond.methodLink RX1 95 yJ9_min_7cf53 ∈ zt := zw_t5 (i := 18) rfl rfl
set_option maxRecDepth 1000000 in
theorem zi_l1_88 : Cond.methodLink RX1 88 yX1_tallyDates ∈ zt := zw_t5 (i := 10) rfl rfl
set_option maxRecDepth 1000000 in
theorem zi_l1_92 : Cond.methodLink RX1 92 yX1_differenceBy ∈ zt := zw_t5 (i := 14) rfl rfl
noncomputable def zi_ld10 : zq_LD := []
theorem zi_ldk10 : zq_okD RX10 zt zi_ld10 := zq_ckD_ok (own := RX10) (l := []) (by decide +kernel)
noncomputable def zi_fl10 : zq_FL := [(9, 10, 1), (15, 10, 2), (18, 10, 3), (21, 10, 4), (24, 10, 5), (27, 10, 6), (30, 10, 0), (34, 4, 11), (67, 4, 5)]
theorem zi_flk10 : zq_okFL RX10 zt vwCl zi_fl10 := zq_ckFL_ok (own := RX10) zi_u (l := [((9, 10, 1), 318), ((15, 10, 2), 320), ((18, 10, 3), 322), ((21, 10, 4), 323), ((24, 10, 5), 324), ((27, 10, 6), 325), ((30, 10, 0), 317), ((34, 4, 11), 432), ((67, 4, 5), 416)]) (by decide +kernel)
noncomputable def zi_cl10 : zq_CLt := []
theorem zi_clk10 : zq_okCL RX10 zt vwCl zi_FT zi_cl10 := fun _ h => absurd h List.not_mem_nil
theorem zi_pl10 : plainName RX10 = true := by decide
theorem zi_fc10 : ∀ f, f < 7 → (TX10 f).1 = RX10 := by decide +kernel
set_option maxRecDepth 1000000 in
theorem zi_l10_3 : Cond.methodLink RX10 3 Lib.objectInit ∈ zt := zw_t1 (i := 209) rfl rfl
set_option maxRecDepth 1000000 in
theorem zi_l10_52 : Cond.methodLink RX10 52 yX1_toldOn ∈ zt := zw_t4 (i := 168) rfl rfl
set_option maxRecDepth 1000000 in
theorem zi_l10_57 : Cond.methodLink RX10 57 yJ6_bitCount_0f7a4 ∈ zt := zw_t4 (i := 173) rfl rfl
set_option maxRecDepth 1000000 in
theorem zi_l10_44 : Cond.methodLink RX10 44 yX10_canPlan ∈ zt := zw_t4 (i := 169) rfl rfl
set_option maxRecDepth 1000000 in
theorem zi_l10_40 : Cond.methodLink RX10 40 yX10_openDays ∈ zt := zw_t4 (i := 164) rfl rfl
set_option maxRecDepth 1000000 in
theorem zi_l10_48 : Cond.methodLink RX10 48 yX10_fillPlan ∈ zt := zw_t4 (i := 179) rfl rfl
set_option maxRecDepth 1000000 in
theorem zi_l10_63 : Cond.methodLink RX10 63 yX10_nextOf ∈ zt := zw_t4 (i := 191) rfl rfl
noncomputable def zi_ld7 : zq_LD := [(40, 1, 1000000000000)]
theorem zi_ldk7 : zq_okD RX7 zt zi_ld7 := zq_ckD_ok (own := RX7) (l := [((40, 1, 1000000000000), 1095)]) (by decide +kernel)
noncomputable def zi_fl7 : zq_FL := [(9, 7, 0), (15, 7, 1), (18, 7, 2), (21, 7, 3), (25, 4, 10), (31, 4, 1)]
theorem zi_flk7 : zq_okFL RX7 zt vwCl zi_fl7 := zq_ckFL_ok (own := RX7) zi_u (l := [((9, 7, 0), 347), ((15, 7, 1), 348), ((18, 7, 2), 349), ((21, 7, 3), 350), ((25, 4, 10), 427), ((31, 4, 1), 401)]) (by decide +kernel)
noncomputable def zi_cl7 : zq_CLt := []
theorem zi_clk7 : zq_okCL RX7 zt vwCl zi_FT zi_cl7 := fun _ h => absurd h List.not_mem_nil
theorem zi_pl7 : plainName RX7 = true := by decide
theorem zi_fc7 : ∀ f, f < 4 → (TX7 f).1 = RX7 := by decide +kernel
set_option maxRecDepth 1000000 in
theorem zi_l7_3 : Cond.methodLink RX7 3 Lib.objectInit ∈ zt := zw_t1 (i := 239) rfl rfl
set_option maxRecDepth 1000000 in
theorem zi_l7_34 : Cond.methodLink RX7 34 yJ9_max_7cf53 ∈ zt := zw_t4 (i := 203) rfl rfl
set_option maxRecDepth 1000000 in
theorem zi_l7_42 : Cond.methodLink RX7 42 yX7_beSure ∈ zt := zw_t5 (i := 29) rfl rfl
set_option maxRecDepth 1000000 in
theorem zi_l7_45 : Cond.methodLink RX7 45 yX7_scale ∈ zt := zw_t5 (i := 33) rfl rfl
set_option maxRecDepth 1000000 in
theorem zi_l7_49 : Cond.methodLink RX7 49 yX7_cut ∈ zt := zw_t5 (i := 37) rfl rfl
noncomputable def zi_ld2 : zq_LD := []
theorem zi_ldk2 : zq_okD RX2 zt zi_ld2 := zq_ckD_ok (own := RX2) (l := []) (by decide +kernel)
noncomputable def zi_fl2 : zq_FL := [(9, 2, 0), (13, 2, 1), (16, 2, 2), (19, 2, 3), (28, 2, 4)]
theorem zi_flk2 : zq_okFL RX2 zt vwCl zi_fl2 := zq_ckFL_ok (own := RX2) zi_u (l := [((9, 2, 0), 375), ((13, 2, 1), 377), ((16, 2, 2), 379), ((19, 2, 3), 381), ((28, 2, 4), 384)]) (by decide +kernel)
noncomputable def zi_cl2 : zq_CLt := []
theorem zi_clk2 : zq_okCL RX2 zt vwCl zi_FT zi_cl2 := fun _ h => absurd h List.not_mem_nil
theorem zi_pl2 : plainName RX2 = true := by decide
theorem zi_fc2 : ∀ f, f < 5 → (TX2 f).1 = RX2 := by decide +kernel
set_option maxRecDepth 1000000 in
theorem zi_l2_1 : Cond.methodLink RX2 1 Lib.objectInit ∈ zt := zw_t2 (i := 27) rfl rfl
set_option maxRecDepth 1000000 in
theorem zi_l2_22 : Cond.methodLink RX2 22 arraycopyName ∈ zt := zw_t4 (i := 18) rfl rfl
set_option maxRecDepth 1000000 in
theorem zi_l2_32 : Cond.methodLink RX2 32 yX2_dropOldest ∈ zt := zw_t4 (i := 60) rfl rfl
noncomputable def zi_ld4 : zq_LD := []
theorem zi_ldk4 : zq_okD RX4 zt zi_ld4 := zq_ckD_ok (own := RX4) (l := []) (by decide +kernel)
noncomputable def zi_fl4 : zq_FL := [(9, 4, 0), (15, 4, 1), (18, 4, 2), (21, 4, 3), (24, 4, 4), (27, 4, 5), (30, 4, 6), (33, 4, 7), (38, 4, 8), (45, 4, 9), (49, 4, 14), (63, 4, 10), (66, 4, 11), (69, 4, 12), (72, 4, 13)]
theorem zi_flk4 : zq_okFL RX4 zt vwCl zi_fl4 := zq_ckFL_ok (own := RX4) zi_u (l := [((9, 4, 0), 397), ((15, 4, 1), 400), ((18, 4, 2), 404), ((21, 4, 3), 407), ((24, 4, 4), 410), ((27, 4, 5), 414), ((30, 4, 6), 417), ((33, 4, 7), 419), ((38, 4, 8), 423), ((45, 4, 9), 424), ((49, 4, 14), 442), ((63, 4, 10), 429), ((66, 4, 11), 433), ((69, 4, 12), 437), ((72, 4, 13), 440)]) (by decide +kernel)
noncomputable def zi_cl4 : zq_CLt := [(42, 2)]
theorem zi_clk4 : zq_okCL RX4 zt vwCl zi_FT zi_cl4 := List.forall_mem_cons.mpr ⟨⟨_, _, rfl, zq_hw_ok (i := 369) (by decide +kernel), zq_hw_ok (i := 370) (by decide +kernel), zi_in2, rfl, by decide⟩, fun _ h => absurd h List.not_mem_nil⟩
theorem zi_pl4 : plainName RX4 = true := by decide
theorem zi_fc4 : ∀ f, f < 15 → (TX4 f).1 = RX4 := by decide +kernel
set_option maxRecDepth 1000000 in
theorem zi_l4_3 : Cond.methodLink RX4 3 Lib.objectInit ∈ zt := zw_t2 (i := 19) rfl rfl
set_option maxRecDepth 1000000 in
theorem zi_a4_36 : Cond.classLink "AnswerDays$Land" 36 "AnswerDays$Text" ∈ zt := zw_t2 (i := 20) rfl rfl
set_option maxRecDepth 1000000 in
theorem zi_l4_53 : Cond.methodLink RX4 53 arraycopyName ∈ zt := zw_t4 (i := 13) rfl rfl
set_option maxRecDepth 1000000 in
theorem zi_l4_59 : Cond.methodLink RX4 59 yX2_takeOver ∈ zt := zw_t4 (i := 14) rfl rfl
set_option maxRecDepth 1000000 in
theorem zi_l4_75 : Cond.methodLink RX4 75 yX4_hasLaw ∈ zt := zw_t3 (i := 21) rfl rfl
noncomputable def zi_ld11 : zq_LD := [(300, 1, -1), (309, 0, 1000000)]
theorem zi_ldk11 : zq_okD RX11 zt zi_ld11 := zq_ckD_ok (own := RX11) (l := [((300, 1, -1), 1090), ((309, 0, 1000000), 1120)]) (by decide +kernel)
noncomputable def zi_fl11 : zq_FL := [(18, 11, 0), (29, 11, 1), (38, 11, 2), (47, 11, 3), (56, 11, 4), (63, 11, 5), (70, 11, 6), (74, 11, 7), (77, 11, 8), (81, 11, 9), (85, 11, 10), (89, 11, 11), (92, 11, 14), (96, 11, 16), (107, 4, 10), (110, 4, 9), (114, 2, 4), (129, 4, 0), (132, 4, 1), (139, 4, 11), (149, 4, 2), (152, 4, 3), (158, 4, 4), (164, 4, 5), (174, 1, 0), (178, 3, 1), (184, 4, 7), (187, 8, 5), (192, 11, 15), (195, 8, 0), (198, 4, 13), (205, 5, 1), (227, 0, 3), (233, 4, 14), (269, 10, 1), (275, 10, 2), (281, 4, 12), (294, 1, 4), (313, 11, 12), (326, 11, 13)]
theorem zi_flk11 : zq_okFL RX11 zt vwCl zi_fl11 := zq_ckFL_ok (own := RX11) zi_u (l := [((18, 11, 0), 478), ((29, 11, 1), 479), ((38, 11, 2), 480), ((47, 11, 3), 481), ((56, 11, 4), 482), ((63, 11, 5), 483), ((70, 11, 6), 484), ((74, 11, 7), 485), ((77, 11, 8), 486), ((81, 11, 9), 487), ((85, 11, 10), 488), ((89, 11, 11), 489), ((92, 11, 14), 492), ((96, 11, 16), 494), ((107, 4, 10), 428), ((110, 4, 9), 425), ((114, 2, 4), 383), ((129, 4, 0), 399), ((132, 4, 1), 402), ((139, 4, 11), 434), ((149, 4, 2), 406), ((152, 4, 3), 409), ((158, 4, 4), 412), ((164, 4, 5), 415), ((174, 1, 0), 294), ((178, 3, 1), 166), ((184, 4, 7), 422), ((187, 8, 5), 188), ((192, 11, 15), 493), ((195, 8, 0), 179), ((198, 4, 13), 441), ((205, 5, 1), 246), ((227, 0, 3), 271), ((233, 4, 14), 445), ((269, 10, 1), 319), ((275, 10, 2), 321), ((281, 4, 12), 439), ((294, 1, 4), 299), ((313, 11, 12), 490), ((326, 11, 13), 491)]) (by decide +kernel)
noncomputable def zi_cl11 : zq_CLt := [(7, 6), (10, 3), (15, 8), (24, 5), (33, 0), (42, 1), (51, 10), (60, 7), (67, 4)]
theorem zi_clk11 : zq_okCL RX11 zt vwCl zi_FT zi_cl11 := List.forall_mem_cons.mpr ⟨⟨_, _, rfl, zq_hw_ok (i := 136) (by decide +kernel), zq_hw_ok (i := 137) (by decide +kernel), zi_in6, rfl, by decide⟩, List.forall_mem_cons.mpr ⟨⟨_, _, rfl, zq_hw_ok (i := 157) (by decide +kernel), zq_hw_ok (i := 158) (by decide +kernel), zi_in3, rfl, by decide⟩, List.forall_mem_cons.mpr ⟨⟨_, _, rfl, zq_hw_ok (i := 172) (by decide +kernel), zq_hw_ok (i := 173) (by decide +kernel), zi_in8, rfl, by decide⟩, List.forall_mem_cons.mpr ⟨⟨_, _, rfl, zq_hw_ok (i := 202) (by decide +kernel), zq_hw_ok (i := 203) (by decide +kernel), zi_in5, rfl, by decide⟩, List.forall_mem_cons.mpr ⟨⟨_, _, rfl, zq_hw_ok (i := 261) (by decide +kernel), zq_hw_ok (i := 262) (by decide +kernel), zi_in0, rfl, by decide⟩, List.forall_mem_cons.mpr ⟨⟨_, _, rfl, zq_hw_ok (i := 287) (by decide +kernel), zq_hw_ok (i := 288) (by decide +kernel), zi_in1, rfl, by decide⟩, List.forall_mem_cons.mpr ⟨⟨_, _, rfl, zq_hw_ok (i := 311) (by decide +kernel), zq_hw_ok (i := 312) (by decide +kernel), zi_in10, rfl, by decide⟩, List.forall_mem_cons.mpr ⟨⟨_, _, rfl, zq_hw_ok (i := 341) (by decide +kernel), zq_hw_ok (i := 342) (by decide +kernel), zi_in7, rfl, by decide⟩, List.forall_mem_cons.mpr ⟨⟨_, _, rfl, zq_hw_ok (i := 361) (by decide +kernel), zq_hw_ok (i := 362) (by decide +kernel), zi_in4, rfl, by decide⟩, fun _ h => absurd h List.not_mem_nil⟩⟩⟩⟩⟩⟩⟩⟩⟩
theorem zi_pl11 : plainName RX11 = true := by decide
theorem zi_fc11 : ∀ f, f < 17 → (TX11 f).1 = RX11 := by decide +kernel
set_option maxRecDepth 1000000 in
theorem zi_l11_1 : Cond.methodLink RX11 1 Lib.objectInit ∈ zt := zw_t1 (i := 26) rfl rfl
set_option maxRecDepth 1000000 in
theorem zi_l11_12 : Cond.methodLink RX11 12 yX3_init ∈ zt := zw_t1 (i := 52) rfl rfl
set_option maxRecDepth 1000000 in
theorem zi_l11_26 : Cond.methodLink RX11 26 yX5_init ∈ zt := zw_t1 (i := 97) rfl rfl
set_option maxRecDepth 1000000 in
theorem zi_l11_35 : Cond.methodLink RX11 35 yX0_init ∈ zt := zw_t1 (i := 156) rfl rfl
set_option maxRecDepth 1000000 in
theorem zi_l11_44 : Cond.methodLink RX11 44 yX1_init ∈ zt := zw_t1 (i := 182) rfl rfl
set_option maxRecDepth 1000000 in
theorem zi_l11_53 : Cond.methodLink RX11 53 yX10_init ∈ zt := zw_t1 (i := 206) rfl rfl
set_option maxRecDepth 1000000 in
theorem zi_l11_69 : Cond.methodLink RX11 69 yX4_init ∈ zt := zw_t2 (i := 16) rfl rfl
set_option maxRecDepth 1000000 in
theorem zi_a11_67 : Cond.classLink "AnswerDays" 67 "AnswerDays$Land" ∈ zt := zw_t2 (i := 14) rfl rfl
set_option maxRecDepth 1000000 in
theorem zi_l11_99 : Cond.methodLink RX11 99 yX11_isWithin ∈ zt := zw_t2 (i := 188) rfl rfl
set_option maxRecDepth 1000000 in
theorem zi_l11_103 : Cond.methodLink RX11 103 yX11_refuse ∈ zt := zw_t2 (i := 191) rfl rfl
set_option maxRecDepth 1000000 in
theorem zi_l11_219 : Cond.methodLink RX11 219 yX4_takeOver ∈ zt := zw_t4 (i := 9) rfl rfl
set_option maxRecDepth 1000000 in
theorem zi_l11_122 : Cond.methodLink RX11 122 yX11_grant ∈ zt := zw_t2 (i := 199) rfl rfl
set_option maxRecDepth 1000000 in
theorem zi_l11_119 : Cond.methodLink RX11 119 yX4_addPerson ∈ zt := zw_t2 (i := 195) rfl rfl
set_option maxRecDepth 1000000 in
theorem zi_l11_125 : Cond.methodLink RX11 125 yX4_hasPerson ∈ zt := zw_t2 (i := 207) rfl rfl
set_option maxRecDepth 1000000 in
theorem zi_l11_135 : Cond.methodLink RX11 135 yX11_isDeed ∈ zt := zw_t2 (i := 215) rfl rfl
set_option maxRecDepth 1000000 in
theorem zi_l11_142 : Cond.methodLink RX11 142 yX4_addDeed ∈ zt := zw_t2 (i := 218) rfl rfl
set_option maxRecDepth 1000000 in
theorem zi_l11_146 : Cond.methodLink RX11 146 yX4_hasDeed ∈ zt := zw_t2 (i := 226) rfl rfl
set_option maxRecDepth 1000000 in
theorem zi_l11_155 : Cond.methodLink RX11 155 yX11_isPlace ∈ zt := zw_t2 (i := 234) rfl rfl
set_option maxRecDepth 1000000 in
theorem zi_l11_161 : Cond.methodLink RX11 161 yX4_dateOf ∈ zt := zw_t2 (i := 237) rfl rfl
set_option maxRecDepth 1000000 in
theorem zi_l11_167 : Cond.methodLink RX11 167 yX11_isQuestion ∈ zt := zw_t3 (i := 9) rfl rfl
set_option maxRecDepth 1000000 in
theorem zi_l11_170 : Cond.methodLink RX11 170 yX1_toldOn ∈ zt := zw_t3 (i := 13) rfl rfl
set_option maxRecDepth 1000000 in
theorem zi_g11_181 : Cond.fieldLink "AnswerDays" 181 "AnswerDays" "MOST_OF_TERM" "[I" ∈ zt := zw_t3 (i := 66) rfl rfl
set_option maxRecDepth 1000000 in
theorem zi_l11_188 : Cond.methodLink RX11 188 yX8_take ∈ zt := zw_t3 (i := 72) rfl rfl
set_option maxRecDepth 1000000 in
theorem zi_l11_201 : Cond.methodLink RX11 201 yX5_read ∈ zt := zw_t3 (i := 92) rfl rfl
set_option maxRecDepth 1000000 in
theorem zi_l11_209 : Cond.methodLink RX11 209 yX9_trimmed ∈ zt := zw_t3 (i := 231) rfl rfl
set_option maxRecDepth 1000000 in
theorem zi_l11_215 : Cond.methodLink RX11 215 yX4_addLaw ∈ zt := zw_t4 (i := 0) rfl rfl
set_option maxRecDepth 1000000 in
theorem zi_l11_230 : Cond.methodLink RX11 230 yX4_hasLaw ∈ zt := zw_t4 (i := 90) rfl rfl
set_option maxRecDepth 1000000 in
theorem zi_l11_254 : Cond.methodLink RX11 254 yX0_undoOn ∈ zt := zw_t4 (i := 119) rfl rfl
set_option maxRecDepth 1000000 in
theorem zi_l11_240 : Cond.methodLink RX11 240 yX11_heed ∈ zt := zw_t4 (i := 96) rfl rfl
set_option maxRecDepth 1000000 in
theorem zi_l11_236 : Cond.methodLink RX11 236 yX0_commitOn ∈ zt := zw_t4 (i := 95) rfl rfl
set_option maxRecDepth 1000000 in
theorem zi_l11_243 : Cond.methodLink RX11 243 yX0_payOn ∈ zt := zw_t4 (i := 104) rfl rfl
set_option maxRecDepth 1000000 in
theorem zi_l11_246 : Cond.methodLink RX11 246 yX0_windOn ∈ zt := zw_t4 (i := 109) rfl rfl
set_option maxRecDepth 1000000 in
theorem zi_l11_250 : Cond.methodLink RX11 250 yX0_passOn ∈ zt := zw_t4 (i := 114) rfl rfl
set_option maxRecDepth 1000000 in
theorem zi_l11_257 : Cond.methodLink RX11 257 yX1_firstDay ∈ zt := zw_t4 (i := 131) rfl rfl
set_option maxRecDepth 1000000 in
theorem zi_l11_260 : Cond.methodLink RX11 260 yX1_leastPeriod ∈ zt := zw_t4 (i := 140) rfl rfl
set_option maxRecDepth 1000000 in
theorem zi_l11_263 : Cond.methodLink RX11 263 yX1_loophole ∈ zt := zw_t4 (i := 152) rfl rfl
set_option maxRecDepth 1000000 in
theorem zi_l11_266 : Cond.methodLink RX11 266 yX10_lastPlanned ∈ zt := zw_t4 (i := 160) rfl rfl
set_option maxRecDepth 1000000 in
theorem zi_l11_272 : Cond.methodLink RX11 272 yX10_fewestBinding ∈ zt := zw_t4 (i := 187) rfl rfl
set_option maxRecDepth 1000000 in
theorem zi_l11_278 : Cond.methodLink RX11 278 yX7_fewestPayments ∈ zt := zw_t4 (i := 199) rfl rfl
set_option maxRecDepth 1000000 in
theorem zi_l11_284 : Cond.methodLink RX11 284 yX4_addSight ∈ zt := zw_t4 (i := 208) rfl rfl
set_option maxRecDepth 1000000 in
theorem zi_l11_288 : Cond.methodLink RX11 288 yX1_doersOf ∈ zt := zw_t4 (i := 220) rfl rfl
set_option maxRecDepth 1000000 in
theorem zi_l11_291 : Cond.methodLink RX11 291 yX1_bestDay ∈ zt := zw_t4 (i := 232) rfl rfl
set_option maxRecDepth 1000000 in
theorem zi_l11_297 : Cond.methodLink RX11 297 yX1_fairestClock ∈ zt := zw_t5 (i := 6) rfl rfl
set_option maxRecDepth 1000000 in
theorem zi_l11_302 : Cond.methodLink RX11 302 yX7_chanceOfFewer ∈ zt := zw_t5 (i := 24) rfl rfl
set_option maxRecDepth 1000000 in
theorem zi_l11_306 : Cond.methodLink RX11 306 yX1_daysOfNobody ∈ zt := zw_t5 (i := 45) rfl rfl
set_option maxRecDepth 1000000 in
theorem zi_l11_223 : Cond.methodLink RX11 223 yX0_runAll ∈ zt := zw_t4 (i := 19) rfl rfl
set_option maxRecDepth 1000000 in
theorem zi_l11_310 : Cond.methodLink RX11 310 yX0_playYears ∈ zt := zw_t5 (i := 54) rfl rfl
set_option maxRecDepth 1000000 in
theorem zi_l11_316 : Cond.methodLink RX11 316 arraycopyName ∈ zt := zw_t5 (i := 63) rfl rfl
set_option maxRecDepth 1000000 in
theorem zi_l11_322 : Cond.methodLink RX11 322 yX4_peopleEven ∈ zt := zw_t5 (i := 80) rfl rfl
noncomputable def zi_ld12 : zq_LD := [(180, 0, 1000000), (279, 1, 1000000000), (281, 1, -1000000000), (330, 1, -4000000000), (340, 1, 99), (417, 1, -1), (419, 1, 1000000000000), (421, 1, 10), (441, 1, 1000000), (454, 1, 1103), (459, 1, 12345), (461, 1, 1000003)]
theorem zi_ldk12 : zq_okD RX12 zt zi_ld12 := zq_ckD_ok (own := RX12) (l := [((180, 0, 1000000), 1516), ((279, 1, 1000000000), 1441), ((281, 1, -1000000000), 1442), ((330, 1, -4000000000), 1405), ((340, 1, 99), 1459), ((417, 1, -1), 1762), ((419, 1, 1000000000000), 1763), ((421, 1, 10), 1764), ((441, 1, 1000000), 1792), ((454, 1, 1103), 1801), ((459, 1, 12345), 1802), ((461, 1, 1000003), 1803)]) (by decide +kernel)
noncomputable def zi_fl12 : zq_FL := [(3, 12, 0), (7, 12, 1), (11, 12, 31), (28, 12, 2), (31, 12, 3), (34, 12, 4), (38, 12, 5), (41, 12, 7), (45, 12, 11), (48, 12, 12), (51, 12, 14), (54, 12, 15), (57, 12, 16), (60, 12, 17), (63, 12, 26), (66, 12, 29), (69, 12, 30), (72, 12, 32), (75, 12, 33), (78, 12, 34), (81, 12, 35), (84, 12, 36), (87, 12, 37), (90, 12, 38), (93, 12, 39), (97, 12, 40), (100, 12, 46), (103, 12, 47), (106, 12, 48), (161, 12, 13), (164, 12, 6), (167, 12, 18), (181, 12, 21), (188, 12, 19), (197, 12, 20), (216, 12, 10), (242, 12, 8), (245, 12, 9), (270, 12, 23), (273, 12, 22), (283, 12, 24), (303, 12, 25), (309, 12, 27), (312, 12, 28), (423, 12, 41), (429, 12, 43), (432, 12, 44), (435, 12, 42), (438, 12, 45), (456, 12, 49)]
theorem zi_flk12 : zq_okFL RX12 zt vwCl zi_fl12 := zq_ckFL_ok (own := RX12) zi_u (l := [((3, 12, 0), 1158), ((7, 12, 1), 1159), ((11, 12, 31), 1189), ((28, 12, 2), 1160), ((31, 12, 3), 1161), ((34, 12, 4), 1162), ((38, 12, 5), 1163), ((41, 12, 7), 1165), ((45, 12, 11), 1169), ((48, 12, 12), 1170), ((51, 12, 14), 1172), ((54, 12, 15), 1173), ((57, 12, 16), 1174), ((60, 12, 17), 1175), ((63, 12, 26), 1184), ((66, 12, 29), 1187), ((69, 12, 30), 1188), ((72, 12, 32), 1190), ((75, 12, 33), 1191), ((78, 12, 34), 1192), ((81, 12, 35), 1193), ((84, 12, 36), 1194), ((87, 12, 37), 1195), ((90, 12, 38), 1196), ((93, 12, 39), 1197), ((97, 12, 40), 1198), ((100, 12, 46), 1204), ((103, 12, 47), 1205), ((106, 12, 48), 1206), ((161, 12, 13), 1171), ((164, 12, 6), 1164), ((167, 12, 18), 1176), ((181, 12, 21), 1179), ((188, 12, 19), 1177), ((197, 12, 20), 1178), ((216, 12, 10), 1168), ((242, 12, 8), 1166), ((245, 12, 9), 1167), ((270, 12, 23), 1181), ((273, 12, 22), 1180), ((283, 12, 24), 1182), ((303, 12, 25), 1183), ((309, 12, 27), 1185), ((312, 12, 28), 1186), ((423, 12, 41), 1199), ((429, 12, 43), 1201), ((432, 12, 44), 1202), ((435, 12, 42), 1200), ((438, 12, 45), 1203), ((456, 12, 49), 1207)]) (by decide +kernel)
noncomputable def zi_cl12 : zq_CLt := []
theorem zi_clk12 : zq_okCL RX12 zt vwCl zi_FT zi_cl12 := fun _ h => absurd h List.not_mem_nil
theorem zi_pl12 : plainName RX12 = true := by decide
theorem zi_fc12 : ∀ f, f < 50 → (TX12 f).1 = RX12 := by decide +kernel
set_option maxRecDepth 1000000 in
theorem zi_l12_22 : Cond.methodLink RX12 22 Lib.objectInit ∈ zt := zw_t5 (i := 90) rfl rfl
set_option maxRecDepth 1000000 in
theorem zi_l12_18 : Cond.methodLink RX12 18 yX12_lies ∈ zt := zw_t6 (i := 6) rfl rfl
set_option maxRecDepth 1000000 in
theorem zi_l12_109 : Cond.methodLink RX12 109 yX12_refuses ∈ zt := zw_t6 (i := 9) rfl rfl
set_option maxRecDepth 1000000 in
theorem zi_l12_14 : Cond.methodLink RX12 14 yX12_good ∈ zt := zw_t6 (i := 13) rfl rfl
set_option maxRecDepth 1000000 in
theorem zi_l12_112 : Cond.methodLink RX12 112 yX12_settled ∈ zt := zw_t6 (i := 21) rfl rfl
set_option maxRecDepth 1000000 in
theorem zi_l12_115 : Cond.methodLink RX12 115 yX12_many ∈ zt := zw_t6 (i := 29) rfl rfl
set_option maxRecDepth 1000000 in
theorem zi_l12_123 : Cond.methodLink RX12 123 yX12_isPerson ∈ zt := zw_t6 (i := 37) rfl rfl
set_option maxRecDepth 1000000 in
theorem zi_l12_129 : Cond.methodLink RX12 129 yX12_canDeed ∈ zt := zw_t6 (i := 45) rfl rfl
set_option maxRecDepth 1000000 in
theorem zi_l12_133 : Cond.methodLink RX12 133 yX12_adds ∈ zt := zw_t6 (i := 48) rfl rfl
set_option maxRecDepth 1000000 in
theorem zi_l12_119 : Cond.methodLink RX12 119 yX12_isDeed ∈ zt := zw_t6 (i := 56) rfl rfl
set_option maxRecDepth 1000000 in
theorem zi_l12_126 : Cond.methodLink RX12 126 yX12_isPlace ∈ zt := zw_t6 (i := 64) rfl rfl
set_option maxRecDepth 1000000 in
theorem zi_l12_137 : Cond.methodLink RX12 137 yX12_isIn ∈ zt := zw_t6 (i := 71) rfl rfl
set_option maxRecDepth 1000000 in
theorem zi_l12_140 : Cond.methodLink RX12 140 yX12_laysRoad ∈ zt := zw_t6 (i := 74) rfl rfl
set_option maxRecDepth 1000000 in
theorem zi_l12_276 : Cond.methodLink RX12 276 yX12_codeAt ∈ zt := zw_t6 (i := 99) rfl rfl
set_option maxRecDepth 1000000 in
theorem zi_l12_232 : Cond.methodLink RX12 232 yX12_sign ∈ zt := zw_t6 (i := 115) rfl rfl
set_option maxRecDepth 1000000 in
theorem zi_l12_297 : Cond.methodLink RX12 297 yX12_passes0 ∈ zt := zw_t6 (i := 118) rfl rfl
set_option maxRecDepth 1000000 in
theorem zi_l12_300 : Cond.methodLink RX12 300 yX12_sumOf ∈ zt := zw_t6 (i := 103) rfl rfl
set_option maxRecDepth 1000000 in
theorem zi_l12_306 : Cond.methodLink RX12 306 yX12_orderValue ∈ zt := zw_t6 (i := 122) rfl rfl
set_option maxRecDepth 1000000 in
theorem zi_l12_294 : Cond.methodLink RX12 294 yX12_partOf ∈ zt := zw_t6 (i := 111) rfl rfl
set_option maxRecDepth 1000000 in
theorem zi_l12_290 : Cond.methodLink RX12 290 yX12_bounded ∈ zt := zw_t6 (i := 130) rfl rfl
set_option maxRecDepth 1000000 in
theorem zi_l12_286 : Cond.methodLink RX12 286 yX12_termOf ∈ zt := zw_t6 (i := 107) rfl rfl
set_option maxRecDepth 1000000 in
theorem zi_l12_327 : Cond.methodLink RX12 327 yX12_testOf ∈ zt := zw_t6 (i := 136) rfl rfl
set_option maxRecDepth 1000000 in
theorem zi_l12_324 : Cond.methodLink RX12 324 yX12_positiveOf ∈ zt := zw_t6 (i := 148) rfl rfl
set_option maxRecDepth 1000000 in
theorem zi_l12_321 : Cond.methodLink RX12 321 yX12_plainOf ∈ zt := zw_t6 (i := 144) rfl rfl
set_option maxRecDepth 1000000 in
theorem zi_l12_318 : Cond.methodLink RX12 318 yX12_bothOf ∈ zt := zw_t6 (i := 140) rfl rfl
set_option maxRecDepth 1000000 in
theorem zi_l12_332 : Cond.methodLink RX12 332 yX12_setsAsked ∈ zt := zw_t6 (i := 90) rfl rfl
set_option maxRecDepth 1000000 in
theorem zi_l12_336 : Cond.methodLink RX12 336 yX12_tells ∈ zt := zw_t6 (i := 94) rfl rfl
set_option maxRecDepth 1000000 in
theorem zi_l12_144 : Cond.methodLink RX12 144 yX12_isDoing ∈ zt := zw_t6 (i := 82) rfl rfl
set_option maxRecDepth 1000000 in
theorem zi_l12_147 : Cond.methodLink RX12 147 yX12_owesFor ∈ zt := zw_t6 (i := 86) rfl rfl
set_option maxRecDepth 1000000 in
theorem zi_l12_151 : Cond.methodLink RX12 151 yX12_whoOn ∈ zt := zw_t6 (i := 153) rfl rfl
set_option maxRecDepth 1000000 in
theorem zi_l12_155 : Cond.methodLink RX12 155 yX12_isTerm ∈ zt := zw_t6 (i := 161) rfl rfl
set_option maxRecDepth 1000000 in
theorem zi_l12_158 : Cond.methodLink RX12 158 yX12_termAt ∈ zt := zw_t6 (i := 164) rfl rfl
set_option maxRecDepth 1000000 in
theorem zi_l12_170 : Cond.methodLink RX12 170 yX12_isSmall ∈ zt := zw_t6 (i := 199) rfl rfl
set_option maxRecDepth 1000000 in
theorem zi_l12_173 : Cond.methodLink RX12 173 yX12_isDigit ∈ zt := zw_t6 (i := 202) rfl rfl
set_option maxRecDepth 1000000 in
theorem zi_l12_176 : Cond.methodLink RX12 176 yX12_wordOf ∈ zt := zw_t6 (i := 205) rfl rfl
set_option maxRecDepth 1000000 in
theorem zi_l12_184 : Cond.methodLink RX12 184 yX12_fine ∈ zt := zw_t6 (i := 222) rfl rfl
set_option maxRecDepth 1000000 in
theorem zi_l12_191 : Cond.methodLink RX12 191 yX12_takes0 ∈ zt := zw_t6 (i := 218) rfl rfl
set_option maxRecDepth 1000000 in
theorem zi_l12_194 : Cond.methodLink RX12 194 yX12_faults ∈ zt := zw_t6 (i := 238) rfl rfl
set_option maxRecDepth 1000000 in
theorem zi_l12_200 : Cond.methodLink RX12 200 yX12_readSum ∈ zt := zw_t6 (i := 226) rfl rfl
set_option maxRecDepth 1000000 in
theorem zi_l12_204 : Cond.methodLink RX12 204 yX12_must ∈ zt := zw_t7 (i := 2) rfl rfl
set_option maxRecDepth 1000000 in
theorem zi_l12_248 : Cond.methodLink RX12 248 yX12_leaf ∈ zt := zw_t7 (i := 6) rfl rfl
set_option maxRecDepth 1000000 in
theorem zi_l12_213 : Cond.methodLink RX12 213 yX12_mustNumber ∈ zt := zw_t7 (i := 10) rfl rfl
set_option maxRecDepth 1000000 in
theorem zi_l12_239 : Cond.methodLink RX12 239 yX12_readPart ∈ zt := zw_t6 (i := 234) rfl rfl
set_option maxRecDepth 1000000 in
theorem zi_l12_236 : Cond.methodLink RX12 236 yX12_readTerm ∈ zt := zw_t6 (i := 230) rfl rfl
set_option maxRecDepth 1000000 in
theorem zi_l12_207 : Cond.methodLink RX12 207 yX12_readTest ∈ zt := zw_t7 (i := 18) rfl rfl
set_option maxRecDepth 1000000 in
theorem zi_l12_229 : Cond.methodLink RX12 229 yX12_readPlain ∈ zt := zw_t7 (i := 26) rfl rfl
set_option maxRecDepth 1000000 in
theorem zi_l12_226 : Cond.methodLink RX12 226 yX12_readBoth ∈ zt := zw_t7 (i := 22) rfl rfl
set_option maxRecDepth 1000000 in
theorem zi_l12_210 : Cond.methodLink RX12 210 yX12_readMore ∈ zt := zw_t7 (i := 14) rfl rfl
set_option maxRecDepth 1000000 in
theorem zi_l12_220 : Cond.methodLink RX12 220 yX12_readOrder ∈ zt := zw_t6 (i := 214) rfl rfl
set_option maxRecDepth 1000000 in
theorem zi_l12_223 : Cond.methodLink RX12 223 yX12_readClause ∈ zt := zw_t7 (i := 30) rfl rfl
set_option maxRecDepth 1000000 in
theorem zi_l12_251 : Cond.methodLink RX12 251 yX12_splits ∈ zt := zw_t6 (i := 195) rfl rfl
set_option maxRecDepth 1000000 in
theorem zi_l12_254 : Cond.methodLink RX12 254 yX12_readOne ∈ zt := zw_t6 (i := 210) rfl rfl
set_option maxRecDepth 1000000 in
theorem zi_l12_257 : Cond.methodLink RX12 257 yX12_reads ∈ zt := zw_t6 (i := 191) rfl rfl
set_option maxRecDepth 1000000 in
theorem zi_l12_260 : Cond.methodLink RX12 260 yX12_readsAs ∈ zt := zw_t6 (i := 187) rfl rfl
set_option maxRecDepth 1000000 in
theorem zi_l12_264 : Cond.methodLink RX12 264 yX12_lays ∈ zt := zw_t7 (i := 34) rfl rfl
set_option maxRecDepth 1000000 in
theorem zi_l12_267 : Cond.methodLink RX12 267 yX12_isLaw ∈ zt := zw_t7 (i := 46) rfl rfl
set_option maxRecDepth 1000000 in
theorem zi_l12_342 : Cond.methodLink RX12 342 yX12_whoThen ∈ zt := zw_t7 (i := 70) rfl rfl
set_option maxRecDepth 1000000 in
theorem zi_l12_345 : Cond.methodLink RX12 345 yX12_canMove ∈ zt := zw_t7 (i := 74) rfl rfl
set_option maxRecDepth 1000000 in
theorem zi_l12_348 : Cond.methodLink RX12 348 yX12_moves ∈ zt := zw_t7 (i := 78) rfl rfl
set_option maxRecDepth 1000000 in
theorem zi_l12_351 : Cond.methodLink RX12 351 yX12_laysAside ∈ zt := zw_t7 (i := 62) rfl rfl
set_option maxRecDepth 1000000 in
theorem zi_l12_354 : Cond.methodLink RX12 354 yX12_doesNow ∈ zt := zw_t7 (i := 66) rfl rfl
set_option maxRecDepth 1000000 in
theorem zi_l12_357 : Cond.methodLink RX12 357 yX12_takesBack ∈ zt := zw_t7 (i := 82) rfl rfl
set_option maxRecDepth 1000000 in
theorem zi_l12_360 : Cond.methodLink RX12 360 yX12_keeps ∈ zt := zw_t7 (i := 86) rfl rfl
set_option maxRecDepth 1000000 in
theorem zi_l12_366 : Cond.methodLink RX12 366 yX12_commitsKept ∈ zt := zw_t7 (i := 58) rfl rfl
set_option maxRecDepth 1000000 in
theorem zi_l12_369 : Cond.methodLink RX12 369 yX12_goodOr ∈ zt := zw_t7 (i := 90) rfl rfl
set_option maxRecDepth 1000000 in
theorem zi_l12_372 : Cond.methodLink RX12 372 yX12_paysKept ∈ zt := zw_t7 (i := 98) rfl rfl
set_option maxRecDepth 1000000 in
theorem zi_l12_363 : Cond.methodLink RX12 363 yX12_isClock ∈ zt := zw_t7 (i := 110) rfl rfl
set_option maxRecDepth 1000000 in
theorem zi_l12_375 : Cond.methodLink RX12 375 yX12_windsKept ∈ zt := zw_t7 (i := 106) rfl rfl
set_option maxRecDepth 1000000 in
theorem zi_l12_378 : Cond.methodLink RX12 378 yX12_passesKept ∈ zt := zw_t7 (i := 117) rfl rfl
set_option maxRecDepth 1000000 in
theorem zi_l12_381 : Cond.methodLink RX12 381 yX12_comesAgain ∈ zt := zw_t7 (i := 133) rfl rfl
set_option maxRecDepth 1000000 in
theorem zi_l12_384 : Cond.methodLink RX12 384 yX12_plans ∈ zt := zw_t7 (i := 148) rfl rfl
set_option maxRecDepth 1000000 in
theorem zi_l12_387 : Cond.methodLink RX12 387 yX12_greater ∈ zt := zw_t7 (i := 145) rfl rfl
set_option maxRecDepth 1000000 in
theorem zi_l12_390 : Cond.methodLink RX12 390 yX12_bindsFrom ∈ zt := zw_t7 (i := 160) rfl rfl
set_option maxRecDepth 1000000 in
theorem zi_l12_393 : Cond.methodLink RX12 393 yX12_nextPlace ∈ zt := zw_t7 (i := 156) rfl rfl
set_option maxRecDepth 1000000 in
theorem zi_l12_396 : Cond.methodLink RX12 396 yX12_balanceOf ∈ zt := zw_t7 (i := 168) rfl rfl
set_option maxRecDepth 1000000 in
theorem zi_l12_399 : Cond.methodLink RX12 399 yX12_ones ∈ zt := zw_t7 (i := 172) rfl rfl
set_option maxRecDepth 1000000 in
theorem zi_l12_402 : Cond.methodLink RX12 402 yX12_isDoer ∈ zt := zw_t7 (i := 187) rfl rfl
set_option maxRecDepth 1000000 in
theorem zi_l12_405 : Cond.methodLink RX12 405 yX12_doers ∈ zt := zw_t7 (i := 195) rfl rfl
set_option maxRecDepth 1000000 in
theorem zi_l12_408 : Cond.methodLink RX12 408 yX12_mostAlike ∈ zt := zw_t7 (i := 196) rfl rfl
set_option maxRecDepth 1000000 in
theorem zi_l12_411 : Cond.methodLink RX12 411 yX12_lesser ∈ zt := zw_t7 (i := 208) rfl rfl
set_option maxRecDepth 1000000 in
theorem zi_l12_414 : Cond.methodLink RX12 414 yX12_unfair ∈ zt := zw_t7 (i := 204) rfl rfl
set_option maxRecDepth 1000000 in
theorem zi_l12_315 : Cond.methodLink RX12 315 yX12_evenMany ∈ zt := zw_t6 (i := 126) rfl rfl
set_option maxRecDepth 1000000 in
theorem zi_l12_443 : Cond.methodLink RX12 443 yX12_small ∈ zt := zw_t8 (i := 2) rfl rfl
set_option maxRecDepth 1000000 in
theorem zi_l12_447 : Cond.methodLink RX12 447 yX12_goesAlong ∈ zt := zw_t7 (i := 234) rfl rfl
set_option maxRecDepth 1000000 in
theorem zi_l12_451 : Cond.methodLink RX12 451 yX12_obeys ∈ zt := zw_t7 (i := 238) rfl rfl
set_option maxRecDepth 1000000 in
theorem zi_l12_426 : Cond.methodLink RX12 426 yX12_runs ∈ zt := zw_t7 (i := 230) rfl rfl
set_option maxRecDepth 1000000 in
theorem zi_l12_463 : Cond.methodLink RX12 463 yX12_draws ∈ zt := zw_t8 (i := 10) rfl rfl
noncomputable def zi_ld20 : zq_LD := []
theorem zi_ldk20 : zq_okD RJ9 zt zi_ld20 := zq_ckD_ok (own := RJ9) (l := []) (by decide +kernel)
noncomputable def zi_fl20 : zq_FL := []
theorem zi_flk20 : zq_okFL RJ9 zt vwCl zi_fl20 := zq_ckFL_ok (own := RJ9) zi_u (l := []) (by decide +kernel)
noncomputable def zi_cl20 : zq_CLt := []
theorem zi_clk20 : zq_okCL RJ9 zt vwCl zi_FT zi_cl20 := fun _ h => absurd h List.not_mem_nil
theorem zi_pf_J9_min_7cf53 : plainFor yJ9_min_7cf53 = true := by decide +kernel
theorem zi_pf_J9_max_7cf53 : plainFor yJ9_max_7cf53 = true := by decide +kernel
noncomputable def zi_ld22 : zq_LD := []
theorem zi_ldk22 : zq_okD RJ0 zt zi_ld22 := zq_ckD_ok (own := RJ0) (l := []) (by decide +kernel)
noncomputable def zi_fl22 : zq_FL := []
theorem zi_flk22 : zq_okFL RJ0 zt vwCl zi_fl22 := zq_ckFL_ok (own := RJ0) zi_u (l := []) (by decide +kernel)
noncomputable def zi_cl22 : zq_CLt := []
theorem zi_clk22 : zq_okCL RJ0 zt vwCl zi_FT zi_cl22 := fun _ h => absurd h List.not_mem_nil
theorem zi_pl22 : plainName RJ0 = true := by decide
set_option maxRecDepth 1000000 in
theorem zi_g22_38 : Cond.fieldLink "java/lang/String" 38 "java/lang/String" "COMPACT_STRINGS" "Z" ∈ zt := zw_t3 (i := 120) rfl rfl
set_option maxRecDepth 1000000 in
theorem zi_g22_15 : Cond.fieldLink "java/lang/String" 15 "java/lang/String" "coder" "B" ∈ zt := zw_t8 (i := 30) rfl rfl
set_option maxRecDepth 1000000 in
theorem zi_g22_9 : Cond.fieldLink "java/lang/String" 9 "java/lang/String" "value" "[B" ∈ zt := zw_t8 (i := 29) rfl rfl
set_option maxRecDepth 1000000 in
theorem zi_l22_335 : Cond.methodLink RJ0 335 yJ0_coder_7d493 ∈ zt := zw_t3 (i := 116) rfl rfl
set_option maxRecDepth 1000000 in
theorem zi_g22_1053 : Cond.fieldLink "java/lang/String" 1053 "jdk/internal/util/Preconditions" "SIOOBE_FORMATTER" "Ljava/util/function/BiFunction;" ∈ zt := zw_t3 (i := 136) rfl rfl
set_option maxRecDepth 1000000 in
theorem zi_l22_1059 : Cond.methodLink RJ0 1059 yJ3_checkIndex_8e157 ∈ zt := zw_t3 (i := 138) rfl rfl
set_option maxRecDepth 1000000 in
theorem zi_l22_492 : Cond.methodLink RJ0 492 yJ0_isLatin1_aae02 ∈ zt := zw_t3 (i := 126) rfl rfl
set_option maxRecDepth 1000000 in
theorem zi_l22_495 : Cond.methodLink RJ0 495 yJ1_charAt_3b067 ∈ zt := zw_t3 (i := 130) rfl rfl
set_option maxRecDepth 1000000 in
theorem zi_l22_498 : Cond.methodLink RJ0 498 yJ2_charAt_3b067 ∈ zt := zw_t3 (i := 141) rfl rfl
noncomputable def zi_ld24 : zq_LD := []
theorem zi_ldk24 : zq_okD RJ3 zt zi_ld24 := zq_ckD_ok (own := RJ3) (l := []) (by decide +kernel)
noncomputable def zi_fl24 : zq_FL := []
theorem zi_flk24 : zq_okFL RJ3 zt vwCl zi_fl24 := zq_ckFL_ok (own := RJ3) zi_u (l := []) (by decide +kernel)
noncomputable def zi_cl24 : zq_CLt := []
theorem zi_clk24 : zq_okCL RJ3 zt vwCl zi_FT zi_cl24 := fun _ h => absurd h List.not_mem_nil
theorem zi_pl24 : plainName RJ3 = true := by decide
noncomputable def zi_ld23 : zq_LD := []
theorem zi_ldk23 : zq_okD RJ1 zt zi_ld23 := zq_ckD_ok (own := RJ1) (l := []) (by decide +kernel)
noncomputable def zi_fl23 : zq_FL := []
theorem zi_flk23 : zq_okFL RJ1 zt vwCl zi_fl23 := zq_ckFL_ok (own := RJ1) zi_u (l := []) (by decide +kernel)
noncomputable def zi_cl23 : zq_CLt := []
theorem zi_clk23 : zq_okCL RJ1 zt vwCl zi_FT zi_cl23 := fun _ h => absurd h List.not_mem_nil
theorem zi_pl23 : plainName RJ1 = true := by decide
set_option maxRecDepth 1000000 in
theorem zi_l23_9 : Cond.methodLink RJ1 9 yJ0_checkIndex_df160 ∈ zt := zw_t3 (i := 133) rfl rfl
noncomputable def zi_ld21 : zq_LD := [(265, 0, 1431655765), (266, 0, 858993459), (267, 0, 252645135)]
theorem zi_ldk21 : zq_okD RJ6 zt zi_ld21 := zq_ckD_ok (own := RJ6) (l := [((265, 0, 1431655765), 1003), ((266, 0, 858993459), 1004), ((267, 0, 252645135), 1005)]) (by decide +kernel)
noncomputable def zi_fl21 : zq_FL := []
theorem zi_flk21 : zq_okFL RJ6 zt vwCl zi_fl21 := zq_ckFL_ok (own := RJ6) zi_u (l := []) (by decide +kernel)
noncomputable def zi_cl21 : zq_CLt := []
theorem zi_clk21 : zq_okCL RJ6 zt vwCl zi_FT zi_cl21 := fun _ h => absurd h List.not_mem_nil
theorem zi_pl21 : plainName RJ6 = true := by decide
set_option maxRecDepth 1000000 in
theorem zk_X6_init : Cond.code yX6_init cX6_init 1 none ∈ zt := zw_t1 (i := 33) rfl rfl
noncomputable def zc_X6_init : zq_Cd := [(0, .aload_n 0, 1), (1, .invokespecial 5, 3), (4, .aload_n 0, 1), (5, .bipush 22, 2), (7, .newarray .int, 2), (9, .putfield 11, 3), (12, .aload_n 0, 1), (13, .bipush 32, 2), (15, .newarray .int, 2), (17, .putfield 15, 3), (20, .return_, 1)]
theorem zd_X6_init : zq_ckC cX6_init zc_X6_init = true := by decide +kernel
theorem zp_X6_init : zq_pn yX6_init 0 = true := by decide +kernel
set_option maxRecDepth 1000000 in
theorem zn_X6_init : Cond.instanceMethod yX6_init ∈ zt := zw_t1 (i := 32) rfl rfl
set_option maxRecDepth 1000000 in
theorem zk_X3_init : Cond.code yX3_init cX3_init 2 none ∈ zt := zw_t1 (i := 54) rfl rfl
noncomputable def zc_X3_init : zq_Cd := [(0, .aload_n 0, 1), (1, .invokespecial 3, 3), (4, .aload_n 0, 1), (5, .aload_n 1, 1), (6, .putfield 9, 3), (9, .return_, 1)]
theorem zd_X3_init : zq_ckC cX3_init zc_X3_init = true := by decide +kernel
theorem zp_X3_init : zq_pn yX3_init 1 = true := by decide +kernel
set_option maxRecDepth 1000000 in
theorem zn_X3_init : Cond.instanceMethod yX3_init ∈ zt := zw_t1 (i := 53) rfl rfl
set_option maxRecDepth 1000000 in
theorem zk_X8_init : Cond.code yX8_init cX8_init 1 none ∈ zt := zw_t1 (i := 69) rfl rfl
noncomputable def zc_X8_init : zq_Cd := [(0, .aload_n 0, 1), (1, .invokespecial 3, 3), (4, .aload_n 0, 1), (5, .sipush 400, 3), (8, .newarray .int, 2), (10, .putfield 9, 3), (13, .aload_n 0, 1), (14, .sipush 401, 3), (17, .newarray .int, 2), (19, .putfield 15, 3), (22, .aload_n 0, 1), (23, .sipush 401, 3), (26, .newarray .int, 2), (28, .putfield 18, 3), (31, .aload_n 0, 1), (32, .sipush 401, 3), (35, .newarray .int, 2), (37, .putfield 21, 3), (40, .aload_n 0, 1), (41, .sipush 401, 3), (44, .newarray .int, 2), (46, .putfield 24, 3), (49, .return_, 1)]
theorem zd_X8_init : zq_ckC cX8_init zc_X8_init = true := by decide +kernel
theorem zp_X8_init : zq_pn yX8_init 0 = true := by decide +kernel
set_option maxRecDepth 1000000 in
theorem zn_X8_init : Cond.instanceMethod yX8_init ∈ zt := zw_t1 (i := 68) rfl rfl
set_option maxRecDepth 1000000 in
theorem zk_X9_init : Cond.code yX9_init cX9_init 3 none ∈ zt := zw_t1 (i := 105) rfl rfl
noncomputable def zc_X9_init : zq_Cd := [(0, .aload_n 0, 1), (1, .invokespecial 5, 3), (4, .aload_n 0, 1), (5, .iload_n 1, 1), (6, .newarray .int, 2), (8, .putfield 11, 3), (11, .aload_n 0, 1), (12, .iload_n 1, 1), (13, .newarray .int, 2), (15, .putfield 15, 3), (18, .aload_n 0, 1), (19, .iconst 4, 1), (20, .iload_n 1, 1), (21, .imul, 1), (22, .newarray .int, 2), (24, .putfield 18, 3), (27, .aload_n 0, 1), (28, .iload_n 2, 1), (29, .newarray .int, 2), (31, .putfield 21, 3), (34, .return_, 1)]
theorem zd_X9_init : zq_ckC cX9_init zc_X9_init = true := by decide +kernel
theorem zp_X9_init : zq_pn yX9_init 2 = true := by decide +kernel
set_option maxRecDepth 1000000 in
theorem zn_X9_init : Cond.instanceMethod yX9_init ∈ zt := zw_t1 (i := 104) rfl rfl
set_option maxRecDepth 1000000 in
theorem zk_X5_init : Cond.code yX5_init cX5_init 2 none ∈ zt := zw_t1 (i := 99) rfl rfl
noncomputable def zc_X5_init : zq_Cd := [(0, .aload_n 0, 1), (1, .invokespecial 3, 3), (4, .aload_n 0, 1), (5, .new 9, 3), (8, .dup, 1), (9, .bipush 12, 2), (11, .sipush 448, 3), (14, .invokespecial 11, 3), (17, .putfield 14, 3), (20, .aload_n 0, 1), (21, .aload_n 1, 1), (22, .putfield 20, 3), (25, .return_, 1)]
theorem zd_X5_init : zq_ckC cX5_init zc_X5_init = true := by decide +kernel
theorem zp_X5_init : zq_pn yX5_init 1 = true := by decide +kernel
set_option maxRecDepth 1000000 in
theorem zn_X5_init : Cond.instanceMethod yX5_init ∈ zt := zw_t1 (i := 98) rfl rfl
set_option maxRecDepth 1000000 in
theorem zk_X0_init : Cond.code yX0_init cX0_init 3 none ∈ zt := zw_t1 (i := 158) rfl rfl
noncomputable def zc_X0_init : zq_Cd := [(0, .aload_n 0, 1), (1, .invokespecial 3, 3), (4, .aload_n 0, 1), (5, .iconst 3, 1), (6, .newarray .int, 2), (8, .putfield 9, 3), (11, .aload_n 0, 1), (12, .aload_n 1, 1), (13, .putfield 15, 3), (16, .aload_n 0, 1), (17, .aload_n 2, 1), (18, .putfield 19, 3), (21, .return_, 1)]
theorem zd_X0_init : zq_ckC cX0_init zc_X0_init = true := by decide +kernel
theorem zp_X0_init : zq_pn yX0_init 2 = true := by decide +kernel
set_option maxRecDepth 1000000 in
theorem zn_X0_init : Cond.instanceMethod yX0_init ∈ zt := zw_t1 (i := 157) rfl rfl
set_option maxRecDepth 1000000 in
theorem zk_X1_init : Cond.code yX1_init cX1_init 2 none ∈ zt := zw_t1 (i := 184) rfl rfl
noncomputable def zc_X1_init : zq_Cd := [(0, .aload_n 0, 1), (1, .invokespecial 5, 3), (4, .aload_n 0, 1), (5, .bipush 120, 2), (7, .newarray .int, 2), (9, .putfield 11, 3), (12, .aload_n 0, 1), (13, .bipush 8, 2), (15, .newarray .int, 2), (17, .putfield 15, 3), (20, .aload_n 0, 1), (21, .sipush 204, 3), (24, .newarray .int, 2), (26, .putfield 18, 3), (29, .aload_n 0, 1), (30, .aload_n 1, 1), (31, .putfield 21, 3), (34, .return_, 1)]
theorem zd_X1_init : zq_ckC cX1_init zc_X1_init = true := by decide +kernel
theorem zp_X1_init : zq_pn yX1_init 1 = true := by decide +kernel
set_option maxRecDepth 1000000 in
theorem zn_X1_init : Cond.instanceMethod yX1_init ∈ zt := zw_t1 (i := 183) rfl rfl
set_option maxRecDepth 1000000 in
theorem zk_X10_init : Cond.code yX10_init cX10_init 2 none ∈ zt := zw_t1 (i := 208) rfl rfl
noncomputable def zc_X10_init : zq_Cd := [(0, .aload_n 0, 1), (1, .invokespecial 3, 3), (4, .aload_n 0, 1), (5, .bipush 6, 2), (7, .newarray .int, 2), (9, .putfield 9, 3), (12, .aload_n 0, 1), (13, .bipush 20, 2), (15, .newarray .int, 2), (17, .putfield 15, 3), (20, .aload_n 0, 1), (21, .bipush 6, 2), (23, .newarray .int, 2), (25, .putfield 18, 3), (28, .aload_n 0, 1), (29, .bipush 64, 2), (31, .newarray .int, 2), (33, .putfield 21, 3), (36, .aload_n 0, 1), (37, .bipush 80, 2), (39, .newarray .int, 2), (41, .putfield 24, 3), (44, .aload_n 0, 1), (45, .bipush 80, 2), (47, .newarray .int, 2), (49, .putfield 27, 3), (52, .aload_n 0, 1), (53, .aload_n 1, 1), (54, .putfield 30, 3), (57, .return_, 1)]
theorem zd_X10_init : zq_ckC cX10_init zc_X10_init = true := by decide +kernel
theorem zp_X10_init : zq_pn yX10_init 1 = true := by decide +kernel
set_option maxRecDepth 1000000 in
theorem zn_X10_init : Cond.instanceMethod yX10_init ∈ zt := zw_t1 (i := 207) rfl rfl
set_option maxRecDepth 1000000 in
theorem zk_X7_init : Cond.code yX7_init cX7_init 1 none ∈ zt := zw_t1 (i := 238) rfl rfl
noncomputable def zc_X7_init : zq_Cd := [(0, .aload_n 0, 1), (1, .invokespecial 3, 3), (4, .aload_n 0, 1), (5, .bipush 6, 2), (7, .newarray .int, 2), (9, .putfield 9, 3), (12, .aload_n 0, 1), (13, .bipush 64, 2), (15, .newarray .int, 2), (17, .putfield 15, 3), (20, .aload_n 0, 1), (21, .bipush 64, 2), (23, .newarray .int, 2), (25, .putfield 18, 3), (28, .aload_n 0, 1), (29, .bipush 10, 2), (31, .newarray .long, 2), (33, .putfield 21, 3), (36, .return_, 1)]
theorem zd_X7_init : zq_ckC cX7_init zc_X7_init = true := by decide +kernel
theorem zp_X7_init : zq_pn yX7_init 0 = true := by decide +kernel
set_option maxRecDepth 1000000 in
theorem zn_X7_init : Cond.instanceMethod yX7_init ∈ zt := zw_t1 (i := 237) rfl rfl
set_option maxRecDepth 1000000 in
theorem zk_X2_init : Cond.code yX2_init cX2_init 1 none ∈ zt := zw_t2 (i := 26) rfl rfl
noncomputable def zc_X2_init : zq_Cd := [(0, .aload_n 0, 1), (1, .invokespecial 1, 3), (4, .aload_n 0, 1), (5, .bipush 16, 2), (7, .newarray .int, 2), (9, .putfield 9, 3), (12, .aload_n 0, 1), (13, .bipush 16, 2), (15, .newarray .int, 2), (17, .putfield 13, 3), (20, .aload_n 0, 1), (21, .bipush 16, 2), (23, .newarray .int, 2), (25, .putfield 16, 3), (28, .aload_n 0, 1), (29, .bipush 16, 2), (31, .newarray .int, 2), (33, .putfield 19, 3), (36, .return_, 1)]
theorem zd_X2_init : zq_ckC cX2_init zc_X2_init = true := by decide +kernel
theorem zp_X2_init : zq_pn yX2_init 0 = true := by decide +kernel
set_option maxRecDepth 1000000 in
theorem zn_X2_init : Cond.instanceMethod yX2_init ∈ zt := zw_t2 (i := 25) rfl rfl
set_option maxRecDepth 1000000 in
theorem zk_X4_init : Cond.code yX4_init cX4_init 1 none ∈ zt := zw_t2 (i := 18) rfl rfl
noncomputable def zc_X4_init : zq_Cd := [(0, .aload_n 0, 1), (1, .invokespecial 3, 3), (4, .aload_n 0, 1), (5, .bipush 6, 2), (7, .newarray .int, 2), (9, .putfield 9, 3), (12, .aload_n 0, 1), (13, .bipush 6, 2), (15, .newarray .int, 2), (17, .putfield 15, 3), (20, .aload_n 0, 1), (21, .bipush 6, 2), (23, .newarray .int, 2), (25, .putfield 18, 3), (28, .aload_n 0, 1), (29, .bipush 6, 2), (31, .newarray .int, 2), (33, .putfield 21, 3), (36, .aload_n 0, 1), (37, .iconst 4, 1), (38, .newarray .int, 2), (40, .putfield 24, 3), (43, .aload_n 0, 1), (44, .iconst 4, 1), (45, .newarray .int, 2), (47, .putfield 27, 3), (50, .aload_n 0, 1), (51, .bipush 24, 2), (53, .newarray .int, 2), (55, .putfield 30, 3), (58, .aload_n 0, 1), (59, .iconst 3, 1), (60, .newarray .int, 2), (62, .putfield 33, 3), (65, .aload_n 0, 1), (66, .bipush 6, 2), (68, .anewarray 36, 3), (71, .putfield 38, 3), (74, .aload_n 0, 1), (75, .new 42, 3), (78, .dup, 1), (79, .invokespecial 44, 3), (82, .putfield 45, 3), (85, .aload_n 0, 1), (86, .getfield 33, 3), (89, .iconst 1, 1), (90, .iconst 1, 1), (91, .iastore, 1), (92, .aload_n 0, 1), (93, .iconst (-1), 1), (94, .putfield 49, 3), (97, .return_, 1)]
theorem zd_X4_init : zq_ckC cX4_init zc_X4_init = true := by decide +kernel
theorem zp_X4_init : zq_pn yX4_init 0 = true := by decide +kernel
set_option maxRecDepth 1000000 in
theorem zn_X4_init : Cond.instanceMethod yX4_init ∈ zt := zw_t2 (i := 17) rfl rfl
set_option maxRecDepth 1000000 in
theorem zk_X11_init : Cond.code yX11_init cX11_init 4 none ∈ zt := zw_t1 (i := 25) rfl rfl
noncomputable def zc_X11_init : zq_Cd := [(0, .aload_n 0, 1), (1, .invokespecial 1, 3), (4, .new 7, 3), (7, .dup, 1), (8, .invokespecial 9, 3), (11, .astore_n 1, 1), (12, .new 10, 3), (15, .dup, 1), (16, .aload_n 1, 1), (17, .invokespecial 12, 3), (20, .astore_n 2, 1), (21, .aload_n 0, 1), (22, .new 15, 3), (25, .dup, 1), (26, .invokespecial 17, 3), (29, .putfield 18, 3), (32, .aload_n 0, 1), (33, .new 24, 3), (36, .dup, 1), (37, .aload_n 0, 1), (38, .getfield 18, 3), (41, .invokespecial 26, 3), (44, .putfield 29, 3), (47, .aload_n 0, 1), (48, .new 33, 3), (51, .dup, 1), (52, .aload_n 1, 1), (53, .aload_n 2, 1), (54, .invokespecial 35, 3), (57, .putfield 38, 3), (60, .aload_n 0, 1), (61, .new 42, 3), (64, .dup, 1), (65, .aload_n 2, 1), (66, .invokespecial 44, 3), (69, .putfield 47, 3), (72, .aload_n 0, 1), (73, .new 51, 3), (76, .dup, 1), (77, .aload_n 0, 1), (78, .getfield 47, 3), (81, .invokespecial 53, 3), (84, .putfield 56, 3), (87, .aload_n 0, 1), (88, .new 60, 3), (91, .dup, 1), (92, .invokespecial 62, 3), (95, .putfield 63, 3), (98, .aload_n 0, 1), (99, .new 67, 3), (102, .dup, 1), (103, .invokespecial 69, 3), (106, .putfield 70, 3), (109, .aload_n 0, 1), (110, .new 67, 3), (113, .dup, 1), (114, .invokespecial 69, 3), (117, .putfield 74, 3), (120, .aload_n 0, 1), (121, .iconst 2, 1), (122, .anewarray 67, 3), (125, .putfield 77, 3), (128, .iconst 0, 1), (129, .istore_n 3, 1), (130, .iload_n 3, 1), (131, .iconst 2, 1), (132, .if_icmp .ge 22, 3), (135, .aload_n 0, 1), (136, .getfield 77, 3), (139, .iload_n 3, 1), (140, .new 67, 3), (143, .dup, 1), (144, .invokespecial 69, 3), (147, .aastore, 1), (148, .iinc 3 1, 3), (151, .goto (-21), 3), (154, .aload_n 0, 1), (155, .iconst 2, 1), (156, .newarray .boolean, 2), (158, .putfield 81, 3), (161, .aload_n 0, 1), (162, .iconst 5, 1), (163, .newarray .int, 2), (165, .putfield 85, 3), (168, .aload_n 0, 1), (169, .bipush 6, 2), (171, .newarray .int, 2), (173, .putfield 89, 3), (176, .aload_n 0, 1), (177, .iconst (-1), 1), (178, .putfield 92, 3), (181, .aload_n 0, 1), (182, .iconst (-1), 1), (183, .putfield 96, 3), (186, .return_, 1)]
theorem zd_X11_init : zq_ckC cX11_init zc_X11_init = true := by decide +kernel
theorem zp_X11_init : zq_pn yX11_init 0 = true := by decide +kernel
set_option maxRecDepth 1000000 in
theorem zn_X11_init : Cond.instanceMethod yX11_init ∈ zt := zw_t1 (i := 24) rfl rfl
set_option maxRecDepth 1000000 in
theorem zk_X12_init : Cond.code yX12_init cX12_init 1 none ∈ zt := List.mem_filter.mpr ⟨List.mem_of_getElem? (i := 1156) (Eq.refl (some (Cond.code yX12_init cX12_init 1 none))), Eq.refl true⟩
noncomputable def zc_X12_init : zq_Cd := [(0, .aload_n 0, 1), (1, .invokespecial 22, 3), (4, .aload_n 0, 1), (5, .bipush 7, 2), (7, .newarray .int, 2), (9, .putfield 7, 3), (12, .aload_n 0, 1), (13, .sipush 5671, 3), (16, .newarray .int, 2), (18, .putfield 28, 3), (21, .aload_n 0, 1), (22, .sipush 11342, 3), (25, .newarray .int, 2), (27, .putfield 31, 3), (30, .aload_n 0, 1), (31, .iconst 2, 1), (32, .newarray .boolean, 2), (34, .putfield 34, 3), (37, .aload_n 0, 1), (38, .bipush 22, 2), (40, .newarray .int, 2), (42, .putfield 38, 3), (45, .aload_n 0, 1), (46, .sipush 141, 3), (49, .newarray .byte, 2), (51, .dup, 1), (52, .iconst 0, 1), (53, .bipush 97, 2), (55, .bastore, 1), (56, .dup, 1), (57, .iconst 1, 1), (58, .bipush 110, 2), (60, .bastore, 1), (61, .dup, 1), (62, .iconst 2, 1), (63, .bipush 115, 2), (65, .bastore, 1), (66, .dup, 1), (67, .iconst 3, 1), (68, .bipush 119, 2), (70, .bastore, 1), (71, .dup, 1), (72, .iconst 4, 1), (73, .bipush 101, 2), (75, .bastore, 1), (76, .dup, 1), (77, .iconst 5, 1), (78, .bipush 114, 2), (80, .bastore, 1), (81, .dup, 1), (82, .bipush 6, 2), (84, .bipush 115, 2), (86, .bastore, 1), (87, .dup, 1), (88, .bipush 7, 2), (90, .bipush 32, 2), (92, .bastore, 1), (93, .dup, 1), (94, .bipush 8, 2), (96, .bipush 111, 2), (98, .bastore, 1), (99, .dup, 1), (100, .bipush 9, 2), (102, .bipush 119, 2), (104, .bastore, 1), (105, .dup, 1), (106, .bipush 10, 2), (108, .bipush 101, 2), (110, .bastore, 1), (111, .dup, 1), (112, .bipush 11, 2), (114, .bipush 115, 2), (116, .bastore, 1), (117, .dup, 1), (118, .bipush 12, 2), (120, .bipush 32, 2), (122, .bastore, 1), (123, .dup, 1), (124, .bipush 13, 2), (126, .bipush 98, 2), (128, .bastore, 1), (129, .dup, 1), (130, .bipush 14, 2), (132, .bipush 97, 2), (134, .bastore, 1), (135, .dup, 1), (136, .bipush 15, 2), (138, .bipush 114, 2), (140, .bastore, 1), (141, .dup, 1), (142, .bipush 16, 2), (144, .bipush 115, 2), (146, .bastore, 1), (147, .dup, 1), (148, .bipush 17, 2), (150, .bipush 32, 2), (152, .bastore, 1), (153, .dup, 1), (154, .bipush 18, 2), (156, .bipush 105, 2), (158, .bastore, 1), (159, .dup, 1), (160, .bipush 19, 2), (162, .bipush 102, 2), (164, .bastore, 1), (165, .dup, 1), (166, .bipush 20, 2), (168, .bipush 32, 2), (170, .bastore, 1), (171, .dup, 1), (172, .bipush 21, 2), (174, .bipush 111, 2), (176, .bastore, 1), (177, .dup, 1), (178, .bipush 22, 2), (180, .bipush 114, 2), (182, .bastore, 1), (183, .dup, 1), (184, .bipush 23, 2), (186, .bipush 32, 2), (188, .bastore, 1), (189, .dup, 1), (190, .bipush 24, 2), (192, .bipush 97, 2), (194, .bastore, 1), (195, .dup, 1), (196, .bipush 25, 2), (198, .bipush 110, 2), (200, .bastore, 1), (201, .dup, 1), (202, .bipush 26, 2), (204, .bipush 100, 2), (206, .bastore, 1), (207, .dup, 1), (208, .bipush 27, 2), (210, .bipush 32, 2), (212, .bastore, 1), (213, .dup, 1), (214, .bipush 28, 2), (216, .bipush 110, 2), (218, .bastore, 1), (219, .dup, 1), (220, .bipush 29, 2), (222, .bipush 111, 2), (224, .bastore, 1), (225, .dup, 1), (226, .bipush 30, 2), (228, .bipush 116, 2), (230, .bastore, 1), (231, .dup, 1), (232, .bipush 31, 2), (234, .bipush 32, 2), (236, .bastore, 1), (237, .dup, 1), (238, .bipush 32, 2), (240, .bipush 100, 2), (242, .bastore, 1), (243, .dup, 1), (244, .bipush 33, 2), (246, .bipush 111, 2), (248, .bastore, 1), (249, .dup, 1), (250, .bipush 34, 2), (252, .bipush 101, 2), (254, .bastore, 1), (255, .dup, 1), (256, .bipush 35, 2), (258, .bipush 114, 2), (260, .bastore, 1), (261, .dup, 1), (262, .bipush 36, 2), (264, .bipush 32, 2), (266, .bastore, 1), (267, .dup, 1), (268, .bipush 37, 2), (270, .bipush 115, 2), (272, .bastore, 1), (273, .dup, 1), (274, .bipush 38, 2), (276, .bipush 105, 2), (278, .bastore, 1), (279, .dup, 1), (280, .bipush 39, 2), (282, .bipush 103, 2), (284, .bastore, 1), (285, .dup, 1), (286, .bipush 40, 2), (288, .bipush 110, 2), (290, .bastore, 1), (291, .dup, 1), (292, .bipush 41, 2), (294, .bipush 32, 2), (296, .bastore, 1), (297, .dup, 1), (298, .bipush 42, 2), (300, .bipush 107, 2), (302, .bastore, 1), (303, .dup, 1), (304, .bipush 43, 2), (306, .bipush 105, 2), (308, .bastore, 1), (309, .dup, 1), (310, .bipush 44, 2), (312, .bipush 110, 2), (314, .bastore, 1), (315, .dup, 1), (316, .bipush 45, 2), (318, .bipush 100, 2), (320, .bastore, 1), (321, .dup, 1), (322, .bipush 46, 2), (324, .bipush 32, 2), (326, .bastore, 1), (327, .dup, 1), (328, .bipush 47, 2), (330, .bipush 119, 2), (332, .bastore, 1), (333, .dup, 1), (334, .bipush 48, 2), (336, .bipush 111, 2), (338, .bastore, 1), (339, .dup, 1), (340, .bipush 49, 2), (342, .bipush 114, 2), (344, .bastore, 1), (345, .dup, 1), (346, .bipush 50, 2), (348, .bipush 116, 2), (350, .bastore, 1), (351, .dup, 1), (352, .bipush 51, 2), (354, .bipush 104, 2), (356, .bastore, 1), (357, .dup, 1), (358, .bipush 52, 2), (360, .bipush 32, 2), (362, .bastore, 1), (363, .dup, 1), (364, .bipush 53, 2), (366, .bipush 112, 2), (368, .bastore, 1), (369, .dup, 1), (370, .bipush 54, 2), (372, .bipush 108, 2), (374, .bastore, 1), (375, .dup, 1), (376, .bipush 55, 2), (378, .bipush 97, 2), (380, .bastore, 1), (381, .dup, 1), (382, .bipush 56, 2), (384, .bipush 99, 2), (386, .bastore, 1), (387, .dup, 1), (388, .bipush 57, 2), (390, .bipush 101, 2), (392, .bastore, 1), (393, .dup, 1), (394, .bipush 58, 2), (396, .bipush 32, 2), (398, .bastore, 1), (399, .dup, 1), (400, .bipush 59, 2), (402, .bipush 100, 2), (404, .bastore, 1), (405, .dup, 1), (406, .bipush 60, 2), (408, .bipush 97, 2), (410, .bastore, 1), (411, .dup, 1), (412, .bipush 61, 2), (414, .bipush 116, 2), (416, .bastore, 1), (417, .dup, 1), (418, .bipush 62, 2), (420, .bipush 101, 2), (422, .bastore, 1), (423, .dup, 1), (424, .bipush 63, 2), (426, .bipush 32, 2), (428, .bastore, 1), (429, .dup, 1), (430, .bipush 64, 2), (432, .bipush 119, 2), (434, .bastore, 1), (435, .dup, 1), (436, .bipush 65, 2), (438, .bipush 101, 2), (440, .bastore, 1), (441, .dup, 1), (442, .bipush 66, 2), (444, .bipush 101, 2), (446, .bastore, 1), (447, .dup, 1), (448, .bipush 67, 2), (450, .bipush 107, 2), (452, .bastore, 1), (453, .dup, 1), (454, .bipush 68, 2), (456, .bipush 32, 2), (458, .bastore, 1), (459, .dup, 1), (460, .bipush 69, 2), (462, .bipush 109, 2), (464, .bastore, 1), (465, .dup, 1), (466, .bipush 70, 2), (468, .bipush 111, 2), (470, .bastore, 1), (471, .dup, 1), (472, .bipush 71, 2), (474, .bipush 111, 2), (476, .bastore, 1), (477, .dup, 1), (478, .bipush 72, 2), (480, .bipush 100, 2), (482, .bastore, 1), (483, .dup, 1), (484, .bipush 73, 2), (486, .bipush 32, 2), (488, .bastore, 1), (489, .dup, 1), (490, .bipush 74, 2), (492, .bipush 100, 2), (494, .bastore, 1), (495, .dup, 1), (496, .bipush 75, 2), (498, .bipush 97, 2), (500, .bastore, 1), (501, .dup, 1), (502, .bipush 76, 2), (504, .bipush 121, 2), (506, .bastore, 1), (507, .dup, 1), (508, .bipush 77, 2), (510, .bipush 32, 2), (512, .bastore, 1), (513, .dup, 1), (514, .bipush 78, 2), (516, .bipush 100, 2), (518, .bastore, 1), (519, .dup, 1), (520, .bipush 79, 2), (522, .bipush 111, 2), (524, .bastore, 1), (525, .dup, 1), (526, .bipush 80, 2), (528, .bipush 110, 2), (530, .bastore, 1), (531, .dup, 1), (532, .bipush 81, 2), (534, .bipush 101, 2), (536, .bastore, 1), (537, .dup, 1), (538, .bipush 82, 2), (540, .bipush 32, 2), (542, .bastore, 1), (543, .dup, 1), (544, .bipush 83, 2), (546, .bipush 108, 2), (548, .bastore, 1), (549, .dup, 1), (550, .bipush 84, 2), (552, .bipush 97, 2), (554, .bastore, 1), (555, .dup, 1), (556, .bipush 85, 2), (558, .bipush 116, 2), (560, .bastore, 1), (561, .dup, 1), (562, .bipush 86, 2), (564, .bipush 101, 2), (566, .bastore, 1), (567, .dup, 1), (568, .bipush 87, 2), (570, .bipush 115, 2), (572, .bastore, 1), (573, .dup, 1), (574, .bipush 88, 2), (576, .bipush 116, 2), (578, .bastore, 1), (579, .dup, 1), (580, .bipush 89, 2), (582, .bipush 32, 2), (584, .bastore, 1), (585, .dup, 1), (586, .bipush 90, 2), (588, .bipush 101, 2), (590, .bastore, 1), (591, .dup, 1), (592, .bipush 91, 2), (594, .bipush 118, 2), (596, .bastore, 1), (597, .dup, 1), (598, .bipush 92, 2), (600, .bipush 101, 2), (602, .bastore, 1), (603, .dup, 1), (604, .bipush 93, 2), (606, .bipush 110, 2), (608, .bastore, 1), (609, .dup, 1), (610, .bipush 94, 2), (612, .bipush 32, 2), (614, .bastore, 1), (615, .dup, 1), (616, .bipush 95, 2), (618, .bipush 98, 2), (620, .bastore, 1), (621, .dup, 1), (622, .bipush 96, 2), (624, .bipush 97, 2), (626, .bastore, 1), (627, .dup, 1), (628, .bipush 97, 2), (630, .bipush 108, 2), (632, .bastore, 1), (633, .dup, 1), (634, .bipush 98, 2), (636, .bipush 97, 2), (638, .bastore, 1), (639, .dup, 1), (640, .bipush 99, 2), (642, .bipush 110, 2), (644, .bastore, 1), (645, .dup, 1), (646, .bipush 100, 2), (648, .bipush 99, 2), (650, .bastore, 1), (651, .dup, 1), (652, .bipush 101, 2), (654, .bipush 101, 2), (656, .bastore, 1), (657, .dup, 1), (658, .bipush 102, 2), (660, .bipush 32, 2), (662, .bastore, 1), (663, .dup, 1), (664, .bipush 103, 2), (666, .bipush 99, 2), (668, .bastore, 1), (669, .dup, 1), (670, .bipush 104, 2), (672, .bipush 108, 2), (674, .bastore, 1), (675, .dup, 1), (676, .bipush 105, 2), (678, .bipush 111, 2), (680, .bastore, 1), (681, .dup, 1), (682, .bipush 106, 2), (684, .bipush 99, 2), (686, .bastore, 1), (687, .dup, 1), (688, .bipush 107, 2), (690, .bipush 107, 2), (692, .bastore, 1), (693, .dup, 1), (694, .bipush 108, 2), (696, .bipush 32, 2), (698, .bastore, 1), (699, .dup, 1), (700, .bipush 109, 2), (702, .bipush 100, 2), (704, .bastore, 1), (705, .dup, 1), (706, .bipush 110, 2), (708, .bipush 111, 2), (710, .bastore, 1), (711, .dup, 1), (712, .bipush 111, 2), (714, .bipush 32, 2), (716, .bastore, 1), (717, .dup, 1), (718, .bipush 112, 2), (720, .bipush 98, 2), (722, .bastore, 1), (723, .dup, 1), (724, .bipush 113, 2), (726, .bipush 121, 2), (728, .bastore, 1), (729, .dup, 1), (730, .bipush 114, 2), (732, .bipush 32, 2), (734, .bastore, 1), (735, .dup, 1), (736, .bipush 115, 2), (738, .bipush 97, 2), (740, .bastore, 1), (741, .dup, 1), (742, .bipush 116, 2), (744, .bipush 116, 2), (746, .bastore, 1), (747, .dup, 1), (748, .bipush 117, 2), (750, .bipush 32, 2), (752, .bastore, 1), (753, .dup, 1), (754, .bipush 118, 2), (756, .bipush 112, 2), (758, .bastore, 1), (759, .dup, 1), (760, .bipush 119, 2), (762, .bipush 97, 2), (764, .bastore, 1), (765, .dup, 1), (766, .bipush 120, 2), (768, .bipush 121, 2), (770, .bastore, 1), (771, .dup, 1), (772, .bipush 121, 2), (774, .bipush 32, 2), (776, .bastore, 1), (777, .dup, 1), (778, .bipush 122, 2), (780, .bipush 116, 2), (782, .bastore, 1), (783, .dup, 1), (784, .bipush 123, 2), (786, .bipush 111, 2), (788, .bastore, 1), (789, .dup, 1), (790, .bipush 124, 2), (792, .bipush 32, 2), (794, .bastore, 1), (795, .dup, 1), (796, .bipush 125, 2), (798, .bipush 119, 2), (800, .bastore, 1), (801, .dup, 1), (802, .bipush 126, 2), (804, .bipush 105, 2), (806, .bastore, 1), (807, .dup, 1), (808, .bipush 127, 2), (810, .bipush 110, 2), (812, .bastore, 1), (813, .dup, 1), (814, .sipush 128, 3), (817, .bipush 100, 2), (819, .bastore, 1), (820, .dup, 1), (821, .sipush 129, 3), (824, .bipush 32, 2), (826, .bastore, 1), (827, .dup, 1), (828, .sipush 130, 3), (831, .bipush 112, 2), (833, .bastore, 1), (834, .dup, 1), (835, .sipush 131, 3), (838, .bipush 97, 2), (840, .bastore, 1), (841, .dup, 1), (842, .sipush 132, 3), (845, .bipush 115, 2), (847, .bastore, 1), (848, .dup, 1), (849, .sipush 133, 3), (852, .bipush 115, 2), (854, .bastore, 1), (855, .dup, 1), (856, .sipush 134, 3), (859, .bipush 32, 2), (861, .bastore, 1), (862, .dup, 1), (863, .sipush 135, 3), (866, .bipush 116, 2), (868, .bastore, 1), (869, .dup, 1), (870, .sipush 136, 3), (873, .bipush 105, 2), (875, .bastore, 1), (876, .dup, 1), (877, .sipush 137, 3), (880, .bipush 109, 2), (882, .bastore, 1), (883, .dup, 1), (884, .sipush 138, 3), (887, .bipush 101, 2), (889, .bastore, 1), (890, .dup, 1), (891, .sipush 139, 3), (894, .bipush 115, 2), (896, .bastore, 1), (897, .dup, 1), (898, .sipush 140, 3), (901, .bipush 32, 2), (903, .bastore, 1), (904, .putfield 41, 3), (907, .aload_n 0, 1), (908, .sipush 400, 3), (911, .newarray .byte, 2), (913, .putfield 45, 3), (916, .aload_n 0, 1), (917, .iconst 5, 1), (918, .newarray .int, 2), (920, .putfield 48, 3), (923, .aload_n 0, 1), (924, .iconst (-1), 1), (925, .putfield 51, 3), (928, .aload_n 0, 1), (929, .sipush 401, 3), (932, .newarray .int, 2), (934, .putfield 54, 3), (937, .aload_n 0, 1), (938, .sipush 401, 3), (941, .newarray .int, 2), (943, .putfield 57, 3), (946, .aload_n 0, 1), (947, .sipush 401, 3), (950, .newarray .int, 2), (952, .putfield 60, 3), (955, .aload_n 0, 1), (956, .bipush 8, 2), (958, .newarray .int, 2), (960, .putfield 63, 3), (963, .aload_n 0, 1), (964, .sipush 192, 3), (967, .newarray .int, 2), (969, .putfield 66, 3), (972, .aload_n 0, 1), (973, .sipush 192, 3), (976, .newarray .int, 2), (978, .putfield 69, 3), (981, .aload_n 0, 1), (982, .bipush 120, 2), (984, .newarray .int, 2), (986, .putfield 72, 3), (989, .aload_n 0, 1), (990, .bipush 60, 2), (992, .newarray .boolean, 2), (994, .putfield 75, 3), (997, .aload_n 0, 1), (998, .bipush 6, 2), (1000, .newarray .int, 2), (1002, .putfield 78, 3), (1005, .aload_n 0, 1), (1006, .bipush 84, 2), (1008, .newarray .int, 2), (1010, .putfield 81, 3), (1013, .aload_n 0, 1), (1014, .bipush 64, 2), (1016, .newarray .int, 2), (1018, .putfield 84, 3), (1021, .aload_n 0, 1), (1022, .bipush 8, 2), (1024, .newarray .int, 2), (1026, .putfield 87, 3), (1029, .aload_n 0, 1), (1030, .bipush 6, 2), (1032, .newarray .int, 2), (1034, .putfield 90, 3), (1037, .aload_n 0, 1), (1038, .bipush 21, 2), (1040, .newarray .long, 2), (1042, .putfield 93, 3), (1045, .aload_n 0, 1), (1046, .iconst (-1), 1), (1047, .putfield 97, 3), (1050, .aload_n 0, 1), (1051, .iconst 3, 1), (1052, .newarray .long, 2), (1054, .putfield 100, 3), (1057, .aload_n 0, 1), (1058, .bipush 11, 2), (1060, .newarray .int, 2), (1062, .putfield 103, 3), (1065, .aload_n 0, 1), (1066, .iconst (-1), 1), (1067, .putfield 106, 3), (1070, .aload_n 0, 1), (1071, .getfield 28, 3), (1074, .bipush 57, 2), (1076, .iconst 1, 1), (1077, .iastore, 1), (1078, .aload_n 0, 1), (1079, .getfield 28, 3), (1082, .bipush 63, 2), (1084, .iconst (-1), 1), (1085, .iastore, 1), (1086, .return_, 1)]
noncomputable def zc_X12_init_0 : zq_Cd := [(0, .aload_n 0, 1), (1, .invokespecial 22, 3), (4, .aload_n 0, 1), (5, .bipush 7, 2), (7, .newarray .int, 2), (9, .putfield 7, 3), (12, .aload_n 0, 1), (13, .sipush 5671, 3), (16, .newarray .int, 2), (18, .putfield 28, 3), (21, .aload_n 0, 1), (22, .sipush 11342, 3), (25, .newarray .int, 2), (27, .putfield 31, 3), (30, .aload_n 0, 1), (31, .iconst 2, 1), (32, .newarray .boolean, 2), (34, .putfield 34, 3), (37, .aload_n 0, 1), (38, .bipush 22, 2), (40, .newarray .int, 2), (42, .putfield 38, 3), (45, .aload_n 0, 1), (46, .sipush 141, 3), (49, .newarray .byte, 2), (51, .dup, 1), (52, .iconst 0, 1), (53, .bipush 97, 2), (55, .bastore, 1), (56, .dup, 1), (57, .iconst 1, 1), (58, .bipush 110, 2), (60, .bastore, 1), (61, .dup, 1), (62, .iconst 2, 1), (63, .bipush 115, 2), (65, .bastore, 1), (66, .dup, 1), (67, .iconst 3, 1), (68, .bipush 119, 2)]
theorem zd_X12_init_0 : zq_ckC cX12_init zc_X12_init_0 = true := by decide +kernel
noncomputable def zc_X12_init_1 : zq_Cd := [(70, .bastore, 1), (71, .dup, 1), (72, .iconst 4, 1), (73, .bipush 101, 2), (75, .bastore, 1), (76, .dup, 1), (77, .iconst 5, 1), (78, .bipush 114, 2), (80, .bastore, 1), (81, .dup, 1), (82, .bipush 6, 2), (84, .bipush 115, 2), (86, .bastore, 1), (87, .dup, 1), (88, .bipush 7, 2), (90, .bipush 32, 2), (92, .bastore, 1), (93, .dup, 1), (94, .bipush 8, 2), (96, .bipush 111, 2), (98, .bastore, 1), (99, .dup, 1), (100, .bipush 9, 2), (102, .bipush 119, 2), (104, .bastore, 1), (105, .dup, 1), (106, .bipush 10, 2), (108, .bipush 101, 2), (110, .bastore, 1), (111, .dup, 1), (112, .bipush 11, 2), (114, .bipush 115, 2), (116, .bastore, 1), (117, .dup, 1), (118, .bipush 12, 2), (120, .bipush 32, 2), (122, .bastore, 1), (123, .dup, 1), (124, .bipush 13, 2), (126, .bipush 98, 2)]
theorem zd_X12_init_1 : zq_ckC cX12_init zc_X12_init_1 = true := by decide +kernel
noncomputable def zc_X12_init_2 : zq_Cd := [(128, .bastore, 1), (129, .dup, 1), (130, .bipush 14, 2), (132, .bipush 97, 2), (134, .bastore, 1), (135, .dup, 1), (136, .bipush 15, 2), (138, .bipush 114, 2), (140, .bastore, 1), (141, .dup, 1), (142, .bipush 16, 2), (144, .bipush 115, 2), (146, .bastore, 1), (147, .dup, 1), (148, .bipush 17, 2), (150, .bipush 32, 2), (152, .bastore, 1), (153, .dup, 1), (154, .bipush 18, 2), (156, .bipush 105, 2), (158, .bastore, 1), (159, .dup, 1), (160, .bipush 19, 2), (162, .bipush 102, 2), (164, .bastore, 1), (165, .dup, 1), (166, .bipush 20, 2), (168, .bipush 32, 2), (170, .bastore, 1), (171, .dup, 1), (172, .bipush 21, 2), (174, .bipush 111, 2), (176, .bastore, 1), (177, .dup, 1), (178, .bipush 22, 2), (180, .bipush 114, 2), (182, .bastore, 1), (183, .dup, 1), (184, .bipush 23, 2), (186, .bipush 32, 2)]
theorem zd_X12_init_2 : zq_ckC cX12_init zc_X12_init_2 = true := by decide +kernel
noncomputable def zc_X12_init_3 : zq_Cd := [(188, .bastore, 1), (189, .dup, 1), (190, .bipush 24, 2), (192, .bipush 97, 2), (194, .bastore, 1), (195, .dup, 1), (196, .bipush 25, 2), (198, .bipush 110, 2), (200, .bastore, 1), (201, .dup, 1), (202, .bipush 26, 2), (204, .bipush 100, 2), (206, .bastore, 1), (207, .dup, 1), (208, .bipush 27, 2), (210, .bipush 32, 2), (212, .bastore, 1), (213, .dup, 1), (214, .bipush 28, 2), (216, .bipush 110, 2), (218, .bastore, 1), (219, .dup, 1), (220, .bipush 29, 2), (222, .bipush 111, 2), (224, .bastore, 1), (225, .dup, 1), (226, .bipush 30, 2), (228, .bipush 116, 2), (230, .bastore, 1), (231, .dup, 1), (232, .bipush 31, 2), (234, .bipush 32, 2), (236, .bastore, 1), (237, .dup, 1), (238, .bipush 32, 2), (240, .bipush 100, 2), (242, .bastore, 1), (243, .dup, 1), (244, .bipush 33, 2), (246, .bipush 111, 2)]
theorem zd_X12_init_3 : zq_ckC cX12_init zc_X12_init_3 = true := by decide +kernel
noncomputable def zc_X12_init_4 : zq_Cd := [(248, .bastore, 1), (249, .dup, 1), (250, .bipush 34, 2), (252, .bipush 101, 2), (254, .bastore, 1), (255, .dup, 1), (256, .bipush 35, 2), (258, .bipush 114, 2), (260, .bastore, 1), (261, .dup, 1), (262, .bipush 36, 2), (264, .bipush 32, 2), (266, .bastore, 1), (267, .dup, 1), (268, .bipush 37, 2), (270, .bipush 115, 2), (272, .bastore, 1), (273, .dup, 1), (274, .bipush 38, 2), (276, .bipush 105, 2), (278, .bastore, 1), (279, .dup, 1), (280, .bipush 39, 2), (282, .bipush 103, 2), (284, .bastore, 1), (285, .dup, 1), (286, .bipush 40, 2), (288, .bipush 110, 2), (290, .bastore, 1), (291, .dup, 1), (292, .bipush 41, 2), (294, .bipush 32, 2), (296, .bastore, 1), (297, .dup, 1), (298, .bipush 42, 2), (300, .bipush 107, 2), (302, .bastore, 1), (303, .dup, 1), (304, .bipush 43, 2), (306, .bipush 105, 2)]
theorem zd_X12_init_4 : zq_ckC cX12_init zc_X12_init_4 = true := by decide +kernel
noncomputable def zc_X12_init_5 : zq_Cd := [(308, .bastore, 1), (309, .dup, 1), (310, .bipush 44, 2), (312, .bipush 110, 2), (314, .bastore, 1), (315, .dup, 1), (316, .bipush 45, 2), (318, .bipush 100, 2), (320, .bastore, 1), (321, .dup, 1), (322, .bipush 46, 2), (324, .bipush 32, 2), (326, .bastore, 1), (327, .dup, 1), (328, .bipush 47, 2), (330, .bipush 119, 2), (332, .bastore, 1), (333, .dup, 1), (334, .bipush 48, 2), (336, .bipush 111, 2), (338, .bastore, 1), (339, .dup, 1), (340, .bipush 49, 2), (342, .bipush 114, 2), (344, .bastore, 1), (345, .dup, 1), (346, .bipush 50, 2), (348, .bipush 116, 2), (350, .bastore, 1), (351, .dup, 1), (352, .bipush 51, 2), (354, .bipush 104, 2), (356, .bastore, 1), (357, .dup, 1), (358, .bipush 52, 2), (360, .bipush 32, 2), (362, .bastore, 1), (363, .dup, 1), (364, .bipush 53, 2), (366, .bipush 112, 2)]
theorem zd_X12_init_5 : zq_ckC cX12_init zc_X12_init_5 = true := by decide +kernel
noncomputable def zc_X12_init_6 : zq_Cd := [(368, .bastore, 1), (369, .dup, 1), (370, .bipush 54, 2), (372, .bipush 108, 2), (374, .bastore, 1), (375, .dup, 1), (376, .bipush 55, 2), (378, .bipush 97, 2), (380, .bastore, 1), (381, .dup, 1), (382, .bipush 56, 2), (384, .bipush 99, 2), (386, .bastore, 1), (387, .dup, 1), (388, .bipush 57, 2), (390, .bipush 101, 2), (392, .bastore, 1), (393, .dup, 1), (394, .bipush 58, 2), (396, .bipush 32, 2), (398, .bastore, 1), (399, .dup, 1), (400, .bipush 59, 2), (402, .bipush 100, 2), (404, .bastore, 1), (405, .dup, 1), (406, .bipush 60, 2), (408, .bipush 97, 2), (410, .bastore, 1), (411, .dup, 1), (412, .bipush 61, 2), (414, .bipush 116, 2), (416, .bastore, 1), (417, .dup, 1), (418, .bipush 62, 2), (420, .bipush 101, 2), (422, .bastore, 1), (423, .dup, 1), (424, .bipush 63, 2), (426, .bipush 32, 2)]
theorem zd_X12_init_6 : zq_ckC cX12_init zc_X12_init_6 = true := by decide +kernel
noncomputable def zc_X12_init_7 : zq_Cd := [(428, .bastore, 1), (429, .dup, 1), (430, .bipush 64, 2), (432, .bipush 119, 2), (434, .bastore, 1), (435, .dup, 1), (436, .bipush 65, 2), (438, .bipush 101, 2), (440, .bastore, 1), (441, .dup, 1), (442, .bipush 66, 2), (444, .bipush 101, 2), (446, .bastore, 1), (447, .dup, 1), (448, .bipush 67, 2), (450, .bipush 107, 2), (452, .bastore, 1), (453, .dup, 1), (454, .bipush 68, 2), (456, .bipush 32, 2), (458, .bastore, 1), (459, .dup, 1), (460, .bipush 69, 2), (462, .bipush 109, 2), (464, .bastore, 1), (465, .dup, 1), (466, .bipush 70, 2), (468, .bipush 111, 2), (470, .bastore, 1), (471, .dup, 1), (472, .bipush 71, 2), (474, .bipush 111, 2), (476, .bastore, 1), (477, .dup, 1), (478, .bipush 72, 2), (480, .bipush 100, 2), (482, .bastore, 1), (483, .dup, 1), (484, .bipush 73, 2), (486, .bipush 32, 2)]
theorem zd_X12_init_7 : zq_ckC cX12_init zc_X12_init_7 = true := by decide +kernel
noncomputable def zc_X12_init_8 : zq_Cd := [(488, .bastore, 1), (489, .dup, 1), (490, .bipush 74, 2), (492, .bipush 100, 2), (494, .bastore, 1), (495, .dup, 1), (496, .bipush 75, 2), (498, .bipush 97, 2), (500, .bastore, 1), (501, .dup, 1), (502, .bipush 76, 2), (504, .bipush 121, 2), (506, .bastore, 1), (507, .dup, 1), (508, .bipush 77, 2), (510, .bipush 32, 2), (512, .bastore, 1), (513, .dup, 1), (514, .bipush 78, 2), (516, .bipush 100, 2), (518, .bastore, 1), (519, .dup, 1), (520, .bipush 79, 2), (522, .bipush 111, 2), (524, .bastore, 1), (525, .dup, 1), (526, .bipush 80, 2), (528, .bipush 110, 2), (530, .bastore, 1), (531, .dup, 1), (532, .bipush 81, 2), (534, .bipush 101, 2), (536, .bastore, 1), (537, .dup, 1), (538, .bipush 82, 2), (540, .bipush 32, 2), (542, .bastore, 1), (543, .dup, 1), (544, .bipush 83, 2), (546, .bipush 108, 2)]
theorem zd_X12_init_8 : zq_ckC cX12_init zc_X12_init_8 = true := by decide +kernel
noncomputable def zc_X12_init_9 : zq_Cd := [(548, .bastore, 1), (549, .dup, 1), (550, .bipush 84, 2), (552, .bipush 97, 2), (554, .bastore, 1), (555, .dup, 1), (556, .bipush 85, 2), (558, .bipush 116, 2), (560, .bastore, 1), (561, .dup, 1), (562, .bipush 86, 2), (564, .bipush 101, 2), (566, .bastore, 1), (567, .dup, 1), (568, .bipush 87, 2), (570, .bipush 115, 2), (572, .bastore, 1), (573, .dup, 1), (574, .bipush 88, 2), (576, .bipush 116, 2), (578, .bastore, 1), (579, .dup, 1), (580, .bipush 89, 2), (582, .bipush 32, 2), (584, .bastore, 1), (585, .dup, 1), (586, .bipush 90, 2), (588, .bipush 101, 2), (590, .bastore, 1), (591, .dup, 1), (592, .bipush 91, 2), (594, .bipush 118, 2), (596, .bastore, 1), (597, .dup, 1), (598, .bipush 92, 2), (600, .bipush 101, 2), (602, .bastore, 1), (603, .dup, 1), (604, .bipush 93, 2), (606, .bipush 110, 2)]
theorem zd_X12_init_9 : zq_ckC cX12_init zc_X12_init_9 = true := by decide +kernel
noncomputable def zc_X12_init_10 : zq_Cd := [(608, .bastore, 1), (609, .dup, 1), (610, .bipush 94, 2), (612, .bipush 32, 2), (614, .bastore, 1), (615, .dup, 1), (616, .bipush 95, 2), (618, .bipush 98, 2), (620, .bastore, 1), (621, .dup, 1), (622, .bipush 96, 2), (624, .bipush 97, 2), (626, .bastore, 1), (627, .dup, 1), (628, .bipush 97, 2), (630, .bipush 108, 2), (632, .bastore, 1), (633, .dup, 1), (634, .bipush 98, 2), (636, .bipush 97, 2), (638, .bastore, 1), (639, .dup, 1), (640, .bipush 99, 2), (642, .bipush 110, 2), (644, .bastore, 1), (645, .dup, 1), (646, .bipush 100, 2), (648, .bipush 99, 2), (650, .bastore, 1), (651, .dup, 1), (652, .bipush 101, 2), (654, .bipush 101, 2), (656, .bastore, 1), (657, .dup, 1), (658, .bipush 102, 2), (660, .bipush 32, 2), (662, .bastore, 1), (663, .dup, 1), (664, .bipush 103, 2), (666, .bipush 99, 2)]
theorem zd_X12_init_10 : zq_ckC cX12_init zc_X12_init_10 = true := by decide +kernel
noncomputable def zc_X12_init_11 : zq_Cd := [(668, .bastore, 1), (669, .dup, 1), (670, .bipush 104, 2), (672, .bipush 108, 2), (674, .bastore, 1), (675, .dup, 1), (676, .bipush 105, 2), (678, .bipush 111, 2), (680, .bastore, 1), (681, .dup, 1), (682, .bipush 106, 2), (684, .bipush 99, 2), (686, .bastore, 1), (687, .dup, 1), (688, .bipush 107, 2), (690, .bipush 107, 2), (692, .bastore, 1), (693, .dup, 1), (694, .bipush 108, 2), (696, .bipush 32, 2), (698, .bastore, 1), (699, .dup, 1), (700, .bipush 109, 2), (702, .bipush 100, 2), (704, .bastore, 1), (705, .dup, 1), (706, .bipush 110, 2), (708, .bipush 111, 2), (710, .bastore, 1), (711, .dup, 1), (712, .bipush 111, 2), (714, .bipush 32, 2), (716, .bastore, 1), (717, .dup, 1), (718, .bipush 112, 2), (720, .bipush 98, 2), (722, .bastore, 1), (723, .dup, 1), (724, .bipush 113, 2), (726, .bipush 121, 2)]
theorem zd_X12_init_11 : zq_ckC cX12_init zc_X12_init_11 = true := by decide +kernel
noncomputable def zc_X12_init_12 : zq_Cd := [(728, .bastore, 1), (729, .dup, 1), (730, .bipush 114, 2), (732, .bipush 32, 2), (734, .bastore, 1), (735, .dup, 1), (736, .bipush 115, 2), (738, .bipush 97, 2), (740, .bastore, 1), (741, .dup, 1), (742, .bipush 116, 2), (744, .bipush 116, 2), (746, .bastore, 1), (747, .dup, 1), (748, .bipush 117, 2), (750, .bipush 32, 2), (752, .bastore, 1), (753, .dup, 1), (754, .bipush 118, 2), (756, .bipush 112, 2), (758, .bastore, 1), (759, .dup, 1), (760, .bipush 119, 2), (762, .bipush 97, 2), (764, .bastore, 1), (765, .dup, 1), (766, .bipush 120, 2), (768, .bipush 121, 2), (770, .bastore, 1), (771, .dup, 1), (772, .bipush 121, 2), (774, .bipush 32, 2), (776, .bastore, 1), (777, .dup, 1), (778, .bipush 122, 2), (780, .bipush 116, 2), (782, .bastore, 1), (783, .dup, 1), (784, .bipush 123, 2), (786, .bipush 111, 2)]
theorem zd_X12_init_12 : zq_ckC cX12_init zc_X12_init_12 = true := by decide +kernel
noncomputable def zc_X12_init_13 : zq_Cd := [(788, .bastore, 1), (789, .dup, 1), (790, .bipush 124, 2), (792, .bipush 32, 2), (794, .bastore, 1), (795, .dup, 1), (796, .bipush 125, 2), (798, .bipush 119, 2), (800, .bastore, 1), (801, .dup, 1), (802, .bipush 126, 2), (804, .bipush 105, 2), (806, .bastore, 1), (807, .dup, 1), (808, .bipush 127, 2), (810, .bipush 110, 2), (812, .bastore, 1), (813, .dup, 1), (814, .sipush 128, 3), (817, .bipush 100, 2), (819, .bastore, 1), (820, .dup, 1), (821, .sipush 129, 3), (824, .bipush 32, 2), (826, .bastore, 1), (827, .dup, 1), (828, .sipush 130, 3), (831, .bipush 112, 2), (833, .bastore, 1), (834, .dup, 1), (835, .sipush 131, 3), (838, .bipush 97, 2), (840, .bastore, 1), (841, .dup, 1), (842, .sipush 132, 3), (845, .bipush 115, 2), (847, .bastore, 1), (848, .dup, 1), (849, .sipush 133, 3), (852, .bipush 115, 2)]
theorem zd_X12_init_13 : zq_ckC cX12_init zc_X12_init_13 = true := by decide +kernel
noncomputable def zc_X12_init_14 : zq_Cd := [(854, .bastore, 1), (855, .dup, 1), (856, .sipush 134, 3), (859, .bipush 32, 2), (861, .bastore, 1), (862, .dup, 1), (863, .sipush 135, 3), (866, .bipush 116, 2), (868, .bastore, 1), (869, .dup, 1), (870, .sipush 136, 3), (873, .bipush 105, 2), (875, .bastore, 1), (876, .dup, 1), (877, .sipush 137, 3), (880, .bipush 109, 2), (882, .bastore, 1), (883, .dup, 1), (884, .sipush 138, 3), (887, .bipush 101, 2), (889, .bastore, 1), (890, .dup, 1), (891, .sipush 139, 3), (894, .bipush 115, 2), (896, .bastore, 1), (897, .dup, 1), (898, .sipush 140, 3), (901, .bipush 32, 2), (903, .bastore, 1), (904, .putfield 41, 3), (907, .aload_n 0, 1), (908, .sipush 400, 3), (911, .newarray .byte, 2), (913, .putfield 45, 3), (916, .aload_n 0, 1), (917, .iconst 5, 1), (918, .newarray .int, 2), (920, .putfield 48, 3), (923, .aload_n 0, 1), (924, .iconst (-1), 1)]
theorem zd_X12_init_14 : zq_ckC cX12_init zc_X12_init_14 = true := by decide +kernel
noncomputable def zc_X12_init_15 : zq_Cd := [(925, .putfield 51, 3), (928, .aload_n 0, 1), (929, .sipush 401, 3), (932, .newarray .int, 2), (934, .putfield 54, 3), (937, .aload_n 0, 1), (938, .sipush 401, 3), (941, .newarray .int, 2), (943, .putfield 57, 3), (946, .aload_n 0, 1), (947, .sipush 401, 3), (950, .newarray .int, 2), (952, .putfield 60, 3), (955, .aload_n 0, 1), (956, .bipush 8, 2), (958, .newarray .int, 2), (960, .putfield 63, 3), (963, .aload_n 0, 1), (964, .sipush 192, 3), (967, .newarray .int, 2), (969, .putfield 66, 3), (972, .aload_n 0, 1), (973, .sipush 192, 3), (976, .newarray .int, 2), (978, .putfield 69, 3), (981, .aload_n 0, 1), (982, .bipush 120, 2), (984, .newarray .int, 2), (986, .putfield 72, 3), (989, .aload_n 0, 1), (990, .bipush 60, 2), (992, .newarray .boolean, 2), (994, .putfield 75, 3), (997, .aload_n 0, 1), (998, .bipush 6, 2), (1000, .newarray .int, 2), (1002, .putfield 78, 3), (1005, .aload_n 0, 1), (1006, .bipush 84, 2), (1008, .newarray .int, 2)]
theorem zd_X12_init_15 : zq_ckC cX12_init zc_X12_init_15 = true := by decide +kernel
noncomputable def zc_X12_init_16 : zq_Cd := [(1010, .putfield 81, 3), (1013, .aload_n 0, 1), (1014, .bipush 64, 2), (1016, .newarray .int, 2), (1018, .putfield 84, 3), (1021, .aload_n 0, 1), (1022, .bipush 8, 2), (1024, .newarray .int, 2), (1026, .putfield 87, 3), (1029, .aload_n 0, 1), (1030, .bipush 6, 2), (1032, .newarray .int, 2), (1034, .putfield 90, 3), (1037, .aload_n 0, 1), (1038, .bipush 21, 2), (1040, .newarray .long, 2), (1042, .putfield 93, 3), (1045, .aload_n 0, 1), (1046, .iconst (-1), 1), (1047, .putfield 97, 3), (1050, .aload_n 0, 1), (1051, .iconst 3, 1), (1052, .newarray .long, 2), (1054, .putfield 100, 3), (1057, .aload_n 0, 1), (1058, .bipush 11, 2), (1060, .newarray .int, 2), (1062, .putfield 103, 3), (1065, .aload_n 0, 1), (1066, .iconst (-1), 1), (1067, .putfield 106, 3), (1070, .aload_n 0, 1), (1071, .getfield 28, 3), (1074, .bipush 57, 2), (1076, .iconst 1, 1), (1077, .iastore, 1), (1078, .aload_n 0, 1), (1079, .getfield 28, 3), (1082, .bipush 63, 2), (1084, .iconst (-1), 1)]
theorem zd_X12_init_16 : zq_ckC cX12_init zc_X12_init_16 = true := by decide +kernel
noncomputable def zc_X12_init_17 : zq_Cd := [(1085, .iastore, 1), (1086, .return_, 1)]
theorem zd_X12_init_17 : zq_ckC cX12_init zc_X12_init_17 = true := by decide +kernel
set_option maxRecDepth 1000000 in
theorem zd_X12_init : zq_ckC cX12_init zc_X12_init = true := show zq_ckC cX12_init (zc_X12_init_0 ++ (zc_X12_init_1 ++ (zc_X12_init_2 ++ (zc_X12_init_3 ++ (zc_X12_init_4 ++ (zc_X12_init_5 ++ (zc_X12_init_6 ++ (zc_X12_init_7 ++ (zc_X12_init_8 ++ (zc_X12_init_9 ++ (zc_X12_init_10 ++ (zc_X12_init_11 ++ (zc_X12_init_12 ++ (zc_X12_init_13 ++ (zc_X12_init_14 ++ (zc_X12_init_15 ++ (zc_X12_init_16 ++ (zc_X12_init_17)))))))))))))))))) = true from zq_ckC_app zd_X12_init_0 (zq_ckC_app zd_X12_init_1 (zq_ckC_app zd_X12_init_2 (zq_ckC_app zd_X12_init_3 (zq_ckC_app zd_X12_init_4 (zq_ckC_app zd_X12_init_5 (zq_ckC_app zd_X12_init_6 (zq_ckC_app zd_X12_init_7 (zq_ckC_app zd_X12_init_8 (zq_ckC_app zd_X12_init_9 (zq_ckC_app zd_X12_init_10 (zq_ckC_app zd_X12_init_11 (zq_ckC_app zd_X12_init_12 (zq_ckC_app zd_X12_init_13 (zq_ckC_app zd_X12_init_14 (zq_ckC_app zd_X12_init_15 (zq_ckC_app zd_X12_init_16 (zd_X12_init_17)))))))))))))))))
theorem zp_X12_init : zq_pn yX12_init 0 = true := by decide +kernel
set_option maxRecDepth 1000000 in
theorem zn_X12_init : Cond.instanceMethod yX12_init ∈ zt := zw_t5 (i := 88) rfl rfl
set_option maxRecDepth 1000000 in
theorem zk_X11_isWithin : Cond.code yX11_isWithin cX11_isWithin 3 (some .boolean) ∈ zt := zw_t2 (i := 190) rfl rfl
noncomputable def zc_X11_isWithin : zq_Cd := [(0, .iload_n 0, 1), (1, .iload_n 1, 1), (2, .if_icmp .lt 12, 3), (5, .iload_n 0, 1), (6, .iload_n 2, 1), (7, .if_icmp .gt 7, 3), (10, .iconst 1, 1), (11, .goto 4, 3), (14, .iconst 0, 1), (15, .ireturn, 1)]
theorem zd_X11_isWithin : zq_ckC cX11_isWithin zc_X11_isWithin = true := by decide +kernel
theorem zp_X11_isWithin : zq_pn yX11_isWithin 3 = true := by decide +kernel
set_option maxRecDepth 1000000 in
theorem zs_X11_isWithin : Cond.static yX11_isWithin ∈ zt := zw_t2 (i := 189) rfl rfl
set_option maxRecDepth 1000000 in
theorem zk_X11_refuse : Cond.code yX11_refuse cX11_refuse 2 (some .int) ∈ zt := zw_t2 (i := 194) rfl rfl
noncomputable def zc_X11_refuse : zq_Cd := [(0, .aload_n 0, 1), (1, .iload_n 1, 1), (2, .putfield 326, 3), (5, .aload_n 0, 1), (6, .getfield 85, 3), (9, .iload_n 1, 1), (10, .bipush (-4), 2), (12, .if_icmp .le 9, 3), (15, .iconst (-1), 1), (16, .iload_n 1, 1), (17, .isub, 1), (18, .goto 7, 3), (21, .bipush (-2), 2), (23, .iload_n 1, 1), (24, .isub, 1), (25, .dup2, 1), (26, .iaload, 1), (27, .iconst 1, 1), (28, .iadd, 1), (29, .iastore, 1), (30, .iload_n 1, 1), (31, .ireturn, 1)]
theorem zd_X11_refuse : zq_ckC cX11_refuse zc_X11_refuse = true := by decide +kernel
theorem zp_X11_refuse : zq_pn yX11_refuse 1 = true := by decide +kernel
set_option maxRecDepth 1000000 in
theorem zn_X11_refuse : Cond.instanceMethod yX11_refuse ∈ zt := zw_t2 (i := 193) rfl rfl
theorem ze_X11_refuse : Cond.selects RX11 yX11_refuse yX11_refuse ∈ zt := zq_hw_ok (i := 0) (by decide +kernel)
set_option maxRecDepth 1000000 in
theorem zk_X2_takeOver : Cond.code yX2_takeOver cX2_takeOver 2 none ∈ zt := zw_t4 (i := 17) rfl rfl
noncomputable def zc_X2_takeOver : zq_Cd := [(0, .aload_n 1, 1), (1, .getfield 9, 3), (4, .iconst 0, 1), (5, .aload_n 0, 1), (6, .getfield 9, 3), (9, .iconst 0, 1), (10, .bipush 16, 2), (12, .invokestatic 22, 3), (15, .aload_n 1, 1), (16, .getfield 13, 3), (19, .iconst 0, 1), (20, .aload_n 0, 1), (21, .getfield 13, 3), (24, .iconst 0, 1), (25, .bipush 16, 2), (27, .invokestatic 22, 3), (30, .aload_n 1, 1), (31, .getfield 16, 3), (34, .iconst 0, 1), (35, .aload_n 0, 1), (36, .getfield 16, 3), (39, .iconst 0, 1), (40, .bipush 16, 2), (42, .invokestatic 22, 3), (45, .aload_n 1, 1), (46, .getfield 19, 3), (49, .iconst 0, 1), (50, .aload_n 0, 1), (51, .getfield 19, 3), (54, .iconst 0, 1), (55, .bipush 16, 2), (57, .invokestatic 22, 3), (60, .aload_n 0, 1), (61, .aload_n 1, 1), (62, .getfield 28, 3), (65, .putfield 28, 3), (68, .return_, 1)]
theorem zd_X2_takeOver : zq_ckC cX2_takeOver zc_X2_takeOver = true := by decide +kernel
theorem zp_X2_takeOver : zq_pn yX2_takeOver 1 = true := by decide +kernel
set_option maxRecDepth 1000000 in
theorem zn_X2_takeOver : Cond.instanceMethod yX2_takeOver ∈ zt := zw_t4 (i := 15) rfl rfl
set_option maxRecDepth 1000000 in
theorem ze_X2_takeOver : Cond.selects RX2 yX2_takeOver yX2_takeOver ∈ zt := zw_t4 (i := 16) rfl rfl
set_option maxRecDepth 1000000 in
theorem zk_X4_takeOver : Cond.code yX4_takeOver cX4_takeOver 3 none ∈ zt := zw_t4 (i := 12) rfl rfl
noncomputable def zc_X4_takeOver : zq_Cd := [(0, .aload_n 1, 1), (1, .getfield 9, 3), (4, .iconst 0, 1), (5, .aload_n 0, 1), (6, .getfield 9, 3), (9, .iconst 0, 1), (10, .bipush 6, 2), (12, .invokestatic 53, 3), (15, .aload_n 1, 1), (16, .getfield 15, 3), (19, .iconst 0, 1), (20, .aload_n 0, 1), (21, .getfield 15, 3), (24, .iconst 0, 1), (25, .bipush 6, 2), (27, .invokestatic 53, 3), (30, .aload_n 1, 1), (31, .getfield 18, 3), (34, .iconst 0, 1), (35, .aload_n 0, 1), (36, .getfield 18, 3), (39, .iconst 0, 1), (40, .bipush 6, 2), (42, .invokestatic 53, 3), (45, .aload_n 1, 1), (46, .getfield 21, 3), (49, .iconst 0, 1), (50, .aload_n 0, 1), (51, .getfield 21, 3), (54, .iconst 0, 1), (55, .bipush 6, 2), (57, .invokestatic 53, 3), (60, .aload_n 1, 1), (61, .getfield 24, 3), (64, .iconst 0, 1), (65, .aload_n 0, 1), (66, .getfield 24, 3), (69, .iconst 0, 1), (70, .iconst 4, 1), (71, .invokestatic 53, 3), (74, .aload_n 1, 1), (75, .getfield 27, 3), (78, .iconst 0, 1), (79, .aload_n 0, 1), (80, .getfield 27, 3), (83, .iconst 0, 1), (84, .iconst 4, 1), (85, .invokestatic 53, 3), (88, .aload_n 1, 1), (89, .getfield 30, 3), (92, .iconst 0, 1), (93, .aload_n 0, 1), (94, .getfield 30, 3), (97, .iconst 0, 1), (98, .bipush 24, 2), (100, .invokestatic 53, 3), (103, .aload_n 1, 1), (104, .getfield 33, 3), (107, .iconst 0, 1), (108, .aload_n 0, 1), (109, .getfield 33, 3), (112, .iconst 0, 1), (113, .iconst 3, 1), (114, .invokestatic 53, 3), (117, .iconst 0, 1), (118, .istore_n 2, 1), (119, .iload_n 2, 1), (120, .bipush 6, 2), (122, .if_icmp .ge 21, 3), (125, .aload_n 0, 1), (126, .getfield 38, 3), (129, .iload_n 2, 1), (130, .aload_n 1, 1), (131, .getfield 38, 3), (134, .iload_n 2, 1), (135, .aaload, 1), (136, .aastore, 1), (137, .iinc 2 1, 3), (140, .goto (-21), 3), (143, .aload_n 0, 1), (144, .getfield 45, 3), (147, .aload_n 1, 1), (148, .getfield 45, 3), (151, .invokevirtual 59, 3), (154, .aload_n 0, 1), (155, .aload_n 1, 1), (156, .getfield 63, 3), (159, .putfield 63, 3), (162, .aload_n 0, 1), (163, .aload_n 1, 1), (164, .getfield 66, 3), (167, .putfield 66, 3), (170, .aload_n 0, 1), (171, .aload_n 1, 1), (172, .getfield 69, 3), (175, .putfield 69, 3), (178, .aload_n 0, 1), (179, .aload_n 1, 1), (180, .getfield 72, 3), (183, .putfield 72, 3), (186, .aload_n 0, 1), (187, .aload_n 1, 1), (188, .getfield 49, 3), (191, .putfield 49, 3), (194, .return_, 1)]
theorem zd_X4_takeOver : zq_ckC cX4_takeOver zc_X4_takeOver = true := by decide +kernel
theorem zp_X4_takeOver : zq_pn yX4_takeOver 1 = true := by decide +kernel
set_option maxRecDepth 1000000 in
theorem zn_X4_takeOver : Cond.instanceMethod yX4_takeOver ∈ zt := zw_t4 (i := 10) rfl rfl
set_option maxRecDepth 1000000 in
theorem ze_X4_takeOver : Cond.selects RX4 yX4_takeOver yX4_takeOver ∈ zt := zw_t4 (i := 11) rfl rfl
set_option maxRecDepth 1000000 in
theorem zk_X11_grant : Cond.code yX11_grant cX11_grant 2 (some .int) ∈ zt := zw_t2 (i := 202) rfl rfl
noncomputable def zc_X11_grant : zq_Cd := [(0, .aload_n 0, 1), (1, .iconst 0, 1), (2, .putfield 326, 3), (5, .iload_n 1, 1), (6, .ireturn, 1)]
theorem zd_X11_grant : zq_ckC cX11_grant zc_X11_grant = true := by decide +kernel
theorem zp_X11_grant : zq_pn yX11_grant 1 = true := by decide +kernel
set_option maxRecDepth 1000000 in
theorem zn_X11_grant : Cond.instanceMethod yX11_grant ∈ zt := zw_t2 (i := 201) rfl rfl
theorem ze_X11_grant : Cond.selects RX11 yX11_grant yX11_grant ∈ zt := zq_hw_ok (i := 1) (by decide +kernel)
set_option maxRecDepth 1000000 in
theorem zk_X11_image : Cond.code yX11_image cX11_image 2 (some .int) ∈ zt := zw_t5 (i := 71) rfl rfl
noncomputable def zc_X11_image : zq_Cd := [(0, .iload_n 1, 1), (1, .iconst 0, 1), (2, .iconst 1, 1), (3, .invokestatic 99, 3), (6, .ifCond .ne 9, 3), (9, .aload_n 0, 1), (10, .iconst (-1), 1), (11, .invokevirtual 103, 3), (14, .ireturn, 1), (15, .aload_n 0, 1), (16, .getfield 77, 3), (19, .iload_n 1, 1), (20, .aaload, 1), (21, .aload_n 0, 1), (22, .getfield 70, 3), (25, .invokevirtual 219, 3), (28, .aload_n 0, 1), (29, .getfield 81, 3), (32, .iload_n 1, 1), (33, .iconst 1, 1), (34, .bastore, 1), (35, .aload_n 0, 1), (36, .iconst 0, 1), (37, .invokevirtual 122, 3), (40, .ireturn, 1)]
theorem zd_X11_image : zq_ckC cX11_image zc_X11_image = true := by decide +kernel
theorem zp_X11_image : zq_pn yX11_image 1 = true := by decide +kernel
set_option maxRecDepth 1000000 in
theorem zn_X11_image : Cond.instanceMethod yX11_image ∈ zt := zw_t5 (i := 69) rfl rfl
set_option maxRecDepth 1000000 in
theorem ze_X11_image : Cond.selects RX11 yX11_image yX11_image ∈ zt := zw_t5 (i := 70) rfl rfl
set_option maxRecDepth 1000000 in
theorem zk_X11_back : Cond.code yX11_back cX11_back 2 (some .int) ∈ zt := zw_t5 (i := 75) rfl rfl
noncomputable def zc_X11_back : zq_Cd := [(0, .iload_n 1, 1), (1, .iconst 0, 1), (2, .iconst 1, 1), (3, .invokestatic 99, 3), (6, .ifCond .ne 9, 3), (9, .aload_n 0, 1), (10, .iconst (-1), 1), (11, .invokevirtual 103, 3), (14, .ireturn, 1), (15, .aload_n 0, 1), (16, .getfield 81, 3), (19, .iload_n 1, 1), (20, .baload, 1), (21, .ifCond .ne 10, 3), (24, .aload_n 0, 1), (25, .bipush (-2), 2), (27, .invokevirtual 103, 3), (30, .ireturn, 1), (31, .aload_n 0, 1), (32, .getfield 70, 3), (35, .aload_n 0, 1), (36, .getfield 77, 3), (39, .iload_n 1, 1), (40, .aaload, 1), (41, .invokevirtual 219, 3), (44, .aload_n 0, 1), (45, .getfield 70, 3), (48, .getfield 110, 3), (51, .iconst 0, 1), (52, .putfield 114, 3), (55, .aload_n 0, 1), (56, .iconst 0, 1), (57, .invokevirtual 122, 3), (60, .ireturn, 1)]
theorem zd_X11_back : zq_ckC cX11_back zc_X11_back = true := by decide +kernel
theorem zp_X11_back : zq_pn yX11_back 1 = true := by decide +kernel
set_option maxRecDepth 1000000 in
theorem zn_X11_back : Cond.instanceMethod yX11_back ∈ zt := zw_t5 (i := 73) rfl rfl
set_option maxRecDepth 1000000 in
theorem ze_X11_back : Cond.selects RX11 yX11_back yX11_back ∈ zt := zw_t5 (i := 74) rfl rfl
set_option maxRecDepth 1000000 in
theorem zk_X4_addPerson : Cond.code yX4_addPerson cX4_addPerson 2 (some .int) ∈ zt := zw_t2 (i := 198) rfl rfl
noncomputable def zc_X4_addPerson : zq_Cd := [(0, .aload_n 0, 1), (1, .getfield 9, 3), (4, .aload_n 0, 1), (5, .getfield 63, 3), (8, .iload_n 1, 1), (9, .iastore, 1), (10, .aload_n 0, 1), (11, .getfield 15, 3), (14, .aload_n 0, 1), (15, .getfield 63, 3), (18, .iconst 0, 1), (19, .iastore, 1), (20, .aload_n 0, 1), (21, .dup, 1), (22, .getfield 63, 3), (25, .iconst 1, 1), (26, .iadd, 1), (27, .putfield 63, 3), (30, .aload_n 0, 1), (31, .getfield 63, 3), (34, .iconst 1, 1), (35, .isub, 1), (36, .ireturn, 1)]
theorem zd_X4_addPerson : zq_ckC cX4_addPerson zc_X4_addPerson = true := by decide +kernel
theorem zp_X4_addPerson : zq_pn yX4_addPerson 1 = true := by decide +kernel
set_option maxRecDepth 1000000 in
theorem zn_X4_addPerson : Cond.instanceMethod yX4_addPerson ∈ zt := zw_t2 (i := 196) rfl rfl
set_option maxRecDepth 1000000 in
theorem ze_X4_addPerson : Cond.selects RX4 yX4_addPerson yX4_addPerson ∈ zt := zw_t2 (i := 197) rfl rfl
set_option maxRecDepth 1000000 in
theorem zk_X11_person : Cond.code yX11_person cX11_person 2 (some .int) ∈ zt := zw_t2 (i := 187) rfl rfl
noncomputable def zc_X11_person : zq_Cd := [(0, .iload_n 1, 1), (1, .iconst 0, 1), (2, .bipush 9, 2), (4, .invokestatic 99, 3), (7, .ifCond .ne 9, 3), (10, .aload_n 0, 1), (11, .iconst (-1), 1), (12, .invokevirtual 103, 3), (15, .ireturn, 1), (16, .aload_n 0, 1), (17, .getfield 70, 3), (20, .getfield 107, 3), (23, .bipush 6, 2), (25, .if_icmp .lt 10, 3), (28, .aload_n 0, 1), (29, .bipush (-5), 2), (31, .invokevirtual 103, 3), (34, .ireturn, 1), (35, .aload_n 0, 1), (36, .getfield 70, 3), (39, .getfield 110, 3), (42, .iconst 0, 1), (43, .putfield 114, 3), (46, .aload_n 0, 1), (47, .aload_n 0, 1), (48, .getfield 70, 3), (51, .iload_n 1, 1), (52, .invokevirtual 119, 3), (55, .invokevirtual 122, 3), (58, .ireturn, 1)]
theorem zd_X11_person : zq_ckC cX11_person zc_X11_person = true := by decide +kernel
theorem zp_X11_person : zq_pn yX11_person 1 = true := by decide +kernel
set_option maxRecDepth 1000000 in
theorem zn_X11_person : Cond.instanceMethod yX11_person ∈ zt := zw_t2 (i := 185) rfl rfl
set_option maxRecDepth 1000000 in
theorem ze_X11_person : Cond.selects RX11 yX11_person yX11_person ∈ zt := zw_t2 (i := 186) rfl rfl
set_option maxRecDepth 1000000 in
theorem zk_X4_hasPerson : Cond.code yX4_hasPerson cX4_hasPerson 2 (some .boolean) ∈ zt := zw_t2 (i := 210) rfl rfl
noncomputable def zc_X4_hasPerson : zq_Cd := [(0, .iload_n 1, 1), (1, .ifCond .lt 15, 3), (4, .iload_n 1, 1), (5, .aload_n 0, 1), (6, .getfield 63, 3), (9, .if_icmp .ge 7, 3), (12, .iconst 1, 1), (13, .goto 4, 3), (16, .iconst 0, 1), (17, .ireturn, 1)]
theorem zd_X4_hasPerson : zq_ckC cX4_hasPerson zc_X4_hasPerson = true := by decide +kernel
theorem zp_X4_hasPerson : zq_pn yX4_hasPerson 1 = true := by decide +kernel
set_option maxRecDepth 1000000 in
theorem zn_X4_hasPerson : Cond.instanceMethod yX4_hasPerson ∈ zt := zw_t2 (i := 208) rfl rfl
set_option maxRecDepth 1000000 in
theorem ze_X4_hasPerson : Cond.selects RX4 yX4_hasPerson yX4_hasPerson ∈ zt := zw_t2 (i := 209) rfl rfl
set_option maxRecDepth 1000000 in
theorem zk_X11_of : Cond.code yX11_of cX11_of 3 (some .int) ∈ zt := zw_t2 (i := 206) rfl rfl
noncomputable def zc_X11_of : zq_Cd := [(0, .aload_n 0, 1), (1, .getfield 70, 3), (4, .iload_n 1, 1), (5, .invokevirtual 125, 3), (8, .ifCond .eq 12, 3), (11, .iload_n 2, 1), (12, .iconst 0, 1), (13, .iconst 1, 1), (14, .invokestatic 99, 3), (17, .ifCond .ne 7, 3), (20, .sipush (-10000), 3), (23, .ireturn, 1), (24, .iload_n 2, 1), (25, .ifCond .ne 15, 3), (28, .aload_n 0, 1), (29, .getfield 70, 3), (32, .getfield 129, 3), (35, .iload_n 1, 1), (36, .iaload, 1), (37, .goto 12, 3), (40, .aload_n 0, 1), (41, .getfield 70, 3), (44, .getfield 132, 3), (47, .iload_n 1, 1), (48, .iaload, 1), (49, .ireturn, 1)]
theorem zd_X11_of : zq_ckC cX11_of zc_X11_of = true := by decide +kernel
theorem zp_X11_of : zq_pn yX11_of 2 = true := by decide +kernel
set_option maxRecDepth 1000000 in
theorem zn_X11_of : Cond.instanceMethod yX11_of ∈ zt := zw_t2 (i := 204) rfl rfl
set_option maxRecDepth 1000000 in
theorem ze_X11_of : Cond.selects RX11 yX11_of yX11_of ∈ zt := zw_t2 (i := 205) rfl rfl
set_option maxRecDepth 1000000 in
theorem zk_X11_isDeed : Cond.code yX11_isDeed cX11_isDeed 2 (some .boolean) ∈ zt := zw_t2 (i := 217) rfl rfl
noncomputable def zc_X11_isDeed : zq_Cd := [(0, .iload_n 0, 1), (1, .iconst 0, 1), (2, .iconst 3, 1), (3, .invokestatic 99, 3), (6, .ifCond .eq 17, 3), (9, .iload_n 1, 1), (10, .iconst 1, 1), (11, .bipush 9, 2), (13, .invokestatic 99, 3), (16, .ifCond .eq 7, 3), (19, .iconst 1, 1), (20, .goto 4, 3), (23, .iconst 0, 1), (24, .ireturn, 1)]
theorem zd_X11_isDeed : zq_ckC cX11_isDeed zc_X11_isDeed = true := by decide +kernel
theorem zp_X11_isDeed : zq_pn yX11_isDeed 2 = true := by decide +kernel
set_option maxRecDepth 1000000 in
theorem zs_X11_isDeed : Cond.static yX11_isDeed ∈ zt := zw_t2 (i := 216) rfl rfl
set_option maxRecDepth 1000000 in
theorem zk_X4_addDeed : Cond.code yX4_addDeed cX4_addDeed 3 (some .int) ∈ zt := zw_t2 (i := 221) rfl rfl
noncomputable def zc_X4_addDeed : zq_Cd := [(0, .aload_n 0, 1), (1, .getfield 18, 3), (4, .aload_n 0, 1), (5, .getfield 66, 3), (8, .iload_n 1, 1), (9, .iastore, 1), (10, .aload_n 0, 1), (11, .getfield 21, 3), (14, .aload_n 0, 1), (15, .getfield 66, 3), (18, .iload_n 2, 1), (19, .iastore, 1), (20, .aload_n 0, 1), (21, .dup, 1), (22, .getfield 66, 3), (25, .iconst 1, 1), (26, .iadd, 1), (27, .putfield 66, 3), (30, .aload_n 0, 1), (31, .getfield 66, 3), (34, .iconst 1, 1), (35, .isub, 1), (36, .ireturn, 1)]
theorem zd_X4_addDeed : zq_ckC cX4_addDeed zc_X4_addDeed = true := by decide +kernel
theorem zp_X4_addDeed : zq_pn yX4_addDeed 2 = true := by decide +kernel
set_option maxRecDepth 1000000 in
theorem zn_X4_addDeed : Cond.instanceMethod yX4_addDeed ∈ zt := zw_t2 (i := 219) rfl rfl
set_option maxRecDepth 1000000 in
theorem ze_X4_addDeed : Cond.selects RX4 yX4_addDeed yX4_addDeed ∈ zt := zw_t2 (i := 220) rfl rfl
set_option maxRecDepth 1000000 in
theorem zk_X11_deed : Cond.code yX11_deed cX11_deed 3 (some .int) ∈ zt := zw_t2 (i := 214) rfl rfl
noncomputable def zc_X11_deed : zq_Cd := [(0, .iload_n 1, 1), (1, .iload_n 2, 1), (2, .invokestatic 135, 3), (5, .ifCond .ne 9, 3), (8, .aload_n 0, 1), (9, .iconst (-1), 1), (10, .invokevirtual 103, 3), (13, .ireturn, 1), (14, .aload_n 0, 1), (15, .getfield 70, 3), (18, .getfield 139, 3), (21, .bipush 6, 2), (23, .if_icmp .lt 10, 3), (26, .aload_n 0, 1), (27, .bipush (-5), 2), (29, .invokevirtual 103, 3), (32, .ireturn, 1), (33, .aload_n 0, 1), (34, .aload_n 0, 1), (35, .getfield 70, 3), (38, .iload_n 1, 1), (39, .iload_n 2, 1), (40, .invokevirtual 142, 3), (43, .invokevirtual 122, 3), (46, .ireturn, 1)]
theorem zd_X11_deed : zq_ckC cX11_deed zc_X11_deed = true := by decide +kernel
theorem zp_X11_deed : zq_pn yX11_deed 2 = true := by decide +kernel
set_option maxRecDepth 1000000 in
theorem zn_X11_deed : Cond.instanceMethod yX11_deed ∈ zt := zw_t2 (i := 212) rfl rfl
set_option maxRecDepth 1000000 in
theorem ze_X11_deed : Cond.selects RX11 yX11_deed yX11_deed ∈ zt := zw_t2 (i := 213) rfl rfl
set_option maxRecDepth 1000000 in
theorem zk_X4_hasDeed : Cond.code yX4_hasDeed cX4_hasDeed 2 (some .boolean) ∈ zt := zw_t2 (i := 229) rfl rfl
noncomputable def zc_X4_hasDeed : zq_Cd := [(0, .iload_n 1, 1), (1, .ifCond .lt 15, 3), (4, .iload_n 1, 1), (5, .aload_n 0, 1), (6, .getfield 66, 3), (9, .if_icmp .ge 7, 3), (12, .iconst 1, 1), (13, .goto 4, 3), (16, .iconst 0, 1), (17, .ireturn, 1)]
theorem zd_X4_hasDeed : zq_ckC cX4_hasDeed zc_X4_hasDeed = true := by decide +kernel
theorem zp_X4_hasDeed : zq_pn yX4_hasDeed 1 = true := by decide +kernel
set_option maxRecDepth 1000000 in
theorem zn_X4_hasDeed : Cond.instanceMethod yX4_hasDeed ∈ zt := zw_t2 (i := 227) rfl rfl
set_option maxRecDepth 1000000 in
theorem ze_X4_hasDeed : Cond.selects RX4 yX4_hasDeed yX4_hasDeed ∈ zt := zw_t2 (i := 228) rfl rfl
set_option maxRecDepth 1000000 in
theorem zk_X11_at : Cond.code yX11_at cX11_at 3 (some .int) ∈ zt := zw_t2 (i := 225) rfl rfl
noncomputable def zc_X11_at : zq_Cd := [(0, .aload_n 0, 1), (1, .getfield 70, 3), (4, .iload_n 1, 1), (5, .invokevirtual 146, 3), (8, .ifCond .eq 12, 3), (11, .iload_n 2, 1), (12, .iconst 0, 1), (13, .iconst 1, 1), (14, .invokestatic 99, 3), (17, .ifCond .ne 5, 3), (20, .iconst (-1), 1), (21, .ireturn, 1), (22, .iload_n 2, 1), (23, .ifCond .ne 15, 3), (26, .aload_n 0, 1), (27, .getfield 70, 3), (30, .getfield 149, 3), (33, .iload_n 1, 1), (34, .iaload, 1), (35, .goto 12, 3), (38, .aload_n 0, 1), (39, .getfield 70, 3), (42, .getfield 152, 3), (45, .iload_n 1, 1), (46, .iaload, 1), (47, .ireturn, 1)]
theorem zd_X11_at : zq_ckC cX11_at zc_X11_at = true := by decide +kernel
theorem zp_X11_at : zq_pn yX11_at 2 = true := by decide +kernel
set_option maxRecDepth 1000000 in
theorem zn_X11_at : Cond.instanceMethod yX11_at ∈ zt := zw_t2 (i := 223) rfl rfl
set_option maxRecDepth 1000000 in
theorem ze_X11_at : Cond.selects RX11 yX11_at yX11_at ∈ zt := zw_t2 (i := 224) rfl rfl
set_option maxRecDepth 1000000 in
theorem zk_X11_isPlace : Cond.code yX11_isPlace cX11_isPlace 1 (some .boolean) ∈ zt := zw_t2 (i := 236) rfl rfl
noncomputable def zc_X11_isPlace : zq_Cd := [(0, .iload_n 0, 1), (1, .ifCond .lt 12, 3), (4, .iload_n 0, 1), (5, .iconst 4, 1), (6, .if_icmp .ge 7, 3), (9, .iconst 1, 1), (10, .goto 4, 3), (13, .iconst 0, 1), (14, .ireturn, 1)]
theorem zd_X11_isPlace : zq_ckC cX11_isPlace zc_X11_isPlace = true := by decide +kernel
theorem zp_X11_isPlace : zq_pn yX11_isPlace 1 = true := by decide +kernel
set_option maxRecDepth 1000000 in
theorem zs_X11_isPlace : Cond.static yX11_isPlace ∈ zt := zw_t2 (i := 235) rfl rfl
set_option maxRecDepth 1000000 in
theorem zk_X4_dateOf : Cond.code yX4_dateOf cX4_dateOf 2 (some .int) ∈ zt := zw_t3 (i := 0) rfl rfl
noncomputable def zc_X4_dateOf : zq_Cd := [(0, .aload_n 0, 1), (1, .getfield 33, 3), (4, .iconst 0, 1), (5, .iaload, 1), (6, .aload_n 0, 1), (7, .getfield 24, 3), (10, .iload_n 1, 1), (11, .iaload, 1), (12, .iadd, 1), (13, .ireturn, 1)]
theorem zd_X4_dateOf : zq_ckC cX4_dateOf zc_X4_dateOf = true := by decide +kernel
theorem zp_X4_dateOf : zq_pn yX4_dateOf 1 = true := by decide +kernel
set_option maxRecDepth 1000000 in
theorem zn_X4_dateOf : Cond.instanceMethod yX4_dateOf ∈ zt := zw_t2 (i := 238) rfl rfl
set_option maxRecDepth 1000000 in
theorem ze_X4_dateOf : Cond.selects RX4 yX4_dateOf yX4_dateOf ∈ zt := zw_t2 (i := 239) rfl rfl
set_option maxRecDepth 1000000 in
theorem zk_X11_place : Cond.code yX11_place cX11_place 3 (some .int) ∈ zt := zw_t2 (i := 233) rfl rfl
noncomputable def zc_X11_place : zq_Cd := [(0, .iload_n 1, 1), (1, .invokestatic 155, 3), (4, .ifCond .eq 12, 3), (7, .iload_n 2, 1), (8, .iconst 0, 1), (9, .iconst 2, 1), (10, .invokestatic 99, 3), (13, .ifCond .ne 5, 3), (16, .iconst (-1), 1), (17, .ireturn, 1), (18, .iload_n 2, 1), (19, .ifCond .ne 13, 3), (22, .aload_n 0, 1), (23, .getfield 70, 3), (26, .getfield 158, 3), (29, .iload_n 1, 1), (30, .iaload, 1), (31, .ireturn, 1), (32, .iload_n 2, 1), (33, .iconst 1, 1), (34, .if_icmp .ne 14, 3), (37, .aload_n 0, 1), (38, .getfield 70, 3), (41, .iload_n 1, 1), (42, .invokevirtual 161, 3), (45, .goto 12, 3), (48, .aload_n 0, 1), (49, .getfield 70, 3), (52, .getfield 164, 3), (55, .iload_n 1, 1), (56, .iaload, 1), (57, .ireturn, 1)]
theorem zd_X11_place : zq_ckC cX11_place zc_X11_place = true := by decide +kernel
theorem zp_X11_place : zq_pn yX11_place 2 = true := by decide +kernel
set_option maxRecDepth 1000000 in
theorem zn_X11_place : Cond.instanceMethod yX11_place ∈ zt := zw_t2 (i := 231) rfl rfl
set_option maxRecDepth 1000000 in
theorem ze_X11_place : Cond.selects RX11 yX11_place yX11_place ∈ zt := zw_t2 (i := 232) rfl rfl
set_option maxRecDepth 1000000 in
theorem zk_X11_road : Cond.code yX11_road cX11_road 5 (some .int) ∈ zt := zw_t3 (i := 4) rfl rfl
noncomputable def zc_X11_road : zq_Cd := [(0, .iload_n 1, 1), (1, .invokestatic 155, 3), (4, .ifCond .eq 24, 3), (7, .iload_n 2, 1), (8, .invokestatic 155, 3), (11, .ifCond .eq 17, 3), (14, .iload_n 1, 1), (15, .iload_n 2, 1), (16, .if_icmp .eq 12, 3), (19, .iload_n 3, 1), (20, .iconst 0, 1), (21, .iconst 1, 1), (22, .invokestatic 99, 3), (25, .ifCond .ne 9, 3), (28, .aload_n 0, 1), (29, .iconst (-1), 1), (30, .invokevirtual 103, 3), (33, .ireturn, 1), (34, .aload_n 0, 1), (35, .getfield 70, 3), (38, .getfield 164, 3), (41, .iload_n 1, 1), (42, .iaload, 1), (43, .iload_n 2, 1), (44, .ishr, 1), (45, .iconst 1, 1), (46, .iand, 1), (47, .istore 4, 2), (49, .iload 4, 2), (51, .iload_n 3, 1), (52, .if_icmp .eq 33, 3), (55, .aload_n 0, 1), (56, .getfield 70, 3), (59, .getfield 164, 3), (62, .iload_n 1, 1), (63, .dup2, 1), (64, .iaload, 1), (65, .iconst 1, 1), (66, .iload_n 2, 1), (67, .ishl, 1), (68, .ixor, 1), (69, .iastore, 1), (70, .aload_n 0, 1), (71, .getfield 70, 3), (74, .getfield 164, 3), (77, .iload_n 2, 1), (78, .dup2, 1), (79, .iaload, 1), (80, .iconst 1, 1), (81, .iload_n 1, 1), (82, .ishl, 1), (83, .ixor, 1), (84, .iastore, 1), (85, .aload_n 0, 1), (86, .iload 4, 2), (88, .invokevirtual 122, 3), (91, .ireturn, 1)]
theorem zd_X11_road : zq_ckC cX11_road zc_X11_road = true := by decide +kernel
theorem zp_X11_road : zq_pn yX11_road 3 = true := by decide +kernel
set_option maxRecDepth 1000000 in
theorem zn_X11_road : Cond.instanceMethod yX11_road ∈ zt := zw_t3 (i := 2) rfl rfl
set_option maxRecDepth 1000000 in
theorem ze_X11_road : Cond.selects RX11 yX11_road yX11_road ∈ zt := zw_t3 (i := 3) rfl rfl
set_option maxRecDepth 1000000 in
theorem zk_X11_isQuestion : Cond.code yX11_isQuestion cX11_isQuestion 4 (some .boolean) ∈ zt := zw_t3 (i := 12) rfl rfl
noncomputable def zc_X11_isQuestion : zq_Cd := [(0, .aload_n 0, 1), (1, .getfield 70, 3), (4, .iload_n 1, 1), (5, .invokevirtual 146, 3), (8, .ifCond .eq 25, 3), (11, .aload_n 0, 1), (12, .getfield 70, 3), (15, .iload_n 2, 1), (16, .invokevirtual 125, 3), (19, .ifCond .eq 14, 3), (22, .iload_n 3, 1), (23, .invokestatic 155, 3), (26, .ifCond .eq 7, 3), (29, .iconst 1, 1), (30, .goto 4, 3), (33, .iconst 0, 1), (34, .ireturn, 1)]
theorem zd_X11_isQuestion : zq_ckC cX11_isQuestion zc_X11_isQuestion = true := by decide +kernel
theorem zp_X11_isQuestion : zq_pn yX11_isQuestion 3 = true := by decide +kernel
set_option maxRecDepth 1000000 in
theorem zn_X11_isQuestion : Cond.instanceMethod yX11_isQuestion ∈ zt := zw_t3 (i := 11) rfl rfl
theorem ze_X11_isQuestion : Cond.selects RX11 yX11_isQuestion yX11_isQuestion ∈ zt := zq_hw_ok (i := 2) (by decide +kernel)
set_option maxRecDepth 1000000 in
theorem zk_X4_hasLaw : Cond.code yX4_hasLaw cX4_hasLaw 2 (some .boolean) ∈ zt := zw_t3 (i := 24) rfl rfl
noncomputable def zc_X4_hasLaw : zq_Cd := [(0, .iload_n 1, 1), (1, .ifCond .lt 15, 3), (4, .iload_n 1, 1), (5, .aload_n 0, 1), (6, .getfield 72, 3), (9, .if_icmp .ge 7, 3), (12, .iconst 1, 1), (13, .goto 4, 3), (16, .iconst 0, 1), (17, .ireturn, 1)]
theorem zd_X4_hasLaw : zq_ckC cX4_hasLaw zc_X4_hasLaw = true := by decide +kernel
theorem zp_X4_hasLaw : zq_pn yX4_hasLaw 1 = true := by decide +kernel
set_option maxRecDepth 1000000 in
theorem zn_X4_hasLaw : Cond.instanceMethod yX4_hasLaw ∈ zt := zw_t3 (i := 22) rfl rfl
set_option maxRecDepth 1000000 in
theorem ze_X4_hasLaw : Cond.selects RX4 yX4_hasLaw yX4_hasLaw ∈ zt := zw_t3 (i := 23) rfl rfl
set_option maxRecDepth 1000000 in
theorem zk_X4_textOf : Cond.code yX4_textOf cX4_textOf 2 (some (.object "AnswerDays$Text")) ∈ zt := zw_t3 (i := 20) rfl rfl
noncomputable def zc_X4_textOf : zq_Cd := [(0, .aload_n 0, 1), (1, .iload_n 1, 1), (2, .invokevirtual 75, 3), (5, .ifCond .eq 12, 3), (8, .aload_n 0, 1), (9, .getfield 38, 3), (12, .iload_n 1, 1), (13, .aaload, 1), (14, .goto 4, 3), (17, .aconst_null, 1), (18, .areturn, 1)]
theorem zd_X4_textOf : zq_ckC cX4_textOf zc_X4_textOf = true := by decide +kernel
theorem zp_X4_textOf : zq_pn yX4_textOf 1 = true := by decide +kernel
set_option maxRecDepth 1000000 in
theorem zn_X4_textOf : Cond.instanceMethod yX4_textOf ∈ zt := zw_t3 (i := 18) rfl rfl
set_option maxRecDepth 1000000 in
theorem ze_X4_textOf : Cond.selects RX4 yX4_textOf yX4_textOf ∈ zt := zw_t3 (i := 19) rfl rfl
set_option maxRecDepth 1000000 in
theorem zk_X3_setWords : Cond.code yX3_setWords cX3_setWords 7 none ∈ zt := zw_t3 (i := 33) rfl rfl
noncomputable def zc_X3_setWords : zq_Cd := [(0, .aload_n 0, 1), (1, .getfield 9, 3), (4, .getfield 67, 3), (7, .astore 6, 2), (9, .aload 6, 2), (11, .iconst 0, 1), (12, .iload_n 3, 1), (13, .iastore, 1), (14, .aload 6, 2), (16, .iconst 1, 1), (17, .aload_n 1, 1), (18, .getfield 70, 3), (21, .iload_n 3, 1), (22, .iaload, 1), (23, .iastore, 1), (24, .aload 6, 2), (26, .iconst 2, 1), (27, .aload_n 1, 1), (28, .getfield 73, 3), (31, .iload_n 2, 1), (32, .iaload, 1), (33, .iastore, 1), (34, .aload 6, 2), (36, .iconst 3, 1), (37, .aload_n 1, 1), (38, .getfield 15, 3), (41, .iload_n 2, 1), (42, .iaload, 1), (43, .iastore, 1), (44, .aload 6, 2), (46, .iconst 4, 1), (47, .iload 4, 2), (49, .iastore, 1), (50, .aload 6, 2), (52, .iconst 5, 1), (53, .iload 5, 2), (55, .iastore, 1), (56, .aload 6, 2), (58, .bipush 6, 2), (60, .iload 5, 2), (62, .bipush 7, 2), (64, .irem, 1), (65, .iastore, 1), (66, .aload 6, 2), (68, .bipush 7, 2), (70, .aload_n 1, 1), (71, .getfield 74, 3), (74, .iconst 2, 1), (75, .iaload, 1), (76, .iastore, 1), (77, .return_, 1)]
theorem zd_X3_setWords : zq_ckC cX3_setWords zc_X3_setWords = true := by decide +kernel
theorem zp_X3_setWords : zq_pn yX3_setWords 5 = true := by decide +kernel
set_option maxRecDepth 1000000 in
theorem zn_X3_setWords : Cond.instanceMethod yX3_setWords ∈ zt := zw_t3 (i := 32) rfl rfl
theorem ze_X3_setWords : Cond.selects RX3 yX3_setWords yX3_setWords ∈ zt := zq_hw_ok (i := 3) (by decide +kernel)
set_option maxRecDepth 1000000 in
theorem zk_X9_startOf : Cond.code yX9_startOf cX9_startOf 3 (some .int) ∈ zt := zw_t3 (i := 41) rfl rfl
noncomputable def zc_X9_startOf : zq_Cd := [(0, .aload_n 0, 1), (1, .getfield 18, 3), (4, .iconst 4, 1), (5, .iload_n 1, 1), (6, .imul, 1), (7, .iload_n 2, 1), (8, .iadd, 1), (9, .iaload, 1), (10, .ireturn, 1)]
theorem zd_X9_startOf : zq_ckC cX9_startOf zc_X9_startOf = true := by decide +kernel
theorem zp_X9_startOf : zq_pn yX9_startOf 2 = true := by decide +kernel
set_option maxRecDepth 1000000 in
theorem zn_X9_startOf : Cond.instanceMethod yX9_startOf ∈ zt := zw_t3 (i := 39) rfl rfl
set_option maxRecDepth 1000000 in
theorem ze_X9_startOf : Cond.selects RX9 yX9_startOf yX9_startOf ∈ zt := zw_t3 (i := 40) rfl rfl
set_option maxRecDepth 1000000 in
theorem zk_X6_joined : Cond.code yX6_joined cX6_joined 5 (some .long) ∈ zt := zw_t3 (i := 49) rfl rfl
noncomputable def zc_X6_joined : zq_Cd := [(0, .iload_n 0, 1), (1, .tableswitch 111 6 12 #[43, 47, 51, 55, 71, 87, 99], 43), (44, .lload_n 1, 1), (45, .lload_n 3, 1), (46, .ladd, 1), (47, .lreturn, 1), (48, .lload_n 1, 1), (49, .lload_n 3, 1), (50, .lsub, 1), (51, .lreturn, 1), (52, .lload_n 1, 1), (53, .lload_n 3, 1), (54, .lmul, 1), (55, .lreturn, 1), (56, .lload_n 3, 1), (57, .lconst 0, 1), (58, .lcmp, 1), (59, .ifCond .ne 9, 3), (62, .ldc2_w 51, 3), (65, .goto 6, 3), (68, .lload_n 1, 1), (69, .lload_n 3, 1), (70, .ldiv, 1), (71, .lreturn, 1), (72, .lload_n 3, 1), (73, .lconst 0, 1), (74, .lcmp, 1), (75, .ifCond .ne 9, 3), (78, .ldc2_w 51, 3), (81, .goto 6, 3), (84, .lload_n 1, 1), (85, .lload_n 3, 1), (86, .lrem, 1), (87, .lreturn, 1), (88, .lload_n 1, 1), (89, .lload_n 3, 1), (90, .lcmp, 1), (91, .ifCond .ge 7, 3), (94, .lconst 1, 1), (95, .goto 4, 3), (98, .lconst 0, 1), (99, .lreturn, 1), (100, .lload_n 1, 1), (101, .lload_n 3, 1), (102, .lcmp, 1), (103, .ifCond .le 7, 3), (106, .lconst 1, 1), (107, .goto 4, 3), (110, .lconst 0, 1), (111, .lreturn, 1), (112, .lload_n 1, 1), (113, .lload_n 3, 1), (114, .lcmp, 1), (115, .ifCond .ne 7, 3), (118, .lconst 1, 1), (119, .goto 4, 3), (122, .lconst 0, 1), (123, .lreturn, 1)]
theorem zd_X6_joined : zq_ckC cX6_joined zc_X6_joined = true := by decide +kernel
theorem zp_X6_joined : zq_pn yX6_joined 3 = true := by decide +kernel
set_option maxRecDepth 1000000 in
theorem zs_X6_joined : Cond.static yX6_joined ∈ zt := zw_t3 (i := 48) rfl rfl
set_option maxRecDepth 1000000 in
theorem zk_X6_reckon : Cond.code yX6_reckon cX6_reckon 10 (some .int) ∈ zt := List.mem_filter.mpr ⟨List.mem_of_getElem? (i := 632) (Eq.refl (some (Cond.code yX6_reckon cX6_reckon 10 (some .int)))), Eq.refl true⟩
noncomputable def zc_X6_reckon : zq_Cd := [(0, .aload_n 0, 1), (1, .iconst 1, 1), (2, .putfield 28, 3), (5, .iconst 0, 1), (6, .istore_n 3, 1), (7, .iload_n 2, 1), (8, .istore 4, 2), (10, .iconst 0, 1), (11, .istore 5, 2), (13, .iload 5, 2), (15, .sipush 448, 3), (18, .if_icmp .ge 285, 3), (21, .iload 4, 2), (23, .iconst 0, 1), (24, .aload_n 1, 1), (25, .getfield 32, 3), (28, .iconst 1, 1), (29, .isub, 1), (30, .invokestatic 36, 3), (33, .ifCond .eq 270, 3), (36, .aload_n 1, 1), (37, .getfield 40, 3), (40, .iload 4, 2), (42, .iaload, 1), (43, .bipush 15, 2), (45, .iand, 1), (46, .istore 6, 2), (48, .aload_n 1, 1), (49, .getfield 40, 3), (52, .iload 4, 2), (54, .iaload, 1), (55, .iconst 4, 1), (56, .ishr, 1), (57, .istore 7, 2), (59, .iinc 4 1, 3), (62, .iload 6, 2), (64, .iconst 1, 1), (65, .if_icmp .eq 9, 3), (68, .iload 6, 2), (70, .iconst 2, 1), (71, .if_icmp .ne 60, 3), (74, .iload_n 3, 1), (75, .aload_n 0, 1), (76, .getfield 15, 3), (79, .arraylength, 1), (80, .if_icmp .ge 19, 3), (83, .iload 6, 2), (85, .iconst 2, 1), (86, .if_icmp .ne 15, 3), (89, .iload 7, 2), (91, .aload_n 0, 1), (92, .getfield 11, 3), (95, .arraylength, 1), (96, .if_icmp .lt 5, 3), (99, .iconst 0, 1), (100, .ireturn, 1), (101, .aload_n 0, 1), (102, .getfield 15, 3), (105, .iload_n 3, 1), (106, .iload 6, 2), (108, .iconst 1, 1), (109, .if_icmp .ne 8, 3), (112, .iload 7, 2), (114, .goto 10, 3), (117, .aload_n 0, 1), (118, .getfield 11, 3), (121, .iload 7, 2), (123, .iaload, 1), (124, .iastore, 1), (125, .iinc 3 1, 3), (128, .goto 169, 3), (131, .iload_n 3, 1), (132, .iload 6, 2), (134, .bipush 6, 2), (136, .if_icmp .lt 7, 3), (139, .iconst 2, 1), (140, .goto 4, 3), (143, .iconst 1, 1), (144, .if_icmp .ge 5, 3), (147, .iconst 0, 1), (148, .ireturn, 1), (149, .iload 6, 2), (151, .ifCond .ne 15, 3), (154, .aload_n 0, 1), (155, .iconst 0, 1), (156, .putfield 28, 3), (159, .aload_n 0, 1), (160, .getfield 15, 3), (163, .iconst 0, 1), (164, .iaload, 1), (165, .ireturn, 1), (166, .iload 6, 2), (168, .iconst 3, 1), (169, .if_icmp .ne 24, 3), (172, .aload_n 0, 1), (173, .getfield 15, 3), (176, .iload_n 3, 1), (177, .iconst 1, 1), (178, .isub, 1), (179, .iconst 1, 1), (180, .aload_n 0, 1), (181, .getfield 15, 3), (184, .iload_n 3, 1), (185, .iconst 1, 1), (186, .isub, 1), (187, .iaload, 1), (188, .isub, 1), (189, .iastore, 1), (190, .goto 107, 3), (193, .iload 6, 2), (195, .iconst 4, 1), (196, .if_icmp .eq 9, 3), (199, .iload 6, 2), (201, .iconst 5, 1), (202, .if_icmp .ne 38, 3), (205, .aload_n 0, 1), (206, .getfield 15, 3), (209, .iload_n 3, 1), (210, .iconst 1, 1), (211, .isub, 1), (212, .iaload, 1), (213, .iload 6, 2), (215, .iconst 4, 1), (216, .if_icmp .ne 7, 3), (219, .iconst 0, 1), (220, .goto 4, 3), (223, .iconst 1, 1), (224, .if_icmp .ne 10, 3), (227, .iload 7, 2), (229, .istore 4, 2), (231, .goto 66, 3), (234, .iinc 3 (-1), 3), (237, .goto 60, 3), (240, .iinc 3 (-1), 3), (243, .iload 6, 2), (245, .aload_n 0, 1), (246, .getfield 15, 3), (249, .iload_n 3, 1), (250, .iconst 1, 1), (251, .isub, 1), (252, .iaload, 1), (253, .i2l, 1), (254, .aload_n 0, 1), (255, .getfield 15, 3), (258, .iload_n 3, 1), (259, .iaload, 1), (260, .i2l, 1), (261, .invokestatic 43, 3), (264, .lstore 8, 2), (266, .lload 8, 2), (268, .ldc2_w 47, 3), (271, .lcmp, 1), (272, .ifCond .gt 12, 3), (275, .lload 8, 2), (277, .ldc2_w 49, 3), (280, .lcmp, 1), (281, .ifCond .ge 5, 3), (284, .iconst 0, 1), (285, .ireturn, 1), (286, .aload_n 0, 1), (287, .getfield 15, 3), (290, .iload_n 3, 1), (291, .iconst 1, 1), (292, .isub, 1), (293, .lload 8, 2), (295, .l2i, 1), (296, .iastore, 1), (297, .iinc 5 1, 3), (300, .goto (-287), 3), (303, .iconst 0, 1), (304, .ireturn, 1)]
noncomputable def zc_X6_reckon_0 : zq_Cd := [(0, .aload_n 0, 1), (1, .iconst 1, 1), (2, .putfield 28, 3), (5, .iconst 0, 1), (6, .istore_n 3, 1), (7, .iload_n 2, 1), (8, .istore 4, 2), (10, .iconst 0, 1), (11, .istore 5, 2), (13, .iload 5, 2), (15, .sipush 448, 3), (18, .if_icmp .ge 285, 3), (21, .iload 4, 2), (23, .iconst 0, 1), (24, .aload_n 1, 1), (25, .getfield 32, 3), (28, .iconst 1, 1), (29, .isub, 1), (30, .invokestatic 36, 3), (33, .ifCond .eq 270, 3), (36, .aload_n 1, 1), (37, .getfield 40, 3), (40, .iload 4, 2), (42, .iaload, 1), (43, .bipush 15, 2), (45, .iand, 1), (46, .istore 6, 2), (48, .aload_n 1, 1), (49, .getfield 40, 3), (52, .iload 4, 2), (54, .iaload, 1), (55, .iconst 4, 1), (56, .ishr, 1), (57, .istore 7, 2), (59, .iinc 4 1, 3), (62, .iload 6, 2), (64, .iconst 1, 1), (65, .if_icmp .eq 9, 3), (68, .iload 6, 2), (70, .iconst 2, 1)]
theorem zd_X6_reckon_0 : zq_ckC cX6_reckon zc_X6_reckon_0 = true := by decide +kernel
noncomputable def zc_X6_reckon_1 : zq_Cd := [(71, .if_icmp .ne 60, 3), (74, .iload_n 3, 1), (75, .aload_n 0, 1), (76, .getfield 15, 3), (79, .arraylength, 1), (80, .if_icmp .ge 19, 3), (83, .iload 6, 2), (85, .iconst 2, 1), (86, .if_icmp .ne 15, 3), (89, .iload 7, 2), (91, .aload_n 0, 1), (92, .getfield 11, 3), (95, .arraylength, 1), (96, .if_icmp .lt 5, 3), (99, .iconst 0, 1), (100, .ireturn, 1), (101, .aload_n 0, 1), (102, .getfield 15, 3), (105, .iload_n 3, 1), (106, .iload 6, 2), (108, .iconst 1, 1), (109, .if_icmp .ne 8, 3), (112, .iload 7, 2), (114, .goto 10, 3), (117, .aload_n 0, 1), (118, .getfield 11, 3), (121, .iload 7, 2), (123, .iaload, 1), (124, .iastore, 1), (125, .iinc 3 1, 3), (128, .goto 169, 3), (131, .iload_n 3, 1), (132, .iload 6, 2), (134, .bipush 6, 2), (136, .if_icmp .lt 7, 3), (139, .iconst 2, 1), (140, .goto 4, 3), (143, .iconst 1, 1), (144, .if_icmp .ge 5, 3), (147, .iconst 0, 1)]
theorem zd_X6_reckon_1 : zq_ckC cX6_reckon zc_X6_reckon_1 = true := by decide +kernel
noncomputable def zc_X6_reckon_2 : zq_Cd := [(148, .ireturn, 1), (149, .iload 6, 2), (151, .ifCond .ne 15, 3), (154, .aload_n 0, 1), (155, .iconst 0, 1), (156, .putfield 28, 3), (159, .aload_n 0, 1), (160, .getfield 15, 3), (163, .iconst 0, 1), (164, .iaload, 1), (165, .ireturn, 1), (166, .iload 6, 2), (168, .iconst 3, 1), (169, .if_icmp .ne 24, 3), (172, .aload_n 0, 1), (173, .getfield 15, 3), (176, .iload_n 3, 1), (177, .iconst 1, 1), (178, .isub, 1), (179, .iconst 1, 1), (180, .aload_n 0, 1), (181, .getfield 15, 3), (184, .iload_n 3, 1), (185, .iconst 1, 1), (186, .isub, 1), (187, .iaload, 1), (188, .isub, 1), (189, .iastore, 1), (190, .goto 107, 3), (193, .iload 6, 2), (195, .iconst 4, 1), (196, .if_icmp .eq 9, 3), (199, .iload 6, 2), (201, .iconst 5, 1), (202, .if_icmp .ne 38, 3), (205, .aload_n 0, 1), (206, .getfield 15, 3), (209, .iload_n 3, 1), (210, .iconst 1, 1), (211, .isub, 1)]
theorem zd_X6_reckon_2 : zq_ckC cX6_reckon zc_X6_reckon_2 = true := by decide +kernel
noncomputable def zc_X6_reckon_3 : zq_Cd := [(212, .iaload, 1), (213, .iload 6, 2), (215, .iconst 4, 1), (216, .if_icmp .ne 7, 3), (219, .iconst 0, 1), (220, .goto 4, 3), (223, .iconst 1, 1), (224, .if_icmp .ne 10, 3), (227, .iload 7, 2), (229, .istore 4, 2), (231, .goto 66, 3), (234, .iinc 3 (-1), 3), (237, .goto 60, 3), (240, .iinc 3 (-1), 3), (243, .iload 6, 2), (245, .aload_n 0, 1), (246, .getfield 15, 3), (249, .iload_n 3, 1), (250, .iconst 1, 1), (251, .isub, 1), (252, .iaload, 1), (253, .i2l, 1), (254, .aload_n 0, 1), (255, .getfield 15, 3), (258, .iload_n 3, 1), (259, .iaload, 1), (260, .i2l, 1), (261, .invokestatic 43, 3), (264, .lstore 8, 2), (266, .lload 8, 2), (268, .ldc2_w 47, 3), (271, .lcmp, 1), (272, .ifCond .gt 12, 3), (275, .lload 8, 2), (277, .ldc2_w 49, 3), (280, .lcmp, 1), (281, .ifCond .ge 5, 3), (284, .iconst 0, 1), (285, .ireturn, 1), (286, .aload_n 0, 1)]
theorem zd_X6_reckon_3 : zq_ckC cX6_reckon zc_X6_reckon_3 = true := by decide +kernel
noncomputable def zc_X6_reckon_4 : zq_Cd := [(287, .getfield 15, 3), (290, .iload_n 3, 1), (291, .iconst 1, 1), (292, .isub, 1), (293, .lload 8, 2), (295, .l2i, 1), (296, .iastore, 1), (297, .iinc 5 1, 3), (300, .goto (-287), 3), (303, .iconst 0, 1), (304, .ireturn, 1)]
theorem zd_X6_reckon_4 : zq_ckC cX6_reckon zc_X6_reckon_4 = true := by decide +kernel
set_option maxRecDepth 1000000 in
theorem zd_X6_reckon : zq_ckC cX6_reckon zc_X6_reckon = true := show zq_ckC cX6_reckon (zc_X6_reckon_0 ++ (zc_X6_reckon_1 ++ (zc_X6_reckon_2 ++ (zc_X6_reckon_3 ++ (zc_X6_reckon_4))))) = true from zq_ckC_app zd_X6_reckon_0 (zq_ckC_app zd_X6_reckon_1 (zq_ckC_app zd_X6_reckon_2 (zq_ckC_app zd_X6_reckon_3 (zd_X6_reckon_4))))
theorem zp_X6_reckon : zq_pn yX6_reckon 2 = true := by decide +kernel
set_option maxRecDepth 1000000 in
theorem zn_X6_reckon : Cond.instanceMethod yX6_reckon ∈ zt := zw_t3 (i := 43) rfl rfl
set_option maxRecDepth 1000000 in
theorem ze_X6_reckon : Cond.selects RX6 yX6_reckon yX6_reckon ∈ zt := zw_t3 (i := 44) rfl rfl
set_option maxRecDepth 1000000 in
theorem zk_X6_isSo : Cond.code yX6_isSo cX6_isSo 5 (some .boolean) ∈ zt := zw_t3 (i := 37) rfl rfl
noncomputable def zc_X6_isSo : zq_Cd := [(0, .aload_n 1, 1), (1, .iload_n 2, 1), (2, .iconst 3, 1), (3, .invokevirtual 20, 3), (6, .istore_n 3, 1), (7, .iload_n 3, 1), (8, .iconst (-1), 1), (9, .if_icmp .ne 5, 3), (12, .iconst 1, 1), (13, .ireturn, 1), (14, .aload_n 0, 1), (15, .aload_n 1, 1), (16, .iload_n 3, 1), (17, .invokevirtual 24, 3), (20, .istore 4, 2), (22, .aload_n 0, 1), (23, .getfield 28, 3), (26, .ifCond .ne 13, 3), (29, .iload 4, 2), (31, .iconst 1, 1), (32, .if_icmp .ne 7, 3), (35, .iconst 1, 1), (36, .goto 4, 3), (39, .iconst 0, 1), (40, .ireturn, 1)]
theorem zd_X6_isSo : zq_ckC cX6_isSo zc_X6_isSo = true := by decide +kernel
theorem zp_X6_isSo : zq_pn yX6_isSo 2 = true := by decide +kernel
set_option maxRecDepth 1000000 in
theorem zn_X6_isSo : Cond.instanceMethod yX6_isSo ∈ zt := zw_t3 (i := 35) rfl rfl
set_option maxRecDepth 1000000 in
theorem ze_X6_isSo : Cond.selects RX6 yX6_isSo yX6_isSo ∈ zt := zw_t3 (i := 36) rfl rfl
set_option maxRecDepth 1000000 in
theorem zk_J9_min_7cf53 : Cond.code yJ9_min_7cf53 cJ9_min_7cf53 2 (some .int) ∈ zt := zw_t3 (i := 58) rfl rfl
noncomputable def zc_J9_min_7cf53 : zq_Cd := [(0, .iload_n 0, 1), (1, .iload_n 1, 1), (2, .if_icmp .gt 7, 3), (5, .iload_n 0, 1), (6, .goto 4, 3), (9, .iload_n 1, 1), (10, .ireturn, 1)]
theorem zd_J9_min_7cf53 : zq_ckC cJ9_min_7cf53 zc_J9_min_7cf53 = true := by decide +kernel
theorem zp_J9_min_7cf53 : zq_pn yJ9_min_7cf53 2 = true := by decide +kernel
set_option maxRecDepth 1000000 in
theorem zs_J9_min_7cf53 : Cond.static yJ9_min_7cf53 ∈ zt := zw_t3 (i := 57) rfl rfl
set_option maxRecDepth 1000000 in
theorem zk_J9_max_7cf53 : Cond.code yJ9_max_7cf53 cJ9_max_7cf53 2 (some .int) ∈ zt := zw_t3 (i := 61) rfl rfl
noncomputable def zc_J9_max_7cf53 : zq_Cd := [(0, .iload_n 0, 1), (1, .iload_n 1, 1), (2, .if_icmp .lt 7, 3), (5, .iload_n 0, 1), (6, .goto 4, 3), (9, .iload_n 1, 1), (10, .ireturn, 1)]
theorem zd_J9_max_7cf53 : zq_ckC cJ9_max_7cf53 zc_J9_max_7cf53 = true := by decide +kernel
theorem zp_J9_max_7cf53 : zq_pn yJ9_max_7cf53 2 = true := by decide +kernel
set_option maxRecDepth 1000000 in
theorem zs_J9_max_7cf53 : Cond.static yJ9_max_7cf53 ∈ zt := zw_t3 (i := 60) rfl rfl
set_option maxRecDepth 1000000 in
theorem zk_X3_hear : Cond.code yX3_hear cX3_hear 13 (some .int) ∈ zt := zw_t3 (i := 29) rfl rfl
noncomputable def zc_X3_hear : zq_Cd := [(0, .iload 4, 2), (2, .istore 7, 2), (4, .iconst 0, 1), (5, .istore 8, 2), (7, .aload_n 0, 1), (8, .aload_n 1, 1), (9, .getfield 15, 3), (12, .iload_n 3, 1), (13, .iaload, 1), (14, .putfield 21, 3), (17, .aload_n 0, 1), (18, .aload_n 1, 1), (19, .iload_n 3, 1), (20, .iload 4, 2), (22, .iload 5, 2), (24, .iload 6, 2), (26, .invokevirtual 25, 3), (29, .aload_n 2, 1), (30, .ifnonnull 7, 3), (33, .iconst 0, 1), (34, .goto 7, 3), (37, .aload_n 2, 1), (38, .getfield 29, 3), (41, .istore 9, 2), (43, .iconst 0, 1), (44, .istore 10, 2), (46, .iload 10, 2), (48, .iload 9, 2), (50, .if_icmp .ge 127, 3), (53, .aload_n 0, 1), (54, .getfield 9, 3), (57, .aload_n 2, 1), (58, .iload 10, 2), (60, .invokevirtual 34, 3), (63, .ifCond .ne 6, 3), (66, .goto 105, 3), (69, .aload_n 2, 1), (70, .getfield 40, 3), (73, .iload 10, 2), (75, .iaload, 1), (76, .istore 11, 2), (78, .iload 11, 2), (80, .bipush 16, 2), (82, .if_icmp .ne 9, 3), (85, .iconst 1, 1), (86, .istore 8, 2), (88, .goto 83, 3), (91, .aload_n 0, 1), (92, .getfield 9, 3), (95, .aload_n 2, 1), (96, .aload_n 2, 1), (97, .iload 10, 2), (99, .iconst 0, 1), (100, .invokevirtual 43, 3), (103, .invokevirtual 47, 3), (106, .istore 12, 2), (108, .aload_n 0, 1), (109, .getfield 9, 3), (112, .getfield 51, 3), (115, .ifCond .ne 31, 3), (118, .iload 11, 2), (120, .bipush 14, 2), (122, .if_icmp .ne 24, 3), (125, .aload_n 1, 1), (126, .iload 12, 2), (128, .invokevirtual 55, 3), (131, .ifCond .eq 8, 3), (134, .iload 12, 2), (136, .goto 5, 3), (139, .bipush 6, 2), (141, .istore 7, 2), (143, .goto 28, 3), (146, .aload_n 0, 1), (147, .getfield 9, 3), (150, .getfield 51, 3), (153, .ifCond .ne 18, 3), (156, .aload_n 0, 1), (157, .iconst 0, 1), (158, .iload 12, 2), (160, .bipush 99, 2), (162, .invokestatic 59, 3), (165, .invokestatic 64, 3), (168, .putfield 21, 3), (171, .iinc 10 1, 3), (174, .goto (-128), 3), (177, .iload 8, 2), (179, .ifCond .eq 8, 3), (182, .bipush 7, 2), (184, .goto 5, 3), (187, .iload 7, 2), (189, .ireturn, 1)]
theorem zd_X3_hear : zq_ckC cX3_hear zc_X3_hear = true := by decide +kernel
theorem zp_X3_hear : zq_pn yX3_hear 6 = true := by decide +kernel
set_option maxRecDepth 1000000 in
theorem zn_X3_hear : Cond.instanceMethod yX3_hear ∈ zt := zw_t3 (i := 27) rfl rfl
set_option maxRecDepth 1000000 in
theorem ze_X3_hear : Cond.selects RX3 yX3_hear yX3_hear ∈ zt := zw_t3 (i := 28) rfl rfl
set_option maxRecDepth 1000000 in
theorem zk_X1_toldOn : Cond.code yX1_toldOn cX1_toldOn 6 (some .int) ∈ zt := zw_t3 (i := 16) rfl rfl
noncomputable def zc_X1_toldOn : zq_Cd := [(0, .aload_n 0, 1), (1, .getfield 21, 3), (4, .aload_n 1, 1), (5, .aload_n 1, 1), (6, .aload_n 1, 1), (7, .getfield 25, 3), (10, .invokevirtual 31, 3), (13, .iload_n 2, 1), (14, .iload_n 3, 1), (15, .iload 4, 2), (17, .aload_n 1, 1), (18, .iload 4, 2), (20, .invokevirtual 35, 3), (23, .iload 5, 2), (25, .iadd, 1), (26, .invokevirtual 39, 3), (29, .ireturn, 1)]
theorem zd_X1_toldOn : zq_ckC cX1_toldOn zc_X1_toldOn = true := by decide +kernel
theorem zp_X1_toldOn : zq_pn yX1_toldOn 5 = true := by decide +kernel
set_option maxRecDepth 1000000 in
theorem zn_X1_toldOn : Cond.instanceMethod yX1_toldOn ∈ zt := zw_t3 (i := 14) rfl rfl
set_option maxRecDepth 1000000 in
theorem ze_X1_toldOn : Cond.selects RX1 yX1_toldOn yX1_toldOn ∈ zt := zw_t3 (i := 15) rfl rfl
set_option maxRecDepth 1000000 in
theorem zk_X11_asks : Cond.code yX11_asks cX11_asks 6 (some .int) ∈ zt := zw_t3 (i := 8) rfl rfl
noncomputable def zc_X11_asks : zq_Cd := [(0, .aload_n 0, 1), (1, .iload_n 1, 1), (2, .iload_n 2, 1), (3, .iload_n 3, 1), (4, .invokevirtual 167, 3), (7, .ifCond .eq 13, 3), (10, .iload 4, 2), (12, .iconst 0, 1), (13, .iconst 1, 1), (14, .invokestatic 99, 3), (17, .ifCond .ne 5, 3), (20, .iconst (-1), 1), (21, .ireturn, 1), (22, .aload_n 0, 1), (23, .getfield 47, 3), (26, .aload_n 0, 1), (27, .getfield 70, 3), (30, .iload_n 1, 1), (31, .iload_n 2, 1), (32, .iload_n 3, 1), (33, .iconst 0, 1), (34, .invokevirtual 170, 3), (37, .istore 5, 2), (39, .iload 4, 2), (41, .ifCond .ne 14, 3), (44, .aload_n 0, 1), (45, .getfield 47, 3), (48, .getfield 174, 3), (51, .getfield 178, 3), (54, .ireturn, 1), (55, .iload 5, 2), (57, .bipush 7, 2), (59, .if_icmp .ne 7, 3), (62, .iconst 1, 1), (63, .goto 4, 3), (66, .iconst 0, 1), (67, .ireturn, 1)]
theorem zd_X11_asks : zq_ckC cX11_asks zc_X11_asks = true := by decide +kernel
theorem zp_X11_asks : zq_pn yX11_asks 4 = true := by decide +kernel
set_option maxRecDepth 1000000 in
theorem zn_X11_asks : Cond.instanceMethod yX11_asks ∈ zt := zw_t3 (i := 6) rfl rfl
set_option maxRecDepth 1000000 in
theorem ze_X11_asks : Cond.selects RX11 yX11_asks yX11_asks ∈ zt := zw_t3 (i := 7) rfl rfl
set_option maxRecDepth 1000000 in
theorem zk_X11_terms : Cond.code yX11_terms cX11_terms 4 (some .int) ∈ zt := zw_t3 (i := 65) rfl rfl
noncomputable def zc_X11_terms : zq_Cd := [(0, .iload_n 1, 1), (1, .iconst 0, 1), (2, .iconst 2, 1), (3, .invokestatic 99, 3), (6, .ifCond .eq 16, 3), (9, .iload_n 2, 1), (10, .iconst 0, 1), (11, .getstatic 181, 3), (14, .iload_n 1, 1), (15, .iaload, 1), (16, .invokestatic 99, 3), (19, .ifCond .ne 9, 3), (22, .aload_n 0, 1), (23, .iconst (-1), 1), (24, .invokevirtual 103, 3), (27, .ireturn, 1), (28, .aload_n 0, 1), (29, .getfield 70, 3), (32, .getfield 184, 3), (35, .iload_n 1, 1), (36, .iaload, 1), (37, .istore_n 3, 1), (38, .aload_n 0, 1), (39, .getfield 70, 3), (42, .getfield 184, 3), (45, .iload_n 1, 1), (46, .iload_n 2, 1), (47, .iastore, 1), (48, .aload_n 0, 1), (49, .getfield 70, 3), (52, .getfield 110, 3), (55, .iconst 0, 1), (56, .putfield 114, 3), (59, .aload_n 0, 1), (60, .iload_n 3, 1), (61, .invokevirtual 122, 3), (64, .ireturn, 1)]
theorem zd_X11_terms : zq_ckC cX11_terms zc_X11_terms = true := by decide +kernel
theorem zp_X11_terms : zq_pn yX11_terms 2 = true := by decide +kernel
set_option maxRecDepth 1000000 in
theorem zn_X11_terms : Cond.instanceMethod yX11_terms ∈ zt := zw_t3 (i := 63) rfl rfl
set_option maxRecDepth 1000000 in
theorem ze_X11_terms : Cond.selects RX11 yX11_terms yX11_terms ∈ zt := zw_t3 (i := 64) rfl rfl
set_option maxRecDepth 1000000 in
theorem zk_X11_row : Cond.code yX11_row cX11_row 4 (some .int) ∈ zt := zw_t3 (i := 83) rfl rfl
noncomputable def zc_X11_row : zq_Cd := [(0, .aload_n 0, 1), (1, .getfield 18, 3), (4, .getfield 187, 3), (7, .ifCond .ne 10, 3), (10, .aload_n 0, 1), (11, .bipush (-6), 2), (13, .invokevirtual 103, 3), (16, .ireturn, 1), (17, .iconst 0, 1), (18, .istore_n 1, 1), (19, .aload_n 0, 1), (20, .iconst 0, 1), (21, .putfield 192, 3), (24, .iconst 0, 1), (25, .istore_n 2, 1), (26, .iload_n 2, 1), (27, .aload_n 0, 1), (28, .getfield 18, 3), (31, .getfield 187, 3), (34, .if_icmp .ge 114, 3), (37, .iload_n 2, 1), (38, .iconst 1, 1), (39, .iadd, 1), (40, .aload_n 0, 1), (41, .getfield 18, 3), (44, .getfield 187, 3), (47, .if_icmp .ge 7, 3), (50, .iconst 1, 1), (51, .goto 4, 3), (54, .iconst 0, 1), (55, .istore_n 3, 1), (56, .iload_n 3, 1), (57, .ifCond .eq 75, 3), (60, .aload_n 0, 1), (61, .getfield 70, 3), (64, .getfield 139, 3), (67, .bipush 6, 2), (69, .if_icmp .ge 63, 3), (72, .aload_n 0, 1), (73, .getfield 18, 3), (76, .getfield 195, 3), (79, .iload_n 2, 1), (80, .iaload, 1), (81, .aload_n 0, 1), (82, .getfield 18, 3), (85, .getfield 195, 3), (88, .iload_n 2, 1), (89, .iconst 1, 1), (90, .iadd, 1), (91, .iaload, 1), (92, .invokestatic 135, 3), (95, .ifCond .eq 37, 3), (98, .aload_n 0, 1), (99, .getfield 70, 3), (102, .aload_n 0, 1), (103, .getfield 18, 3), (106, .getfield 195, 3), (109, .iload_n 2, 1), (110, .iaload, 1), (111, .aload_n 0, 1), (112, .getfield 18, 3), (115, .getfield 195, 3), (118, .iload_n 2, 1), (119, .iconst 1, 1), (120, .iadd, 1), (121, .iaload, 1), (122, .invokevirtual 142, 3), (125, .pop, 1), (126, .iinc 1 1, 3), (129, .goto 13, 3), (132, .aload_n 0, 1), (133, .dup, 1), (134, .getfield 192, 3), (137, .iconst 1, 1), (138, .iadd, 1), (139, .putfield 192, 3), (142, .iinc 2 2, 3), (145, .goto (-119), 3), (148, .aload_n 0, 1), (149, .getfield 18, 3), (152, .iconst 0, 1), (153, .putfield 187, 3), (156, .aload_n 0, 1), (157, .iload_n 1, 1), (158, .invokevirtual 122, 3), (161, .ireturn, 1)]
theorem zd_X11_row : zq_ckC cX11_row zc_X11_row = true := by decide +kernel
theorem zp_X11_row : zq_pn yX11_row 0 = true := by decide +kernel
set_option maxRecDepth 1000000 in
theorem zn_X11_row : Cond.instanceMethod yX11_row ∈ zt := zw_t3 (i := 81) rfl rfl
set_option maxRecDepth 1000000 in
theorem ze_X11_row : Cond.selects RX11 yX11_row yX11_row ∈ zt := zw_t3 (i := 82) rfl rfl
set_option maxRecDepth 1000000 in
theorem zk_X11_blots : Cond.code yX11_blots cX11_blots 1 (some .int) ∈ zt := zw_t3 (i := 87) rfl rfl
noncomputable def zc_X11_blots : zq_Cd := [(0, .aload_n 0, 1), (1, .getfield 192, 3), (4, .ireturn, 1)]
theorem zd_X11_blots : zq_ckC cX11_blots zc_X11_blots = true := by decide +kernel
theorem zp_X11_blots : zq_pn yX11_blots 0 = true := by decide +kernel
set_option maxRecDepth 1000000 in
theorem zn_X11_blots : Cond.instanceMethod yX11_blots ∈ zt := zw_t3 (i := 85) rfl rfl
set_option maxRecDepth 1000000 in
theorem ze_X11_blots : Cond.selects RX11 yX11_blots yX11_blots ∈ zt := zw_t3 (i := 86) rfl rfl
set_option maxRecDepth 1000000 in
theorem zk_X8_take : Cond.code yX8_take cX8_take 3 none ∈ zt := zw_t3 (i := 75) rfl rfl
noncomputable def zc_X8_take : zq_Cd := [(0, .bipush 24, 2), (2, .istore_n 2, 1), (3, .iload_n 2, 1), (4, .ifCond .lt 45, 3), (7, .aload_n 0, 1), (8, .getfield 27, 3), (11, .sipush 400, 3), (14, .if_icmp .ge 35, 3), (17, .aload_n 0, 1), (18, .getfield 9, 3), (21, .aload_n 0, 1), (22, .getfield 27, 3), (25, .iload_n 1, 1), (26, .iload_n 2, 1), (27, .ishr, 1), (28, .sipush 255, 3), (31, .iand, 1), (32, .iastore, 1), (33, .aload_n 0, 1), (34, .dup, 1), (35, .getfield 27, 3), (38, .iconst 1, 1), (39, .iadd, 1), (40, .putfield 27, 3), (43, .iinc 2 (-8), 3), (46, .goto (-43), 3), (49, .return_, 1)]
theorem zd_X8_take : zq_ckC cX8_take zc_X8_take = true := by decide +kernel
theorem zp_X8_take : zq_pn yX8_take 1 = true := by decide +kernel
set_option maxRecDepth 1000000 in
theorem zn_X8_take : Cond.instanceMethod yX8_take ∈ zt := zw_t3 (i := 73) rfl rfl
set_option maxRecDepth 1000000 in
theorem ze_X8_take : Cond.selects RX8 yX8_take yX8_take ∈ zt := zw_t3 (i := 74) rfl rfl
set_option maxRecDepth 1000000 in
theorem zk_X11_feed : Cond.code yX11_feed cX11_feed 6 (some .int) ∈ zt := zw_t3 (i := 71) rfl rfl
noncomputable def zc_X11_feed : zq_Cd := [(0, .aload_n 0, 1), (1, .getfield 18, 3), (4, .getfield 187, 3), (7, .bipush 20, 2), (9, .iadd, 1), (10, .sipush 400, 3), (13, .if_icmp .le 5, 3), (16, .iconst (-1), 1), (17, .ireturn, 1), (18, .aload_n 0, 1), (19, .getfield 18, 3), (22, .iload_n 1, 1), (23, .invokevirtual 188, 3), (26, .aload_n 0, 1), (27, .getfield 18, 3), (30, .iload_n 2, 1), (31, .invokevirtual 188, 3), (34, .aload_n 0, 1), (35, .getfield 18, 3), (38, .iload_n 3, 1), (39, .invokevirtual 188, 3), (42, .aload_n 0, 1), (43, .getfield 18, 3), (46, .iload 4, 2), (48, .invokevirtual 188, 3), (51, .aload_n 0, 1), (52, .getfield 18, 3), (55, .iload 5, 2), (57, .invokevirtual 188, 3), (60, .aload_n 0, 1), (61, .getfield 18, 3), (64, .getfield 187, 3), (67, .ireturn, 1)]
theorem zd_X11_feed : zq_ckC cX11_feed zc_X11_feed = true := by decide +kernel
theorem zp_X11_feed : zq_pn yX11_feed 5 = true := by decide +kernel
set_option maxRecDepth 1000000 in
theorem zn_X11_feed : Cond.instanceMethod yX11_feed ∈ zt := zw_t3 (i := 69) rfl rfl
set_option maxRecDepth 1000000 in
theorem ze_X11_feed : Cond.selects RX11 yX11_feed yX11_feed ∈ zt := zw_t3 (i := 70) rfl rfl
set_option maxRecDepth 1000000 in
theorem zk_X11_end : Cond.code yX11_end cX11_end 2 (some .int) ∈ zt := zw_t3 (i := 79) rfl rfl
noncomputable def zc_X11_end : zq_Cd := [(0, .iload_n 1, 1), (1, .iconst 0, 1), (2, .aload_n 0, 1), (3, .getfield 18, 3), (6, .getfield 187, 3), (9, .invokestatic 99, 3), (12, .ifCond .ne 5, 3), (15, .iconst (-1), 1), (16, .ireturn, 1), (17, .aload_n 0, 1), (18, .getfield 18, 3), (21, .iload_n 1, 1), (22, .putfield 187, 3), (25, .iload_n 1, 1), (26, .ireturn, 1)]
theorem zd_X11_end : zq_ckC cX11_end zc_X11_end = true := by decide +kernel
theorem zp_X11_end : zq_pn yX11_end 1 = true := by decide +kernel
set_option maxRecDepth 1000000 in
theorem zn_X11_end : Cond.instanceMethod yX11_end ∈ zt := zw_t3 (i := 77) rfl rfl
set_option maxRecDepth 1000000 in
theorem ze_X11_end : Cond.selects RX11 yX11_end yX11_end ∈ zt := zw_t3 (i := 78) rfl rfl
set_option maxRecDepth 1000000 in
theorem zk_X8_kindOf : Cond.code yX8_kindOf cX8_kindOf 1 (some .int) ∈ zt := zw_t3 (i := 102) rfl rfl
noncomputable def zc_X8_kindOf : zq_Cd := [(0, .iload_n 0, 1), (1, .bipush 32, 2), (3, .if_icmp .ne 5, 3), (6, .iconst 0, 1), (7, .ireturn, 1), (8, .iload_n 0, 1), (9, .bipush 97, 2), (11, .if_icmp .lt 11, 3), (14, .iload_n 0, 1), (15, .bipush 122, 2), (17, .if_icmp .gt 5, 3), (20, .iconst 1, 1), (21, .ireturn, 1), (22, .iload_n 0, 1), (23, .bipush 48, 2), (25, .if_icmp .lt 13, 3), (28, .iload_n 0, 1), (29, .bipush 57, 2), (31, .if_icmp .gt 7, 3), (34, .iconst 2, 1), (35, .goto 4, 3), (38, .iconst 3, 1), (39, .ireturn, 1)]
theorem zd_X8_kindOf : zq_ckC cX8_kindOf zc_X8_kindOf = true := by decide +kernel
theorem zp_X8_kindOf : zq_pn yX8_kindOf 1 = true := by decide +kernel
set_option maxRecDepth 1000000 in
theorem zs_X8_kindOf : Cond.static yX8_kindOf ∈ zt := zw_t3 (i := 101) rfl rfl
set_option maxRecDepth 1000000 in
theorem zk_J0_coder_7d493 : Cond.code yJ0_coder_7d493 cJ0_coder_7d493 1 (some .byte) ∈ zt := zw_t3 (i := 119) rfl rfl
noncomputable def zc_J0_coder_7d493 : zq_Cd := [(0, .getstatic 38, 3), (3, .ifCond .eq 10, 3), (6, .aload_n 0, 1), (7, .getfield 15, 3), (10, .goto 4, 3), (13, .iconst 1, 1), (14, .ireturn, 1)]
theorem zd_J0_coder_7d493 : zq_ckC cJ0_coder_7d493 zc_J0_coder_7d493 = true := by decide +kernel
theorem zp_J0_coder_7d493 : zq_pn yJ0_coder_7d493 0 = true := by decide +kernel
set_option maxRecDepth 1000000 in
theorem zn_J0_coder_7d493 : Cond.instanceMethod yJ0_coder_7d493 ∈ zt := zw_t3 (i := 117) rfl rfl
set_option maxRecDepth 1000000 in
theorem ze_J0_coder_7d493 : Cond.selects RJ0 yJ0_coder_7d493 yJ0_coder_7d493 ∈ zt := zw_t3 (i := 118) rfl rfl
set_option maxRecDepth 1000000 in
theorem zk_J0_length_8abf5 : Cond.code yJ0_length_8abf5 cJ0_length_8abf5 1 (some .int) ∈ zt := zw_t3 (i := 115) rfl rfl
noncomputable def zc_J0_length_8abf5 : zq_Cd := [(0, .aload_n 0, 1), (1, .getfield 9, 3), (4, .arraylength, 1), (5, .aload_n 0, 1), (6, .invokevirtual 335, 3), (9, .ishr, 1), (10, .ireturn, 1)]
theorem zd_J0_length_8abf5 : zq_ckC cJ0_length_8abf5 zc_J0_length_8abf5 = true := by decide +kernel
theorem zp_J0_length_8abf5 : zq_pn yJ0_length_8abf5 0 = true := by decide +kernel
set_option maxRecDepth 1000000 in
theorem zn_J0_length_8abf5 : Cond.instanceMethod yJ0_length_8abf5 ∈ zt := zw_t3 (i := 113) rfl rfl
set_option maxRecDepth 1000000 in
theorem ze_J0_length_8abf5 : Cond.selects RJ0 yJ0_length_8abf5 yJ0_length_8abf5 ∈ zt := zw_t3 (i := 114) rfl rfl
set_option maxRecDepth 1000000 in
theorem zk_J0_isLatin1_aae02 : Cond.code yJ0_isLatin1_aae02 cJ0_isLatin1_aae02 1 (some .boolean) ∈ zt := zw_t3 (i := 129) rfl rfl
noncomputable def zc_J0_isLatin1_aae02 : zq_Cd := [(0, .getstatic 38, 3), (3, .ifCond .eq 14, 3), (6, .aload_n 0, 1), (7, .getfield 15, 3), (10, .ifCond .ne 7, 3), (13, .iconst 1, 1), (14, .goto 4, 3), (17, .iconst 0, 1), (18, .ireturn, 1)]
theorem zd_J0_isLatin1_aae02 : zq_ckC cJ0_isLatin1_aae02 zc_J0_isLatin1_aae02 = true := by decide +kernel
theorem zp_J0_isLatin1_aae02 : zq_pn yJ0_isLatin1_aae02 0 = true := by decide +kernel
set_option maxRecDepth 1000000 in
theorem zn_J0_isLatin1_aae02 : Cond.instanceMethod yJ0_isLatin1_aae02 ∈ zt := zw_t3 (i := 127) rfl rfl
set_option maxRecDepth 1000000 in
theorem ze_J0_isLatin1_aae02 : Cond.selects RJ0 yJ0_isLatin1_aae02 yJ0_isLatin1_aae02 ∈ zt := zw_t3 (i := 128) rfl rfl
set_option maxRecDepth 1000000 in
theorem zk_J3_checkIndex_8e157 : Cond.code yJ3_checkIndex_8e157 cJ3_checkIndex_8e157 3 (some .int) ∈ zt := zw_t3 (i := 140) rfl rfl
noncomputable def zc_J3_checkIndex_8e157 : zq_Cd := [(0, .iload_n 0, 1), (1, .ifCond .lt 8, 3), (4, .iload_n 0, 1), (5, .iload_n 1, 1), (6, .if_icmp .lt 10, 3), (9, .aload_n 2, 1), (10, .iload_n 0, 1), (11, .iload_n 1, 1), (12, .invokestatic 95, 3), (15, .athrow, 1), (16, .iload_n 0, 1), (17, .ireturn, 1)]
theorem zd_J3_checkIndex_8e157 : zq_ckC cJ3_checkIndex_8e157 zc_J3_checkIndex_8e157 = true := by decide +kernel
theorem zp_J3_checkIndex_8e157 : zq_pn yJ3_checkIndex_8e157 3 = true := by decide +kernel
set_option maxRecDepth 1000000 in
theorem zs_J3_checkIndex_8e157 : Cond.static yJ3_checkIndex_8e157 ∈ zt := zw_t3 (i := 139) rfl rfl
set_option maxRecDepth 1000000 in
theorem zk_J0_checkIndex_df160 : Cond.code yJ0_checkIndex_df160 cJ0_checkIndex_df160 2 none ∈ zt := zw_t3 (i := 135) rfl rfl
noncomputable def zc_J0_checkIndex_df160 : zq_Cd := [(0, .iload_n 0, 1), (1, .iload_n 1, 1), (2, .getstatic 1053, 3), (5, .invokestatic 1059, 3), (8, .pop, 1), (9, .return_, 1)]
theorem zd_J0_checkIndex_df160 : zq_ckC cJ0_checkIndex_df160 zc_J0_checkIndex_df160 = true := by decide +kernel
theorem zp_J0_checkIndex_df160 : zq_pn yJ0_checkIndex_df160 2 = true := by decide +kernel
set_option maxRecDepth 1000000 in
theorem zs_J0_checkIndex_df160 : Cond.static yJ0_checkIndex_df160 ∈ zt := zw_t3 (i := 134) rfl rfl
set_option maxRecDepth 1000000 in
theorem zk_J1_charAt_3b067 : Cond.code yJ1_charAt_3b067 cJ1_charAt_3b067 2 (some .char) ∈ zt := zw_t3 (i := 132) rfl rfl
noncomputable def zc_J1_charAt_3b067 : zq_Cd := [(0, .iload_n 1, 1), (1, .aload_n 0, 1), (2, .arraylength, 1), (3, .invokestatic 9, 3), (6, .aload_n 0, 1), (7, .iload_n 1, 1), (8, .baload, 1), (9, .sipush 255, 3), (12, .iand, 1), (13, .i2c, 1), (14, .ireturn, 1)]
theorem zd_J1_charAt_3b067 : zq_ckC cJ1_charAt_3b067 zc_J1_charAt_3b067 = true := by decide +kernel
theorem zp_J1_charAt_3b067 : zq_pn yJ1_charAt_3b067 2 = true := by decide +kernel
set_option maxRecDepth 1000000 in
theorem zs_J1_charAt_3b067 : Cond.static yJ1_charAt_3b067 ∈ zt := zw_t3 (i := 131) rfl rfl
set_option maxRecDepth 1000000 in
theorem zk_J0_charAt_5068e : Cond.code yJ0_charAt_5068e cJ0_charAt_5068e 2 (some .char) ∈ zt := zw_t3 (i := 125) rfl rfl
noncomputable def zc_J0_charAt_5068e : zq_Cd := [(0, .aload_n 0, 1), (1, .invokevirtual 492, 3), (4, .ifCond .eq 12, 3), (7, .aload_n 0, 1), (8, .getfield 9, 3), (11, .iload_n 1, 1), (12, .invokestatic 495, 3), (15, .ireturn, 1), (16, .aload_n 0, 1), (17, .getfield 9, 3), (20, .iload_n 1, 1), (21, .invokestatic 498, 3), (24, .ireturn, 1)]
theorem zd_J0_charAt_5068e : zq_ckC cJ0_charAt_5068e zc_J0_charAt_5068e = true := by decide +kernel
theorem zp_J0_charAt_5068e : zq_pn yJ0_charAt_5068e 1 = true := by decide +kernel
set_option maxRecDepth 1000000 in
theorem zn_J0_charAt_5068e : Cond.instanceMethod yJ0_charAt_5068e ∈ zt := zw_t3 (i := 123) rfl rfl
set_option maxRecDepth 1000000 in
theorem ze_J0_charAt_5068e : Cond.selects RJ0 yJ0_charAt_5068e yJ0_charAt_5068e ∈ zt := zw_t3 (i := 124) rfl rfl
set_option maxRecDepth 1000000 in
theorem zk_X8_wordOf : Cond.code yX8_wordOf cX8_wordOf 7 (some .int) ∈ zt := zw_t3 (i := 110) rfl rfl
noncomputable def zc_X8_wordOf : zq_Cd := [(0, .iconst 0, 1), (1, .istore_n 3, 1), (2, .iconst 0, 1), (3, .istore 4, 2), (5, .iconst 0, 1), (6, .istore 5, 2), (8, .iload 5, 2), (10, .ldc 46, 2), (12, .invokevirtual 48, 3), (15, .if_icmp .ge 82, 3), (18, .ldc 46, 2), (20, .iload 5, 2), (22, .invokevirtual 54, 3), (25, .istore 6, 2), (27, .iload 6, 2), (29, .bipush 32, 2), (31, .if_icmp .ne 22, 3), (34, .iload 4, 2), (36, .iload_n 2, 1), (37, .iload_n 1, 1), (38, .isub, 1), (39, .if_icmp .ne 5, 3), (42, .iload_n 3, 1), (43, .ireturn, 1), (44, .iinc 3 1, 3), (47, .iconst 0, 1), (48, .istore 4, 2), (50, .goto 41, 3), (53, .iload 4, 2), (55, .iconst (-1), 1), (56, .if_icmp .eq 35, 3), (59, .iload_n 1, 1), (60, .iload 4, 2), (62, .iadd, 1), (63, .iload_n 2, 1), (64, .if_icmp .ge 24, 3), (67, .aload_n 0, 1), (68, .getfield 9, 3), (71, .iload_n 1, 1), (72, .iload 4, 2), (74, .iadd, 1), (75, .iaload, 1), (76, .iload 6, 2), (78, .if_icmp .ne 10, 3), (81, .iload 4, 2), (83, .iconst 1, 1), (84, .iadd, 1), (85, .goto 4, 3), (88, .iconst (-1), 1), (89, .istore 4, 2), (91, .iinc 5 1, 3), (94, .goto (-86), 3), (97, .bipush 29, 2), (99, .ireturn, 1)]
theorem zd_X8_wordOf : zq_ckC cX8_wordOf zc_X8_wordOf = true := by decide +kernel
theorem zp_X8_wordOf : zq_pn yX8_wordOf 2 = true := by decide +kernel
set_option maxRecDepth 1000000 in
theorem zn_X8_wordOf : Cond.instanceMethod yX8_wordOf ∈ zt := zw_t3 (i := 109) rfl rfl
theorem ze_X8_wordOf : Cond.selects RX8 yX8_wordOf yX8_wordOf ∈ zt := zq_hw_ok (i := 5) (by decide +kernel)
set_option maxRecDepth 1000000 in
theorem zk_X8_numberOf : Cond.code yX8_numberOf cX8_numberOf 5 (some .int) ∈ zt := zw_t3 (i := 163) rfl rfl
noncomputable def zc_X8_numberOf : zq_Cd := [(0, .iconst 0, 1), (1, .istore_n 3, 1), (2, .iload_n 1, 1), (3, .istore 4, 2), (5, .iload 4, 2), (7, .iload_n 2, 1), (8, .if_icmp .ge 31, 3), (11, .bipush 10, 2), (13, .iload_n 3, 1), (14, .imul, 1), (15, .aload_n 0, 1), (16, .getfield 9, 3), (19, .iload 4, 2), (21, .iaload, 1), (22, .iadd, 1), (23, .bipush 48, 2), (25, .isub, 1), (26, .sipush 1001, 3), (29, .invokestatic 58, 3), (32, .istore_n 3, 1), (33, .iinc 4 1, 3), (36, .goto (-31), 3), (39, .iload_n 3, 1), (40, .ireturn, 1)]
theorem zd_X8_numberOf : zq_ckC cX8_numberOf zc_X8_numberOf = true := by decide +kernel
theorem zp_X8_numberOf : zq_pn yX8_numberOf 2 = true := by decide +kernel
set_option maxRecDepth 1000000 in
theorem zn_X8_numberOf : Cond.instanceMethod yX8_numberOf ∈ zt := zw_t3 (i := 162) rfl rfl
theorem ze_X8_numberOf : Cond.selects RX8 yX8_numberOf yX8_numberOf ∈ zt := zq_hw_ok (i := 6) (by decide +kernel)
set_option maxRecDepth 1000000 in
theorem zk_X8_name : Cond.code yX8_name cX8_name 4 none ∈ zt := zw_t3 (i := 106) rfl rfl
noncomputable def zc_X8_name : zq_Cd := [(0, .aload_n 0, 1), (1, .getfield 9, 3), (4, .aload_n 0, 1), (5, .getfield 18, 3), (8, .iload_n 1, 1), (9, .iaload, 1), (10, .iaload, 1), (11, .istore_n 2, 1), (12, .iload_n 2, 1), (13, .invokestatic 31, 3), (16, .istore_n 3, 1), (17, .iload_n 3, 1), (18, .iconst 1, 1), (19, .if_icmp .ne 28, 3), (22, .aload_n 0, 1), (23, .getfield 15, 3), (26, .iload_n 1, 1), (27, .aload_n 0, 1), (28, .aload_n 0, 1), (29, .getfield 18, 3), (32, .iload_n 1, 1), (33, .iaload, 1), (34, .aload_n 0, 1), (35, .getfield 21, 3), (38, .iload_n 1, 1), (39, .iaload, 1), (40, .invokevirtual 39, 3), (43, .iastore, 1), (44, .goto 51, 3), (47, .iload_n 3, 1), (48, .iconst 2, 1), (49, .if_icmp .ne 36, 3), (52, .aload_n 0, 1), (53, .getfield 15, 3), (56, .iload_n 1, 1), (57, .bipush 30, 2), (59, .iastore, 1), (60, .aload_n 0, 1), (61, .getfield 24, 3), (64, .iload_n 1, 1), (65, .aload_n 0, 1), (66, .aload_n 0, 1), (67, .getfield 18, 3), (70, .iload_n 1, 1), (71, .iaload, 1), (72, .aload_n 0, 1), (73, .getfield 21, 3), (76, .iload_n 1, 1), (77, .iaload, 1), (78, .invokevirtual 43, 3), (81, .iastore, 1), (82, .goto 13, 3), (85, .aload_n 0, 1), (86, .getfield 15, 3), (89, .iload_n 1, 1), (90, .bipush 32, 2), (92, .iload_n 2, 1), (93, .iadd, 1), (94, .iastore, 1), (95, .return_, 1)]
theorem zd_X8_name : zq_ckC cX8_name zc_X8_name = true := by decide +kernel
theorem zp_X8_name : zq_pn yX8_name 1 = true := by decide +kernel
set_option maxRecDepth 1000000 in
theorem zn_X8_name : Cond.instanceMethod yX8_name ∈ zt := zw_t3 (i := 105) rfl rfl
theorem ze_X8_name : Cond.selects RX8 yX8_name yX8_name ∈ zt := zq_hw_ok (i := 4) (by decide +kernel)
set_option maxRecDepth 1000000 in
theorem zk_X8_cut : Cond.code yX8_cut cX8_cut 5 none ∈ zt := zw_t3 (i := 99) rfl rfl
noncomputable def zc_X8_cut : zq_Cd := [(0, .iconst 0, 1), (1, .istore_n 1, 1), (2, .iconst 0, 1), (3, .istore_n 2, 1), (4, .iconst 0, 1), (5, .istore_n 3, 1), (6, .iload_n 3, 1), (7, .aload_n 0, 1), (8, .getfield 27, 3), (11, .if_icmp .ge 66, 3), (14, .aload_n 0, 1), (15, .getfield 9, 3), (18, .iload_n 3, 1), (19, .iaload, 1), (20, .invokestatic 31, 3), (23, .istore 4, 2), (25, .iload 4, 2), (27, .iconst 3, 1), (28, .if_icmp .eq 14, 3), (31, .iload 4, 2), (33, .ifCond .eq 19, 3), (36, .iload 4, 2), (38, .iload_n 2, 1), (39, .if_icmp .eq 13, 3), (42, .aload_n 0, 1), (43, .getfield 18, 3), (46, .iload_n 1, 1), (47, .iload_n 3, 1), (48, .iastore, 1), (49, .iinc 1 1, 3), (52, .iload 4, 2), (54, .ifCond .eq 14, 3), (57, .aload_n 0, 1), (58, .getfield 21, 3), (61, .iload_n 1, 1), (62, .iconst 1, 1), (63, .isub, 1), (64, .iload_n 3, 1), (65, .iconst 1, 1), (66, .iadd, 1), (67, .iastore, 1), (68, .iload 4, 2), (70, .istore_n 2, 1), (71, .iinc 3 1, 3), (74, .goto (-68), 3), (77, .iconst 0, 1), (78, .istore_n 3, 1), (79, .iload_n 3, 1), (80, .iload_n 1, 1), (81, .if_icmp .ge 14, 3), (84, .aload_n 0, 1), (85, .iload_n 3, 1), (86, .invokevirtual 35, 3), (89, .iinc 3 1, 3), (92, .goto (-13), 3), (95, .aload_n 0, 1), (96, .getfield 18, 3), (99, .iload_n 1, 1), (100, .aload_n 0, 1), (101, .getfield 27, 3), (104, .iastore, 1), (105, .aload_n 0, 1), (106, .getfield 15, 3), (109, .iload_n 1, 1), (110, .bipush 31, 2), (112, .iastore, 1), (113, .return_, 1)]
theorem zd_X8_cut : zq_ckC cX8_cut zc_X8_cut = true := by decide +kernel
theorem zp_X8_cut : zq_pn yX8_cut 0 = true := by decide +kernel
set_option maxRecDepth 1000000 in
theorem zn_X8_cut : Cond.instanceMethod yX8_cut ∈ zt := zw_t3 (i := 97) rfl rfl
set_option maxRecDepth 1000000 in
theorem ze_X8_cut : Cond.selects RX8 yX8_cut yX8_cut ∈ zt := zw_t3 (i := 98) rfl rfl
set_option maxRecDepth 1000000 in
theorem zk_X9_open : Cond.code yX9_open cX9_open 3 none ∈ zt := zw_t3 (i := 168) rfl rfl
noncomputable def zc_X9_open : zq_Cd := [(0, .aload_n 0, 1), (1, .iload_n 1, 1), (2, .iconst 1, 1), (3, .iadd, 1), (4, .putfield 24, 3), (7, .aload_n 0, 1), (8, .getfield 15, 3), (11, .iload_n 1, 1), (12, .iconst 1, 1), (13, .iastore, 1), (14, .iconst 0, 1), (15, .istore_n 2, 1), (16, .iload_n 2, 1), (17, .iconst 3, 1), (18, .if_icmp .gt 20, 3), (21, .aload_n 0, 1), (22, .getfield 18, 3), (25, .iconst 4, 1), (26, .iload_n 1, 1), (27, .imul, 1), (28, .iload_n 2, 1), (29, .iadd, 1), (30, .iconst (-1), 1), (31, .iastore, 1), (32, .iinc 2 1, 3), (35, .goto (-19), 3), (38, .return_, 1)]
theorem zd_X9_open : zq_ckC cX9_open zc_X9_open = true := by decide +kernel
theorem zp_X9_open : zq_pn yX9_open 1 = true := by decide +kernel
set_option maxRecDepth 1000000 in
theorem zn_X9_open : Cond.instanceMethod yX9_open ∈ zt := zw_t3 (i := 166) rfl rfl
set_option maxRecDepth 1000000 in
theorem ze_X9_open : Cond.selects RX9 yX9_open yX9_open ∈ zt := zw_t3 (i := 167) rfl rfl
set_option maxRecDepth 1000000 in
theorem zk_X9_begin : Cond.code yX9_begin cX9_begin 3 none ∈ zt := zw_t3 (i := 184) rfl rfl
noncomputable def zc_X9_begin : zq_Cd := [(0, .aload_n 0, 1), (1, .getfield 18, 3), (4, .iconst 4, 1), (5, .iload_n 1, 1), (6, .imul, 1), (7, .iload_n 2, 1), (8, .iadd, 1), (9, .aload_n 0, 1), (10, .getfield 28, 3), (13, .iastore, 1), (14, .return_, 1)]
theorem zd_X9_begin : zq_ckC cX9_begin zc_X9_begin = true := by decide +kernel
theorem zp_X9_begin : zq_pn yX9_begin 2 = true := by decide +kernel
set_option maxRecDepth 1000000 in
theorem zn_X9_begin : Cond.instanceMethod yX9_begin ∈ zt := zw_t3 (i := 182) rfl rfl
set_option maxRecDepth 1000000 in
theorem ze_X9_begin : Cond.selects RX9 yX9_begin yX9_begin ∈ zt := zw_t3 (i := 183) rfl rfl
set_option maxRecDepth 1000000 in
theorem zk_X5_is : Cond.code yX5_is cX5_is 2 (some .boolean) ∈ zt := zw_t3 (i := 196) rfl rfl
noncomputable def zc_X5_is : zq_Cd := [(0, .aload_n 0, 1), (1, .getfield 20, 3), (4, .getfield 77, 3), (7, .aload_n 0, 1), (8, .getfield 32, 3), (11, .iaload, 1), (12, .iload_n 1, 1), (13, .if_icmp .ne 7, 3), (16, .iconst 1, 1), (17, .goto 4, 3), (20, .iconst 0, 1), (21, .ireturn, 1)]
theorem zd_X5_is : zq_ckC cX5_is zc_X5_is = true := by decide +kernel
theorem zp_X5_is : zq_pn yX5_is 1 = true := by decide +kernel
set_option maxRecDepth 1000000 in
theorem zn_X5_is : Cond.instanceMethod yX5_is ∈ zt := zw_t3 (i := 195) rfl rfl
theorem ze_X5_is : Cond.selects RX5 yX5_is yX5_is ∈ zt := zq_hw_ok (i := 12) (by decide +kernel)
set_option maxRecDepth 1000000 in
theorem zk_X9_emit : Cond.code yX9_emit cX9_emit 3 (some .int) ∈ zt := zw_t3 (i := 208) rfl rfl
noncomputable def zc_X9_emit : zq_Cd := [(0, .aload_n 0, 1), (1, .getfield 28, 3), (4, .aload_n 0, 1), (5, .getfield 21, 3), (8, .arraylength, 1), (9, .if_icmp .ge 28, 3), (12, .aload_n 0, 1), (13, .getfield 21, 3), (16, .aload_n 0, 1), (17, .getfield 28, 3), (20, .iload_n 1, 1), (21, .bipush 16, 2), (23, .iload_n 2, 1), (24, .imul, 1), (25, .iadd, 1), (26, .iastore, 1), (27, .aload_n 0, 1), (28, .dup, 1), (29, .getfield 28, 3), (32, .iconst 1, 1), (33, .iadd, 1), (34, .putfield 28, 3), (37, .aload_n 0, 1), (38, .getfield 28, 3), (41, .iconst 1, 1), (42, .isub, 1), (43, .ireturn, 1)]
theorem zd_X9_emit : zq_ckC cX9_emit zc_X9_emit = true := by decide +kernel
theorem zp_X9_emit : zq_pn yX9_emit 2 = true := by decide +kernel
set_option maxRecDepth 1000000 in
theorem zn_X9_emit : Cond.instanceMethod yX9_emit ∈ zt := zw_t3 (i := 206) rfl rfl
set_option maxRecDepth 1000000 in
theorem ze_X9_emit : Cond.selects RX9 yX9_emit yX9_emit ∈ zt := zw_t3 (i := 207) rfl rfl
set_option maxRecDepth 1000000 in
theorem zk_X5_isNumber : Cond.code yX5_isNumber cX5_isNumber 3 (some .boolean) ∈ zt := zw_t3 (i := 204) rfl rfl
noncomputable def zc_X5_isNumber : zq_Cd := [(0, .aload_n 0, 1), (1, .getfield 20, 3), (4, .getfield 77, 3), (7, .aload_n 0, 1), (8, .getfield 32, 3), (11, .iaload, 1), (12, .bipush 30, 2), (14, .if_icmp .ne 39, 3), (17, .aload_n 0, 1), (18, .getfield 20, 3), (21, .getfield 96, 3), (24, .aload_n 0, 1), (25, .getfield 32, 3), (28, .iaload, 1), (29, .iload_n 1, 1), (30, .if_icmp .lt 23, 3), (33, .aload_n 0, 1), (34, .getfield 20, 3), (37, .getfield 96, 3), (40, .aload_n 0, 1), (41, .getfield 32, 3), (44, .iaload, 1), (45, .iload_n 2, 1), (46, .if_icmp .gt 7, 3), (49, .iconst 1, 1), (50, .goto 4, 3), (53, .iconst 0, 1), (54, .ireturn, 1)]
theorem zd_X5_isNumber : zq_ckC cX5_isNumber zc_X5_isNumber = true := by decide +kernel
theorem zp_X5_isNumber : zq_pn yX5_isNumber 2 = true := by decide +kernel
set_option maxRecDepth 1000000 in
theorem zn_X5_isNumber : Cond.instanceMethod yX5_isNumber ∈ zt := zw_t3 (i := 203) rfl rfl
theorem ze_X5_isNumber : Cond.selects RX5 yX5_isNumber yX5_isNumber ∈ zt := zq_hw_ok (i := 14) (by decide +kernel)
set_option maxRecDepth 1000000 in
theorem zk_X5_readNumber : Cond.code yX5_readNumber cX5_readNumber 4 (some .boolean) ∈ zt := zw_t3 (i := 200) rfl rfl
noncomputable def zc_X5_readNumber : zq_Cd := [(0, .aload_n 0, 1), (1, .iconst 0, 1), (2, .iload_n 3, 1), (3, .invokevirtual 90, 3), (6, .ifCond .ne 5, 3), (9, .iconst 0, 1), (10, .ireturn, 1), (11, .aload_n 0, 1), (12, .getfield 14, 3), (15, .iload_n 1, 1), (16, .iload_n 2, 1), (17, .aload_n 0, 1), (18, .getfield 20, 3), (21, .getfield 96, 3), (24, .aload_n 0, 1), (25, .getfield 32, 3), (28, .iaload, 1), (29, .iadd, 1), (30, .invokevirtual 70, 3), (33, .pop, 1), (34, .aload_n 0, 1), (35, .dup, 1), (36, .getfield 32, 3), (39, .iconst 1, 1), (40, .iadd, 1), (41, .putfield 32, 3), (44, .iconst 1, 1), (45, .ireturn, 1)]
theorem zd_X5_readNumber : zq_ckC cX5_readNumber zc_X5_readNumber = true := by decide +kernel
theorem zp_X5_readNumber : zq_pn yX5_readNumber 3 = true := by decide +kernel
set_option maxRecDepth 1000000 in
theorem zn_X5_readNumber : Cond.instanceMethod yX5_readNumber ∈ zt := zw_t3 (i := 199) rfl rfl
theorem ze_X5_readNumber : Cond.selects RX5 yX5_readNumber yX5_readNumber ∈ zt := zq_hw_ok (i := 13) (by decide +kernel)
set_option maxRecDepth 1000000 in
theorem zk_X5_readPart : Cond.code yX5_readPart cX5_readPart 3 (some .boolean) ∈ zt := zw_t3 (i := 192) rfl rfl
noncomputable def zc_X5_readPart : zq_Cd := [(0, .aload_n 0, 1), (1, .bipush 123, 2), (3, .invokevirtual 74, 3), (6, .ifCond .eq 46, 3), (9, .iload_n 1, 1), (10, .bipush 8, 2), (12, .if_icmp .lt 5, 3), (15, .iconst 0, 1), (16, .ireturn, 1), (17, .aload_n 0, 1), (18, .dup, 1), (19, .getfield 32, 3), (22, .iconst 1, 1), (23, .iadd, 1), (24, .putfield 32, 3), (27, .aload_n 0, 1), (28, .iload_n 1, 1), (29, .iconst 1, 1), (30, .iadd, 1), (31, .invokevirtual 99, 3), (34, .ifCond .eq 16, 3), (37, .aload_n 0, 1), (38, .bipush 125, 2), (40, .invokevirtual 61, 3), (43, .ifCond .eq 7, 3), (46, .iconst 1, 1), (47, .goto 4, 3), (50, .iconst 0, 1), (51, .ireturn, 1), (52, .aload_n 0, 1), (53, .getfield 28, 3), (56, .bipush 50, 2), (58, .if_icmp .lt 5, 3), (61, .iconst 0, 1), (62, .ireturn, 1), (63, .aload_n 0, 1), (64, .dup, 1), (65, .getfield 28, 3), (68, .iconst 1, 1), (69, .iadd, 1), (70, .putfield 28, 3), (73, .aload_n 0, 1), (74, .bipush 30, 2), (76, .invokevirtual 74, 3), (79, .ifCond .eq 13, 3), (82, .aload_n 0, 1), (83, .iconst 1, 1), (84, .iconst 0, 1), (85, .sipush 1000, 3), (88, .invokevirtual 111, 3), (91, .ireturn, 1), (92, .aload_n 0, 1), (93, .getfield 20, 3), (96, .getfield 77, 3), (99, .aload_n 0, 1), (100, .getfield 32, 3), (103, .iaload, 1), (104, .aload_n 0, 1), (105, .getfield 24, 3), (108, .ifCond .eq 8, 3), (111, .bipush 8, 2), (113, .goto 4, 3), (116, .iconst 0, 1), (117, .aload_n 0, 1), (118, .getfield 24, 3), (121, .ifCond .eq 8, 3), (124, .bipush 13, 2), (126, .goto 5, 3), (129, .bipush 7, 2), (131, .invokestatic 115, 3), (134, .ifCond .ne 5, 3), (137, .iconst 0, 1), (138, .ireturn, 1), (139, .aload_n 0, 1), (140, .getfield 20, 3), (143, .getfield 77, 3), (146, .aload_n 0, 1), (147, .getfield 32, 3), (150, .iaload, 1), (151, .istore_n 2, 1), (152, .aload_n 0, 1), (153, .dup, 1), (154, .getfield 32, 3), (157, .iconst 1, 1), (158, .iadd, 1), (159, .putfield 32, 3), (162, .iload_n 2, 1), (163, .bipush 12, 2), (165, .if_icmp .ne 12, 3), (168, .aload_n 0, 1), (169, .iconst 2, 1), (170, .bipush 12, 2), (172, .iconst 5, 1), (173, .invokevirtual 111, 3), (176, .ireturn, 1), (177, .iload_n 2, 1), (178, .bipush 13, 2), (180, .if_icmp .ne 12, 3), (183, .aload_n 0, 1), (184, .iconst 2, 1), (185, .bipush 18, 2), (187, .iconst 3, 1), (188, .invokevirtual 111, 3), (191, .ireturn, 1), (192, .aload_n 0, 1), (193, .getfield 14, 3), (196, .iconst 2, 1), (197, .iload_n 2, 1), (198, .invokevirtual 70, 3), (201, .pop, 1), (202, .iconst 1, 1), (203, .ireturn, 1)]
theorem zd_X5_readPart : zq_ckC cX5_readPart zc_X5_readPart = true := by decide +kernel
theorem zp_X5_readPart : zq_pn yX5_readPart 1 = true := by decide +kernel
set_option maxRecDepth 1000000 in
theorem zn_X5_readPart : Cond.instanceMethod yX5_readPart ∈ zt := zw_t3 (i := 191) rfl rfl
theorem ze_X5_readPart : Cond.selects RX5 yX5_readPart yX5_readPart ∈ zt := zq_hw_ok (i := 11) (by decide +kernel)
set_option maxRecDepth 1000000 in
theorem zk_X5_readSum : Cond.code yX5_readSum cX5_readSum 5 (some .boolean) ∈ zt := zw_t3 (i := 188) rfl rfl
noncomputable def zc_X5_readSum : zq_Cd := [(0, .iconst (-1), 1), (1, .istore_n 2, 1), (2, .iconst (-1), 1), (3, .istore_n 3, 1), (4, .iconst 0, 1), (5, .istore 4, 2), (7, .iload 4, 2), (9, .sipush 400, 3), (12, .if_icmp .ge 145, 3), (15, .aload_n 0, 1), (16, .iload_n 1, 1), (17, .invokevirtual 108, 3), (20, .ifCond .ne 5, 3), (23, .iconst 0, 1), (24, .ireturn, 1), (25, .iload_n 3, 1), (26, .iconst (-1), 1), (27, .if_icmp .eq 13, 3), (30, .aload_n 0, 1), (31, .getfield 14, 3), (34, .iload_n 3, 1), (35, .iconst 0, 1), (36, .invokevirtual 70, 3), (39, .pop, 1), (40, .aload_n 0, 1), (41, .bipush 74, 2), (43, .invokevirtual 74, 3), (46, .ifCond .eq 8, 3), (49, .bipush 8, 2), (51, .goto 32, 3), (54, .aload_n 0, 1), (55, .bipush 79, 2), (57, .invokevirtual 74, 3), (60, .ifCond .eq 8, 3), (63, .bipush 9, 2), (65, .goto 18, 3), (68, .aload_n 0, 1), (69, .bipush 69, 2), (71, .invokevirtual 74, 3), (74, .ifCond .eq 8, 3), (77, .bipush 10, 2), (79, .goto 4, 3), (82, .iconst (-1), 1), (83, .istore_n 3, 1), (84, .iload_n 3, 1), (85, .iconst (-1), 1), (86, .if_icmp .ne 55, 3), (89, .iload_n 2, 1), (90, .iconst (-1), 1), (91, .if_icmp .eq 13, 3), (94, .aload_n 0, 1), (95, .getfield 14, 3), (98, .iload_n 2, 1), (99, .iconst 0, 1), (100, .invokevirtual 70, 3), (103, .pop, 1), (104, .aload_n 0, 1), (105, .bipush 75, 2), (107, .invokevirtual 74, 3), (110, .ifCond .eq 8, 3), (113, .bipush 6, 2), (115, .goto 18, 3), (118, .aload_n 0, 1), (119, .bipush 77, 2), (121, .invokevirtual 74, 3), (124, .ifCond .eq 8, 3), (127, .bipush 7, 2), (129, .goto 4, 3), (132, .iconst (-1), 1), (133, .istore_n 2, 1), (134, .iload_n 2, 1), (135, .iconst (-1), 1), (136, .if_icmp .ne 5, 3), (139, .iconst 1, 1), (140, .ireturn, 1), (141, .aload_n 0, 1), (142, .dup, 1), (143, .getfield 32, 3), (146, .iconst 1, 1), (147, .iadd, 1), (148, .putfield 32, 3), (151, .iinc 4 1, 3), (154, .goto (-147), 3), (157, .iconst 0, 1), (158, .ireturn, 1)]
theorem zd_X5_readSum : zq_ckC cX5_readSum zc_X5_readSum = true := by decide +kernel
theorem zp_X5_readSum : zq_pn yX5_readSum 1 = true := by decide +kernel
set_option maxRecDepth 1000000 in
theorem zn_X5_readSum : Cond.instanceMethod yX5_readSum ∈ zt := zw_t3 (i := 187) rfl rfl
theorem ze_X5_readSum : Cond.selects RX5 yX5_readSum yX5_readSum ∈ zt := zq_hw_ok (i := 10) (by decide +kernel)
set_option maxRecDepth 1000000 in
theorem zk_X5_skip : Cond.code yX5_skip cX5_skip 2 (some .boolean) ∈ zt := zw_t3 (i := 176) rfl rfl
noncomputable def zc_X5_skip : zq_Cd := [(0, .aload_n 0, 1), (1, .getfield 20, 3), (4, .getfield 77, 3), (7, .aload_n 0, 1), (8, .getfield 32, 3), (11, .iaload, 1), (12, .iload_n 1, 1), (13, .if_icmp .eq 5, 3), (16, .iconst 0, 1), (17, .ireturn, 1), (18, .aload_n 0, 1), (19, .dup, 1), (20, .getfield 32, 3), (23, .iconst 1, 1), (24, .iadd, 1), (25, .putfield 32, 3), (28, .iconst 1, 1), (29, .ireturn, 1)]
theorem zd_X5_skip : zq_ckC cX5_skip zc_X5_skip = true := by decide +kernel
theorem zp_X5_skip : zq_pn yX5_skip 1 = true := by decide +kernel
set_option maxRecDepth 1000000 in
theorem zn_X5_skip : Cond.instanceMethod yX5_skip ∈ zt := zw_t3 (i := 175) rfl rfl
theorem ze_X5_skip : Cond.selects RX5 yX5_skip yX5_skip ∈ zt := zq_hw_ok (i := 8) (by decide +kernel)
set_option maxRecDepth 1000000 in
theorem zk_X5_readSumOf : Cond.code yX5_readSumOf cX5_readSumOf 3 (some .boolean) ∈ zt := zw_t3 (i := 180) rfl rfl
noncomputable def zc_X5_readSumOf : zq_Cd := [(0, .aload_n 0, 1), (1, .getfield 14, 3), (4, .iload_n 1, 1), (5, .iload_n 2, 1), (6, .invokevirtual 64, 3), (9, .aload_n 0, 1), (10, .iconst 0, 1), (11, .invokevirtual 99, 3), (14, .ifCond .ne 5, 3), (17, .iconst 0, 1), (18, .ireturn, 1), (19, .aload_n 0, 1), (20, .getfield 14, 3), (23, .iconst 0, 1), (24, .iconst 0, 1), (25, .invokevirtual 70, 3), (28, .pop, 1), (29, .iconst 1, 1), (30, .ireturn, 1)]
theorem zd_X5_readSumOf : zq_ckC cX5_readSumOf zc_X5_readSumOf = true := by decide +kernel
theorem zp_X5_readSumOf : zq_pn yX5_readSumOf 2 = true := by decide +kernel
set_option maxRecDepth 1000000 in
theorem zn_X5_readSumOf : Cond.instanceMethod yX5_readSumOf ∈ zt := zw_t3 (i := 179) rfl rfl
theorem ze_X5_readSumOf : Cond.selects RX5 yX5_readSumOf yX5_readSumOf ∈ zt := zq_hw_ok (i := 9) (by decide +kernel)
set_option maxRecDepth 1000000 in
theorem zk_X5_readLaw : Cond.code yX5_readLaw cX5_readLaw 3 (some .boolean) ∈ zt := zw_t3 (i := 217) rfl rfl
noncomputable def zc_X5_readLaw : zq_Cd := [(0, .aload_n 0, 1), (1, .getfield 20, 3), (4, .getfield 77, 3), (7, .aload_n 0, 1), (8, .getfield 32, 3), (11, .iaload, 1), (12, .istore_n 2, 1), (13, .aload_n 0, 1), (14, .getfield 14, 3), (17, .getfield 80, 3), (20, .iload_n 1, 1), (21, .iload_n 2, 1), (22, .iastore, 1), (23, .iload_n 2, 1), (24, .bipush 14, 2), (26, .if_icmp .eq 16, 3), (29, .iload_n 2, 1), (30, .bipush 15, 2), (32, .if_icmp .eq 10, 3), (35, .aload_n 0, 1), (36, .bipush 16, 2), (38, .invokevirtual 61, 3), (41, .ireturn, 1), (42, .aload_n 0, 1), (43, .dup, 1), (44, .getfield 32, 3), (47, .iconst 1, 1), (48, .iadd, 1), (49, .putfield 32, 3), (52, .aload_n 0, 1), (53, .iload_n 1, 1), (54, .iconst 0, 1), (55, .invokevirtual 83, 3), (58, .ireturn, 1)]
theorem zd_X5_readLaw : zq_ckC cX5_readLaw zc_X5_readLaw = true := by decide +kernel
theorem zp_X5_readLaw : zq_pn yX5_readLaw 1 = true := by decide +kernel
set_option maxRecDepth 1000000 in
theorem zn_X5_readLaw : Cond.instanceMethod yX5_readLaw ∈ zt := zw_t3 (i := 216) rfl rfl
theorem ze_X5_readLaw : Cond.selects RX5 yX5_readLaw yX5_readLaw ∈ zt := zq_hw_ok (i := 16) (by decide +kernel)
set_option maxRecDepth 1000000 in
theorem zk_X5_readPlain : Cond.code yX5_readPlain cX5_readPlain 4 (some .boolean) ∈ zt := zw_t3 (i := 225) rfl rfl
noncomputable def zc_X5_readPlain : zq_Cd := [(0, .iconst 0, 1), (1, .istore_n 2, 1), (2, .iconst 0, 1), (3, .istore_n 3, 1), (4, .iload_n 3, 1), (5, .sipush 400, 3), (8, .if_icmp .ge 28, 3), (11, .aload_n 0, 1), (12, .bipush 28, 2), (14, .invokevirtual 61, 3), (17, .ifCond .eq 19, 3), (20, .iload_n 2, 1), (21, .ifCond .ne 7, 3), (24, .iconst 1, 1), (25, .goto 4, 3), (28, .iconst 0, 1), (29, .istore_n 2, 1), (30, .iinc 3 1, 3), (33, .goto (-29), 3), (36, .aload_n 0, 1), (37, .bipush 72, 2), (39, .invokevirtual 74, 3), (42, .ifCond .eq 42, 3), (45, .iload_n 1, 1), (46, .bipush 8, 2), (48, .if_icmp .lt 5, 3), (51, .iconst 0, 1), (52, .ireturn, 1), (53, .aload_n 0, 1), (54, .dup, 1), (55, .getfield 32, 3), (58, .iconst 1, 1), (59, .iadd, 1), (60, .putfield 32, 3), (63, .aload_n 0, 1), (64, .iload_n 1, 1), (65, .iconst 1, 1), (66, .iadd, 1), (67, .invokevirtual 67, 3), (70, .ifCond .eq 12, 3), (73, .aload_n 0, 1), (74, .bipush 73, 2), (76, .invokevirtual 61, 3), (79, .ifCond .ne 96, 3), (82, .iconst 0, 1), (83, .ireturn, 1), (84, .aload_n 0, 1), (85, .iload_n 1, 1), (86, .invokevirtual 99, 3), (89, .ifCond .ne 5, 3), (92, .iconst 0, 1), (93, .ireturn, 1), (94, .aload_n 0, 1), (95, .bipush 92, 2), (97, .invokevirtual 74, 3), (100, .ifCond .eq 8, 3), (103, .bipush 11, 2), (105, .goto 32, 3), (108, .aload_n 0, 1), (109, .bipush 94, 2), (111, .invokevirtual 74, 3), (114, .ifCond .eq 8, 3), (117, .bipush 12, 2), (119, .goto 18, 3), (122, .aload_n 0, 1), (123, .bipush 93, 2), (125, .invokevirtual 74, 3), (128, .ifCond .eq 8, 3), (131, .bipush 13, 2), (133, .goto 4, 3), (136, .iconst (-1), 1), (137, .istore_n 3, 1), (138, .iload_n 3, 1), (139, .iconst (-1), 1), (140, .if_icmp .ne 5, 3), (143, .iconst 0, 1), (144, .ireturn, 1), (145, .aload_n 0, 1), (146, .dup, 1), (147, .getfield 32, 3), (150, .iconst 1, 1), (151, .iadd, 1), (152, .putfield 32, 3), (155, .aload_n 0, 1), (156, .iload_n 1, 1), (157, .invokevirtual 99, 3), (160, .ifCond .ne 5, 3), (163, .iconst 0, 1), (164, .ireturn, 1), (165, .aload_n 0, 1), (166, .getfield 14, 3), (169, .iload_n 3, 1), (170, .iconst 0, 1), (171, .invokevirtual 70, 3), (174, .pop, 1), (175, .iload_n 2, 1), (176, .ifCond .eq 13, 3), (179, .aload_n 0, 1), (180, .getfield 14, 3), (183, .iconst 3, 1), (184, .iconst 0, 1), (185, .invokevirtual 70, 3), (188, .pop, 1), (189, .iconst 1, 1), (190, .ireturn, 1)]
theorem zd_X5_readPlain : zq_ckC cX5_readPlain zc_X5_readPlain = true := by decide +kernel
theorem zp_X5_readPlain : zq_pn yX5_readPlain 1 = true := by decide +kernel
set_option maxRecDepth 1000000 in
theorem zn_X5_readPlain : Cond.instanceMethod yX5_readPlain ∈ zt := zw_t3 (i := 224) rfl rfl
theorem ze_X5_readPlain : Cond.selects RX5 yX5_readPlain yX5_readPlain ∈ zt := zq_hw_ok (i := 18) (by decide +kernel)
set_option maxRecDepth 1000000 in
theorem zk_X9_aim : Cond.code yX9_aim cX9_aim 2 none ∈ zt := zw_t3 (i := 229) rfl rfl
noncomputable def zc_X9_aim : zq_Cd := [(0, .iload_n 1, 1), (1, .iconst 0, 1), (2, .aload_n 0, 1), (3, .getfield 28, 3), (6, .iconst 1, 1), (7, .isub, 1), (8, .invokestatic 40, 3), (11, .ifCond .eq 26, 3), (14, .aload_n 0, 1), (15, .getfield 21, 3), (18, .iload_n 1, 1), (19, .aload_n 0, 1), (20, .getfield 21, 3), (23, .iload_n 1, 1), (24, .iaload, 1), (25, .bipush 15, 2), (27, .iand, 1), (28, .bipush 16, 2), (30, .aload_n 0, 1), (31, .getfield 28, 3), (34, .imul, 1), (35, .iadd, 1), (36, .iastore, 1), (37, .return_, 1)]
theorem zd_X9_aim : zq_ckC cX9_aim zc_X9_aim = true := by decide +kernel
theorem zp_X9_aim : zq_pn yX9_aim 1 = true := by decide +kernel
set_option maxRecDepth 1000000 in
theorem zn_X9_aim : Cond.instanceMethod yX9_aim ∈ zt := zw_t3 (i := 227) rfl rfl
set_option maxRecDepth 1000000 in
theorem ze_X9_aim : Cond.selects RX9 yX9_aim yX9_aim ∈ zt := zw_t3 (i := 228) rfl rfl
set_option maxRecDepth 1000000 in
theorem zk_X5_readTest : Cond.code yX5_readTest cX5_readTest 5 (some .boolean) ∈ zt := zw_t3 (i := 221) rfl rfl
noncomputable def zc_X5_readTest : zq_Cd := [(0, .iconst (-1), 1), (1, .istore_n 2, 1), (2, .iconst (-1), 1), (3, .istore_n 3, 1), (4, .iconst 0, 1), (5, .istore 4, 2), (7, .iload 4, 2), (9, .sipush 400, 3), (12, .if_icmp .ge 80, 3), (15, .aload_n 0, 1), (16, .iload_n 1, 1), (17, .invokevirtual 102, 3), (20, .ifCond .ne 5, 3), (23, .iconst 0, 1), (24, .ireturn, 1), (25, .aload_n 0, 1), (26, .getfield 14, 3), (29, .iload_n 2, 1), (30, .invokevirtual 105, 3), (33, .aload_n 0, 1), (34, .bipush 27, 2), (36, .invokevirtual 61, 3), (39, .ifCond .eq 16, 3), (42, .aload_n 0, 1), (43, .getfield 14, 3), (46, .iconst 4, 1), (47, .iconst 0, 1), (48, .invokevirtual 70, 3), (51, .istore_n 2, 1), (52, .goto 34, 3), (55, .iconst (-1), 1), (56, .istore_n 2, 1), (57, .aload_n 0, 1), (58, .getfield 14, 3), (61, .iload_n 3, 1), (62, .invokevirtual 105, 3), (65, .aload_n 0, 1), (66, .bipush 26, 2), (68, .invokevirtual 61, 3), (71, .ifCond .ne 5, 3), (74, .iconst 1, 1), (75, .ireturn, 1), (76, .aload_n 0, 1), (77, .getfield 14, 3), (80, .iconst 5, 1), (81, .iconst 0, 1), (82, .invokevirtual 70, 3), (85, .istore_n 3, 1), (86, .iinc 4 1, 3), (89, .goto (-82), 3), (92, .iconst 0, 1), (93, .ireturn, 1)]
theorem zd_X5_readTest : zq_ckC cX5_readTest zc_X5_readTest = true := by decide +kernel
theorem zp_X5_readTest : zq_pn yX5_readTest 1 = true := by decide +kernel
set_option maxRecDepth 1000000 in
theorem zn_X5_readTest : Cond.instanceMethod yX5_readTest ∈ zt := zw_t3 (i := 220) rfl rfl
theorem ze_X5_readTest : Cond.selects RX5 yX5_readTest yX5_readTest ∈ zt := zq_hw_ok (i := 17) (by decide +kernel)
set_option maxRecDepth 1000000 in
theorem zk_X5_read : Cond.code yX5_read cX5_read 4 (some .int) ∈ zt := zw_t3 (i := 95) rfl rfl
noncomputable def zc_X5_read : zq_Cd := [(0, .aload_n 0, 1), (1, .iload_n 1, 1), (2, .putfield 24, 3), (5, .aload_n 0, 1), (6, .iconst 0, 1), (7, .putfield 28, 3), (10, .aload_n 0, 1), (11, .iconst 0, 1), (12, .putfield 32, 3), (15, .aload_n 0, 1), (16, .getfield 14, 3), (19, .iconst 0, 1), (20, .putfield 35, 3), (23, .aload_n 0, 1), (24, .getfield 14, 3), (27, .iconst 0, 1), (28, .putfield 38, 3), (31, .aload_n 0, 1), (32, .getfield 20, 3), (35, .invokevirtual 41, 3), (38, .iconst 1, 1), (39, .istore_n 2, 1), (40, .iconst 0, 1), (41, .istore_n 3, 1), (42, .iload_n 3, 1), (43, .bipush 12, 2), (45, .if_icmp .ge 116, 3), (48, .iload_n 2, 1), (49, .ifCond .eq 112, 3), (52, .aload_n 0, 1), (53, .getfield 14, 3), (56, .iload_n 3, 1), (57, .invokevirtual 46, 3), (60, .aload_n 0, 1), (61, .getfield 24, 3), (64, .ifCond .eq 14, 3), (67, .aload_n 0, 1), (68, .iload_n 3, 1), (69, .invokevirtual 50, 3), (72, .ifCond .eq 14, 3), (75, .goto 24, 3), (78, .aload_n 0, 1), (79, .iload_n 3, 1), (80, .invokevirtual 54, 3), (83, .ifCond .ne 16, 3), (86, .aload_n 0, 1), (87, .getfield 20, 3), (90, .getfield 57, 3), (93, .aload_n 0, 1), (94, .getfield 32, 3), (97, .iaload, 1), (98, .ireturn, 1), (99, .aload_n 0, 1), (100, .bipush 25, 2), (102, .invokevirtual 61, 3), (105, .ifCond .eq 43, 3), (108, .aload_n 0, 1), (109, .getfield 14, 3), (112, .iload_n 3, 1), (113, .iconst 3, 1), (114, .invokevirtual 64, 3), (117, .aload_n 0, 1), (118, .iconst 0, 1), (119, .invokevirtual 67, 3), (122, .ifCond .ne 16, 3), (125, .aload_n 0, 1), (126, .getfield 20, 3), (129, .getfield 57, 3), (132, .aload_n 0, 1), (133, .getfield 32, 3), (136, .iaload, 1), (137, .ireturn, 1), (138, .aload_n 0, 1), (139, .getfield 14, 3), (142, .iconst 0, 1), (143, .iconst 0, 1), (144, .invokevirtual 70, 3), (147, .pop, 1), (148, .aload_n 0, 1), (149, .bipush 91, 2), (151, .invokevirtual 61, 3), (154, .istore_n 2, 1), (155, .iinc 3 1, 3), (158, .goto (-116), 3), (161, .iload_n 2, 1), (162, .ifCond .ne 16, 3), (165, .aload_n 0, 1), (166, .bipush 31, 2), (168, .invokevirtual 74, 3), (171, .ifCond .eq 7, 3), (174, .iconst (-1), 1), (175, .goto 15, 3), (178, .aload_n 0, 1), (179, .getfield 20, 3), (182, .getfield 57, 3), (185, .aload_n 0, 1), (186, .getfield 32, 3), (189, .iaload, 1), (190, .ireturn, 1)]
theorem zd_X5_read : zq_ckC cX5_read zc_X5_read = true := by decide +kernel
theorem zp_X5_read : zq_pn yX5_read 1 = true := by decide +kernel
set_option maxRecDepth 1000000 in
theorem zn_X5_read : Cond.instanceMethod yX5_read ∈ zt := zw_t3 (i := 93) rfl rfl
set_option maxRecDepth 1000000 in
theorem ze_X5_read : Cond.selects RX5 yX5_read yX5_read ∈ zt := zw_t3 (i := 94) rfl rfl
set_option maxRecDepth 1000000 in
theorem zk_X9_trimmed : Cond.code yX9_trimmed cX9_trimmed 2 (some (.object "AnswerDays$Text")) ∈ zt := zw_t3 (i := 234) rfl rfl
noncomputable def zc_X9_trimmed : zq_Cd := [(0, .new 1, 3), (3, .dup, 1), (4, .aload_n 0, 1), (5, .getfield 24, 3), (8, .aload_n 0, 1), (9, .getfield 28, 3), (12, .invokespecial 31, 3), (15, .astore_n 1, 1), (16, .aload_n 0, 1), (17, .getfield 11, 3), (20, .iconst 0, 1), (21, .aload_n 1, 1), (22, .getfield 11, 3), (25, .iconst 0, 1), (26, .aload_n 0, 1), (27, .getfield 24, 3), (30, .invokestatic 34, 3), (33, .aload_n 0, 1), (34, .getfield 15, 3), (37, .iconst 0, 1), (38, .aload_n 1, 1), (39, .getfield 15, 3), (42, .iconst 0, 1), (43, .aload_n 0, 1), (44, .getfield 24, 3), (47, .invokestatic 34, 3), (50, .aload_n 0, 1), (51, .getfield 18, 3), (54, .iconst 0, 1), (55, .aload_n 1, 1), (56, .getfield 18, 3), (59, .iconst 0, 1), (60, .iconst 4, 1), (61, .aload_n 0, 1), (62, .getfield 24, 3), (65, .imul, 1), (66, .invokestatic 34, 3), (69, .aload_n 0, 1), (70, .getfield 21, 3), (73, .iconst 0, 1), (74, .aload_n 1, 1), (75, .getfield 21, 3), (78, .iconst 0, 1), (79, .aload_n 0, 1), (80, .getfield 28, 3), (83, .invokestatic 34, 3), (86, .aload_n 1, 1), (87, .aload_n 0, 1), (88, .getfield 24, 3), (91, .putfield 24, 3), (94, .aload_n 1, 1), (95, .aload_n 0, 1), (96, .getfield 28, 3), (99, .putfield 28, 3), (102, .aload_n 1, 1), (103, .areturn, 1)]
theorem zd_X9_trimmed : zq_ckC cX9_trimmed zc_X9_trimmed = true := by decide +kernel
theorem zp_X9_trimmed : zq_pn yX9_trimmed 0 = true := by decide +kernel
set_option maxRecDepth 1000000 in
theorem zn_X9_trimmed : Cond.instanceMethod yX9_trimmed ∈ zt := zw_t3 (i := 232) rfl rfl
set_option maxRecDepth 1000000 in
theorem ze_X9_trimmed : Cond.selects RX9 yX9_trimmed yX9_trimmed ∈ zt := zw_t3 (i := 233) rfl rfl
set_option maxRecDepth 1000000 in
theorem zk_X4_addLaw : Cond.code yX4_addLaw cX4_addLaw 2 (some .int) ∈ zt := zw_t4 (i := 3) rfl rfl
noncomputable def zc_X4_addLaw : zq_Cd := [(0, .aload_n 0, 1), (1, .getfield 38, 3), (4, .aload_n 0, 1), (5, .getfield 72, 3), (8, .aload_n 1, 1), (9, .aastore, 1), (10, .aload_n 0, 1), (11, .dup, 1), (12, .getfield 72, 3), (15, .iconst 1, 1), (16, .iadd, 1), (17, .putfield 72, 3), (20, .aload_n 0, 1), (21, .getfield 72, 3), (24, .iconst 1, 1), (25, .isub, 1), (26, .ireturn, 1)]
theorem zd_X4_addLaw : zq_ckC cX4_addLaw zc_X4_addLaw = true := by decide +kernel
theorem zp_X4_addLaw : zq_pn yX4_addLaw 1 = true := by decide +kernel
set_option maxRecDepth 1000000 in
theorem zn_X4_addLaw : Cond.instanceMethod yX4_addLaw ∈ zt := zw_t4 (i := 1) rfl rfl
set_option maxRecDepth 1000000 in
theorem ze_X4_addLaw : Cond.selects RX4 yX4_addLaw yX4_addLaw ∈ zt := zw_t4 (i := 2) rfl rfl
set_option maxRecDepth 1000000 in
theorem zk_X11_law : Cond.code yX11_law cX11_law 1 (some .int) ∈ zt := zw_t3 (i := 91) rfl rfl
noncomputable def zc_X11_law : zq_Cd := [(0, .aload_n 0, 1), (1, .getfield 70, 3), (4, .getfield 198, 3), (7, .bipush 6, 2), (9, .if_icmp .lt 18, 3), (12, .aload_n 0, 1), (13, .getfield 18, 3), (16, .iconst 0, 1), (17, .putfield 187, 3), (20, .aload_n 0, 1), (21, .bipush (-5), 2), (23, .invokevirtual 103, 3), (26, .ireturn, 1), (27, .aload_n 0, 1), (28, .aload_n 0, 1), (29, .getfield 29, 3), (32, .iconst 0, 1), (33, .invokevirtual 201, 3), (36, .putfield 92, 3), (39, .aload_n 0, 1), (40, .getfield 18, 3), (43, .iconst 0, 1), (44, .putfield 187, 3), (47, .aload_n 0, 1), (48, .getfield 92, 3), (51, .iconst (-1), 1), (52, .if_icmp .eq 10, 3), (55, .aload_n 0, 1), (56, .bipush (-6), 2), (58, .invokevirtual 103, 3), (61, .ireturn, 1), (62, .aload_n 0, 1), (63, .aload_n 0, 1), (64, .getfield 70, 3), (67, .aload_n 0, 1), (68, .getfield 29, 3), (71, .getfield 205, 3), (74, .invokevirtual 209, 3), (77, .invokevirtual 215, 3), (80, .invokevirtual 122, 3), (83, .ireturn, 1)]
theorem zd_X11_law : zq_ckC cX11_law zc_X11_law = true := by decide +kernel
theorem zp_X11_law : zq_pn yX11_law 0 = true := by decide +kernel
set_option maxRecDepth 1000000 in
theorem zn_X11_law : Cond.instanceMethod yX11_law ∈ zt := zw_t3 (i := 89) rfl rfl
set_option maxRecDepth 1000000 in
theorem ze_X11_law : Cond.selects RX11 yX11_law yX11_law ∈ zt := zw_t3 (i := 90) rfl rfl
set_option maxRecDepth 1000000 in
theorem zk_X11_fault : Cond.code yX11_fault cX11_fault 1 (some .int) ∈ zt := zw_t4 (i := 81) rfl rfl
noncomputable def zc_X11_fault : zq_Cd := [(0, .aload_n 0, 1), (1, .getfield 92, 3), (4, .ireturn, 1)]
theorem zd_X11_fault : zq_ckC cX11_fault zc_X11_fault = true := by decide +kernel
theorem zp_X11_fault : zq_pn yX11_fault 0 = true := by decide +kernel
set_option maxRecDepth 1000000 in
theorem zn_X11_fault : Cond.instanceMethod yX11_fault ∈ zt := zw_t4 (i := 79) rfl rfl
set_option maxRecDepth 1000000 in
theorem ze_X11_fault : Cond.selects RX11 yX11_fault yX11_fault ∈ zt := zw_t4 (i := 80) rfl rfl
set_option maxRecDepth 1000000 in
theorem zk_X11_force : Cond.code yX11_force cX11_force 3 (some .int) ∈ zt := zw_t4 (i := 89) rfl rfl
noncomputable def zc_X11_force : zq_Cd := [(0, .iload_n 1, 1), (1, .iconst (-1), 1), (2, .if_icmp .eq 21, 3), (5, .aload_n 0, 1), (6, .getfield 70, 3), (9, .iload_n 1, 1), (10, .invokevirtual 230, 3), (13, .ifCond .ne 10, 3), (16, .aload_n 0, 1), (17, .bipush (-2), 2), (19, .invokevirtual 103, 3), (22, .ireturn, 1), (23, .aload_n 0, 1), (24, .getfield 70, 3), (27, .getfield 233, 3), (30, .istore_n 2, 1), (31, .aload_n 0, 1), (32, .getfield 70, 3), (35, .iload_n 1, 1), (36, .putfield 233, 3), (39, .aload_n 0, 1), (40, .iload_n 2, 1), (41, .invokevirtual 122, 3), (44, .ireturn, 1)]
theorem zd_X11_force : zq_ckC cX11_force zc_X11_force = true := by decide +kernel
theorem zp_X11_force : zq_pn yX11_force 1 = true := by decide +kernel
set_option maxRecDepth 1000000 in
theorem zn_X11_force : Cond.instanceMethod yX11_force ∈ zt := zw_t4 (i := 87) rfl rfl
set_option maxRecDepth 1000000 in
theorem ze_X11_force : Cond.selects RX11 yX11_force yX11_force ∈ zt := zw_t4 (i := 88) rfl rfl
set_option maxRecDepth 1000000 in
theorem zk_X4_move : Cond.code yX4_move cX4_move 4 none ∈ zt := zw_t4 (i := 55) rfl rfl
noncomputable def zc_X4_move : zq_Cd := [(0, .aload_n 0, 1), (1, .getfield 15, 3), (4, .iload_n 1, 1), (5, .dup2, 1), (6, .iaload, 1), (7, .iload_n 3, 1), (8, .iadd, 1), (9, .iastore, 1), (10, .aload_n 0, 1), (11, .getfield 15, 3), (14, .iload_n 2, 1), (15, .dup2, 1), (16, .iaload, 1), (17, .iload_n 3, 1), (18, .isub, 1), (19, .iastore, 1), (20, .return_, 1)]
theorem zd_X4_move : zq_ckC cX4_move zc_X4_move = true := by decide +kernel
theorem zp_X4_move : zq_pn yX4_move 3 = true := by decide +kernel
set_option maxRecDepth 1000000 in
theorem zn_X4_move : Cond.instanceMethod yX4_move ∈ zt := zw_t4 (i := 53) rfl rfl
set_option maxRecDepth 1000000 in
theorem ze_X4_move : Cond.selects RX4 yX4_move yX4_move ∈ zt := zw_t4 (i := 54) rfl rfl
set_option maxRecDepth 1000000 in
theorem zk_X0_undoOn : Cond.code yX0_undoOn cX0_undoOn 6 (some .int) ∈ zt := zw_t4 (i := 122) rfl rfl
noncomputable def zc_X0_undoOn : zq_Cd := [(0, .aload_n 1, 1), (1, .getfield 64, 3), (4, .astore_n 2, 1), (5, .aload_n 2, 1), (6, .getfield 89, 3), (9, .ifCond .ne 6, 3), (12, .bipush (-3), 2), (14, .ireturn, 1), (15, .aload_n 2, 1), (16, .dup, 1), (17, .getfield 89, 3), (20, .iconst 1, 1), (21, .isub, 1), (22, .putfield 89, 3), (25, .aload_n 2, 1), (26, .getfield 92, 3), (29, .aload_n 2, 1), (30, .getfield 89, 3), (33, .iaload, 1), (34, .istore_n 3, 1), (35, .aload_n 2, 1), (36, .getfield 95, 3), (39, .aload_n 2, 1), (40, .getfield 89, 3), (43, .iaload, 1), (44, .istore 4, 2), (46, .aload_n 2, 1), (47, .getfield 98, 3), (50, .aload_n 2, 1), (51, .getfield 89, 3), (54, .iaload, 1), (55, .istore 5, 2), (57, .iload_n 3, 1), (58, .iconst 2, 1), (59, .if_icmp .ne 15, 3), (62, .aload_n 1, 1), (63, .getfield 80, 3), (66, .iload 4, 2), (68, .iload 5, 2), (70, .iastore, 1), (71, .goto 39, 3), (74, .iload_n 3, 1), (75, .iconst 3, 1), (76, .if_icmp .ne 16, 3), (79, .aload_n 1, 1), (80, .getfield 83, 3), (83, .iconst 0, 1), (84, .dup2, 1), (85, .iaload, 1), (86, .iconst 1, 1), (87, .isub, 1), (88, .iastore, 1), (89, .goto 21, 3), (92, .aload_n 1, 1), (93, .iload 4, 2), (95, .iload 5, 2), (97, .aload_n 2, 1), (98, .getfield 101, 3), (101, .aload_n 2, 1), (102, .getfield 89, 3), (105, .iaload, 1), (106, .ineg, 1), (107, .invokevirtual 60, 3), (110, .iload_n 3, 1), (111, .ireturn, 1)]
theorem zd_X0_undoOn : zq_ckC cX0_undoOn zc_X0_undoOn = true := by decide +kernel
theorem zp_X0_undoOn : zq_pn yX0_undoOn 1 = true := by decide +kernel
set_option maxRecDepth 1000000 in
theorem zn_X0_undoOn : Cond.instanceMethod yX0_undoOn ∈ zt := zw_t4 (i := 120) rfl rfl
set_option maxRecDepth 1000000 in
theorem ze_X0_undoOn : Cond.selects RX0 yX0_undoOn yX0_undoOn ∈ zt := zw_t4 (i := 121) rfl rfl
set_option maxRecDepth 1000000 in
theorem zk_X11_heed : Cond.code yX11_heed cX11_heed 2 (some .int) ∈ zt := zw_t4 (i := 99) rfl rfl
noncomputable def zc_X11_heed : zq_Cd := [(0, .iload_n 1, 1), (1, .ifCond .ge 11, 3), (4, .aload_n 0, 1), (5, .iload_n 1, 1), (6, .invokevirtual 103, 3), (9, .goto 8, 3), (12, .aload_n 0, 1), (13, .iload_n 1, 1), (14, .invokevirtual 122, 3), (17, .ireturn, 1)]
theorem zd_X11_heed : zq_ckC cX11_heed zc_X11_heed = true := by decide +kernel
theorem zp_X11_heed : zq_pn yX11_heed 1 = true := by decide +kernel
set_option maxRecDepth 1000000 in
theorem zn_X11_heed : Cond.instanceMethod yX11_heed ∈ zt := zw_t4 (i := 98) rfl rfl
theorem ze_X11_heed : Cond.selects RX11 yX11_heed yX11_heed ∈ zt := zq_hw_ok (i := 22) (by decide +kernel)
set_option maxRecDepth 1000000 in
theorem zk_X11_undo : Cond.code yX11_undo cX11_undo 1 (some .int) ∈ zt := zw_t4 (i := 118) rfl rfl
noncomputable def zc_X11_undo : zq_Cd := [(0, .aload_n 0, 1), (1, .aload_n 0, 1), (2, .getfield 38, 3), (5, .aload_n 0, 1), (6, .getfield 70, 3), (9, .invokevirtual 254, 3), (12, .invokevirtual 240, 3), (15, .ireturn, 1)]
theorem zd_X11_undo : zq_ckC cX11_undo zc_X11_undo = true := by decide +kernel
theorem zp_X11_undo : zq_pn yX11_undo 0 = true := by decide +kernel
set_option maxRecDepth 1000000 in
theorem zn_X11_undo : Cond.instanceMethod yX11_undo ∈ zt := zw_t4 (i := 116) rfl rfl
set_option maxRecDepth 1000000 in
theorem ze_X11_undo : Cond.selects RX11 yX11_undo yX11_undo ∈ zt := zw_t4 (i := 117) rfl rfl
set_option maxRecDepth 1000000 in
theorem zk_X4_canMove : Cond.code yX4_canMove cX4_canMove 4 (some .boolean) ∈ zt := zw_t4 (i := 51) rfl rfl
noncomputable def zc_X4_canMove : zq_Cd := [(0, .aload_n 0, 1), (1, .getfield 15, 3), (4, .iload_n 1, 1), (5, .iaload, 1), (6, .iload_n 3, 1), (7, .iadd, 1), (8, .sipush 9999, 3), (11, .if_icmp .gt 21, 3), (14, .aload_n 0, 1), (15, .getfield 15, 3), (18, .iload_n 2, 1), (19, .iaload, 1), (20, .iload_n 3, 1), (21, .isub, 1), (22, .sipush (-9999), 3), (25, .if_icmp .lt 7, 3), (28, .iconst 1, 1), (29, .goto 4, 3), (32, .iconst 0, 1), (33, .ireturn, 1)]
theorem zd_X4_canMove : zq_ckC cX4_canMove zc_X4_canMove = true := by decide +kernel
theorem zp_X4_canMove : zq_pn yX4_canMove 3 = true := by decide +kernel
set_option maxRecDepth 1000000 in
theorem zn_X4_canMove : Cond.instanceMethod yX4_canMove ∈ zt := zw_t4 (i := 49) rfl rfl
set_option maxRecDepth 1000000 in
theorem ze_X4_canMove : Cond.selects RX4 yX4_canMove yX4_canMove ∈ zt := zw_t4 (i := 50) rfl rfl
set_option maxRecDepth 1000000 in
theorem zk_X2_dropOldest : Cond.code yX2_dropOldest cX2_dropOldest 2 none ∈ zt := zw_t4 (i := 63) rfl rfl
noncomputable def zc_X2_dropOldest : zq_Cd := [(0, .aload_n 0, 1), (1, .bipush 15, 2), (3, .putfield 28, 3), (6, .iconst 0, 1), (7, .istore_n 1, 1), (8, .iload_n 1, 1), (9, .aload_n 0, 1), (10, .getfield 28, 3), (13, .if_icmp .ge 65, 3), (16, .aload_n 0, 1), (17, .getfield 9, 3), (20, .iload_n 1, 1), (21, .aload_n 0, 1), (22, .getfield 9, 3), (25, .iload_n 1, 1), (26, .iconst 1, 1), (27, .iadd, 1), (28, .iaload, 1), (29, .iastore, 1), (30, .aload_n 0, 1), (31, .getfield 13, 3), (34, .iload_n 1, 1), (35, .aload_n 0, 1), (36, .getfield 13, 3), (39, .iload_n 1, 1), (40, .iconst 1, 1), (41, .iadd, 1), (42, .iaload, 1), (43, .iastore, 1), (44, .aload_n 0, 1), (45, .getfield 16, 3), (48, .iload_n 1, 1), (49, .aload_n 0, 1), (50, .getfield 16, 3), (53, .iload_n 1, 1), (54, .iconst 1, 1), (55, .iadd, 1), (56, .iaload, 1), (57, .iastore, 1), (58, .aload_n 0, 1), (59, .getfield 19, 3), (62, .iload_n 1, 1), (63, .aload_n 0, 1), (64, .getfield 19, 3), (67, .iload_n 1, 1), (68, .iconst 1, 1), (69, .iadd, 1), (70, .iaload, 1), (71, .iastore, 1), (72, .iinc 1 1, 3), (75, .goto (-67), 3), (78, .return_, 1)]
theorem zd_X2_dropOldest : zq_ckC cX2_dropOldest zc_X2_dropOldest = true := by decide +kernel
theorem zp_X2_dropOldest : zq_pn yX2_dropOldest 0 = true := by decide +kernel
set_option maxRecDepth 1000000 in
theorem zn_X2_dropOldest : Cond.instanceMethod yX2_dropOldest ∈ zt := zw_t4 (i := 62) rfl rfl
theorem ze_X2_dropOldest : Cond.selects RX2 yX2_dropOldest yX2_dropOldest ∈ zt := zq_hw_ok (i := 21) (by decide +kernel)
set_option maxRecDepth 1000000 in
theorem zk_X2_note : Cond.code yX2_note cX2_note 5 none ∈ zt := zw_t4 (i := 59) rfl rfl
noncomputable def zc_X2_note : zq_Cd := [(0, .aload_n 0, 1), (1, .getfield 28, 3), (4, .bipush 16, 2), (6, .if_icmp .lt 7, 3), (9, .aload_n 0, 1), (10, .invokevirtual 32, 3), (13, .aload_n 0, 1), (14, .getfield 9, 3), (17, .aload_n 0, 1), (18, .getfield 28, 3), (21, .iload_n 1, 1), (22, .iastore, 1), (23, .aload_n 0, 1), (24, .getfield 13, 3), (27, .aload_n 0, 1), (28, .getfield 28, 3), (31, .iload_n 2, 1), (32, .iastore, 1), (33, .aload_n 0, 1), (34, .getfield 16, 3), (37, .aload_n 0, 1), (38, .getfield 28, 3), (41, .iload_n 3, 1), (42, .iastore, 1), (43, .aload_n 0, 1), (44, .getfield 19, 3), (47, .aload_n 0, 1), (48, .getfield 28, 3), (51, .iload 4, 2), (53, .iastore, 1), (54, .aload_n 0, 1), (55, .dup, 1), (56, .getfield 28, 3), (59, .iconst 1, 1), (60, .iadd, 1), (61, .putfield 28, 3), (64, .return_, 1)]
theorem zd_X2_note : zq_ckC cX2_note zc_X2_note = true := by decide +kernel
theorem zp_X2_note : zq_pn yX2_note 4 = true := by decide +kernel
set_option maxRecDepth 1000000 in
theorem zn_X2_note : Cond.instanceMethod yX2_note ∈ zt := zw_t4 (i := 57) rfl rfl
set_option maxRecDepth 1000000 in
theorem ze_X2_note : Cond.selects RX2 yX2_note yX2_note ∈ zt := zw_t4 (i := 58) rfl rfl
set_option maxRecDepth 1000000 in
theorem zk_X0_commitOn : Cond.code yX0_commitOn cX0_commitOn 9 (some .int) ∈ zt := zw_t4 (i := 42) rfl rfl
noncomputable def zc_X0_commitOn : zq_Cd := [(0, .iload 4, 2), (2, .invokestatic 23, 3), (5, .ifCond .ne 5, 3), (8, .iconst (-1), 1), (9, .ireturn, 1), (10, .aload_n 1, 1), (11, .iload_n 2, 1), (12, .invokevirtual 27, 3), (15, .ifCond .eq 11, 3), (18, .aload_n 1, 1), (19, .iload_n 3, 1), (20, .invokevirtual 32, 3), (23, .ifCond .ne 6, 3), (26, .bipush (-2), 2), (28, .ireturn, 1), (29, .aload_n 0, 1), (30, .getfield 19, 3), (33, .aload_n 1, 1), (34, .aload_n 1, 1), (35, .aload_n 1, 1), (36, .getfield 35, 3), (39, .invokevirtual 39, 3), (42, .iload_n 2, 1), (43, .iload_n 3, 1), (44, .iload 4, 2), (46, .aload_n 1, 1), (47, .iload 4, 2), (49, .invokevirtual 43, 3), (52, .invokevirtual 47, 3), (55, .istore 5, 2), (57, .iload 5, 2), (59, .bipush 7, 2), (61, .if_icmp .ne 6, 3), (64, .bipush (-3), 2), (66, .ireturn, 1), (67, .iload 5, 2), (69, .bipush 6, 2), (71, .if_icmp .eq 13, 3), (74, .iload 5, 2), (76, .iload_n 3, 1), (77, .if_icmp .eq 7, 3), (80, .iconst 1, 1), (81, .goto 4, 3), (84, .iconst 0, 1), (85, .istore 6, 2), (87, .iload 6, 2), (89, .ifCond .eq 8, 3), (92, .iload 5, 2), (94, .goto 4, 3), (97, .iload_n 3, 1), (98, .istore 7, 2), (100, .iload 6, 2), (102, .ifCond .eq 13, 3), (105, .aload_n 0, 1), (106, .getfield 19, 3), (109, .getfield 53, 3), (112, .goto 4, 3), (115, .iconst 0, 1), (116, .istore 8, 2), (118, .aload_n 1, 1), (119, .iload_n 3, 1), (120, .iload 7, 2), (122, .iload 8, 2), (124, .invokevirtual 56, 3), (127, .ifCond .ne 6, 3), (130, .bipush (-3), 2), (132, .ireturn, 1), (133, .aload_n 1, 1), (134, .iload_n 3, 1), (135, .iload 7, 2), (137, .iload 8, 2), (139, .invokevirtual 60, 3), (142, .aload_n 1, 1), (143, .getfield 64, 3), (146, .iconst 0, 1), (147, .iload_n 3, 1), (148, .iload 7, 2), (150, .iload 8, 2), (152, .invokevirtual 68, 3), (155, .iload 5, 2), (157, .ireturn, 1)]
theorem zd_X0_commitOn : zq_ckC cX0_commitOn zc_X0_commitOn = true := by decide +kernel
theorem zp_X0_commitOn : zq_pn yX0_commitOn 4 = true := by decide +kernel
set_option maxRecDepth 1000000 in
theorem zn_X0_commitOn : Cond.instanceMethod yX0_commitOn ∈ zt := zw_t4 (i := 40) rfl rfl
set_option maxRecDepth 1000000 in
theorem ze_X0_commitOn : Cond.selects RX0 yX0_commitOn yX0_commitOn ∈ zt := zw_t4 (i := 41) rfl rfl
set_option maxRecDepth 1000000 in
theorem zk_X11_commit : Cond.code yX11_commit cX11_commit 4 (some .int) ∈ zt := zw_t4 (i := 94) rfl rfl
noncomputable def zc_X11_commit : zq_Cd := [(0, .aload_n 0, 1), (1, .aload_n 0, 1), (2, .getfield 38, 3), (5, .aload_n 0, 1), (6, .getfield 70, 3), (9, .iload_n 1, 1), (10, .iload_n 2, 1), (11, .iload_n 3, 1), (12, .invokevirtual 236, 3), (15, .invokevirtual 240, 3), (18, .ireturn, 1)]
theorem zd_X11_commit : zq_ckC cX11_commit zc_X11_commit = true := by decide +kernel
theorem zp_X11_commit : zq_pn yX11_commit 3 = true := by decide +kernel
set_option maxRecDepth 1000000 in
theorem zn_X11_commit : Cond.instanceMethod yX11_commit ∈ zt := zw_t4 (i := 92) rfl rfl
set_option maxRecDepth 1000000 in
theorem ze_X11_commit : Cond.selects RX11 yX11_commit yX11_commit ∈ zt := zw_t4 (i := 93) rfl rfl
set_option maxRecDepth 1000000 in
theorem zk_X0_payOn : Cond.code yX0_payOn cX0_payOn 5 (some .int) ∈ zt := zw_t4 (i := 67) rfl rfl
noncomputable def zc_X0_payOn : zq_Cd := [(0, .iload 4, 2), (2, .iconst 1, 1), (3, .bipush 99, 2), (5, .invokestatic 74, 3), (8, .ifCond .eq 8, 3), (11, .iload_n 2, 1), (12, .iload_n 3, 1), (13, .if_icmp .ne 5, 3), (16, .iconst (-1), 1), (17, .ireturn, 1), (18, .aload_n 1, 1), (19, .iload_n 2, 1), (20, .invokevirtual 32, 3), (23, .ifCond .eq 11, 3), (26, .aload_n 1, 1), (27, .iload_n 3, 1), (28, .invokevirtual 32, 3), (31, .ifCond .ne 6, 3), (34, .bipush (-2), 2), (36, .ireturn, 1), (37, .aload_n 1, 1), (38, .iload_n 2, 1), (39, .iload_n 3, 1), (40, .iload 4, 2), (42, .invokevirtual 56, 3), (45, .ifCond .ne 6, 3), (48, .bipush (-3), 2), (50, .ireturn, 1), (51, .aload_n 1, 1), (52, .iload_n 2, 1), (53, .iload_n 3, 1), (54, .iload 4, 2), (56, .invokevirtual 60, 3), (59, .aload_n 1, 1), (60, .getfield 64, 3), (63, .iconst 1, 1), (64, .iload_n 2, 1), (65, .iload_n 3, 1), (66, .iload 4, 2), (68, .invokevirtual 68, 3), (71, .aload_n 1, 1), (72, .getfield 77, 3), (75, .iload_n 2, 1), (76, .iaload, 1), (77, .sipush 9999, 3), (80, .iadd, 1), (81, .ireturn, 1)]
theorem zd_X0_payOn : zq_ckC cX0_payOn zc_X0_payOn = true := by decide +kernel
theorem zp_X0_payOn : zq_pn yX0_payOn 4 = true := by decide +kernel
set_option maxRecDepth 1000000 in
theorem zn_X0_payOn : Cond.instanceMethod yX0_payOn ∈ zt := zw_t4 (i := 65) rfl rfl
set_option maxRecDepth 1000000 in
theorem ze_X0_payOn : Cond.selects RX0 yX0_payOn yX0_payOn ∈ zt := zw_t4 (i := 66) rfl rfl
set_option maxRecDepth 1000000 in
theorem zk_X11_pay : Cond.code yX11_pay cX11_pay 4 (some .int) ∈ zt := zw_t4 (i := 103) rfl rfl
noncomputable def zc_X11_pay : zq_Cd := [(0, .aload_n 0, 1), (1, .aload_n 0, 1), (2, .getfield 38, 3), (5, .aload_n 0, 1), (6, .getfield 70, 3), (9, .iload_n 1, 1), (10, .iload_n 2, 1), (11, .iload_n 3, 1), (12, .invokevirtual 243, 3), (15, .invokevirtual 240, 3), (18, .ireturn, 1)]
theorem zd_X11_pay : zq_ckC cX11_pay zc_X11_pay = true := by decide +kernel
theorem zp_X11_pay : zq_pn yX11_pay 3 = true := by decide +kernel
set_option maxRecDepth 1000000 in
theorem zn_X11_pay : Cond.instanceMethod yX11_pay ∈ zt := zw_t4 (i := 101) rfl rfl
set_option maxRecDepth 1000000 in
theorem ze_X11_pay : Cond.selects RX11 yX11_pay yX11_pay ∈ zt := zw_t4 (i := 102) rfl rfl
set_option maxRecDepth 1000000 in
theorem zk_X0_windOn : Cond.code yX0_windOn cX0_windOn 5 (some .int) ∈ zt := zw_t4 (i := 72) rfl rfl
noncomputable def zc_X0_windOn : zq_Cd := [(0, .iload_n 2, 1), (1, .invokestatic 23, 3), (4, .ifCond .eq 13, 3), (7, .iload_n 3, 1), (8, .iconst 0, 1), (9, .bipush 6, 2), (11, .invokestatic 74, 3), (14, .ifCond .ne 5, 3), (17, .iconst (-1), 1), (18, .ireturn, 1), (19, .aload_n 1, 1), (20, .getfield 80, 3), (23, .iload_n 2, 1), (24, .iaload, 1), (25, .istore 4, 2), (27, .iload 4, 2), (29, .iload_n 3, 1), (30, .if_icmp .ne 6, 3), (33, .bipush (-3), 2), (35, .ireturn, 1), (36, .aload_n 1, 1), (37, .getfield 80, 3), (40, .iload_n 2, 1), (41, .iload_n 3, 1), (42, .iastore, 1), (43, .aload_n 1, 1), (44, .getfield 64, 3), (47, .iconst 2, 1), (48, .iload_n 2, 1), (49, .iload 4, 2), (51, .iconst 0, 1), (52, .invokevirtual 68, 3), (55, .iload 4, 2), (57, .ireturn, 1)]
theorem zd_X0_windOn : zq_ckC cX0_windOn zc_X0_windOn = true := by decide +kernel
theorem zp_X0_windOn : zq_pn yX0_windOn 3 = true := by decide +kernel
set_option maxRecDepth 1000000 in
theorem zn_X0_windOn : Cond.instanceMethod yX0_windOn ∈ zt := zw_t4 (i := 70) rfl rfl
set_option maxRecDepth 1000000 in
theorem ze_X0_windOn : Cond.selects RX0 yX0_windOn yX0_windOn ∈ zt := zw_t4 (i := 71) rfl rfl
set_option maxRecDepth 1000000 in
theorem zk_X11_wind : Cond.code yX11_wind cX11_wind 3 (some .int) ∈ zt := zw_t4 (i := 108) rfl rfl
noncomputable def zc_X11_wind : zq_Cd := [(0, .aload_n 0, 1), (1, .aload_n 0, 1), (2, .getfield 38, 3), (5, .aload_n 0, 1), (6, .getfield 70, 3), (9, .iload_n 1, 1), (10, .iload_n 2, 1), (11, .invokevirtual 246, 3), (14, .invokevirtual 240, 3), (17, .ireturn, 1)]
theorem zd_X11_wind : zq_ckC cX11_wind zc_X11_wind = true := by decide +kernel
theorem zp_X11_wind : zq_pn yX11_wind 2 = true := by decide +kernel
set_option maxRecDepth 1000000 in
theorem zn_X11_wind : Cond.instanceMethod yX11_wind ∈ zt := zw_t4 (i := 106) rfl rfl
set_option maxRecDepth 1000000 in
theorem ze_X11_wind : Cond.selects RX11 yX11_wind yX11_wind ∈ zt := zw_t4 (i := 107) rfl rfl
set_option maxRecDepth 1000000 in
theorem zk_X0_passOn : Cond.code yX0_passOn cX0_passOn 2 (some .int) ∈ zt := zw_t4 (i := 76) rfl rfl
noncomputable def zc_X0_passOn : zq_Cd := [(0, .aload_n 1, 1), (1, .getfield 83, 3), (4, .iconst 0, 1), (5, .iaload, 1), (6, .getstatic 86, 3), (9, .iconst 0, 1), (10, .iaload, 1), (11, .if_icmp .lt 6, 3), (14, .bipush (-3), 2), (16, .ireturn, 1), (17, .aload_n 1, 1), (18, .getfield 83, 3), (21, .iconst 0, 1), (22, .dup2, 1), (23, .iaload, 1), (24, .iconst 1, 1), (25, .iadd, 1), (26, .iastore, 1), (27, .aload_n 1, 1), (28, .getfield 64, 3), (31, .iconst 3, 1), (32, .iconst 0, 1), (33, .iconst 0, 1), (34, .iconst 0, 1), (35, .invokevirtual 68, 3), (38, .aload_n 1, 1), (39, .getfield 83, 3), (42, .iconst 0, 1), (43, .iaload, 1), (44, .ireturn, 1)]
theorem zd_X0_passOn : zq_ckC cX0_passOn zc_X0_passOn = true := by decide +kernel
theorem zp_X0_passOn : zq_pn yX0_passOn 1 = true := by decide +kernel
set_option maxRecDepth 1000000 in
theorem zn_X0_passOn : Cond.instanceMethod yX0_passOn ∈ zt := zw_t4 (i := 74) rfl rfl
set_option maxRecDepth 1000000 in
theorem ze_X0_passOn : Cond.selects RX0 yX0_passOn yX0_passOn ∈ zt := zw_t4 (i := 75) rfl rfl
set_option maxRecDepth 1000000 in
theorem zk_X11_pass : Cond.code yX11_pass cX11_pass 1 (some .int) ∈ zt := zw_t4 (i := 113) rfl rfl
noncomputable def zc_X11_pass : zq_Cd := [(0, .aload_n 0, 1), (1, .aload_n 0, 1), (2, .getfield 38, 3), (5, .aload_n 0, 1), (6, .getfield 70, 3), (9, .invokevirtual 250, 3), (12, .invokevirtual 240, 3), (15, .ireturn, 1)]
theorem zd_X11_pass : zq_ckC cX11_pass zc_X11_pass = true := by decide +kernel
theorem zp_X11_pass : zq_pn yX11_pass 0 = true := by decide +kernel
set_option maxRecDepth 1000000 in
theorem zn_X11_pass : Cond.instanceMethod yX11_pass ∈ zt := zw_t4 (i := 111) rfl rfl
set_option maxRecDepth 1000000 in
theorem ze_X11_pass : Cond.selects RX11 yX11_pass yX11_pass ∈ zt := zw_t4 (i := 112) rfl rfl
set_option maxRecDepth 1000000 in
theorem zk_X11_who : Cond.code yX11_who cX11_who 5 (some .int) ∈ zt := zw_t4 (i := 126) rfl rfl
noncomputable def zc_X11_who : zq_Cd := [(0, .aload_n 0, 1), (1, .iload_n 1, 1), (2, .iload_n 2, 1), (3, .iload_n 3, 1), (4, .invokevirtual 167, 3), (7, .ifCond .eq 14, 3), (10, .iload 4, 2), (12, .iconst 0, 1), (13, .bipush 99, 2), (15, .invokestatic 99, 3), (18, .ifCond .ne 5, 3), (21, .iconst (-1), 1), (22, .ireturn, 1), (23, .aload_n 0, 1), (24, .getfield 47, 3), (27, .aload_n 0, 1), (28, .getfield 70, 3), (31, .iload_n 1, 1), (32, .iload_n 2, 1), (33, .iload_n 3, 1), (34, .iload 4, 2), (36, .invokevirtual 170, 3), (39, .ireturn, 1)]
theorem zd_X11_who : zq_ckC cX11_who zc_X11_who = true := by decide +kernel
theorem zp_X11_who : zq_pn yX11_who 4 = true := by decide +kernel
set_option maxRecDepth 1000000 in
theorem zn_X11_who : Cond.instanceMethod yX11_who ∈ zt := zw_t4 (i := 124) rfl rfl
set_option maxRecDepth 1000000 in
theorem ze_X11_who : Cond.selects RX11 yX11_who yX11_who ∈ zt := zw_t4 (i := 125) rfl rfl
set_option maxRecDepth 1000000 in
theorem zk_X1_firstDay : Cond.code yX1_firstDay cX1_firstDay 7 (some .int) ∈ zt := zw_t4 (i := 134) rfl rfl
noncomputable def zc_X1_firstDay : zq_Cd := [(0, .iconst 0, 1), (1, .istore 6, 2), (3, .iload 6, 2), (5, .bipush 60, 2), (7, .if_icmp .gt 28, 3), (10, .aload_n 0, 1), (11, .aload_n 1, 1), (12, .iload_n 2, 1), (13, .iload_n 3, 1), (14, .iload 4, 2), (16, .iload 6, 2), (18, .invokevirtual 45, 3), (21, .iload 5, 2), (23, .if_icmp .ne 6, 3), (26, .iload 6, 2), (28, .ireturn, 1), (29, .iinc 6 1, 3), (32, .goto (-29), 3), (35, .iconst (-1), 1), (36, .ireturn, 1)]
theorem zd_X1_firstDay : zq_ckC cX1_firstDay zc_X1_firstDay = true := by decide +kernel
theorem zp_X1_firstDay : zq_pn yX1_firstDay 5 = true := by decide +kernel
set_option maxRecDepth 1000000 in
theorem zn_X1_firstDay : Cond.instanceMethod yX1_firstDay ∈ zt := zw_t4 (i := 132) rfl rfl
set_option maxRecDepth 1000000 in
theorem ze_X1_firstDay : Cond.selects RX1 yX1_firstDay yX1_firstDay ∈ zt := zw_t4 (i := 133) rfl rfl
set_option maxRecDepth 1000000 in
theorem zk_X11_first : Cond.code yX11_first cX11_first 5 (some .int) ∈ zt := zw_t4 (i := 130) rfl rfl
noncomputable def zc_X11_first : zq_Cd := [(0, .aload_n 0, 1), (1, .iload_n 1, 1), (2, .iload_n 2, 1), (3, .iload_n 3, 1), (4, .invokevirtual 167, 3), (7, .ifCond .eq 14, 3), (10, .iload 4, 2), (12, .iconst 0, 1), (13, .bipush 7, 2), (15, .invokestatic 99, 3), (18, .ifCond .ne 5, 3), (21, .iconst (-1), 1), (22, .ireturn, 1), (23, .aload_n 0, 1), (24, .getfield 47, 3), (27, .aload_n 0, 1), (28, .getfield 70, 3), (31, .iload_n 1, 1), (32, .iload_n 2, 1), (33, .iload_n 3, 1), (34, .iload 4, 2), (36, .invokevirtual 257, 3), (39, .ireturn, 1)]
theorem zd_X11_first : zq_ckC cX11_first zc_X11_first = true := by decide +kernel
theorem zp_X11_first : zq_pn yX11_first 4 = true := by decide +kernel
set_option maxRecDepth 1000000 in
theorem zn_X11_first : Cond.instanceMethod yX11_first ∈ zt := zw_t4 (i := 128) rfl rfl
set_option maxRecDepth 1000000 in
theorem ze_X11_first : Cond.selects RX11 yX11_first yX11_first ∈ zt := zw_t4 (i := 129) rfl rfl
set_option maxRecDepth 1000000 in
theorem zk_X1_comesAgainAfter : Cond.code yX1_comesAgainAfter cX1_comesAgainAfter 3 (some .boolean) ∈ zt := zw_t4 (i := 147) rfl rfl
noncomputable def zc_X1_comesAgainAfter : zq_Cd := [(0, .iconst 0, 1), (1, .istore_n 2, 1), (2, .iload_n 2, 1), (3, .iload_n 1, 1), (4, .iadd, 1), (5, .bipush 120, 2), (7, .if_icmp .ge 28, 3), (10, .aload_n 0, 1), (11, .getfield 11, 3), (14, .iload_n 2, 1), (15, .iaload, 1), (16, .aload_n 0, 1), (17, .getfield 11, 3), (20, .iload_n 2, 1), (21, .iload_n 1, 1), (22, .iadd, 1), (23, .iaload, 1), (24, .if_icmp .eq 5, 3), (27, .iconst 0, 1), (28, .ireturn, 1), (29, .iinc 2 1, 3), (32, .goto (-30), 3), (35, .iconst 1, 1), (36, .ireturn, 1)]
theorem zd_X1_comesAgainAfter : zq_ckC cX1_comesAgainAfter zc_X1_comesAgainAfter = true := by decide +kernel
theorem zp_X1_comesAgainAfter : zq_pn yX1_comesAgainAfter 1 = true := by decide +kernel
set_option maxRecDepth 1000000 in
theorem zn_X1_comesAgainAfter : Cond.instanceMethod yX1_comesAgainAfter ∈ zt := zw_t4 (i := 146) rfl rfl
theorem ze_X1_comesAgainAfter : Cond.selects RX1 yX1_comesAgainAfter yX1_comesAgainAfter ∈ zt := zq_hw_ok (i := 23) (by decide +kernel)
set_option maxRecDepth 1000000 in
theorem zk_X1_leastPeriod : Cond.code yX1_leastPeriod cX1_leastPeriod 6 (some .int) ∈ zt := zw_t4 (i := 143) rfl rfl
noncomputable def zc_X1_leastPeriod : zq_Cd := [(0, .iconst 0, 1), (1, .istore 5, 2), (3, .iload 5, 2), (5, .bipush 120, 2), (7, .if_icmp .ge 27, 3), (10, .aload_n 0, 1), (11, .getfield 11, 3), (14, .iload 5, 2), (16, .aload_n 0, 1), (17, .aload_n 1, 1), (18, .iload_n 2, 1), (19, .iload_n 3, 1), (20, .iload 4, 2), (22, .iload 5, 2), (24, .invokevirtual 45, 3), (27, .iastore, 1), (28, .iinc 5 1, 3), (31, .goto (-28), 3), (34, .iconst 1, 1), (35, .istore 5, 2), (37, .iload 5, 2), (39, .bipush 60, 2), (41, .if_icmp .gt 21, 3), (44, .aload_n 0, 1), (45, .iload 5, 2), (47, .invokevirtual 49, 3), (50, .ifCond .eq 6, 3), (53, .iload 5, 2), (55, .ireturn, 1), (56, .iinc 5 1, 3), (59, .goto (-22), 3), (62, .iconst (-1), 1), (63, .ireturn, 1)]
theorem zd_X1_leastPeriod : zq_ckC cX1_leastPeriod zc_X1_leastPeriod = true := by decide +kernel
theorem zp_X1_leastPeriod : zq_pn yX1_leastPeriod 4 = true := by decide +kernel
set_option maxRecDepth 1000000 in
theorem zn_X1_leastPeriod : Cond.instanceMethod yX1_leastPeriod ∈ zt := zw_t4 (i := 141) rfl rfl
set_option maxRecDepth 1000000 in
theorem ze_X1_leastPeriod : Cond.selects RX1 yX1_leastPeriod yX1_leastPeriod ∈ zt := zw_t4 (i := 142) rfl rfl
set_option maxRecDepth 1000000 in
theorem zk_X11_period : Cond.code yX11_period cX11_period 4 (some .int) ∈ zt := zw_t4 (i := 139) rfl rfl
noncomputable def zc_X11_period : zq_Cd := [(0, .aload_n 0, 1), (1, .iload_n 1, 1), (2, .iload_n 2, 1), (3, .iload_n 3, 1), (4, .invokevirtual 167, 3), (7, .ifCond .ne 5, 3), (10, .iconst (-1), 1), (11, .ireturn, 1), (12, .aload_n 0, 1), (13, .getfield 47, 3), (16, .aload_n 0, 1), (17, .getfield 70, 3), (20, .iload_n 1, 1), (21, .iload_n 2, 1), (22, .iload_n 3, 1), (23, .invokevirtual 260, 3), (26, .ireturn, 1)]
theorem zd_X11_period : zq_ckC cX11_period zc_X11_period = true := by decide +kernel
theorem zp_X11_period : zq_pn yX11_period 3 = true := by decide +kernel
set_option maxRecDepth 1000000 in
theorem zn_X11_period : Cond.instanceMethod yX11_period ∈ zt := zw_t4 (i := 137) rfl rfl
set_option maxRecDepth 1000000 in
theorem ze_X11_period : Cond.selects RX11 yX11_period yX11_period ∈ zt := zw_t4 (i := 138) rfl rfl
set_option maxRecDepth 1000000 in
theorem zk_X1_loophole : Cond.code yX1_loophole cX1_loophole 8 (some .int) ∈ zt := zw_t4 (i := 155) rfl rfl
noncomputable def zc_X1_loophole : zq_Cd := [(0, .iconst 0, 1), (1, .istore 5, 2), (3, .iconst 0, 1), (4, .istore 6, 2), (6, .iload 6, 2), (8, .aload_n 1, 1), (9, .getfield 53, 3), (12, .if_icmp .ge 62, 3), (15, .iconst 0, 1), (16, .istore 7, 2), (18, .iload 7, 2), (20, .aload_n 1, 1), (21, .getfield 56, 3), (24, .if_icmp .ge 44, 3), (27, .aload_n 0, 1), (28, .aload_n 1, 1), (29, .iload 6, 2), (31, .iload 7, 2), (33, .iload_n 2, 1), (34, .iload_n 3, 1), (35, .invokevirtual 45, 3), (38, .bipush 6, 2), (40, .if_icmp .ne 22, 3), (43, .iload 5, 2), (45, .iload 4, 2), (47, .if_icmp .ne 12, 3), (50, .bipush 10, 2), (52, .iload 6, 2), (54, .imul, 1), (55, .iload 7, 2), (57, .iadd, 1), (58, .ireturn, 1), (59, .iinc 5 1, 3), (62, .iinc 7 1, 3), (65, .goto (-47), 3), (68, .iinc 6 1, 3), (71, .goto (-65), 3), (74, .iload 4, 2), (76, .iconst (-1), 1), (77, .if_icmp .ne 8, 3), (80, .iload 5, 2), (82, .goto 4, 3), (85, .iconst (-1), 1), (86, .ireturn, 1)]
theorem zd_X1_loophole : zq_ckC cX1_loophole zc_X1_loophole = true := by decide +kernel
theorem zp_X1_loophole : zq_pn yX1_loophole 4 = true := by decide +kernel
set_option maxRecDepth 1000000 in
theorem zn_X1_loophole : Cond.instanceMethod yX1_loophole ∈ zt := zw_t4 (i := 153) rfl rfl
set_option maxRecDepth 1000000 in
theorem ze_X1_loophole : Cond.selects RX1 yX1_loophole yX1_loophole ∈ zt := zw_t4 (i := 154) rfl rfl
set_option maxRecDepth 1000000 in
theorem zk_X11_loopholes : Cond.code yX11_loopholes cX11_loopholes 4 (some .int) ∈ zt := zw_t4 (i := 151) rfl rfl
noncomputable def zc_X11_loopholes : zq_Cd := [(0, .iload_n 1, 1), (1, .invokestatic 155, 3), (4, .ifCond .eq 18, 3), (7, .iload_n 2, 1), (8, .iconst 0, 1), (9, .bipush 99, 2), (11, .invokestatic 99, 3), (14, .ifCond .eq 8, 3), (17, .iload_n 3, 1), (18, .iconst (-1), 1), (19, .if_icmp .ge 5, 3), (22, .iconst (-1), 1), (23, .ireturn, 1), (24, .aload_n 0, 1), (25, .getfield 47, 3), (28, .aload_n 0, 1), (29, .getfield 70, 3), (32, .iload_n 1, 1), (33, .iload_n 2, 1), (34, .iload_n 3, 1), (35, .invokevirtual 263, 3), (38, .ireturn, 1)]
theorem zd_X11_loopholes : zq_ckC cX11_loopholes zc_X11_loopholes = true := by decide +kernel
theorem zp_X11_loopholes : zq_pn yX11_loopholes 3 = true := by decide +kernel
set_option maxRecDepth 1000000 in
theorem zn_X11_loopholes : Cond.instanceMethod yX11_loopholes ∈ zt := zw_t4 (i := 149) rfl rfl
set_option maxRecDepth 1000000 in
theorem ze_X11_loopholes : Cond.selects RX11 yX11_loopholes yX11_loopholes ∈ zt := zw_t4 (i := 150) rfl rfl
set_option maxRecDepth 1000000 in
theorem zk_X10_openDays : Cond.code yX10_openDays cX10_openDays 9 (some .int) ∈ zt := zw_t4 (i := 167) rfl rfl
noncomputable def zc_X10_openDays : zq_Cd := [(0, .iconst 0, 1), (1, .istore 6, 2), (3, .iconst 0, 1), (4, .istore 7, 2), (6, .iload 7, 2), (8, .bipush 10, 2), (10, .if_icmp .ge 48, 3), (13, .aload_n 0, 1), (14, .getfield 30, 3), (17, .aload_n 1, 1), (18, .iload_n 2, 1), (19, .iload_n 3, 1), (20, .iload 4, 2), (22, .iload 7, 2), (24, .invokevirtual 52, 3), (27, .istore 8, 2), (29, .iload 8, 2), (31, .iload 5, 2), (33, .if_icmp .eq 19, 3), (36, .iload 8, 2), (38, .bipush 7, 2), (40, .if_icmp .eq 12, 3), (43, .iload 6, 2), (45, .iconst 1, 1), (46, .iload 7, 2), (48, .ishl, 1), (49, .ior, 1), (50, .istore 6, 2), (52, .iinc 7 1, 3), (55, .goto (-49), 3), (58, .iload 6, 2), (60, .ireturn, 1)]
theorem zd_X10_openDays : zq_ckC cX10_openDays zc_X10_openDays = true := by decide +kernel
theorem zp_X10_openDays : zq_pn yX10_openDays 5 = true := by decide +kernel
set_option maxRecDepth 1000000 in
theorem zn_X10_openDays : Cond.instanceMethod yX10_openDays ∈ zt := zw_t4 (i := 166) rfl rfl
theorem ze_X10_openDays : Cond.selects RX10 yX10_openDays yX10_openDays ∈ zt := zq_hw_ok (i := 24) (by decide +kernel)
set_option maxRecDepth 1000000 in
theorem zk_J6_bitCount_0f7a4 : Cond.code yJ6_bitCount_0f7a4 cJ6_bitCount_0f7a4 1 (some .int) ∈ zt := zw_t4 (i := 175) rfl rfl
noncomputable def zc_J6_bitCount_0f7a4 : zq_Cd := [(0, .iload_n 0, 1), (1, .iload_n 0, 1), (2, .iconst 1, 1), (3, .iushr, 1), (4, .ldc_w 265, 3), (7, .iand, 1), (8, .isub, 1), (9, .istore_n 0, 1), (10, .iload_n 0, 1), (11, .ldc_w 266, 3), (14, .iand, 1), (15, .iload_n 0, 1), (16, .iconst 2, 1), (17, .iushr, 1), (18, .ldc_w 266, 3), (21, .iand, 1), (22, .iadd, 1), (23, .istore_n 0, 1), (24, .iload_n 0, 1), (25, .iload_n 0, 1), (26, .iconst 4, 1), (27, .iushr, 1), (28, .iadd, 1), (29, .ldc_w 267, 3), (32, .iand, 1), (33, .istore_n 0, 1), (34, .iload_n 0, 1), (35, .iload_n 0, 1), (36, .bipush 8, 2), (38, .iushr, 1), (39, .iadd, 1), (40, .istore_n 0, 1), (41, .iload_n 0, 1), (42, .iload_n 0, 1), (43, .bipush 16, 2), (45, .iushr, 1), (46, .iadd, 1), (47, .istore_n 0, 1), (48, .iload_n 0, 1), (49, .bipush 63, 2), (51, .iand, 1), (52, .ireturn, 1)]
theorem zd_J6_bitCount_0f7a4 : zq_ckC cJ6_bitCount_0f7a4 zc_J6_bitCount_0f7a4 = true := by decide +kernel
theorem zp_J6_bitCount_0f7a4 : zq_pn yJ6_bitCount_0f7a4 1 = true := by decide +kernel
set_option maxRecDepth 1000000 in
theorem zs_J6_bitCount_0f7a4 : Cond.static yJ6_bitCount_0f7a4 ∈ zt := zw_t4 (i := 174) rfl rfl
set_option maxRecDepth 1000000 in
theorem zk_X10_canPlan : Cond.code yX10_canPlan cX10_canPlan 8 (some .boolean) ∈ zt := zw_t4 (i := 172) rfl rfl
noncomputable def zc_X10_canPlan : zq_Cd := [(0, .iload_n 2, 1), (1, .iload_n 1, 1), (2, .isub, 1), (3, .istore 4, 2), (5, .aload_n 0, 1), (6, .getfield 21, 3), (9, .iconst 0, 1), (10, .iconst 0, 1), (11, .iastore, 1), (12, .iconst 1, 1), (13, .istore 5, 2), (15, .iload 5, 2), (17, .iconst 1, 1), (18, .iload 4, 2), (20, .ishl, 1), (21, .if_icmp .ge 76, 3), (24, .iload 5, 2), (26, .iload 5, 2), (28, .iconst 1, 1), (29, .isub, 1), (30, .iand, 1), (31, .istore 6, 2), (33, .iload 5, 2), (35, .iload 6, 2), (37, .ixor, 1), (38, .iconst 1, 1), (39, .isub, 1), (40, .invokestatic 57, 3), (43, .istore 7, 2), (45, .aload_n 0, 1), (46, .getfield 21, 3), (49, .iload 5, 2), (51, .aload_n 0, 1), (52, .getfield 21, 3), (55, .iload 6, 2), (57, .iaload, 1), (58, .aload_n 0, 1), (59, .getfield 18, 3), (62, .iload_n 1, 1), (63, .iload 7, 2), (65, .iadd, 1), (66, .iaload, 1), (67, .iload_n 3, 1), (68, .iand, 1), (69, .ior, 1), (70, .iastore, 1), (71, .aload_n 0, 1), (72, .getfield 21, 3), (75, .iload 5, 2), (77, .iaload, 1), (78, .invokestatic 57, 3), (81, .iload 5, 2), (83, .invokestatic 57, 3), (86, .if_icmp .ge 5, 3), (89, .iconst 0, 1), (90, .ireturn, 1), (91, .iinc 5 1, 3), (94, .goto (-79), 3), (97, .iconst 1, 1), (98, .ireturn, 1)]
theorem zd_X10_canPlan : zq_ckC cX10_canPlan zc_X10_canPlan = true := by decide +kernel
theorem zp_X10_canPlan : zq_pn yX10_canPlan 3 = true := by decide +kernel
set_option maxRecDepth 1000000 in
theorem zn_X10_canPlan : Cond.instanceMethod yX10_canPlan ∈ zt := zw_t4 (i := 171) rfl rfl
theorem ze_X10_canPlan : Cond.selects RX10 yX10_canPlan yX10_canPlan ∈ zt := zq_hw_ok (i := 25) (by decide +kernel)
set_option maxRecDepth 1000000 in
theorem zk_X10_fillPlan : Cond.code yX10_fillPlan cX10_fillPlan 7 none ∈ zt := zw_t4 (i := 182) rfl rfl
noncomputable def zc_X10_fillPlan : zq_Cd := [(0, .iload_n 2, 1), (1, .istore_n 3, 1), (2, .iconst 0, 1), (3, .istore 4, 2), (5, .iload 4, 2), (7, .iload_n 1, 1), (8, .if_icmp .ge 83, 3), (11, .iconst 0, 1), (12, .istore 5, 2), (14, .iload 5, 2), (16, .bipush 10, 2), (18, .if_icmp .ge 67, 3), (21, .iconst 1, 1), (22, .iload 5, 2), (24, .ishl, 1), (25, .istore 6, 2), (27, .aload_n 0, 1), (28, .getfield 18, 3), (31, .iload 4, 2), (33, .iaload, 1), (34, .iload_n 3, 1), (35, .iand, 1), (36, .iload 6, 2), (38, .iand, 1), (39, .ifCond .eq 40, 3), (42, .aload_n 0, 1), (43, .iload 4, 2), (45, .iconst 1, 1), (46, .iadd, 1), (47, .iload_n 1, 1), (48, .iload_n 3, 1), (49, .iload 6, 2), (51, .iconst (-1), 1), (52, .ixor, 1), (53, .iand, 1), (54, .invokevirtual 44, 3), (57, .ifCond .eq 22, 3), (60, .aload_n 0, 1), (61, .getfield 9, 3), (64, .iload 4, 2), (66, .iload 5, 2), (68, .iastore, 1), (69, .iload_n 3, 1), (70, .iload 6, 2), (72, .iconst (-1), 1), (73, .ixor, 1), (74, .iand, 1), (75, .istore_n 3, 1), (76, .goto 9, 3), (79, .iinc 5 1, 3), (82, .goto (-68), 3), (85, .iinc 4 1, 3), (88, .goto (-83), 3), (91, .return_, 1)]
theorem zd_X10_fillPlan : zq_ckC cX10_fillPlan zc_X10_fillPlan = true := by decide +kernel
theorem zp_X10_fillPlan : zq_pn yX10_fillPlan 2 = true := by decide +kernel
set_option maxRecDepth 1000000 in
theorem zn_X10_fillPlan : Cond.instanceMethod yX10_fillPlan ∈ zt := zw_t4 (i := 181) rfl rfl
theorem ze_X10_fillPlan : Cond.selects RX10 yX10_fillPlan yX10_fillPlan ∈ zt := zq_hw_ok (i := 26) (by decide +kernel)
set_option maxRecDepth 1000000 in
theorem zk_X10_lastPlanned : Cond.code yX10_lastPlanned cX10_lastPlanned 7 (some .int) ∈ zt := zw_t4 (i := 163) rfl rfl
noncomputable def zc_X10_lastPlanned : zq_Cd := [(0, .aload_n 1, 1), (1, .getfield 34, 3), (4, .ifCond .ne 5, 3), (7, .iconst 0, 1), (8, .ireturn, 1), (9, .iconst 0, 1), (10, .istore 5, 2), (12, .iload 5, 2), (14, .aload_n 1, 1), (15, .getfield 34, 3), (18, .if_icmp .ge 27, 3), (21, .aload_n 0, 1), (22, .getfield 18, 3), (25, .iload 5, 2), (27, .aload_n 0, 1), (28, .aload_n 1, 1), (29, .iload 5, 2), (31, .iload_n 2, 1), (32, .iload_n 3, 1), (33, .iload 4, 2), (35, .invokevirtual 40, 3), (38, .iastore, 1), (39, .iinc 5 1, 3), (42, .goto (-30), 3), (45, .iconst 0, 1), (46, .istore 5, 2), (48, .iload 5, 2), (50, .bipush 10, 2), (52, .if_icmp .ge 44, 3), (55, .iconst 2, 1), (56, .iload 5, 2), (58, .ishl, 1), (59, .iconst 1, 1), (60, .isub, 1), (61, .istore 6, 2), (63, .aload_n 0, 1), (64, .iconst 0, 1), (65, .aload_n 1, 1), (66, .getfield 34, 3), (69, .iload 6, 2), (71, .invokevirtual 44, 3), (74, .ifCond .eq 16, 3), (77, .aload_n 0, 1), (78, .aload_n 1, 1), (79, .getfield 34, 3), (82, .iload 6, 2), (84, .invokevirtual 48, 3), (87, .iload 5, 2), (89, .ireturn, 1), (90, .iinc 5 1, 3), (93, .goto (-45), 3), (96, .iconst (-1), 1), (97, .ireturn, 1)]
theorem zd_X10_lastPlanned : zq_ckC cX10_lastPlanned zc_X10_lastPlanned = true := by decide +kernel
theorem zp_X10_lastPlanned : zq_pn yX10_lastPlanned 4 = true := by decide +kernel
set_option maxRecDepth 1000000 in
theorem zn_X10_lastPlanned : Cond.instanceMethod yX10_lastPlanned ∈ zt := zw_t4 (i := 161) rfl rfl
set_option maxRecDepth 1000000 in
theorem ze_X10_lastPlanned : Cond.selects RX10 yX10_lastPlanned yX10_lastPlanned ∈ zt := zw_t4 (i := 162) rfl rfl
set_option maxRecDepth 1000000 in
theorem zk_X11_plan : Cond.code yX11_plan cX11_plan 6 (some .int) ∈ zt := zw_t4 (i := 159) rfl rfl
noncomputable def zc_X11_plan : zq_Cd := [(0, .aload_n 0, 1), (1, .getfield 70, 3), (4, .iload_n 1, 1), (5, .invokevirtual 125, 3), (8, .ifCond .eq 21, 3), (11, .iload_n 2, 1), (12, .invokestatic 155, 3), (15, .ifCond .eq 14, 3), (18, .aload_n 0, 1), (19, .getfield 70, 3), (22, .iload_n 3, 1), (23, .invokevirtual 125, 3), (26, .ifCond .ne 5, 3), (29, .iconst (-1), 1), (30, .ireturn, 1), (31, .iload 4, 2), (33, .iconst 0, 1), (34, .aload_n 0, 1), (35, .getfield 70, 3), (38, .getfield 139, 3), (41, .invokestatic 99, 3), (44, .ifCond .ne 5, 3), (47, .iconst (-1), 1), (48, .ireturn, 1), (49, .aload_n 0, 1), (50, .getfield 56, 3), (53, .aload_n 0, 1), (54, .getfield 70, 3), (57, .iload_n 1, 1), (58, .iload_n 2, 1), (59, .iload_n 3, 1), (60, .invokevirtual 266, 3), (63, .istore 5, 2), (65, .iload 4, 2), (67, .ifCond .eq 9, 3), (70, .iload 5, 2), (72, .iconst (-1), 1), (73, .if_icmp .ne 6, 3), (76, .iload 5, 2), (78, .ireturn, 1), (79, .aload_n 0, 1), (80, .getfield 56, 3), (83, .getfield 269, 3), (86, .iload 4, 2), (88, .iconst 1, 1), (89, .isub, 1), (90, .iaload, 1), (91, .ireturn, 1)]
theorem zd_X11_plan : zq_ckC cX11_plan zc_X11_plan = true := by decide +kernel
theorem zp_X11_plan : zq_pn yX11_plan 4 = true := by decide +kernel
set_option maxRecDepth 1000000 in
theorem zn_X11_plan : Cond.instanceMethod yX11_plan ∈ zt := zw_t4 (i := 157) rfl rfl
set_option maxRecDepth 1000000 in
theorem ze_X11_plan : Cond.selects RX11 yX11_plan yX11_plan ∈ zt := zw_t4 (i := 158) rfl rfl
set_option maxRecDepth 1000000 in
theorem zk_X10_nextOf : Cond.code yX10_nextOf cX10_nextOf 7 (some .int) ∈ zt := zw_t4 (i := 194) rfl rfl
noncomputable def zc_X10_nextOf : zq_Cd := [(0, .iload_n 2, 1), (1, .istore 4, 2), (3, .iconst 3, 1), (4, .istore 5, 2), (6, .iload 5, 2), (8, .ifCond .lt 71, 3), (11, .iload 5, 2), (13, .iload_n 2, 1), (14, .if_icmp .eq 18, 3), (17, .aload_n 1, 1), (18, .getfield 67, 3), (21, .iload_n 2, 1), (22, .iaload, 1), (23, .iload 5, 2), (25, .ishr, 1), (26, .iconst 1, 1), (27, .iand, 1), (28, .iconst 1, 1), (29, .if_icmp .ne 7, 3), (32, .iconst 1, 1), (33, .goto 4, 3), (36, .iconst 0, 1), (37, .istore 6, 2), (39, .iload 6, 2), (41, .ifCond .eq 32, 3), (44, .aload_n 0, 1), (45, .getfield 27, 3), (48, .iload_n 3, 1), (49, .iconst 4, 1), (50, .imul, 1), (51, .iload 5, 2), (53, .iadd, 1), (54, .iaload, 1), (55, .aload_n 0, 1), (56, .getfield 27, 3), (59, .iload_n 3, 1), (60, .iconst 4, 1), (61, .imul, 1), (62, .iload 4, 2), (64, .iadd, 1), (65, .iaload, 1), (66, .if_icmp .gt 7, 3), (69, .iload 5, 2), (71, .istore 4, 2), (73, .iinc 5 (-1), 3), (76, .goto (-70), 3), (79, .iload 4, 2), (81, .ireturn, 1)]
theorem zd_X10_nextOf : zq_ckC cX10_nextOf zc_X10_nextOf = true := by decide +kernel
theorem zp_X10_nextOf : zq_pn yX10_nextOf 3 = true := by decide +kernel
set_option maxRecDepth 1000000 in
theorem zn_X10_nextOf : Cond.instanceMethod yX10_nextOf ∈ zt := zw_t4 (i := 193) rfl rfl
theorem ze_X10_nextOf : Cond.selects RX10 yX10_nextOf yX10_nextOf ∈ zt := zq_hw_ok (i := 27) (by decide +kernel)
set_option maxRecDepth 1000000 in
theorem zk_X10_fewestBinding : Cond.code yX10_fewestBinding cX10_fewestBinding 9 (some .int) ∈ zt := zw_t4 (i := 190) rfl rfl
noncomputable def zc_X10_fewestBinding : zq_Cd := [(0, .iload 5, 2), (2, .iconst 1, 1), (3, .isub, 1), (4, .istore 6, 2), (6, .iload 6, 2), (8, .ifCond .lt 119, 3), (11, .iconst 0, 1), (12, .istore 7, 2), (14, .iload 7, 2), (16, .iconst 4, 1), (17, .if_icmp .ge 104, 3), (20, .iload 6, 2), (22, .iconst 4, 1), (23, .imul, 1), (24, .iload 7, 2), (26, .iadd, 1), (27, .istore 8, 2), (29, .aload_n 0, 1), (30, .getfield 24, 3), (33, .iload 8, 2), (35, .aload_n 0, 1), (36, .getfield 30, 3), (39, .aload_n 1, 1), (40, .iload_n 2, 1), (41, .iload_n 3, 1), (42, .iload 7, 2), (44, .iload 6, 2), (46, .invokevirtual 52, 3), (49, .iload_n 3, 1), (50, .if_icmp .ne 7, 3), (53, .iconst 1, 1), (54, .goto 4, 3), (57, .iconst 0, 1), (58, .iastore, 1), (59, .aload_n 0, 1), (60, .getfield 27, 3), (63, .iload 8, 2), (65, .aload_n 0, 1), (66, .getfield 24, 3), (69, .iload 8, 2), (71, .iaload, 1), (72, .iastore, 1), (73, .iload 6, 2), (75, .iload 5, 2), (77, .iconst 1, 1), (78, .isub, 1), (79, .if_icmp .ge 36, 3), (82, .aload_n 0, 1), (83, .getfield 27, 3), (86, .iload 8, 2), (88, .dup2, 1), (89, .iaload, 1), (90, .aload_n 0, 1), (91, .getfield 27, 3), (94, .iload 6, 2), (96, .iconst 1, 1), (97, .iadd, 1), (98, .iconst 4, 1), (99, .imul, 1), (100, .aload_n 0, 1), (101, .aload_n 1, 1), (102, .iload 7, 2), (104, .iload 6, 2), (106, .iconst 1, 1), (107, .iadd, 1), (108, .invokevirtual 63, 3), (111, .iadd, 1), (112, .iaload, 1), (113, .iadd, 1), (114, .iastore, 1), (115, .iinc 7 1, 3), (118, .goto (-104), 3), (121, .iinc 6 (-1), 3), (124, .goto (-118), 3), (127, .aload_n 0, 1), (128, .getfield 15, 3), (131, .iconst 0, 1), (132, .iload 4, 2), (134, .iastore, 1), (135, .iconst 1, 1), (136, .istore 6, 2), (138, .iload 6, 2), (140, .iload 5, 2), (142, .if_icmp .ge 32, 3), (145, .aload_n 0, 1), (146, .getfield 15, 3), (149, .iload 6, 2), (151, .aload_n 0, 1), (152, .aload_n 1, 1), (153, .aload_n 0, 1), (154, .getfield 15, 3), (157, .iload 6, 2), (159, .iconst 1, 1), (160, .isub, 1), (161, .iaload, 1), (162, .iload 6, 2), (164, .invokevirtual 63, 3), (167, .iastore, 1), (168, .iinc 6 1, 3), (171, .goto (-33), 3), (174, .aload_n 0, 1), (175, .getfield 27, 3), (178, .iload 4, 2), (180, .iaload, 1), (181, .ireturn, 1)]
theorem zd_X10_fewestBinding : zq_ckC cX10_fewestBinding zc_X10_fewestBinding = true := by decide +kernel
theorem zp_X10_fewestBinding : zq_pn yX10_fewestBinding 5 = true := by decide +kernel
set_option maxRecDepth 1000000 in
theorem zn_X10_fewestBinding : Cond.instanceMethod yX10_fewestBinding ∈ zt := zw_t4 (i := 188) rfl rfl
set_option maxRecDepth 1000000 in
theorem ze_X10_fewestBinding : Cond.selects RX10 yX10_fewestBinding yX10_fewestBinding ∈ zt := zw_t4 (i := 189) rfl rfl
set_option maxRecDepth 1000000 in
theorem zk_X11_walk : Cond.code yX11_walk cX11_walk 7 (some .int) ∈ zt := zw_t4 (i := 186) rfl rfl
noncomputable def zc_X11_walk : zq_Cd := [(0, .aload_n 0, 1), (1, .iload_n 1, 1), (2, .iload_n 2, 1), (3, .iload_n 3, 1), (4, .invokevirtual 167, 3), (7, .ifCond .eq 25, 3), (10, .iload 4, 2), (12, .iconst 1, 1), (13, .bipush 20, 2), (15, .invokestatic 99, 3), (18, .ifCond .eq 14, 3), (21, .iload 5, 2), (23, .iconst 0, 1), (24, .iload 4, 2), (26, .invokestatic 99, 3), (29, .ifCond .ne 5, 3), (32, .iconst (-1), 1), (33, .ireturn, 1), (34, .aload_n 0, 1), (35, .getfield 56, 3), (38, .aload_n 0, 1), (39, .getfield 70, 3), (42, .iload_n 1, 1), (43, .iload_n 2, 1), (44, .iload_n 3, 1), (45, .iload 4, 2), (47, .invokevirtual 272, 3), (50, .istore 6, 2), (52, .iload 5, 2), (54, .ifCond .ne 8, 3), (57, .iload 6, 2), (59, .goto 15, 3), (62, .aload_n 0, 1), (63, .getfield 56, 3), (66, .getfield 275, 3), (69, .iload 5, 2), (71, .iconst 1, 1), (72, .isub, 1), (73, .iaload, 1), (74, .ireturn, 1)]
theorem zd_X11_walk : zq_ckC cX11_walk zc_X11_walk = true := by decide +kernel
theorem zp_X11_walk : zq_pn yX11_walk 5 = true := by decide +kernel
set_option maxRecDepth 1000000 in
theorem zn_X11_walk : Cond.instanceMethod yX11_walk ∈ zt := zw_t4 (i := 184) rfl rfl
set_option maxRecDepth 1000000 in
theorem ze_X11_walk : Cond.selects RX11 yX11_walk yX11_walk ∈ zt := zw_t4 (i := 185) rfl rfl
set_option maxRecDepth 1000000 in
theorem zk_X7_fewestPayments : Cond.code yX7_fewestPayments cX7_fewestPayments 7 (some .int) ∈ zt := zw_t4 (i := 202) rfl rfl
noncomputable def zc_X7_fewestPayments : zq_Cd := [(0, .iconst 0, 1), (1, .istore_n 2, 1), (2, .iconst 0, 1), (3, .istore_n 3, 1), (4, .iload_n 3, 1), (5, .aload_n 1, 1), (6, .getfield 25, 3), (9, .if_icmp .ge 33, 3), (12, .aload_n 1, 1), (13, .getfield 31, 3), (16, .iload_n 3, 1), (17, .iaload, 1), (18, .ifCond .eq 18, 3), (21, .aload_n 0, 1), (22, .getfield 9, 3), (25, .iload_n 2, 1), (26, .aload_n 1, 1), (27, .getfield 31, 3), (30, .iload_n 3, 1), (31, .iaload, 1), (32, .iastore, 1), (33, .iinc 2 1, 3), (36, .iinc 3 1, 3), (39, .goto (-35), 3), (42, .aload_n 0, 1), (43, .getfield 15, 3), (46, .iconst 0, 1), (47, .iconst 0, 1), (48, .iastore, 1), (49, .aload_n 0, 1), (50, .getfield 18, 3), (53, .iconst 0, 1), (54, .iconst 0, 1), (55, .iastore, 1), (56, .iconst 1, 1), (57, .istore_n 3, 1), (58, .iload_n 3, 1), (59, .iconst 1, 1), (60, .iload_n 2, 1), (61, .ishl, 1), (62, .if_icmp .ge 104, 3), (65, .iconst 0, 1), (66, .istore 4, 2), (68, .iconst 0, 1), (69, .istore 5, 2), (71, .iload 5, 2), (73, .iload_n 2, 1), (74, .if_icmp .ge 62, 3), (77, .iload_n 3, 1), (78, .iload 5, 2), (80, .ishr, 1), (81, .iconst 1, 1), (82, .iand, 1), (83, .iconst 1, 1), (84, .if_icmp .ne 46, 3), (87, .iload_n 3, 1), (88, .iconst 1, 1), (89, .iload 5, 2), (91, .ishl, 1), (92, .ixor, 1), (93, .istore 6, 2), (95, .aload_n 0, 1), (96, .getfield 15, 3), (99, .iload_n 3, 1), (100, .aload_n 0, 1), (101, .getfield 15, 3), (104, .iload 6, 2), (106, .iaload, 1), (107, .aload_n 0, 1), (108, .getfield 9, 3), (111, .iload 5, 2), (113, .iaload, 1), (114, .iadd, 1), (115, .iastore, 1), (116, .iload 4, 2), (118, .aload_n 0, 1), (119, .getfield 18, 3), (122, .iload 6, 2), (124, .iaload, 1), (125, .invokestatic 34, 3), (128, .istore 4, 2), (130, .iinc 5 1, 3), (133, .goto (-62), 3), (136, .aload_n 0, 1), (137, .getfield 18, 3), (140, .iload_n 3, 1), (141, .aload_n 0, 1), (142, .getfield 15, 3), (145, .iload_n 3, 1), (146, .iaload, 1), (147, .ifCond .ne 10, 3), (150, .iload 4, 2), (152, .iconst 1, 1), (153, .iadd, 1), (154, .goto 5, 3), (157, .iload 4, 2), (159, .iastore, 1), (160, .iinc 3 1, 3), (163, .goto (-105), 3), (166, .iload_n 2, 1), (167, .aload_n 0, 1), (168, .getfield 18, 3), (171, .iconst 1, 1), (172, .iload_n 2, 1), (173, .ishl, 1), (174, .iconst 1, 1), (175, .isub, 1), (176, .iaload, 1), (177, .isub, 1), (178, .ireturn, 1)]
theorem zd_X7_fewestPayments : zq_ckC cX7_fewestPayments zc_X7_fewestPayments = true := by decide +kernel
theorem zp_X7_fewestPayments : zq_pn yX7_fewestPayments 1 = true := by decide +kernel
set_option maxRecDepth 1000000 in
theorem zn_X7_fewestPayments : Cond.instanceMethod yX7_fewestPayments ∈ zt := zw_t4 (i := 200) rfl rfl
set_option maxRecDepth 1000000 in
theorem ze_X7_fewestPayments : Cond.selects RX7 yX7_fewestPayments yX7_fewestPayments ∈ zt := zw_t4 (i := 201) rfl rfl
set_option maxRecDepth 1000000 in
theorem zk_X11_quits : Cond.code yX11_quits cX11_quits 1 (some .int) ∈ zt := zw_t4 (i := 198) rfl rfl
noncomputable def zc_X11_quits : zq_Cd := [(0, .aload_n 0, 1), (1, .getfield 63, 3), (4, .aload_n 0, 1), (5, .getfield 70, 3), (8, .invokevirtual 278, 3), (11, .ireturn, 1)]
theorem zd_X11_quits : zq_ckC cX11_quits zc_X11_quits = true := by decide +kernel
theorem zp_X11_quits : zq_pn yX11_quits 0 = true := by decide +kernel
set_option maxRecDepth 1000000 in
theorem zn_X11_quits : Cond.instanceMethod yX11_quits ∈ zt := zw_t4 (i := 196) rfl rfl
set_option maxRecDepth 1000000 in
theorem ze_X11_quits : Cond.selects RX11 yX11_quits yX11_quits ∈ zt := zw_t4 (i := 197) rfl rfl
set_option maxRecDepth 1000000 in
theorem zk_X4_addSight : Cond.code yX4_addSight cX4_addSight 5 (some .int) ∈ zt := zw_t4 (i := 211) rfl rfl
noncomputable def zc_X4_addSight : zq_Cd := [(0, .aload_n 0, 1), (1, .getfield 30, 3), (4, .iconst 4, 1), (5, .aload_n 0, 1), (6, .getfield 69, 3), (9, .imul, 1), (10, .iload_n 1, 1), (11, .iastore, 1), (12, .aload_n 0, 1), (13, .getfield 30, 3), (16, .iconst 4, 1), (17, .aload_n 0, 1), (18, .getfield 69, 3), (21, .imul, 1), (22, .iconst 1, 1), (23, .iadd, 1), (24, .iload_n 2, 1), (25, .iastore, 1), (26, .aload_n 0, 1), (27, .getfield 30, 3), (30, .iconst 4, 1), (31, .aload_n 0, 1), (32, .getfield 69, 3), (35, .imul, 1), (36, .iconst 2, 1), (37, .iadd, 1), (38, .iload_n 3, 1), (39, .iastore, 1), (40, .aload_n 0, 1), (41, .getfield 30, 3), (44, .iconst 4, 1), (45, .aload_n 0, 1), (46, .getfield 69, 3), (49, .imul, 1), (50, .iconst 3, 1), (51, .iadd, 1), (52, .iload 4, 2), (54, .iastore, 1), (55, .aload_n 0, 1), (56, .dup, 1), (57, .getfield 69, 3), (60, .iconst 1, 1), (61, .iadd, 1), (62, .putfield 69, 3), (65, .aload_n 0, 1), (66, .getfield 69, 3), (69, .ireturn, 1)]
theorem zd_X4_addSight : zq_ckC cX4_addSight zc_X4_addSight = true := by decide +kernel
theorem zp_X4_addSight : zq_pn yX4_addSight 4 = true := by decide +kernel
set_option maxRecDepth 1000000 in
theorem zn_X4_addSight : Cond.instanceMethod yX4_addSight ∈ zt := zw_t4 (i := 209) rfl rfl
set_option maxRecDepth 1000000 in
theorem ze_X4_addSight : Cond.selects RX4 yX4_addSight yX4_addSight ∈ zt := zw_t4 (i := 210) rfl rfl
set_option maxRecDepth 1000000 in
theorem zk_X11_seen : Cond.code yX11_seen cX11_seen 5 (some .int) ∈ zt := zw_t4 (i := 207) rfl rfl
noncomputable def zc_X11_seen : zq_Cd := [(0, .iload_n 1, 1), (1, .iconst 0, 1), (2, .getstatic 181, 3), (5, .iconst 0, 1), (6, .iaload, 1), (7, .invokestatic 99, 3), (10, .ifCond .eq 21, 3), (13, .iload_n 3, 1), (14, .invokestatic 155, 3), (17, .ifCond .eq 14, 3), (20, .iload 4, 2), (22, .iconst 0, 1), (23, .bipush 6, 2), (25, .invokestatic 99, 3), (28, .ifCond .ne 9, 3), (31, .aload_n 0, 1), (32, .iconst (-1), 1), (33, .invokevirtual 103, 3), (36, .ireturn, 1), (37, .aload_n 0, 1), (38, .getfield 70, 3), (41, .iload_n 2, 1), (42, .invokevirtual 146, 3), (45, .ifCond .eq 22, 3), (48, .iload 4, 2), (50, .bipush 6, 2), (52, .if_icmp .eq 22, 3), (55, .aload_n 0, 1), (56, .getfield 70, 3), (59, .iload 4, 2), (61, .invokevirtual 125, 3), (64, .ifCond .ne 10, 3), (67, .aload_n 0, 1), (68, .bipush (-2), 2), (70, .invokevirtual 103, 3), (73, .ireturn, 1), (74, .aload_n 0, 1), (75, .getfield 70, 3), (78, .getfield 281, 3), (81, .bipush 6, 2), (83, .if_icmp .lt 10, 3), (86, .aload_n 0, 1), (87, .bipush (-5), 2), (89, .invokevirtual 103, 3), (92, .ireturn, 1), (93, .aload_n 0, 1), (94, .aload_n 0, 1), (95, .getfield 70, 3), (98, .iload_n 1, 1), (99, .iload_n 2, 1), (100, .iload_n 3, 1), (101, .iload 4, 2), (103, .invokevirtual 284, 3), (106, .invokevirtual 122, 3), (109, .ireturn, 1)]
theorem zd_X11_seen : zq_ckC cX11_seen zc_X11_seen = true := by decide +kernel
theorem zp_X11_seen : zq_pn yX11_seen 4 = true := by decide +kernel
set_option maxRecDepth 1000000 in
theorem zn_X11_seen : Cond.instanceMethod yX11_seen ∈ zt := zw_t4 (i := 205) rfl rfl
set_option maxRecDepth 1000000 in
theorem ze_X11_seen : Cond.selects RX11 yX11_seen yX11_seen ∈ zt := zw_t4 (i := 206) rfl rfl
set_option maxRecDepth 1000000 in
theorem zk_X11_forget : Cond.code yX11_forget cX11_forget 2 (some .int) ∈ zt := zw_t4 (i := 215) rfl rfl
noncomputable def zc_X11_forget : zq_Cd := [(0, .aload_n 0, 1), (1, .getfield 70, 3), (4, .getfield 281, 3), (7, .istore_n 1, 1), (8, .aload_n 0, 1), (9, .getfield 70, 3), (12, .iconst 0, 1), (13, .putfield 281, 3), (16, .iload_n 1, 1), (17, .ireturn, 1)]
theorem zd_X11_forget : zq_ckC cX11_forget zc_X11_forget = true := by decide +kernel
theorem zp_X11_forget : zq_pn yX11_forget 0 = true := by decide +kernel
set_option maxRecDepth 1000000 in
theorem zn_X11_forget : Cond.instanceMethod yX11_forget ∈ zt := zw_t4 (i := 213) rfl rfl
set_option maxRecDepth 1000000 in
theorem ze_X11_forget : Cond.selects RX11 yX11_forget yX11_forget ∈ zt := zw_t4 (i := 214) rfl rfl
set_option maxRecDepth 1000000 in
theorem zk_X1_fitsSights : Cond.code yX1_fitsSights cX1_fitsSights 8 (some .boolean) ∈ zt := zw_t4 (i := 227) rfl rfl
noncomputable def zc_X1_fitsSights : zq_Cd := [(0, .aload_n 1, 1), (1, .aload_n 1, 1), (2, .getfield 25, 3), (5, .invokevirtual 31, 3), (8, .astore_n 3, 1), (9, .iconst 0, 1), (10, .istore 4, 2), (12, .iload 4, 2), (14, .aload_n 1, 1), (15, .getfield 63, 3), (18, .if_icmp .ge 86, 3), (21, .aload_n 1, 1), (22, .getfield 66, 3), (25, .iconst 4, 1), (26, .iload 4, 2), (28, .imul, 1), (29, .iconst 1, 1), (30, .iadd, 1), (31, .iaload, 1), (32, .istore 5, 2), (34, .aload_n 1, 1), (35, .getfield 66, 3), (38, .iconst 4, 1), (39, .iload 4, 2), (41, .imul, 1), (42, .iconst 2, 1), (43, .iadd, 1), (44, .iaload, 1), (45, .istore 6, 2), (47, .aload_n 1, 1), (48, .getfield 66, 3), (51, .iconst 4, 1), (52, .iload 4, 2), (54, .imul, 1), (55, .iaload, 1), (56, .aload_n 1, 1), (57, .getfield 69, 3), (60, .iload 6, 2), (62, .iaload, 1), (63, .iadd, 1), (64, .istore 7, 2), (66, .aload_n 0, 1), (67, .getfield 21, 3), (70, .aload_n 1, 1), (71, .aload_n 3, 1), (72, .iload 5, 2), (74, .iload_n 2, 1), (75, .iload 6, 2), (77, .iload 7, 2), (79, .invokevirtual 39, 3), (82, .aload_n 1, 1), (83, .getfield 66, 3), (86, .iconst 4, 1), (87, .iload 4, 2), (89, .imul, 1), (90, .iconst 3, 1), (91, .iadd, 1), (92, .iaload, 1), (93, .if_icmp .eq 5, 3), (96, .iconst 0, 1), (97, .ireturn, 1), (98, .iinc 4 1, 3), (101, .goto (-89), 3), (104, .iconst 1, 1), (105, .ireturn, 1)]
theorem zd_X1_fitsSights : zq_ckC cX1_fitsSights zc_X1_fitsSights = true := by decide +kernel
theorem zp_X1_fitsSights : zq_pn yX1_fitsSights 2 = true := by decide +kernel
set_option maxRecDepth 1000000 in
theorem zn_X1_fitsSights : Cond.instanceMethod yX1_fitsSights ∈ zt := zw_t4 (i := 226) rfl rfl
theorem ze_X1_fitsSights : Cond.selects RX1 yX1_fitsSights yX1_fitsSights ∈ zt := zq_hw_ok (i := 28) (by decide +kernel)
set_option maxRecDepth 1000000 in
theorem zk_X1_doersOf : Cond.code yX1_doersOf cX1_doersOf 4 (some .int) ∈ zt := zw_t4 (i := 223) rfl rfl
noncomputable def zc_X1_doersOf : zq_Cd := [(0, .iconst 0, 1), (1, .istore_n 2, 1), (2, .iconst 0, 1), (3, .istore_n 3, 1), (4, .iload_n 3, 1), (5, .aload_n 1, 1), (6, .getfield 56, 3), (9, .if_icmp .ge 24, 3), (12, .aload_n 0, 1), (13, .aload_n 1, 1), (14, .iload_n 3, 1), (15, .invokevirtual 59, 3), (18, .ifCond .eq 9, 3), (21, .iload_n 2, 1), (22, .iconst 1, 1), (23, .iload_n 3, 1), (24, .ishl, 1), (25, .ior, 1), (26, .istore_n 2, 1), (27, .iinc 3 1, 3), (30, .goto (-26), 3), (33, .iload_n 2, 1), (34, .ireturn, 1)]
theorem zd_X1_doersOf : zq_ckC cX1_doersOf zc_X1_doersOf = true := by decide +kernel
theorem zp_X1_doersOf : zq_pn yX1_doersOf 1 = true := by decide +kernel
set_option maxRecDepth 1000000 in
theorem zn_X1_doersOf : Cond.instanceMethod yX1_doersOf ∈ zt := zw_t4 (i := 221) rfl rfl
set_option maxRecDepth 1000000 in
theorem ze_X1_doersOf : Cond.selects RX1 yX1_doersOf yX1_doersOf ∈ zt := zw_t4 (i := 222) rfl rfl
set_option maxRecDepth 1000000 in
theorem zk_X11_doers : Cond.code yX11_doers cX11_doers 1 (some .int) ∈ zt := zw_t4 (i := 219) rfl rfl
noncomputable def zc_X11_doers : zq_Cd := [(0, .aload_n 0, 1), (1, .getfield 47, 3), (4, .aload_n 0, 1), (5, .getfield 70, 3), (8, .invokevirtual 288, 3), (11, .ireturn, 1)]
theorem zd_X11_doers : zq_ckC cX11_doers zc_X11_doers = true := by decide +kernel
theorem zp_X11_doers : zq_pn yX11_doers 0 = true := by decide +kernel
set_option maxRecDepth 1000000 in
theorem zn_X11_doers : Cond.instanceMethod yX11_doers ∈ zt := zw_t4 (i := 217) rfl rfl
set_option maxRecDepth 1000000 in
theorem ze_X11_doers : Cond.selects RX11 yX11_doers yX11_doers ∈ zt := zw_t4 (i := 218) rfl rfl
set_option maxRecDepth 1000000 in
theorem zk_X1_mostAlike : Cond.code yX1_mostAlike cX1_mostAlike 9 (some .int) ∈ zt := zw_t5 (i := 0) rfl rfl
noncomputable def zc_X1_mostAlike : zq_Cd := [(0, .iconst 0, 1), (1, .istore 6, 2), (3, .iload 6, 2), (5, .aload_n 0, 1), (6, .getfield 15, 3), (9, .arraylength, 1), (10, .if_icmp .ge 17, 3), (13, .aload_n 0, 1), (14, .getfield 15, 3), (17, .iload 6, 2), (19, .iconst 0, 1), (20, .iastore, 1), (21, .iinc 6 1, 3), (24, .goto (-21), 3), (27, .iconst 0, 1), (28, .istore 6, 2), (30, .iconst 0, 1), (31, .istore 7, 2), (33, .iload 7, 2), (35, .aload_n 1, 1), (36, .getfield 56, 3), (39, .if_icmp .ge 58, 3), (42, .iload 5, 2), (44, .iload 7, 2), (46, .ishr, 1), (47, .iconst 1, 1), (48, .iand, 1), (49, .iconst 1, 1), (50, .if_icmp .ne 41, 3), (53, .aload_n 0, 1), (54, .aload_n 1, 1), (55, .iload_n 2, 1), (56, .iload 7, 2), (58, .iload_n 3, 1), (59, .iload 4, 2), (61, .invokevirtual 45, 3), (64, .istore 8, 2), (66, .aload_n 0, 1), (67, .getfield 15, 3), (70, .iload 8, 2), (72, .dup2, 1), (73, .iaload, 1), (74, .iconst 1, 1), (75, .iadd, 1), (76, .iastore, 1), (77, .iload 6, 2), (79, .aload_n 0, 1), (80, .getfield 15, 3), (83, .iload 8, 2), (85, .iaload, 1), (86, .invokestatic 82, 3), (89, .istore 6, 2), (91, .iinc 7 1, 3), (94, .goto (-61), 3), (97, .iload 6, 2), (99, .ireturn, 1)]
theorem zd_X1_mostAlike : zq_ckC cX1_mostAlike zc_X1_mostAlike = true := by decide +kernel
theorem zp_X1_mostAlike : zq_pn yX1_mostAlike 5 = true := by decide +kernel
set_option maxRecDepth 1000000 in
theorem zn_X1_mostAlike : Cond.instanceMethod yX1_mostAlike ∈ zt := zw_t4 (i := 239) rfl rfl
theorem ze_X1_mostAlike : Cond.selects RX1 yX1_mostAlike yX1_mostAlike ∈ zt := zq_hw_ok (i := 29) (by decide +kernel)
set_option maxRecDepth 1000000 in
theorem zk_X1_bestDay : Cond.code yX1_bestDay cX1_bestDay 8 (some .int) ∈ zt := zw_t4 (i := 235) rfl rfl
noncomputable def zc_X1_bestDay : zq_Cd := [(0, .aload_n 0, 1), (1, .aload_n 1, 1), (2, .invokevirtual 72, 3), (5, .istore 4, 2), (7, .iload 4, 2), (9, .ifCond .ne 5, 3), (12, .iconst (-1), 1), (13, .ireturn, 1), (14, .iconst (-1), 1), (15, .istore 5, 2), (17, .aload_n 0, 1), (18, .bipush 7, 2), (20, .putfield 76, 3), (23, .iconst 0, 1), (24, .istore 6, 2), (26, .iload 6, 2), (28, .bipush 30, 2), (30, .if_icmp .gt 41, 3), (33, .aload_n 0, 1), (34, .aload_n 1, 1), (35, .iload_n 2, 1), (36, .iload_n 3, 1), (37, .iload 6, 2), (39, .iload 4, 2), (41, .invokevirtual 79, 3), (44, .istore 7, 2), (46, .iload 7, 2), (48, .aload_n 0, 1), (49, .getfield 76, 3), (52, .if_icmp .ge 13, 3), (55, .aload_n 0, 1), (56, .iload 7, 2), (58, .putfield 76, 3), (61, .iload 6, 2), (63, .istore 5, 2), (65, .iinc 6 1, 3), (68, .goto (-42), 3), (71, .iload 5, 2), (73, .ireturn, 1)]
theorem zd_X1_bestDay : zq_ckC cX1_bestDay zc_X1_bestDay = true := by decide +kernel
theorem zp_X1_bestDay : zq_pn yX1_bestDay 3 = true := by decide +kernel
set_option maxRecDepth 1000000 in
theorem zn_X1_bestDay : Cond.instanceMethod yX1_bestDay ∈ zt := zw_t4 (i := 233) rfl rfl
set_option maxRecDepth 1000000 in
theorem ze_X1_bestDay : Cond.selects RX1 yX1_bestDay yX1_bestDay ∈ zt := zw_t4 (i := 234) rfl rfl
set_option maxRecDepth 1000000 in
theorem zk_X11_look : Cond.code yX11_look cX11_look 5 (some .int) ∈ zt := zw_t4 (i := 231) rfl rfl
noncomputable def zc_X11_look : zq_Cd := [(0, .aload_n 0, 1), (1, .getfield 70, 3), (4, .iload_n 1, 1), (5, .invokevirtual 146, 3), (8, .ifCond .eq 19, 3), (11, .iload_n 2, 1), (12, .invokestatic 155, 3), (15, .ifCond .eq 12, 3), (18, .iload_n 3, 1), (19, .iconst 0, 1), (20, .iconst 1, 1), (21, .invokestatic 99, 3), (24, .ifCond .ne 5, 3), (27, .iconst (-1), 1), (28, .ireturn, 1), (29, .aload_n 0, 1), (30, .getfield 47, 3), (33, .aload_n 0, 1), (34, .getfield 70, 3), (37, .iload_n 1, 1), (38, .iload_n 2, 1), (39, .invokevirtual 291, 3), (42, .istore 4, 2), (44, .iload_n 3, 1), (45, .ifCond .eq 9, 3), (48, .iload 4, 2), (50, .iconst (-1), 1), (51, .if_icmp .ne 8, 3), (54, .iload 4, 2), (56, .goto 10, 3), (59, .aload_n 0, 1), (60, .getfield 47, 3), (63, .getfield 294, 3), (66, .ireturn, 1)]
theorem zd_X11_look : zq_ckC cX11_look zc_X11_look = true := by decide +kernel
theorem zp_X11_look : zq_pn yX11_look 3 = true := by decide +kernel
set_option maxRecDepth 1000000 in
theorem zn_X11_look : Cond.instanceMethod yX11_look ∈ zt := zw_t4 (i := 229) rfl rfl
set_option maxRecDepth 1000000 in
theorem ze_X11_look : Cond.selects RX11 yX11_look yX11_look ∈ zt := zw_t4 (i := 230) rfl rfl
set_option maxRecDepth 1000000 in
theorem zk_X1_tallyDates : Cond.code yX1_tallyDates cX1_tallyDates 7 none ∈ zt := zw_t5 (i := 13) rfl rfl
noncomputable def zc_X1_tallyDates : zq_Cd := [(0, .iconst 0, 1), (1, .istore 4, 2), (3, .iload 4, 2), (5, .aload_n 0, 1), (6, .getfield 18, 3), (9, .arraylength, 1), (10, .if_icmp .ge 17, 3), (13, .aload_n 0, 1), (14, .getfield 18, 3), (17, .iload 4, 2), (19, .iconst 0, 1), (20, .iastore, 1), (21, .iinc 4 1, 3), (24, .goto (-21), 3), (27, .iconst 0, 1), (28, .istore 4, 2), (30, .iload 4, 2), (32, .bipush 34, 2), (34, .if_icmp .ge 71, 3), (37, .iconst 0, 1), (38, .istore 5, 2), (40, .iload 5, 2), (42, .aload_n 1, 1), (43, .getfield 56, 3), (46, .if_icmp .ge 53, 3), (49, .aload_n 0, 1), (50, .aload_n 1, 1), (51, .iload_n 2, 1), (52, .iload 5, 2), (54, .iload_n 3, 1), (55, .iload 4, 2), (57, .aload_n 1, 1), (58, .getfield 69, 3), (61, .iload_n 3, 1), (62, .iaload, 1), (63, .isub, 1), (64, .invokevirtual 45, 3), (67, .istore 6, 2), (69, .iload 6, 2), (71, .bipush 6, 2), (73, .if_icmp .ge 20, 3), (76, .aload_n 0, 1), (77, .getfield 18, 3), (80, .iload 4, 2), (82, .bipush 6, 2), (84, .imul, 1), (85, .iload 6, 2), (87, .iadd, 1), (88, .dup2, 1), (89, .iaload, 1), (90, .iconst 1, 1), (91, .iadd, 1), (92, .iastore, 1), (93, .iinc 5 1, 3), (96, .goto (-56), 3), (99, .iinc 4 1, 3), (102, .goto (-72), 3), (105, .return_, 1)]
theorem zd_X1_tallyDates : zq_ckC cX1_tallyDates zc_X1_tallyDates = true := by decide +kernel
theorem zp_X1_tallyDates : zq_pn yX1_tallyDates 3 = true := by decide +kernel
set_option maxRecDepth 1000000 in
theorem zn_X1_tallyDates : Cond.instanceMethod yX1_tallyDates ∈ zt := zw_t5 (i := 12) rfl rfl
theorem ze_X1_tallyDates : Cond.selects RX1 yX1_tallyDates yX1_tallyDates ∈ zt := zq_hw_ok (i := 30) (by decide +kernel)
set_option maxRecDepth 1000000 in
theorem zk_X1_differenceBy : Cond.code yX1_differenceBy cX1_differenceBy 8 (some .int) ∈ zt := zw_t5 (i := 17) rfl rfl
noncomputable def zc_X1_differenceBy : zq_Cd := [(0, .iconst 0, 1), (1, .istore_n 3, 1), (2, .sipush 168, 3), (5, .istore 4, 2), (7, .iconst 0, 1), (8, .istore 5, 2), (10, .iload 5, 2), (12, .iload_n 2, 1), (13, .if_icmp .ge 64, 3), (16, .iconst 0, 1), (17, .istore 6, 2), (19, .iload_n 1, 1), (20, .istore 7, 2), (22, .iload 7, 2), (24, .iload_n 1, 1), (25, .bipush 28, 2), (27, .iadd, 1), (28, .if_icmp .ge 27, 3), (31, .iload 6, 2), (33, .aload_n 0, 1), (34, .getfield 18, 3), (37, .iload 7, 2), (39, .bipush 6, 2), (41, .imul, 1), (42, .iload 5, 2), (44, .iadd, 1), (45, .iaload, 1), (46, .iadd, 1), (47, .istore 6, 2), (49, .iinc 7 1, 3), (52, .goto (-30), 3), (55, .iload_n 3, 1), (56, .iload 6, 2), (58, .invokestatic 82, 3), (61, .istore_n 3, 1), (62, .iload 4, 2), (64, .iload 6, 2), (66, .invokestatic 95, 3), (69, .istore 4, 2), (71, .iinc 5 1, 3), (74, .goto (-64), 3), (77, .iload_n 3, 1), (78, .iload 4, 2), (80, .isub, 1), (81, .ireturn, 1)]
theorem zd_X1_differenceBy : zq_ckC cX1_differenceBy zc_X1_differenceBy = true := by decide +kernel
theorem zp_X1_differenceBy : zq_pn yX1_differenceBy 2 = true := by decide +kernel
set_option maxRecDepth 1000000 in
theorem zn_X1_differenceBy : Cond.instanceMethod yX1_differenceBy ∈ zt := zw_t5 (i := 16) rfl rfl
theorem ze_X1_differenceBy : Cond.selects RX1 yX1_differenceBy yX1_differenceBy ∈ zt := zq_hw_ok (i := 31) (by decide +kernel)
set_option maxRecDepth 1000000 in
theorem zk_X1_fairestClock : Cond.code yX1_fairestClock cX1_fairestClock 7 (some .int) ∈ zt := zw_t5 (i := 9) rfl rfl
noncomputable def zc_X1_fairestClock : zq_Cd := [(0, .aload_n 0, 1), (1, .aload_n 1, 1), (2, .iload_n 2, 1), (3, .iload_n 3, 1), (4, .invokevirtual 88, 3), (7, .iconst (-1), 1), (8, .istore 4, 2), (10, .aload_n 0, 1), (11, .sipush 169, 3), (14, .putfield 76, 3), (17, .iconst 0, 1), (18, .istore 5, 2), (20, .iload 5, 2), (22, .bipush 7, 2), (24, .if_icmp .ge 40, 3), (27, .aload_n 0, 1), (28, .iload 5, 2), (30, .aload_n 1, 1), (31, .getfield 56, 3), (34, .invokevirtual 92, 3), (37, .istore 6, 2), (39, .iload 6, 2), (41, .aload_n 0, 1), (42, .getfield 76, 3), (45, .if_icmp .ge 13, 3), (48, .aload_n 0, 1), (49, .iload 6, 2), (51, .putfield 76, 3), (54, .iload 5, 2), (56, .istore 4, 2), (58, .iinc 5 1, 3), (61, .goto (-41), 3), (64, .iload 4, 2), (66, .ireturn, 1)]
theorem zd_X1_fairestClock : zq_ckC cX1_fairestClock zc_X1_fairestClock = true := by decide +kernel
theorem zp_X1_fairestClock : zq_pn yX1_fairestClock 3 = true := by decide +kernel
set_option maxRecDepth 1000000 in
theorem zn_X1_fairestClock : Cond.instanceMethod yX1_fairestClock ∈ zt := zw_t5 (i := 7) rfl rfl
set_option maxRecDepth 1000000 in
theorem ze_X1_fairestClock : Cond.selects RX1 yX1_fairestClock yX1_fairestClock ∈ zt := zw_t5 (i := 8) rfl rfl
set_option maxRecDepth 1000000 in
theorem zk_X11_fair : Cond.code yX11_fair cX11_fair 5 (some .int) ∈ zt := zw_t5 (i := 5) rfl rfl
noncomputable def zc_X11_fair : zq_Cd := [(0, .aload_n 0, 1), (1, .getfield 70, 3), (4, .iload_n 1, 1), (5, .invokevirtual 146, 3), (8, .ifCond .eq 29, 3), (11, .iload_n 2, 1), (12, .invokestatic 155, 3), (15, .ifCond .eq 22, 3), (18, .iload_n 3, 1), (19, .iconst 0, 1), (20, .iconst 1, 1), (21, .invokestatic 99, 3), (24, .ifCond .eq 13, 3), (27, .aload_n 0, 1), (28, .getfield 70, 3), (31, .getfield 107, 3), (34, .ifCond .ne 5, 3), (37, .iconst (-1), 1), (38, .ireturn, 1), (39, .aload_n 0, 1), (40, .getfield 47, 3), (43, .aload_n 0, 1), (44, .getfield 70, 3), (47, .iload_n 1, 1), (48, .iload_n 2, 1), (49, .invokevirtual 297, 3), (52, .istore 4, 2), (54, .iload_n 3, 1), (55, .ifCond .ne 8, 3), (58, .iload 4, 2), (60, .goto 10, 3), (63, .aload_n 0, 1), (64, .getfield 47, 3), (67, .getfield 294, 3), (70, .ireturn, 1)]
theorem zd_X11_fair : zq_ckC cX11_fair zc_X11_fair = true := by decide +kernel
theorem zp_X11_fair : zq_pn yX11_fair 3 = true := by decide +kernel
set_option maxRecDepth 1000000 in
theorem zn_X11_fair : Cond.instanceMethod yX11_fair ∈ zt := zw_t5 (i := 3) rfl rfl
set_option maxRecDepth 1000000 in
theorem ze_X11_fair : Cond.selects RX11 yX11_fair yX11_fair ∈ zt := zw_t5 (i := 4) rfl rfl
set_option maxRecDepth 1000000 in
theorem zk_X7_beSure : Cond.code yX7_beSure cX7_beSure 2 none ∈ zt := zw_t5 (i := 32) rfl rfl
noncomputable def zc_X7_beSure : zq_Cd := [(0, .iconst 0, 1), (1, .istore_n 1, 1), (2, .iload_n 1, 1), (3, .bipush 10, 2), (5, .if_icmp .ge 16, 3), (8, .aload_n 0, 1), (9, .getfield 21, 3), (12, .iload_n 1, 1), (13, .lconst 0, 1), (14, .lastore, 1), (15, .iinc 1 1, 3), (18, .goto (-16), 3), (21, .aload_n 0, 1), (22, .getfield 21, 3), (25, .bipush 9, 2), (27, .lconst 1, 1), (28, .lastore, 1), (29, .return_, 1)]
theorem zd_X7_beSure : zq_ckC cX7_beSure zc_X7_beSure = true := by decide +kernel
theorem zp_X7_beSure : zq_pn yX7_beSure 0 = true := by decide +kernel
set_option maxRecDepth 1000000 in
theorem zn_X7_beSure : Cond.instanceMethod yX7_beSure ∈ zt := zw_t5 (i := 31) rfl rfl
theorem ze_X7_beSure : Cond.selects RX7 yX7_beSure yX7_beSure ∈ zt := zq_hw_ok (i := 32) (by decide +kernel)
set_option maxRecDepth 1000000 in
theorem zk_X7_cut : Cond.code yX7_cut cX7_cut 1 (some .long) ∈ zt := zw_t5 (i := 40) rfl rfl
noncomputable def zc_X7_cut : zq_Cd := [(0, .aload_n 0, 1), (1, .getfield 21, 3), (4, .bipush 9, 2), (6, .laload, 1), (7, .ldc2_w 40, 3), (10, .lmul, 1), (11, .aload_n 0, 1), (12, .getfield 21, 3), (15, .bipush 8, 2), (17, .laload, 1), (18, .ladd, 1), (19, .lreturn, 1)]
theorem zd_X7_cut : zq_ckC cX7_cut zc_X7_cut = true := by decide +kernel
theorem zp_X7_cut : zq_pn yX7_cut 0 = true := by decide +kernel
set_option maxRecDepth 1000000 in
theorem zn_X7_cut : Cond.instanceMethod yX7_cut ∈ zt := zw_t5 (i := 39) rfl rfl
theorem ze_X7_cut : Cond.selects RX7 yX7_cut yX7_cut ∈ zt := zq_hw_ok (i := 34) (by decide +kernel)
set_option maxRecDepth 1000000 in
theorem zk_X7_scale : Cond.code yX7_scale cX7_scale 10 none ∈ zt := zw_t5 (i := 36) rfl rfl
noncomputable def zc_X7_scale : zq_Cd := [(0, .lconst 0, 1), (1, .lstore_n 3, 1), (2, .iconst 0, 1), (3, .istore 5, 2), (5, .iload 5, 2), (7, .bipush 10, 2), (9, .if_icmp .ge 43, 3), (12, .aload_n 0, 1), (13, .getfield 21, 3), (16, .iload 5, 2), (18, .laload, 1), (19, .iload_n 1, 1), (20, .i2l, 1), (21, .lmul, 1), (22, .lload_n 3, 1), (23, .ladd, 1), (24, .lstore 6, 2), (26, .aload_n 0, 1), (27, .getfield 21, 3), (30, .iload 5, 2), (32, .lload 6, 2), (34, .ldc2_w 40, 3), (37, .lrem, 1), (38, .lastore, 1), (39, .lload 6, 2), (41, .ldc2_w 40, 3), (44, .ldiv, 1), (45, .lstore_n 3, 1), (46, .iinc 5 1, 3), (49, .goto (-44), 3), (52, .lload_n 3, 1), (53, .lstore 5, 2), (55, .bipush 9, 2), (57, .istore 7, 2), (59, .iload 7, 2), (61, .ifCond .lt 48, 3), (64, .iload_n 2, 1), (65, .ifCond .le 44, 3), (68, .lload 5, 2), (70, .ldc2_w 40, 3), (73, .lmul, 1), (74, .aload_n 0, 1), (75, .getfield 21, 3), (78, .iload 7, 2), (80, .laload, 1), (81, .ladd, 1), (82, .lstore 8, 2), (84, .aload_n 0, 1), (85, .getfield 21, 3), (88, .iload 7, 2), (90, .lload 8, 2), (92, .iload_n 2, 1), (93, .i2l, 1), (94, .ldiv, 1), (95, .lastore, 1), (96, .lload 8, 2), (98, .iload_n 2, 1), (99, .i2l, 1), (100, .lrem, 1), (101, .lstore 5, 2), (103, .iinc 7 (-1), 3), (106, .goto (-47), 3), (109, .return_, 1)]
theorem zd_X7_scale : zq_ckC cX7_scale zc_X7_scale = true := by decide +kernel
theorem zp_X7_scale : zq_pn yX7_scale 2 = true := by decide +kernel
set_option maxRecDepth 1000000 in
theorem zn_X7_scale : Cond.instanceMethod yX7_scale ∈ zt := zw_t5 (i := 35) rfl rfl
theorem ze_X7_scale : Cond.selects RX7 yX7_scale yX7_scale ∈ zt := zq_hw_ok (i := 33) (by decide +kernel)
set_option maxRecDepth 1000000 in
theorem zk_X7_chanceOfFewer : Cond.code yX7_chanceOfFewer cX7_chanceOfFewer 8 (some .long) ∈ zt := zw_t5 (i := 27) rfl rfl
noncomputable def zc_X7_chanceOfFewer : zq_Cd := [(0, .bipush 10, 2), (2, .iload_n 3, 1), (3, .isub, 1), (4, .istore 4, 2), (6, .iload 4, 2), (8, .ifCond .ne 16, 3), (11, .iload_n 2, 1), (12, .iload_n 1, 1), (13, .if_icmp .ge 9, 3), (16, .ldc2_w 40, 3), (19, .goto 4, 3), (22, .lconst 0, 1), (23, .lreturn, 1), (24, .aload_n 0, 1), (25, .invokevirtual 42, 3), (28, .iconst 0, 1), (29, .istore 5, 2), (31, .iload 5, 2), (33, .iload_n 2, 1), (34, .if_icmp .ge 17, 3), (37, .aload_n 0, 1), (38, .iload 4, 2), (40, .bipush 10, 2), (42, .invokevirtual 45, 3), (45, .iinc 5 1, 3), (48, .goto (-17), 3), (51, .aload_n 0, 1), (52, .invokevirtual 49, 3), (55, .lstore 5, 2), (57, .iconst 1, 1), (58, .istore 7, 2), (60, .iload 7, 2), (62, .iload_n 1, 1), (63, .if_icmp .ge 41, 3), (66, .iload 7, 2), (68, .iload_n 2, 1), (69, .if_icmp .gt 35, 3), (72, .aload_n 0, 1), (73, .iload_n 2, 1), (74, .iload 7, 2), (76, .isub, 1), (77, .iconst 1, 1), (78, .iadd, 1), (79, .iload_n 3, 1), (80, .imul, 1), (81, .iload 7, 2), (83, .iload 4, 2), (85, .imul, 1), (86, .invokevirtual 45, 3), (89, .lload 5, 2), (91, .aload_n 0, 1), (92, .invokevirtual 49, 3), (95, .ladd, 1), (96, .lstore 5, 2), (98, .iinc 7 1, 3), (101, .goto (-41), 3), (104, .lload 5, 2), (106, .lreturn, 1)]
theorem zd_X7_chanceOfFewer : zq_ckC cX7_chanceOfFewer zc_X7_chanceOfFewer = true := by decide +kernel
theorem zp_X7_chanceOfFewer : zq_pn yX7_chanceOfFewer 3 = true := by decide +kernel
set_option maxRecDepth 1000000 in
theorem zn_X7_chanceOfFewer : Cond.instanceMethod yX7_chanceOfFewer ∈ zt := zw_t5 (i := 25) rfl rfl
set_option maxRecDepth 1000000 in
theorem ze_X7_chanceOfFewer : Cond.selects RX7 yX7_chanceOfFewer yX7_chanceOfFewer ∈ zt := zw_t5 (i := 26) rfl rfl
set_option maxRecDepth 1000000 in
theorem zk_X11_few : Cond.code yX11_few cX11_few 3 (some .long) ∈ zt := zw_t5 (i := 22) rfl rfl
noncomputable def zc_X11_few : zq_Cd := [(0, .iload_n 1, 1), (1, .iconst 1, 1), (2, .bipush 20, 2), (4, .invokestatic 99, 3), (7, .ifCond .eq 13, 3), (10, .iload_n 2, 1), (11, .iconst 0, 1), (12, .bipush 99, 2), (14, .invokestatic 99, 3), (17, .ifCond .ne 7, 3), (20, .ldc2_w 300, 3), (23, .lreturn, 1), (24, .aload_n 0, 1), (25, .getfield 63, 3), (28, .iload_n 1, 1), (29, .iload_n 2, 1), (30, .aload_n 0, 1), (31, .getfield 70, 3), (34, .getfield 184, 3), (37, .iconst 1, 1), (38, .iaload, 1), (39, .invokevirtual 302, 3), (42, .lreturn, 1)]
theorem zd_X11_few : zq_ckC cX11_few zc_X11_few = true := by decide +kernel
theorem zp_X11_few : zq_pn yX11_few 2 = true := by decide +kernel
set_option maxRecDepth 1000000 in
theorem zn_X11_few : Cond.instanceMethod yX11_few ∈ zt := zw_t5 (i := 20) rfl rfl
set_option maxRecDepth 1000000 in
theorem ze_X11_few : Cond.selects RX11 yX11_few yX11_few ∈ zt := zw_t5 (i := 21) rfl rfl
set_option maxRecDepth 1000000 in
theorem zk_X1_daysOfNobody : Cond.code yX1_daysOfNobody cX1_daysOfNobody 9 (some .int) ∈ zt := zw_t5 (i := 48) rfl rfl
noncomputable def zc_X1_daysOfNobody : zq_Cd := [(0, .aload_n 1, 1), (1, .iload_n 2, 1), (2, .invokevirtual 31, 3), (5, .astore 6, 2), (7, .iconst 0, 1), (8, .istore 7, 2), (10, .iconst 0, 1), (11, .istore 8, 2), (13, .iload 8, 2), (15, .bipush 60, 2), (17, .if_icmp .ge 41, 3), (20, .aload_n 0, 1), (21, .getfield 21, 3), (24, .aload_n 1, 1), (25, .aload 6, 2), (27, .iload_n 3, 1), (28, .iload 4, 2), (30, .iload 5, 2), (32, .aload_n 1, 1), (33, .iload 5, 2), (35, .invokevirtual 35, 3), (38, .iload 8, 2), (40, .iadd, 1), (41, .invokevirtual 39, 3), (44, .bipush 6, 2), (46, .if_icmp .ne 6, 3), (49, .iinc 7 1, 3), (52, .iinc 8 1, 3), (55, .goto (-42), 3), (58, .iload 7, 2), (60, .ireturn, 1)]
theorem zd_X1_daysOfNobody : zq_ckC cX1_daysOfNobody zc_X1_daysOfNobody = true := by decide +kernel
theorem zp_X1_daysOfNobody : zq_pn yX1_daysOfNobody 5 = true := by decide +kernel
set_option maxRecDepth 1000000 in
theorem zn_X1_daysOfNobody : Cond.instanceMethod yX1_daysOfNobody ∈ zt := zw_t5 (i := 46) rfl rfl
set_option maxRecDepth 1000000 in
theorem ze_X1_daysOfNobody : Cond.selects RX1 yX1_daysOfNobody yX1_daysOfNobody ∈ zt := zw_t5 (i := 47) rfl rfl
set_option maxRecDepth 1000000 in
theorem zk_X11_compare : Cond.code yX11_compare cX11_compare 5 (some .int) ∈ zt := zw_t5 (i := 44) rfl rfl
noncomputable def zc_X11_compare : zq_Cd := [(0, .iload_n 1, 1), (1, .iconst (-1), 1), (2, .if_icmp .eq 14, 3), (5, .aload_n 0, 1), (6, .getfield 70, 3), (9, .iload_n 1, 1), (10, .invokevirtual 230, 3), (13, .ifCond .eq 14, 3), (16, .aload_n 0, 1), (17, .iload_n 2, 1), (18, .iload_n 3, 1), (19, .iload 4, 2), (21, .invokevirtual 167, 3), (24, .ifCond .ne 5, 3), (27, .iconst (-1), 1), (28, .ireturn, 1), (29, .aload_n 0, 1), (30, .getfield 47, 3), (33, .aload_n 0, 1), (34, .getfield 70, 3), (37, .iload_n 1, 1), (38, .iload_n 2, 1), (39, .iload_n 3, 1), (40, .iload 4, 2), (42, .invokevirtual 306, 3), (45, .ireturn, 1)]
theorem zd_X11_compare : zq_ckC cX11_compare zc_X11_compare = true := by decide +kernel
theorem zp_X11_compare : zq_pn yX11_compare 4 = true := by decide +kernel
set_option maxRecDepth 1000000 in
theorem zn_X11_compare : Cond.instanceMethod yX11_compare ∈ zt := zw_t5 (i := 42) rfl rfl
set_option maxRecDepth 1000000 in
theorem ze_X11_compare : Cond.selects RX11 yX11_compare yX11_compare ∈ zt := zw_t5 (i := 43) rfl rfl
set_option maxRecDepth 1000000 in
theorem zk_X11_stopped : Cond.code yX11_stopped cX11_stopped 1 (some .int) ∈ zt := zw_t4 (i := 85) rfl rfl
noncomputable def zc_X11_stopped : zq_Cd := [(0, .aload_n 0, 1), (1, .getfield 96, 3), (4, .ireturn, 1)]
theorem zd_X11_stopped : zq_ckC cX11_stopped zc_X11_stopped = true := by decide +kernel
theorem zp_X11_stopped : zq_pn yX11_stopped 0 = true := by decide +kernel
set_option maxRecDepth 1000000 in
theorem zn_X11_stopped : Cond.instanceMethod yX11_stopped ∈ zt := zw_t4 (i := 83) rfl rfl
set_option maxRecDepth 1000000 in
theorem ze_X11_stopped : Cond.selects RX11 yX11_stopped yX11_stopped ∈ zt := zw_t4 (i := 84) rfl rfl
set_option maxRecDepth 1000000 in
theorem zk_X5_readTimes : Cond.code yX5_readTimes cX5_readTimes 2 (some .boolean) ∈ zt := zw_t3 (i := 213) rfl rfl
noncomputable def zc_X5_readTimes : zq_Cd := [(0, .aload_n 0, 1), (1, .bipush 24, 2), (3, .invokevirtual 61, 3), (6, .ifCond .ne 5, 3), (9, .iconst 1, 1), (10, .ireturn, 1), (11, .aload_n 0, 1), (12, .iconst 1, 1), (13, .bipush 20, 2), (15, .invokevirtual 90, 3), (18, .ifCond .ne 5, 3), (21, .iconst 0, 1), (22, .ireturn, 1), (23, .aload_n 0, 1), (24, .getfield 14, 3), (27, .getfield 93, 3), (30, .iload_n 1, 1), (31, .aload_n 0, 1), (32, .getfield 20, 3), (35, .getfield 96, 3), (38, .aload_n 0, 1), (39, .getfield 32, 3), (42, .iaload, 1), (43, .iastore, 1), (44, .aload_n 0, 1), (45, .dup, 1), (46, .getfield 32, 3), (49, .iconst 1, 1), (50, .iadd, 1), (51, .putfield 32, 3), (54, .iconst 1, 1), (55, .ireturn, 1)]
theorem zd_X5_readTimes : zq_ckC cX5_readTimes zc_X5_readTimes = true := by decide +kernel
theorem zp_X5_readTimes : zq_pn yX5_readTimes 1 = true := by decide +kernel
set_option maxRecDepth 1000000 in
theorem zn_X5_readTimes : Cond.instanceMethod yX5_readTimes ∈ zt := zw_t3 (i := 212) rfl rfl
theorem ze_X5_readTimes : Cond.selects RX5 yX5_readTimes yX5_readTimes ∈ zt := zq_hw_ok (i := 15) (by decide +kernel)
set_option maxRecDepth 1000000 in
theorem zk_X5_readOrder : Cond.code yX5_readOrder cX5_readOrder 3 (some .boolean) ∈ zt := zw_t3 (i := 172) rfl rfl
noncomputable def zc_X5_readOrder : zq_Cd := [(0, .aload_n 0, 1), (1, .getfield 14, 3), (4, .getfield 80, 3), (7, .iload_n 1, 1), (8, .aload_n 0, 1), (9, .getfield 20, 3), (12, .getfield 77, 3), (15, .aload_n 0, 1), (16, .getfield 32, 3), (19, .iaload, 1), (20, .iastore, 1), (21, .aload_n 0, 1), (22, .bipush 17, 2), (24, .invokevirtual 61, 3), (27, .ifCond .eq 57, 3), (30, .aload_n 0, 1), (31, .iload_n 1, 1), (32, .iconst 0, 1), (33, .invokevirtual 83, 3), (36, .ifCond .eq 43, 3), (39, .aload_n 0, 1), (40, .bipush 21, 2), (42, .invokevirtual 61, 3), (45, .ifCond .eq 34, 3), (48, .aload_n 0, 1), (49, .iload_n 1, 1), (50, .iconst 1, 1), (51, .invokevirtual 83, 3), (54, .ifCond .eq 25, 3), (57, .aload_n 0, 1), (58, .bipush 23, 2), (60, .invokevirtual 61, 3), (63, .ifCond .eq 16, 3), (66, .aload_n 0, 1), (67, .iload_n 1, 1), (68, .iconst 2, 1), (69, .invokevirtual 83, 3), (72, .ifCond .eq 7, 3), (75, .iconst 1, 1), (76, .goto 4, 3), (79, .iconst 0, 1), (80, .istore_n 2, 1), (81, .goto 74, 3), (84, .aload_n 0, 1), (85, .bipush 18, 2), (87, .invokevirtual 61, 3), (90, .ifCond .eq 39, 3), (93, .aload_n 0, 1), (94, .iload_n 1, 1), (95, .iconst 0, 1), (96, .invokevirtual 83, 3), (99, .ifCond .eq 25, 3), (102, .aload_n 0, 1), (103, .bipush 22, 2), (105, .invokevirtual 61, 3), (108, .ifCond .eq 16, 3), (111, .aload_n 0, 1), (112, .iload_n 1, 1), (113, .iconst 1, 1), (114, .invokevirtual 83, 3), (117, .ifCond .eq 7, 3), (120, .iconst 1, 1), (121, .goto 4, 3), (124, .iconst 0, 1), (125, .istore_n 2, 1), (126, .goto 29, 3), (129, .aload_n 0, 1), (130, .bipush 19, 2), (132, .invokevirtual 61, 3), (135, .ifCond .eq 13, 3), (138, .aload_n 0, 1), (139, .iload_n 1, 1), (140, .iconst 0, 1), (141, .invokevirtual 83, 3), (144, .istore_n 2, 1), (145, .goto 10, 3), (148, .aload_n 0, 1), (149, .bipush 20, 2), (151, .invokevirtual 61, 3), (154, .istore_n 2, 1), (155, .iload_n 2, 1), (156, .ifCond .eq 15, 3), (159, .aload_n 0, 1), (160, .iload_n 1, 1), (161, .invokevirtual 87, 3), (164, .ifCond .eq 7, 3), (167, .iconst 1, 1), (168, .goto 4, 3), (171, .iconst 0, 1), (172, .ireturn, 1)]
theorem zd_X5_readOrder : zq_ckC cX5_readOrder zc_X5_readOrder = true := by decide +kernel
theorem zp_X5_readOrder : zq_pn yX5_readOrder 1 = true := by decide +kernel
set_option maxRecDepth 1000000 in
theorem zn_X5_readOrder : Cond.instanceMethod yX5_readOrder ∈ zt := zw_t3 (i := 171) rfl rfl
theorem ze_X5_readOrder : Cond.selects RX5 yX5_readOrder yX5_readOrder ∈ zt := zq_hw_ok (i := 7) (by decide +kernel)
set_option maxRecDepth 1000000 in
theorem zk_X4_peopleEven : Cond.code yX4_peopleEven cX4_peopleEven 3 (some .int) ∈ zt := zw_t4 (i := 34) rfl rfl
noncomputable def zc_X4_peopleEven : zq_Cd := [(0, .iconst 0, 1), (1, .istore_n 1, 1), (2, .iconst 0, 1), (3, .istore_n 2, 1), (4, .iload_n 2, 1), (5, .aload_n 0, 1), (6, .getfield 63, 3), (9, .if_icmp .ge 21, 3), (12, .aload_n 0, 1), (13, .getfield 15, 3), (16, .iload_n 2, 1), (17, .iaload, 1), (18, .ifCond .ne 6, 3), (21, .iinc 1 1, 3), (24, .iinc 2 1, 3), (27, .goto (-23), 3), (30, .iload_n 1, 1), (31, .ireturn, 1)]
theorem zd_X4_peopleEven : zq_ckC cX4_peopleEven zc_X4_peopleEven = true := by decide +kernel
theorem zp_X4_peopleEven : zq_pn yX4_peopleEven 0 = true := by decide +kernel
set_option maxRecDepth 1000000 in
theorem zn_X4_peopleEven : Cond.instanceMethod yX4_peopleEven ∈ zt := zw_t4 (i := 32) rfl rfl
set_option maxRecDepth 1000000 in
theorem ze_X4_peopleEven : Cond.selects RX4 yX4_peopleEven yX4_peopleEven ∈ zt := zw_t4 (i := 33) rfl rfl
set_option maxRecDepth 1000000 in
theorem zk_X0_setWords : Cond.code yX0_setWords cX0_setWords 4 none ∈ zt := zw_t4 (i := 30) rfl rfl
noncomputable def zc_X0_setWords : zq_Cd := [(0, .aload_n 0, 1), (1, .getfield 15, 3), (4, .getfield 160, 3), (7, .astore_n 2, 1), (8, .aload_n 2, 1), (9, .bipush 8, 2), (11, .aload_n 1, 1), (12, .getfield 83, 3), (15, .iconst 0, 1), (16, .iaload, 1), (17, .iastore, 1), (18, .aload_n 2, 1), (19, .bipush 9, 2), (21, .aload_n 0, 1), (22, .getfield 104, 3), (25, .iastore, 1), (26, .aload_n 2, 1), (27, .bipush 10, 2), (29, .aload_n 0, 1), (30, .getfield 107, 3), (33, .iastore, 1), (34, .aload_n 2, 1), (35, .bipush 11, 2), (37, .aload_n 1, 1), (38, .invokevirtual 163, 3), (41, .iastore, 1), (42, .iconst 0, 1), (43, .istore_n 3, 1), (44, .iload_n 3, 1), (45, .bipush 6, 2), (47, .if_icmp .ge 33, 3), (50, .aload_n 2, 1), (51, .bipush 12, 2), (53, .iload_n 3, 1), (54, .iadd, 1), (55, .aload_n 1, 1), (56, .iload_n 3, 1), (57, .invokevirtual 32, 3), (60, .ifCond .eq 12, 3), (63, .aload_n 1, 1), (64, .getfield 77, 3), (67, .iload_n 3, 1), (68, .iaload, 1), (69, .goto 4, 3), (72, .iconst (-1), 1), (73, .iastore, 1), (74, .iinc 3 1, 3), (77, .goto (-33), 3), (80, .iconst 0, 1), (81, .istore_n 3, 1), (82, .iload_n 3, 1), (83, .iconst 4, 1), (84, .if_icmp .ge 21, 3), (87, .aload_n 2, 1), (88, .bipush 18, 2), (90, .iload_n 3, 1), (91, .iadd, 1), (92, .aload_n 1, 1), (93, .getfield 80, 3), (96, .iload_n 3, 1), (97, .iaload, 1), (98, .iastore, 1), (99, .iinc 3 1, 3), (102, .goto (-20), 3), (105, .return_, 1)]
theorem zd_X0_setWords : zq_ckC cX0_setWords zc_X0_setWords = true := by decide +kernel
theorem zp_X0_setWords : zq_pn yX0_setWords 1 = true := by decide +kernel
set_option maxRecDepth 1000000 in
theorem zn_X0_setWords : Cond.instanceMethod yX0_setWords ∈ zt := zw_t4 (i := 29) rfl rfl
theorem ze_X0_setWords : Cond.selects RX0 yX0_setWords yX0_setWords ∈ zt := zq_hw_ok (i := 20) (by decide +kernel)
set_option maxRecDepth 1000000 in
theorem zk_X0_runOnce : Cond.code yX0_runOnce cX0_runOnce 6 (some .boolean) ∈ zt := List.mem_filter.mpr ⟨List.mem_of_getElem? (i := 853) (Eq.refl (some (Cond.code yX0_runOnce cX0_runOnce 6 (some .boolean)))), Eq.refl true⟩
noncomputable def zc_X0_runOnce : zq_Cd := [(0, .aload_n 0, 1), (1, .aload_n 1, 1), (2, .invokevirtual 122, 3), (5, .aload_n 0, 1), (6, .getfield 15, 3), (9, .aload_n 2, 1), (10, .iload_n 3, 1), (11, .invokevirtual 126, 3), (14, .ifCond .ne 5, 3), (17, .iconst 1, 1), (18, .ireturn, 1), (19, .iconst 0, 1), (20, .istore 4, 2), (22, .iload 4, 2), (24, .aload_n 0, 1), (25, .getfield 9, 3), (28, .arraylength, 1), (29, .if_icmp .ge 63, 3), (32, .aload_n 2, 1), (33, .iload_n 3, 1), (34, .iload 4, 2), (36, .invokevirtual 132, 3), (39, .istore 5, 2), (41, .aload_n 0, 1), (42, .getfield 9, 3), (45, .iload 4, 2), (47, .iload 5, 2), (49, .iconst (-1), 1), (50, .if_icmp .ne 7, 3), (53, .iconst (-1), 1), (54, .goto 13, 3), (57, .aload_n 0, 1), (58, .getfield 15, 3), (61, .aload_n 2, 1), (62, .iload 5, 2), (64, .invokevirtual 136, 3), (67, .iastore, 1), (68, .iload 5, 2), (70, .iconst (-1), 1), (71, .if_icmp .eq 15, 3), (74, .aload_n 0, 1), (75, .getfield 15, 3), (78, .getfield 140, 3), (81, .ifCond .eq 5, 3), (84, .iconst 0, 1), (85, .ireturn, 1), (86, .iinc 4 1, 3), (89, .goto (-67), 3), (92, .aload_n 2, 1), (93, .getfield 144, 3), (96, .iload_n 3, 1), (97, .iaload, 1), (98, .istore 5, 2), (100, .iload 5, 2), (102, .bipush 17, 2), (104, .if_icmp .ne 37, 3), (107, .aload_n 0, 1), (108, .aload_n 1, 1), (109, .aload_n 0, 1), (110, .getfield 9, 3), (113, .iconst 0, 1), (114, .iaload, 1), (115, .aload_n 0, 1), (116, .getfield 9, 3), (119, .iconst 1, 1), (120, .iaload, 1), (121, .aload_n 0, 1), (122, .getfield 9, 3), (125, .iconst 2, 1), (126, .iaload, 1), (127, .invokevirtual 145, 3), (130, .istore 4, 2), (132, .aload_n 0, 1), (133, .iload 4, 2), (135, .putfield 107, 3), (138, .goto 95, 3), (141, .iload 5, 2), (143, .bipush 18, 2), (145, .if_icmp .ne 26, 3), (148, .aload_n 0, 1), (149, .aload_n 1, 1), (150, .aload_n 0, 1), (151, .getfield 9, 3), (154, .iconst 0, 1), (155, .iaload, 1), (156, .aload_n 0, 1), (157, .getfield 9, 3), (160, .iconst 1, 1), (161, .iaload, 1), (162, .iconst 1, 1), (163, .invokevirtual 149, 3), (166, .istore 4, 2), (168, .goto 65, 3), (171, .iload 5, 2), (173, .bipush 19, 2), (175, .if_icmp .ne 51, 3), (178, .aload_n 0, 1), (179, .getfield 9, 3), (182, .iconst 0, 1), (183, .iaload, 1), (184, .invokestatic 23, 3), (187, .ifCond .eq 33, 3), (190, .aload_n 0, 1), (191, .aload_n 1, 1), (192, .aload_n 0, 1), (193, .getfield 9, 3), (196, .iconst 0, 1), (197, .iaload, 1), (198, .aload_n 1, 1), (199, .getfield 80, 3), (202, .aload_n 0, 1), (203, .getfield 9, 3), (206, .iconst 0, 1), (207, .iaload, 1), (208, .iaload, 1), (209, .iconst 1, 1), (210, .iadd, 1), (211, .bipush 7, 2), (213, .irem, 1), (214, .invokevirtual 152, 3), (217, .goto 4, 3), (220, .iconst (-1), 1), (221, .istore 4, 2), (223, .goto 10, 3), (226, .aload_n 0, 1), (227, .aload_n 1, 1), (228, .invokevirtual 156, 3), (231, .istore 4, 2), (233, .aload_n 0, 1), (234, .dup, 1), (235, .getfield 104, 3), (238, .iconst 1, 1), (239, .iadd, 1), (240, .putfield 104, 3), (243, .iload 4, 2), (245, .ifCond .lt 7, 3), (248, .iconst 1, 1), (249, .goto 4, 3), (252, .iconst 0, 1), (253, .ireturn, 1)]
noncomputable def zc_X0_runOnce_0 : zq_Cd := [(0, .aload_n 0, 1), (1, .aload_n 1, 1), (2, .invokevirtual 122, 3), (5, .aload_n 0, 1), (6, .getfield 15, 3), (9, .aload_n 2, 1), (10, .iload_n 3, 1), (11, .invokevirtual 126, 3), (14, .ifCond .ne 5, 3), (17, .iconst 1, 1), (18, .ireturn, 1), (19, .iconst 0, 1), (20, .istore 4, 2), (22, .iload 4, 2), (24, .aload_n 0, 1), (25, .getfield 9, 3), (28, .arraylength, 1), (29, .if_icmp .ge 63, 3), (32, .aload_n 2, 1), (33, .iload_n 3, 1), (34, .iload 4, 2), (36, .invokevirtual 132, 3), (39, .istore 5, 2), (41, .aload_n 0, 1), (42, .getfield 9, 3), (45, .iload 4, 2), (47, .iload 5, 2), (49, .iconst (-1), 1), (50, .if_icmp .ne 7, 3), (53, .iconst (-1), 1), (54, .goto 13, 3), (57, .aload_n 0, 1), (58, .getfield 15, 3), (61, .aload_n 2, 1), (62, .iload 5, 2), (64, .invokevirtual 136, 3), (67, .iastore, 1), (68, .iload 5, 2), (70, .iconst (-1), 1), (71, .if_icmp .eq 15, 3)]
theorem zd_X0_runOnce_0 : zq_ckC cX0_runOnce zc_X0_runOnce_0 = true := by decide +kernel
noncomputable def zc_X0_runOnce_1 : zq_Cd := [(74, .aload_n 0, 1), (75, .getfield 15, 3), (78, .getfield 140, 3), (81, .ifCond .eq 5, 3), (84, .iconst 0, 1), (85, .ireturn, 1), (86, .iinc 4 1, 3), (89, .goto (-67), 3), (92, .aload_n 2, 1), (93, .getfield 144, 3), (96, .iload_n 3, 1), (97, .iaload, 1), (98, .istore 5, 2), (100, .iload 5, 2), (102, .bipush 17, 2), (104, .if_icmp .ne 37, 3), (107, .aload_n 0, 1), (108, .aload_n 1, 1), (109, .aload_n 0, 1), (110, .getfield 9, 3), (113, .iconst 0, 1), (114, .iaload, 1), (115, .aload_n 0, 1), (116, .getfield 9, 3), (119, .iconst 1, 1), (120, .iaload, 1), (121, .aload_n 0, 1), (122, .getfield 9, 3), (125, .iconst 2, 1), (126, .iaload, 1), (127, .invokevirtual 145, 3), (130, .istore 4, 2), (132, .aload_n 0, 1), (133, .iload 4, 2), (135, .putfield 107, 3), (138, .goto 95, 3), (141, .iload 5, 2), (143, .bipush 18, 2), (145, .if_icmp .ne 26, 3), (148, .aload_n 0, 1)]
theorem zd_X0_runOnce_1 : zq_ckC cX0_runOnce zc_X0_runOnce_1 = true := by decide +kernel
noncomputable def zc_X0_runOnce_2 : zq_Cd := [(149, .aload_n 1, 1), (150, .aload_n 0, 1), (151, .getfield 9, 3), (154, .iconst 0, 1), (155, .iaload, 1), (156, .aload_n 0, 1), (157, .getfield 9, 3), (160, .iconst 1, 1), (161, .iaload, 1), (162, .iconst 1, 1), (163, .invokevirtual 149, 3), (166, .istore 4, 2), (168, .goto 65, 3), (171, .iload 5, 2), (173, .bipush 19, 2), (175, .if_icmp .ne 51, 3), (178, .aload_n 0, 1), (179, .getfield 9, 3), (182, .iconst 0, 1), (183, .iaload, 1), (184, .invokestatic 23, 3), (187, .ifCond .eq 33, 3), (190, .aload_n 0, 1), (191, .aload_n 1, 1), (192, .aload_n 0, 1), (193, .getfield 9, 3), (196, .iconst 0, 1), (197, .iaload, 1), (198, .aload_n 1, 1), (199, .getfield 80, 3), (202, .aload_n 0, 1), (203, .getfield 9, 3), (206, .iconst 0, 1), (207, .iaload, 1), (208, .iaload, 1), (209, .iconst 1, 1), (210, .iadd, 1), (211, .bipush 7, 2), (213, .irem, 1), (214, .invokevirtual 152, 3)]
theorem zd_X0_runOnce_2 : zq_ckC cX0_runOnce zc_X0_runOnce_2 = true := by decide +kernel
noncomputable def zc_X0_runOnce_3 : zq_Cd := [(217, .goto 4, 3), (220, .iconst (-1), 1), (221, .istore 4, 2), (223, .goto 10, 3), (226, .aload_n 0, 1), (227, .aload_n 1, 1), (228, .invokevirtual 156, 3), (231, .istore 4, 2), (233, .aload_n 0, 1), (234, .dup, 1), (235, .getfield 104, 3), (238, .iconst 1, 1), (239, .iadd, 1), (240, .putfield 104, 3), (243, .iload 4, 2), (245, .ifCond .lt 7, 3), (248, .iconst 1, 1), (249, .goto 4, 3), (252, .iconst 0, 1), (253, .ireturn, 1)]
theorem zd_X0_runOnce_3 : zq_ckC cX0_runOnce zc_X0_runOnce_3 = true := by decide +kernel
set_option maxRecDepth 1000000 in
theorem zd_X0_runOnce : zq_ckC cX0_runOnce zc_X0_runOnce = true := show zq_ckC cX0_runOnce (zc_X0_runOnce_0 ++ (zc_X0_runOnce_1 ++ (zc_X0_runOnce_2 ++ (zc_X0_runOnce_3)))) = true from zq_ckC_app zd_X0_runOnce_0 (zq_ckC_app zd_X0_runOnce_1 (zq_ckC_app zd_X0_runOnce_2 (zd_X0_runOnce_3)))
theorem zp_X0_runOnce : zq_pn yX0_runOnce 3 = true := by decide +kernel
set_option maxRecDepth 1000000 in
theorem zn_X0_runOnce : Cond.instanceMethod yX0_runOnce ∈ zt := zw_t4 (i := 25) rfl rfl
theorem ze_X0_runOnce : Cond.selects RX0 yX0_runOnce yX0_runOnce ∈ zt := zq_hw_ok (i := 19) (by decide +kernel)
set_option maxRecDepth 1000000 in
theorem zk_X0_runAll : Cond.code yX0_runAll cX0_runAll 5 (some .int) ∈ zt := zw_t4 (i := 22) rfl rfl
noncomputable def zc_X0_runAll : zq_Cd := [(0, .aload_n 0, 1), (1, .iconst 0, 1), (2, .putfield 104, 3), (5, .aload_n 0, 1), (6, .iconst (-1), 1), (7, .putfield 107, 3), (10, .iconst 0, 1), (11, .istore_n 3, 1), (12, .iload_n 3, 1), (13, .aload_n 2, 1), (14, .getfield 110, 3), (17, .if_icmp .ge 41, 3), (20, .iconst 0, 1), (21, .istore 4, 2), (23, .iload 4, 2), (25, .aload_n 2, 1), (26, .getfield 115, 3), (29, .iload_n 3, 1), (30, .iaload, 1), (31, .if_icmp .ge 21, 3), (34, .aload_n 0, 1), (35, .aload_n 1, 1), (36, .aload_n 2, 1), (37, .iload_n 3, 1), (38, .invokevirtual 118, 3), (41, .ifCond .ne 5, 3), (44, .iload_n 3, 1), (45, .ireturn, 1), (46, .iinc 4 1, 3), (49, .goto (-26), 3), (52, .iinc 3 1, 3), (55, .goto (-43), 3), (58, .iconst (-1), 1), (59, .ireturn, 1)]
theorem zd_X0_runAll : zq_ckC cX0_runAll zc_X0_runAll = true := by decide +kernel
theorem zp_X0_runAll : zq_pn yX0_runAll 2 = true := by decide +kernel
set_option maxRecDepth 1000000 in
theorem zn_X0_runAll : Cond.instanceMethod yX0_runAll ∈ zt := zw_t4 (i := 20) rfl rfl
set_option maxRecDepth 1000000 in
theorem ze_X0_runAll : Cond.selects RX0 yX0_runAll yX0_runAll ∈ zt := zw_t4 (i := 21) rfl rfl
set_option maxRecDepth 1000000 in
theorem zk_X11_orders : Cond.code yX11_orders cX11_orders 1 (some .int) ∈ zt := zw_t4 (i := 8) rfl rfl
noncomputable def zc_X11_orders : zq_Cd := [(0, .aload_n 0, 1), (1, .iconst (-1), 1), (2, .putfield 96, 3), (5, .aload_n 0, 1), (6, .aload_n 0, 1), (7, .getfield 29, 3), (10, .iconst 1, 1), (11, .invokevirtual 201, 3), (14, .putfield 92, 3), (17, .aload_n 0, 1), (18, .getfield 18, 3), (21, .iconst 0, 1), (22, .putfield 187, 3), (25, .aload_n 0, 1), (26, .getfield 92, 3), (29, .iconst (-1), 1), (30, .if_icmp .eq 10, 3), (33, .aload_n 0, 1), (34, .bipush (-6), 2), (36, .invokevirtual 103, 3), (39, .ireturn, 1), (40, .aload_n 0, 1), (41, .getfield 74, 3), (44, .aload_n 0, 1), (45, .getfield 70, 3), (48, .invokevirtual 219, 3), (51, .aload_n 0, 1), (52, .aload_n 0, 1), (53, .getfield 38, 3), (56, .aload_n 0, 1), (57, .getfield 70, 3), (60, .aload_n 0, 1), (61, .getfield 29, 3), (64, .getfield 205, 3), (67, .invokevirtual 223, 3), (70, .putfield 96, 3), (73, .aload_n 0, 1), (74, .getfield 96, 3), (77, .iconst (-1), 1), (78, .if_icmp .eq 21, 3), (81, .aload_n 0, 1), (82, .getfield 70, 3), (85, .aload_n 0, 1), (86, .getfield 74, 3), (89, .invokevirtual 219, 3), (92, .aload_n 0, 1), (93, .bipush (-3), 2), (95, .invokevirtual 103, 3), (98, .ireturn, 1), (99, .aload_n 0, 1), (100, .aload_n 0, 1), (101, .getfield 38, 3), (104, .getfield 227, 3), (107, .invokevirtual 122, 3), (110, .ireturn, 1)]
theorem zd_X11_orders : zq_ckC cX11_orders zc_X11_orders = true := by decide +kernel
theorem zp_X11_orders : zq_pn yX11_orders 0 = true := by decide +kernel
set_option maxRecDepth 1000000 in
theorem zn_X11_orders : Cond.instanceMethod yX11_orders ∈ zt := zw_t4 (i := 6) rfl rfl
set_option maxRecDepth 1000000 in
theorem ze_X11_orders : Cond.selects RX11 yX11_orders yX11_orders ∈ zt := zw_t4 (i := 7) rfl rfl
set_option maxRecDepth 1000000 in
theorem zk_X0_drawOf : Cond.code yX0_drawOf cX0_drawOf 2 (some .int) ∈ zt := zw_t5 (i := 61) rfl rfl
noncomputable def zc_X0_drawOf : zq_Cd := [(0, .aload_n 0, 1), (1, .aload_n 0, 1), (2, .getfield 167, 3), (5, .sipush 1103, 3), (8, .imul, 1), (9, .sipush 12345, 3), (12, .iadd, 1), (13, .ldc 179, 2), (15, .irem, 1), (16, .putfield 167, 3), (19, .iload_n 1, 1), (20, .ifCond .le 12, 3), (23, .aload_n 0, 1), (24, .getfield 167, 3), (27, .iload_n 1, 1), (28, .irem, 1), (29, .goto 4, 3), (32, .iconst 0, 1), (33, .ireturn, 1)]
theorem zd_X0_drawOf : zq_ckC cX0_drawOf zc_X0_drawOf = true := by decide +kernel
theorem zp_X0_drawOf : zq_pn yX0_drawOf 1 = true := by decide +kernel
set_option maxRecDepth 1000000 in
theorem zn_X0_drawOf : Cond.instanceMethod yX0_drawOf ∈ zt := zw_t5 (i := 60) rfl rfl
theorem ze_X0_drawOf : Cond.selects RX0 yX0_drawOf yX0_drawOf ∈ zt := zq_hw_ok (i := 35) (by decide +kernel)
set_option maxRecDepth 1000000 in
theorem zk_X0_playYears : Cond.code yX0_playYears cX0_playYears 9 (some .int) ∈ zt := zw_t5 (i := 57) rfl rfl
noncomputable def zc_X0_playYears : zq_Cd := [(0, .iconst 0, 1), (1, .istore 4, 2), (3, .aload_n 0, 1), (4, .iload_n 2, 1), (5, .putfield 167, 3), (8, .iconst 0, 1), (9, .istore 5, 2), (11, .iload 5, 2), (13, .iload_n 3, 1), (14, .if_icmp .ge 75, 3), (17, .aload_n 1, 1), (18, .getfield 83, 3), (21, .iconst 0, 1), (22, .iaload, 1), (23, .getstatic 86, 3), (26, .iconst 0, 1), (27, .iaload, 1), (28, .if_icmp .ge 61, 3), (31, .aload_n 0, 1), (32, .aload_n 1, 1), (33, .getfield 170, 3), (36, .invokevirtual 173, 3), (39, .istore 6, 2), (41, .aload_n 0, 1), (42, .aload_n 1, 1), (43, .getfield 176, 3), (46, .invokevirtual 173, 3), (49, .istore 7, 2), (51, .aload_n 0, 1), (52, .iconst 4, 1), (53, .invokevirtual 173, 3), (56, .istore 8, 2), (58, .aload_n 0, 1), (59, .aload_n 1, 1), (60, .iload 6, 2), (62, .iload 7, 2), (64, .iload 8, 2), (66, .invokevirtual 145, 3), (69, .bipush 6, 2), (71, .if_icmp .ne 6, 3), (74, .iinc 4 1, 3), (77, .aload_n 0, 1), (78, .aload_n 1, 1), (79, .invokevirtual 156, 3), (82, .pop, 1), (83, .iinc 5 1, 3), (86, .goto (-75), 3), (89, .iload 4, 2), (91, .ireturn, 1)]
theorem zd_X0_playYears : zq_ckC cX0_playYears zc_X0_playYears = true := by decide +kernel
theorem zp_X0_playYears : zq_pn yX0_playYears 3 = true := by decide +kernel
set_option maxRecDepth 1000000 in
theorem zn_X0_playYears : Cond.instanceMethod yX0_playYears ∈ zt := zw_t5 (i := 55) rfl rfl
set_option maxRecDepth 1000000 in
theorem ze_X0_playYears : Cond.selects RX0 yX0_playYears yX0_playYears ∈ zt := zw_t5 (i := 56) rfl rfl
set_option maxRecDepth 1000000 in
theorem zk_X11_years : Cond.code yX11_years cX11_years 4 (some .int) ∈ zt := zw_t5 (i := 52) rfl rfl
noncomputable def zc_X11_years : zq_Cd := [(0, .iload_n 1, 1), (1, .iconst 0, 1), (2, .ldc_w 309, 3), (5, .invokestatic 99, 3), (8, .ifCond .eq 13, 3), (11, .iload_n 2, 1), (12, .iconst 1, 1), (13, .bipush 60, 2), (15, .invokestatic 99, 3), (18, .ifCond .ne 9, 3), (21, .aload_n 0, 1), (22, .iconst (-1), 1), (23, .invokevirtual 103, 3), (26, .ireturn, 1), (27, .aload_n 0, 1), (28, .getfield 70, 3), (31, .getfield 107, 3), (34, .ifCond .eq 13, 3), (37, .aload_n 0, 1), (38, .getfield 70, 3), (41, .getfield 139, 3), (44, .ifCond .ne 10, 3), (47, .aload_n 0, 1), (48, .bipush (-3), 2), (50, .invokevirtual 103, 3), (53, .ireturn, 1), (54, .aload_n 0, 1), (55, .getfield 74, 3), (58, .aload_n 0, 1), (59, .getfield 70, 3), (62, .invokevirtual 219, 3), (65, .aload_n 0, 1), (66, .getfield 38, 3), (69, .aload_n 0, 1), (70, .getfield 74, 3), (73, .iload_n 1, 1), (74, .iload_n 2, 1), (75, .invokevirtual 310, 3), (78, .istore_n 3, 1), (79, .aload_n 0, 1), (80, .aload_n 0, 1), (81, .getfield 74, 3), (84, .getfield 107, 3), (87, .putfield 313, 3), (90, .aload_n 0, 1), (91, .getfield 74, 3), (94, .getfield 132, 3), (97, .iconst 0, 1), (98, .aload_n 0, 1), (99, .getfield 89, 3), (102, .iconst 0, 1), (103, .bipush 6, 2), (105, .invokestatic 316, 3), (108, .aload_n 0, 1), (109, .iload_n 3, 1), (110, .invokevirtual 122, 3), (113, .ireturn, 1)]
theorem zd_X11_years : zq_ckC cX11_years zc_X11_years = true := by decide +kernel
theorem zp_X11_years : zq_pn yX11_years 2 = true := by decide +kernel
set_option maxRecDepth 1000000 in
theorem zn_X11_years : Cond.instanceMethod yX11_years ∈ zt := zw_t5 (i := 50) rfl rfl
set_option maxRecDepth 1000000 in
theorem ze_X11_years : Cond.selects RX11 yX11_years yX11_years ∈ zt := zw_t5 (i := 51) rfl rfl
set_option maxRecDepth 1000000 in
theorem zk_X11_drawn : Cond.code yX11_drawn cX11_drawn 2 (some .int) ∈ zt := zw_t5 (i := 67) rfl rfl
noncomputable def zc_X11_drawn : zq_Cd := [(0, .iload_n 1, 1), (1, .iconst 0, 1), (2, .aload_n 0, 1), (3, .getfield 313, 3), (6, .iconst 1, 1), (7, .isub, 1), (8, .invokestatic 99, 3), (11, .ifCond .eq 12, 3), (14, .aload_n 0, 1), (15, .getfield 89, 3), (18, .iload_n 1, 1), (19, .iaload, 1), (20, .goto 6, 3), (23, .sipush (-10000), 3), (26, .ireturn, 1)]
theorem zd_X11_drawn : zq_ckC cX11_drawn zc_X11_drawn = true := by decide +kernel
theorem zp_X11_drawn : zq_pn yX11_drawn 1 = true := by decide +kernel
set_option maxRecDepth 1000000 in
theorem zn_X11_drawn : Cond.instanceMethod yX11_drawn ∈ zt := zw_t5 (i := 65) rfl rfl
set_option maxRecDepth 1000000 in
theorem ze_X11_drawn : Cond.selects RX11 yX11_drawn yX11_drawn ∈ zt := zw_t5 (i := 66) rfl rfl
set_option maxRecDepth 1000000 in
theorem zk_X11_count : Cond.code yX11_count cX11_count 2 (some .int) ∈ zt := zw_t5 (i := 79) rfl rfl
noncomputable def zc_X11_count : zq_Cd := [(0, .iload_n 1, 1), (1, .bipush 7, 2), (3, .bipush 11, 2), (5, .invokestatic 99, 3), (8, .ifCond .eq 13, 3), (11, .aload_n 0, 1), (12, .getfield 85, 3), (15, .iload_n 1, 1), (16, .bipush 7, 2), (18, .isub, 1), (19, .iaload, 1), (20, .ireturn, 1), (21, .iload_n 1, 1), (22, .bipush 13, 2), (24, .bipush 15, 2), (26, .invokestatic 99, 3), (29, .ifCond .eq 16, 3), (32, .aload_n 0, 1), (33, .getfield 70, 3), (36, .getfield 184, 3), (39, .iload_n 1, 1), (40, .bipush 13, 2), (42, .isub, 1), (43, .iaload, 1), (44, .ireturn, 1), (45, .iload_n 1, 1), (46, .tableswitch 133 0 12 #[66, 74, 82, 90, 98, 106, 117, 133, 133, 133, 133, 133, 125], 66), (112, .aload_n 0, 1), (113, .getfield 70, 3), (116, .getfield 107, 3), (119, .ireturn, 1), (120, .aload_n 0, 1), (121, .getfield 70, 3), (124, .invokevirtual 322, 3), (127, .ireturn, 1), (128, .aload_n 0, 1), (129, .getfield 70, 3), (132, .getfield 139, 3), (135, .ireturn, 1), (136, .aload_n 0, 1), (137, .getfield 70, 3), (140, .getfield 281, 3), (143, .ireturn, 1), (144, .aload_n 0, 1), (145, .getfield 70, 3), (148, .getfield 198, 3), (151, .ireturn, 1), (152, .aload_n 0, 1), (153, .getfield 70, 3), (156, .getfield 110, 3), (159, .getfield 114, 3), (162, .ireturn, 1), (163, .aload_n 0, 1), (164, .getfield 18, 3), (167, .getfield 187, 3), (170, .ireturn, 1), (171, .aload_n 0, 1), (172, .getfield 70, 3), (175, .getfield 233, 3), (178, .ireturn, 1), (179, .iconst (-1), 1), (180, .ireturn, 1)]
theorem zd_X11_count : zq_ckC cX11_count zc_X11_count = true := by decide +kernel
theorem zp_X11_count : zq_pn yX11_count 1 = true := by decide +kernel
set_option maxRecDepth 1000000 in
theorem zn_X11_count : Cond.instanceMethod yX11_count ∈ zt := zw_t5 (i := 77) rfl rfl
set_option maxRecDepth 1000000 in
theorem ze_X11_count : Cond.selects RX11 yX11_count yX11_count ∈ zt := zw_t5 (i := 78) rfl rfl
set_option maxRecDepth 1000000 in
theorem zk_X11_status : Cond.code yX11_status cX11_status 1 (some .int) ∈ zt := zw_t5 (i := 84) rfl rfl
noncomputable def zc_X11_status : zq_Cd := [(0, .aload_n 0, 1), (1, .getfield 326, 3), (4, .ireturn, 1)]
theorem zd_X11_status : zq_ckC cX11_status zc_X11_status = true := by decide +kernel
theorem zp_X11_status : zq_pn yX11_status 0 = true := by decide +kernel
set_option maxRecDepth 1000000 in
theorem zn_X11_status : Cond.instanceMethod yX11_status ∈ zt := zw_t5 (i := 82) rfl rfl
set_option maxRecDepth 1000000 in
theorem ze_X11_status : Cond.selects RX11 yX11_status yX11_status ∈ zt := zw_t5 (i := 83) rfl rfl
set_option maxRecDepth 1000000 in
theorem zk_X12_lies : Cond.code yX12_lies cX12_lies 3 (some .boolean) ∈ zt := zw_t6 (i := 8) rfl rfl
noncomputable def zc_X12_lies : zq_Cd := [(0, .iload_n 0, 1), (1, .iload_n 1, 1), (2, .if_icmp .lt 12, 3), (5, .iload_n 0, 1), (6, .iload_n 2, 1), (7, .if_icmp .gt 7, 3), (10, .iconst 1, 1), (11, .goto 4, 3), (14, .iconst 0, 1), (15, .ireturn, 1)]
theorem zd_X12_lies : zq_ckC cX12_lies zc_X12_lies = true := by decide +kernel
theorem zp_X12_lies : zq_pn yX12_lies 3 = true := by decide +kernel
set_option maxRecDepth 1000000 in
theorem zs_X12_lies : Cond.static yX12_lies ∈ zt := zw_t6 (i := 7) rfl rfl
set_option maxRecDepth 1000000 in
theorem zk_X12_refuses : Cond.code yX12_refuses cX12_refuses 2 (some .int) ∈ zt := zw_t6 (i := 12) rfl rfl
noncomputable def zc_X12_refuses : zq_Cd := [(0, .aload_n 0, 1), (1, .iload_n 1, 1), (2, .putfield 3, 3), (5, .aload_n 0, 1), (6, .getfield 7, 3), (9, .iload_n 1, 1), (10, .ineg, 1), (11, .dup2, 1), (12, .iaload, 1), (13, .iconst 1, 1), (14, .iadd, 1), (15, .iastore, 1), (16, .iload_n 1, 1), (17, .ireturn, 1)]
theorem zd_X12_refuses : zq_ckC cX12_refuses zc_X12_refuses = true := by decide +kernel
theorem zp_X12_refuses : zq_pn yX12_refuses 1 = true := by decide +kernel
set_option maxRecDepth 1000000 in
theorem zn_X12_refuses : Cond.instanceMethod yX12_refuses ∈ zt := zw_t6 (i := 11) rfl rfl
theorem ze_X12_refuses : Cond.selects RX12 yX12_refuses yX12_refuses ∈ zt := zq_hw_ok (i := 36) (by decide +kernel)
set_option maxRecDepth 1000000 in
theorem zk_X12_good : Cond.code yX12_good cX12_good 2 (some .int) ∈ zt := zw_t6 (i := 16) rfl rfl
noncomputable def zc_X12_good : zq_Cd := [(0, .aload_n 0, 1), (1, .iconst 0, 1), (2, .putfield 3, 3), (5, .iload_n 1, 1), (6, .ireturn, 1)]
theorem zd_X12_good : zq_ckC cX12_good zc_X12_good = true := by decide +kernel
theorem zp_X12_good : zq_pn yX12_good 1 = true := by decide +kernel
set_option maxRecDepth 1000000 in
theorem zn_X12_good : Cond.instanceMethod yX12_good ∈ zt := zw_t6 (i := 15) rfl rfl
theorem ze_X12_good : Cond.selects RX12 yX12_good yX12_good ∈ zt := zq_hw_ok (i := 37) (by decide +kernel)
set_option maxRecDepth 1000000 in
theorem zk_X12_image : Cond.code yX12_image cX12_image 3 (some .int) ∈ zt := zw_t6 (i := 5) rfl rfl
noncomputable def zc_X12_image : zq_Cd := [(0, .iload_n 1, 1), (1, .iconst 0, 1), (2, .iconst 1, 1), (3, .invokestatic 18, 3), (6, .ifCond .ne 9, 3), (9, .aload_n 0, 1), (10, .iconst (-1), 1), (11, .invokevirtual 109, 3), (14, .ireturn, 1), (15, .iconst 0, 1), (16, .istore_n 2, 1), (17, .iload_n 2, 1), (18, .sipush 5671, 3), (21, .if_icmp .ge 27, 3), (24, .aload_n 0, 1), (25, .getfield 31, 3), (28, .sipush 5671, 3), (31, .iload_n 1, 1), (32, .imul, 1), (33, .iload_n 2, 1), (34, .iadd, 1), (35, .aload_n 0, 1), (36, .getfield 28, 3), (39, .iload_n 2, 1), (40, .iaload, 1), (41, .iastore, 1), (42, .iinc 2 1, 3), (45, .goto (-28), 3), (48, .aload_n 0, 1), (49, .getfield 34, 3), (52, .iload_n 1, 1), (53, .iconst 1, 1), (54, .bastore, 1), (55, .aload_n 0, 1), (56, .iconst 0, 1), (57, .invokevirtual 14, 3), (60, .ireturn, 1)]
theorem zd_X12_image : zq_ckC cX12_image zc_X12_image = true := by decide +kernel
theorem zp_X12_image : zq_pn yX12_image 1 = true := by decide +kernel
set_option maxRecDepth 1000000 in
theorem zn_X12_image : Cond.instanceMethod yX12_image ∈ zt := zw_t6 (i := 3) rfl rfl
set_option maxRecDepth 1000000 in
theorem ze_X12_image : Cond.selects RX12 yX12_image yX12_image ∈ zt := zw_t6 (i := 4) rfl rfl
set_option maxRecDepth 1000000 in
theorem zk_X12_settled : Cond.code yX12_settled cX12_settled 2 (some .int) ∈ zt := zw_t6 (i := 24) rfl rfl
noncomputable def zc_X12_settled : zq_Cd := [(0, .aload_n 0, 1), (1, .iconst 0, 1), (2, .putfield 11, 3), (5, .aload_n 0, 1), (6, .iload_n 1, 1), (7, .invokevirtual 14, 3), (10, .ireturn, 1)]
theorem zd_X12_settled : zq_ckC cX12_settled zc_X12_settled = true := by decide +kernel
theorem zp_X12_settled : zq_pn yX12_settled 1 = true := by decide +kernel
set_option maxRecDepth 1000000 in
theorem zn_X12_settled : Cond.instanceMethod yX12_settled ∈ zt := zw_t6 (i := 23) rfl rfl
theorem ze_X12_settled : Cond.selects RX12 yX12_settled yX12_settled ∈ zt := zq_hw_ok (i := 38) (by decide +kernel)
set_option maxRecDepth 1000000 in
theorem zk_X12_back : Cond.code yX12_back cX12_back 3 (some .int) ∈ zt := zw_t6 (i := 20) rfl rfl
noncomputable def zc_X12_back : zq_Cd := [(0, .iload_n 1, 1), (1, .iconst 0, 1), (2, .iconst 1, 1), (3, .invokestatic 18, 3), (6, .ifCond .ne 9, 3), (9, .aload_n 0, 1), (10, .iconst (-1), 1), (11, .invokevirtual 109, 3), (14, .ireturn, 1), (15, .aload_n 0, 1), (16, .getfield 34, 3), (19, .iload_n 1, 1), (20, .baload, 1), (21, .ifCond .ne 10, 3), (24, .aload_n 0, 1), (25, .bipush (-2), 2), (27, .invokevirtual 109, 3), (30, .ireturn, 1), (31, .iconst 0, 1), (32, .istore_n 2, 1), (33, .iload_n 2, 1), (34, .sipush 5671, 3), (37, .if_icmp .ge 27, 3), (40, .aload_n 0, 1), (41, .getfield 28, 3), (44, .iload_n 2, 1), (45, .aload_n 0, 1), (46, .getfield 31, 3), (49, .sipush 5671, 3), (52, .iload_n 1, 1), (53, .imul, 1), (54, .iload_n 2, 1), (55, .iadd, 1), (56, .iaload, 1), (57, .iastore, 1), (58, .iinc 2 1, 3), (61, .goto (-28), 3), (64, .aload_n 0, 1), (65, .iconst 0, 1), (66, .invokevirtual 112, 3), (69, .ireturn, 1)]
theorem zd_X12_back : zq_ckC cX12_back zc_X12_back = true := by decide +kernel
theorem zp_X12_back : zq_pn yX12_back 1 = true := by decide +kernel
set_option maxRecDepth 1000000 in
theorem zn_X12_back : Cond.instanceMethod yX12_back ∈ zt := zw_t6 (i := 18) rfl rfl
set_option maxRecDepth 1000000 in
theorem ze_X12_back : Cond.selects RX12 yX12_back yX12_back ∈ zt := zw_t6 (i := 19) rfl rfl
set_option maxRecDepth 1000000 in
theorem zk_X12_many : Cond.code yX12_many cX12_many 1 (some .int) ∈ zt := zw_t6 (i := 32) rfl rfl
noncomputable def zc_X12_many : zq_Cd := [(0, .aload_n 0, 1), (1, .getfield 28, 3), (4, .bipush 59, 2), (6, .iaload, 1), (7, .ireturn, 1)]
theorem zd_X12_many : zq_ckC cX12_many zc_X12_many = true := by decide +kernel
theorem zp_X12_many : zq_pn yX12_many 0 = true := by decide +kernel
set_option maxRecDepth 1000000 in
theorem zn_X12_many : Cond.instanceMethod yX12_many ∈ zt := zw_t6 (i := 31) rfl rfl
theorem ze_X12_many : Cond.selects RX12 yX12_many yX12_many ∈ zt := zq_hw_ok (i := 39) (by decide +kernel)
set_option maxRecDepth 1000000 in
theorem zk_X12_person : Cond.code yX12_person cX12_person 3 (some .int) ∈ zt := zw_t6 (i := 28) rfl rfl
noncomputable def zc_X12_person : zq_Cd := [(0, .iload_n 1, 1), (1, .iconst 0, 1), (2, .bipush 9, 2), (4, .invokestatic 18, 3), (7, .ifCond .ne 9, 3), (10, .aload_n 0, 1), (11, .iconst (-1), 1), (12, .invokevirtual 109, 3), (15, .ireturn, 1), (16, .aload_n 0, 1), (17, .invokevirtual 115, 3), (20, .istore_n 2, 1), (21, .iload_n 2, 1), (22, .bipush 6, 2), (24, .if_icmp .ne 10, 3), (27, .aload_n 0, 1), (28, .bipush (-5), 2), (30, .invokevirtual 109, 3), (33, .ireturn, 1), (34, .aload_n 0, 1), (35, .getfield 28, 3), (38, .bipush 11, 2), (40, .iload_n 2, 1), (41, .iadd, 1), (42, .iload_n 1, 1), (43, .iastore, 1), (44, .aload_n 0, 1), (45, .getfield 28, 3), (48, .iconst 0, 1), (49, .iload_n 2, 1), (50, .iadd, 1), (51, .iconst 0, 1), (52, .iastore, 1), (53, .aload_n 0, 1), (54, .getfield 28, 3), (57, .bipush 59, 2), (59, .dup2, 1), (60, .iaload, 1), (61, .iconst 1, 1), (62, .iadd, 1), (63, .iastore, 1), (64, .aload_n 0, 1), (65, .iload_n 2, 1), (66, .invokevirtual 112, 3), (69, .ireturn, 1)]
theorem zd_X12_person : zq_ckC cX12_person zc_X12_person = true := by decide +kernel
theorem zp_X12_person : zq_pn yX12_person 1 = true := by decide +kernel
set_option maxRecDepth 1000000 in
theorem zn_X12_person : Cond.instanceMethod yX12_person ∈ zt := zw_t6 (i := 26) rfl rfl
set_option maxRecDepth 1000000 in
theorem ze_X12_person : Cond.selects RX12 yX12_person yX12_person ∈ zt := zw_t6 (i := 27) rfl rfl
set_option maxRecDepth 1000000 in
theorem zk_X12_isPerson : Cond.code yX12_isPerson cX12_isPerson 2 (some .boolean) ∈ zt := zw_t6 (i := 40) rfl rfl
noncomputable def zc_X12_isPerson : zq_Cd := [(0, .iload_n 1, 1), (1, .iconst 0, 1), (2, .aload_n 0, 1), (3, .invokevirtual 115, 3), (6, .iconst 1, 1), (7, .isub, 1), (8, .invokestatic 18, 3), (11, .ireturn, 1)]
theorem zd_X12_isPerson : zq_ckC cX12_isPerson zc_X12_isPerson = true := by decide +kernel
theorem zp_X12_isPerson : zq_pn yX12_isPerson 1 = true := by decide +kernel
set_option maxRecDepth 1000000 in
theorem zn_X12_isPerson : Cond.instanceMethod yX12_isPerson ∈ zt := zw_t6 (i := 39) rfl rfl
theorem ze_X12_isPerson : Cond.selects RX12 yX12_isPerson yX12_isPerson ∈ zt := zq_hw_ok (i := 40) (by decide +kernel)
set_option maxRecDepth 1000000 in
theorem zk_X12_of : Cond.code yX12_of cX12_of 3 (some .int) ∈ zt := zw_t6 (i := 36) rfl rfl
noncomputable def zc_X12_of : zq_Cd := [(0, .aload_n 0, 1), (1, .iload_n 1, 1), (2, .invokevirtual 123, 3), (5, .ifCond .ne 7, 3), (8, .sipush (-10000), 3), (11, .ireturn, 1), (12, .iload_n 2, 1), (13, .lookupswitch 46 #[(0, 27), (1, 37)], 27), (40, .aload_n 0, 1), (41, .getfield 28, 3), (44, .bipush 11, 2), (46, .iload_n 1, 1), (47, .iadd, 1), (48, .iaload, 1), (49, .ireturn, 1), (50, .aload_n 0, 1), (51, .getfield 28, 3), (54, .iconst 0, 1), (55, .iload_n 1, 1), (56, .iadd, 1), (57, .iaload, 1), (58, .ireturn, 1), (59, .sipush (-10000), 3), (62, .ireturn, 1)]
theorem zd_X12_of : zq_ckC cX12_of zc_X12_of = true := by decide +kernel
theorem zp_X12_of : zq_pn yX12_of 2 = true := by decide +kernel
set_option maxRecDepth 1000000 in
theorem zn_X12_of : Cond.instanceMethod yX12_of ∈ zt := zw_t6 (i := 34) rfl rfl
set_option maxRecDepth 1000000 in
theorem ze_X12_of : Cond.selects RX12 yX12_of yX12_of ∈ zt := zw_t6 (i := 35) rfl rfl
set_option maxRecDepth 1000000 in
theorem zk_X12_canDeed : Cond.code yX12_canDeed cX12_canDeed 2 (some .boolean) ∈ zt := zw_t6 (i := 47) rfl rfl
noncomputable def zc_X12_canDeed : zq_Cd := [(0, .iload_n 0, 1), (1, .iconst 0, 1), (2, .iconst 3, 1), (3, .invokestatic 18, 3), (6, .ifCond .eq 17, 3), (9, .iload_n 1, 1), (10, .iconst 1, 1), (11, .bipush 9, 2), (13, .invokestatic 18, 3), (16, .ifCond .eq 7, 3), (19, .iconst 1, 1), (20, .goto 4, 3), (23, .iconst 0, 1), (24, .ireturn, 1)]
theorem zd_X12_canDeed : zq_ckC cX12_canDeed zc_X12_canDeed = true := by decide +kernel
theorem zp_X12_canDeed : zq_pn yX12_canDeed 2 = true := by decide +kernel
set_option maxRecDepth 1000000 in
theorem zs_X12_canDeed : Cond.static yX12_canDeed ∈ zt := zw_t6 (i := 46) rfl rfl
set_option maxRecDepth 1000000 in
theorem zk_X12_adds : Cond.code yX12_adds cX12_adds 4 none ∈ zt := zw_t6 (i := 51) rfl rfl
noncomputable def zc_X12_adds : zq_Cd := [(0, .aload_n 0, 1), (1, .getfield 28, 3), (4, .bipush 60, 2), (6, .iaload, 1), (7, .istore_n 3, 1), (8, .aload_n 0, 1), (9, .getfield 28, 3), (12, .bipush 21, 2), (14, .iload_n 3, 1), (15, .iadd, 1), (16, .iload_n 1, 1), (17, .iastore, 1), (18, .aload_n 0, 1), (19, .getfield 28, 3), (22, .bipush 27, 2), (24, .iload_n 3, 1), (25, .iadd, 1), (26, .iload_n 2, 1), (27, .iastore, 1), (28, .aload_n 0, 1), (29, .getfield 28, 3), (32, .bipush 60, 2), (34, .dup2, 1), (35, .iaload, 1), (36, .iconst 1, 1), (37, .iadd, 1), (38, .iastore, 1), (39, .return_, 1)]
theorem zd_X12_adds : zq_ckC cX12_adds zc_X12_adds = true := by decide +kernel
theorem zp_X12_adds : zq_pn yX12_adds 2 = true := by decide +kernel
set_option maxRecDepth 1000000 in
theorem zn_X12_adds : Cond.instanceMethod yX12_adds ∈ zt := zw_t6 (i := 50) rfl rfl
theorem ze_X12_adds : Cond.selects RX12 yX12_adds yX12_adds ∈ zt := zq_hw_ok (i := 41) (by decide +kernel)
set_option maxRecDepth 1000000 in
theorem zk_X12_deed : Cond.code yX12_deed cX12_deed 3 (some .int) ∈ zt := zw_t6 (i := 44) rfl rfl
noncomputable def zc_X12_deed : zq_Cd := [(0, .iload_n 1, 1), (1, .iload_n 2, 1), (2, .invokestatic 129, 3), (5, .ifCond .ne 9, 3), (8, .aload_n 0, 1), (9, .iconst (-1), 1), (10, .invokevirtual 109, 3), (13, .ireturn, 1), (14, .aload_n 0, 1), (15, .getfield 28, 3), (18, .bipush 60, 2), (20, .iaload, 1), (21, .bipush 6, 2), (23, .if_icmp .ne 10, 3), (26, .aload_n 0, 1), (27, .bipush (-5), 2), (29, .invokevirtual 109, 3), (32, .ireturn, 1), (33, .aload_n 0, 1), (34, .iload_n 1, 1), (35, .iload_n 2, 1), (36, .invokevirtual 133, 3), (39, .aload_n 0, 1), (40, .aload_n 0, 1), (41, .getfield 28, 3), (44, .bipush 60, 2), (46, .iaload, 1), (47, .iconst 1, 1), (48, .isub, 1), (49, .invokevirtual 14, 3), (52, .ireturn, 1)]
theorem zd_X12_deed : zq_ckC cX12_deed zc_X12_deed = true := by decide +kernel
theorem zp_X12_deed : zq_pn yX12_deed 2 = true := by decide +kernel
set_option maxRecDepth 1000000 in
theorem zn_X12_deed : Cond.instanceMethod yX12_deed ∈ zt := zw_t6 (i := 42) rfl rfl
set_option maxRecDepth 1000000 in
theorem ze_X12_deed : Cond.selects RX12 yX12_deed yX12_deed ∈ zt := zw_t6 (i := 43) rfl rfl
set_option maxRecDepth 1000000 in
theorem zk_X12_isDeed : Cond.code yX12_isDeed cX12_isDeed 2 (some .boolean) ∈ zt := zw_t6 (i := 59) rfl rfl
noncomputable def zc_X12_isDeed : zq_Cd := [(0, .iload_n 1, 1), (1, .iconst 0, 1), (2, .aload_n 0, 1), (3, .getfield 28, 3), (6, .bipush 60, 2), (8, .iaload, 1), (9, .iconst 1, 1), (10, .isub, 1), (11, .invokestatic 18, 3), (14, .ireturn, 1)]
theorem zd_X12_isDeed : zq_ckC cX12_isDeed zc_X12_isDeed = true := by decide +kernel
theorem zp_X12_isDeed : zq_pn yX12_isDeed 1 = true := by decide +kernel
set_option maxRecDepth 1000000 in
theorem zn_X12_isDeed : Cond.instanceMethod yX12_isDeed ∈ zt := zw_t6 (i := 58) rfl rfl
theorem ze_X12_isDeed : Cond.selects RX12 yX12_isDeed yX12_isDeed ∈ zt := zq_hw_ok (i := 42) (by decide +kernel)
set_option maxRecDepth 1000000 in
theorem zk_X12_at : Cond.code yX12_at cX12_at 3 (some .int) ∈ zt := zw_t6 (i := 55) rfl rfl
noncomputable def zc_X12_at : zq_Cd := [(0, .aload_n 0, 1), (1, .iload_n 1, 1), (2, .invokevirtual 119, 3), (5, .ifCond .ne 5, 3), (8, .iconst (-1), 1), (9, .ireturn, 1), (10, .iload_n 2, 1), (11, .lookupswitch 45 #[(0, 25), (1, 35)], 25), (36, .aload_n 0, 1), (37, .getfield 28, 3), (40, .bipush 21, 2), (42, .iload_n 1, 1), (43, .iadd, 1), (44, .iaload, 1), (45, .ireturn, 1), (46, .aload_n 0, 1), (47, .getfield 28, 3), (50, .bipush 27, 2), (52, .iload_n 1, 1), (53, .iadd, 1), (54, .iaload, 1), (55, .ireturn, 1), (56, .iconst (-1), 1), (57, .ireturn, 1)]
theorem zd_X12_at : zq_ckC cX12_at zc_X12_at = true := by decide +kernel
theorem zp_X12_at : zq_pn yX12_at 2 = true := by decide +kernel
set_option maxRecDepth 1000000 in
theorem zn_X12_at : Cond.instanceMethod yX12_at ∈ zt := zw_t6 (i := 53) rfl rfl
set_option maxRecDepth 1000000 in
theorem ze_X12_at : Cond.selects RX12 yX12_at yX12_at ∈ zt := zw_t6 (i := 54) rfl rfl
set_option maxRecDepth 1000000 in
theorem zk_X12_isPlace : Cond.code yX12_isPlace cX12_isPlace 1 (some .boolean) ∈ zt := zw_t6 (i := 66) rfl rfl
noncomputable def zc_X12_isPlace : zq_Cd := [(0, .iload_n 0, 1), (1, .iconst 0, 1), (2, .iconst 3, 1), (3, .invokestatic 18, 3), (6, .ireturn, 1)]
theorem zd_X12_isPlace : zq_ckC cX12_isPlace zc_X12_isPlace = true := by decide +kernel
theorem zp_X12_isPlace : zq_pn yX12_isPlace 1 = true := by decide +kernel
set_option maxRecDepth 1000000 in
theorem zs_X12_isPlace : Cond.static yX12_isPlace ∈ zt := zw_t6 (i := 65) rfl rfl
set_option maxRecDepth 1000000 in
theorem zk_X12_place : Cond.code yX12_place cX12_place 3 (some .int) ∈ zt := zw_t6 (i := 63) rfl rfl
noncomputable def zc_X12_place : zq_Cd := [(0, .iload_n 1, 1), (1, .invokestatic 126, 3), (4, .ifCond .ne 5, 3), (7, .iconst (-1), 1), (8, .ireturn, 1), (9, .iload_n 2, 1), (10, .tableswitch 64 0 2 #[26, 36, 54], 26), (36, .aload_n 0, 1), (37, .getfield 28, 3), (40, .bipush 6, 2), (42, .iload_n 1, 1), (43, .iadd, 1), (44, .iaload, 1), (45, .ireturn, 1), (46, .aload_n 0, 1), (47, .getfield 28, 3), (50, .bipush 10, 2), (52, .iaload, 1), (53, .aload_n 0, 1), (54, .getfield 28, 3), (57, .bipush 6, 2), (59, .iload_n 1, 1), (60, .iadd, 1), (61, .iaload, 1), (62, .iadd, 1), (63, .ireturn, 1), (64, .aload_n 0, 1), (65, .getfield 28, 3), (68, .bipush 17, 2), (70, .iload_n 1, 1), (71, .iadd, 1), (72, .iaload, 1), (73, .ireturn, 1), (74, .iconst (-1), 1), (75, .ireturn, 1)]
theorem zd_X12_place : zq_ckC cX12_place zc_X12_place = true := by decide +kernel
theorem zp_X12_place : zq_pn yX12_place 2 = true := by decide +kernel
set_option maxRecDepth 1000000 in
theorem zn_X12_place : Cond.instanceMethod yX12_place ∈ zt := zw_t6 (i := 61) rfl rfl
set_option maxRecDepth 1000000 in
theorem ze_X12_place : Cond.selects RX12 yX12_place yX12_place ∈ zt := zw_t6 (i := 62) rfl rfl
set_option maxRecDepth 1000000 in
theorem zk_X12_isIn : Cond.code yX12_isIn cX12_isIn 2 (some .boolean) ∈ zt := zw_t6 (i := 73) rfl rfl
noncomputable def zc_X12_isIn : zq_Cd := [(0, .iload_n 0, 1), (1, .iload_n 1, 1), (2, .ishr, 1), (3, .iconst 1, 1), (4, .iand, 1), (5, .iconst 1, 1), (6, .if_icmp .ne 7, 3), (9, .iconst 1, 1), (10, .goto 4, 3), (13, .iconst 0, 1), (14, .ireturn, 1)]
theorem zd_X12_isIn : zq_ckC cX12_isIn zc_X12_isIn = true := by decide +kernel
theorem zp_X12_isIn : zq_pn yX12_isIn 2 = true := by decide +kernel
set_option maxRecDepth 1000000 in
theorem zs_X12_isIn : Cond.static yX12_isIn ∈ zt := zw_t6 (i := 72) rfl rfl
set_option maxRecDepth 1000000 in
theorem zk_X12_laysRoad : Cond.code yX12_laysRoad cX12_laysRoad 4 none ∈ zt := zw_t6 (i := 77) rfl rfl
noncomputable def zc_X12_laysRoad : zq_Cd := [(0, .aload_n 0, 1), (1, .getfield 28, 3), (4, .bipush 17, 2), (6, .iload_n 1, 1), (7, .iadd, 1), (8, .aload_n 0, 1), (9, .getfield 28, 3), (12, .bipush 17, 2), (14, .iload_n 1, 1), (15, .iadd, 1), (16, .iaload, 1), (17, .iconst 1, 1), (18, .iload_n 2, 1), (19, .ishl, 1), (20, .iconst (-1), 1), (21, .ixor, 1), (22, .iand, 1), (23, .iload_n 3, 1), (24, .iload_n 2, 1), (25, .ishl, 1), (26, .ior, 1), (27, .iastore, 1), (28, .return_, 1)]
theorem zd_X12_laysRoad : zq_ckC cX12_laysRoad zc_X12_laysRoad = true := by decide +kernel
theorem zp_X12_laysRoad : zq_pn yX12_laysRoad 3 = true := by decide +kernel
set_option maxRecDepth 1000000 in
theorem zn_X12_laysRoad : Cond.instanceMethod yX12_laysRoad ∈ zt := zw_t6 (i := 76) rfl rfl
theorem ze_X12_laysRoad : Cond.selects RX12 yX12_laysRoad yX12_laysRoad ∈ zt := zq_hw_ok (i := 43) (by decide +kernel)
set_option maxRecDepth 1000000 in
theorem zk_X12_road : Cond.code yX12_road cX12_road 5 (some .int) ∈ zt := zw_t6 (i := 70) rfl rfl
noncomputable def zc_X12_road : zq_Cd := [(0, .iload_n 1, 1), (1, .invokestatic 126, 3), (4, .ifCond .eq 24, 3), (7, .iload_n 2, 1), (8, .invokestatic 126, 3), (11, .ifCond .eq 17, 3), (14, .iload_n 1, 1), (15, .iload_n 2, 1), (16, .if_icmp .eq 12, 3), (19, .iload_n 3, 1), (20, .iconst 0, 1), (21, .iconst 1, 1), (22, .invokestatic 18, 3), (25, .ifCond .ne 9, 3), (28, .aload_n 0, 1), (29, .iconst (-1), 1), (30, .invokevirtual 109, 3), (33, .ireturn, 1), (34, .aload_n 0, 1), (35, .getfield 28, 3), (38, .bipush 17, 2), (40, .iload_n 1, 1), (41, .iadd, 1), (42, .iaload, 1), (43, .iload_n 2, 1), (44, .invokestatic 137, 3), (47, .ifCond .eq 7, 3), (50, .iconst 1, 1), (51, .goto 4, 3), (54, .iconst 0, 1), (55, .istore 4, 2), (57, .aload_n 0, 1), (58, .iload_n 1, 1), (59, .iload_n 2, 1), (60, .iload_n 3, 1), (61, .invokevirtual 140, 3), (64, .aload_n 0, 1), (65, .iload_n 2, 1), (66, .iload_n 1, 1), (67, .iload_n 3, 1), (68, .invokevirtual 140, 3), (71, .aload_n 0, 1), (72, .iload 4, 2), (74, .invokevirtual 14, 3), (77, .ireturn, 1)]
theorem zd_X12_road : zq_ckC cX12_road zc_X12_road = true := by decide +kernel
theorem zp_X12_road : zq_pn yX12_road 3 = true := by decide +kernel
set_option maxRecDepth 1000000 in
theorem zn_X12_road : Cond.instanceMethod yX12_road ∈ zt := zw_t6 (i := 68) rfl rfl
set_option maxRecDepth 1000000 in
theorem ze_X12_road : Cond.selects RX12 yX12_road yX12_road ∈ zt := zw_t6 (i := 69) rfl rfl
set_option maxRecDepth 1000000 in
theorem zk_X12_isDoing : Cond.code yX12_isDoing cX12_isDoing 4 (some .boolean) ∈ zt := zw_t6 (i := 85) rfl rfl
noncomputable def zc_X12_isDoing : zq_Cd := [(0, .aload_n 0, 1), (1, .iload_n 1, 1), (2, .invokevirtual 119, 3), (5, .ifCond .eq 22, 3), (8, .aload_n 0, 1), (9, .iload_n 2, 1), (10, .invokevirtual 123, 3), (13, .ifCond .eq 14, 3), (16, .iload_n 3, 1), (17, .invokestatic 126, 3), (20, .ifCond .eq 7, 3), (23, .iconst 1, 1), (24, .goto 4, 3), (27, .iconst 0, 1), (28, .ireturn, 1)]
theorem zd_X12_isDoing : zq_ckC cX12_isDoing zc_X12_isDoing = true := by decide +kernel
theorem zp_X12_isDoing : zq_pn yX12_isDoing 3 = true := by decide +kernel
set_option maxRecDepth 1000000 in
theorem zn_X12_isDoing : Cond.instanceMethod yX12_isDoing ∈ zt := zw_t6 (i := 84) rfl rfl
theorem ze_X12_isDoing : Cond.selects RX12 yX12_isDoing yX12_isDoing ∈ zt := zq_hw_ok (i := 44) (by decide +kernel)
set_option maxRecDepth 1000000 in
theorem zk_X12_setsAsked : Cond.code yX12_setsAsked cX12_setsAsked 5 none ∈ zt := zw_t6 (i := 93) rfl rfl
noncomputable def zc_X12_setsAsked : zq_Cd := [(0, .aload_n 0, 1), (1, .getfield 63, 3), (4, .iconst 0, 1), (5, .iload_n 2, 1), (6, .iastore, 1), (7, .aload_n 0, 1), (8, .getfield 63, 3), (11, .iconst 1, 1), (12, .aload_n 0, 1), (13, .getfield 28, 3), (16, .bipush 11, 2), (18, .iload_n 2, 1), (19, .iadd, 1), (20, .iaload, 1), (21, .iastore, 1), (22, .aload_n 0, 1), (23, .getfield 63, 3), (26, .iconst 2, 1), (27, .aload_n 0, 1), (28, .getfield 28, 3), (31, .bipush 21, 2), (33, .iload_n 1, 1), (34, .iadd, 1), (35, .iaload, 1), (36, .iastore, 1), (37, .aload_n 0, 1), (38, .getfield 63, 3), (41, .iconst 3, 1), (42, .aload_n 0, 1), (43, .getfield 28, 3), (46, .bipush 27, 2), (48, .iload_n 1, 1), (49, .iadd, 1), (50, .iaload, 1), (51, .iastore, 1), (52, .aload_n 0, 1), (53, .getfield 63, 3), (56, .iconst 4, 1), (57, .iload_n 3, 1), (58, .iastore, 1), (59, .aload_n 0, 1), (60, .getfield 63, 3), (63, .iconst 5, 1), (64, .iload 4, 2), (66, .aload_n 0, 1), (67, .getfield 28, 3), (70, .bipush 6, 2), (72, .iload_n 3, 1), (73, .iadd, 1), (74, .iaload, 1), (75, .iadd, 1), (76, .iastore, 1), (77, .aload_n 0, 1), (78, .getfield 63, 3), (81, .bipush 6, 2), (83, .aload_n 0, 1), (84, .getfield 63, 3), (87, .iconst 5, 1), (88, .iaload, 1), (89, .bipush 7, 2), (91, .irem, 1), (92, .iastore, 1), (93, .aload_n 0, 1), (94, .getfield 63, 3), (97, .bipush 7, 2), (99, .aload_n 0, 1), (100, .getfield 28, 3), (103, .bipush 58, 2), (105, .iaload, 1), (106, .iastore, 1), (107, .return_, 1)]
theorem zd_X12_setsAsked : zq_ckC cX12_setsAsked zc_X12_setsAsked = true := by decide +kernel
theorem zp_X12_setsAsked : zq_pn yX12_setsAsked 4 = true := by decide +kernel
set_option maxRecDepth 1000000 in
theorem zn_X12_setsAsked : Cond.instanceMethod yX12_setsAsked ∈ zt := zw_t6 (i := 92) rfl rfl
theorem ze_X12_setsAsked : Cond.selects RX12 yX12_setsAsked yX12_setsAsked ∈ zt := zq_hw_ok (i := 46) (by decide +kernel)
set_option maxRecDepth 1000000 in
theorem zk_X12_codeAt : Cond.code yX12_codeAt cX12_codeAt 2 (some .int) ∈ zt := zw_t6 (i := 102) rfl rfl
noncomputable def zc_X12_codeAt : zq_Cd := [(0, .iload_n 1, 1), (1, .aload_n 0, 1), (2, .getfield 270, 3), (5, .if_icmp .ge 15, 3), (8, .aload_n 0, 1), (9, .getfield 28, 3), (12, .bipush 71, 2), (14, .iload_n 1, 1), (15, .iadd, 1), (16, .iaload, 1), (17, .goto 4, 3), (20, .iconst 0, 1), (21, .ireturn, 1)]
theorem zd_X12_codeAt : zq_ckC cX12_codeAt zc_X12_codeAt = true := by decide +kernel
theorem zp_X12_codeAt : zq_pn yX12_codeAt 1 = true := by decide +kernel
set_option maxRecDepth 1000000 in
theorem zn_X12_codeAt : Cond.instanceMethod yX12_codeAt ∈ zt := zw_t6 (i := 101) rfl rfl
theorem ze_X12_codeAt : Cond.selects RX12 yX12_codeAt yX12_codeAt ∈ zt := zq_hw_ok (i := 48) (by decide +kernel)
set_option maxRecDepth 1000000 in
theorem zk_X12_sign : Cond.code yX12_sign cX12_sign 1 (some .int) ∈ zt := zw_t6 (i := 117) rfl rfl
noncomputable def zc_X12_sign : zq_Cd := [(0, .bipush 100, 2), (2, .iload_n 0, 1), (3, .iadd, 1), (4, .ireturn, 1)]
theorem zd_X12_sign : zq_ckC cX12_sign zc_X12_sign = true := by decide +kernel
theorem zp_X12_sign : zq_pn yX12_sign 1 = true := by decide +kernel
set_option maxRecDepth 1000000 in
theorem zs_X12_sign : Cond.static yX12_sign ∈ zt := zw_t6 (i := 116) rfl rfl
set_option maxRecDepth 1000000 in
theorem zk_X12_passes0 : Cond.code yX12_passes0 cX12_passes0 3 (some .boolean) ∈ zt := zw_t6 (i := 121) rfl rfl
noncomputable def zc_X12_passes0 : zq_Cd := [(0, .aload_n 0, 1), (1, .aload_n 0, 1), (2, .getfield 273, 3), (5, .invokevirtual 276, 3), (8, .iload_n 1, 1), (9, .if_icmp .ne 7, 3), (12, .iconst 1, 1), (13, .goto 4, 3), (16, .iconst 0, 1), (17, .istore_n 2, 1), (18, .iload_n 2, 1), (19, .ifCond .eq 13, 3), (22, .aload_n 0, 1), (23, .dup, 1), (24, .getfield 273, 3), (27, .iconst 1, 1), (28, .iadd, 1), (29, .putfield 273, 3), (32, .iload_n 2, 1), (33, .ireturn, 1)]
theorem zd_X12_passes0 : zq_ckC cX12_passes0 zc_X12_passes0 = true := by decide +kernel
theorem zp_X12_passes0 : zq_pn yX12_passes0 1 = true := by decide +kernel
set_option maxRecDepth 1000000 in
theorem zn_X12_passes0 : Cond.instanceMethod yX12_passes0 ∈ zt := zw_t6 (i := 120) rfl rfl
theorem ze_X12_passes0 : Cond.selects RX12 yX12_passes0 yX12_passes0 ∈ zt := zq_hw_ok (i := 52) (by decide +kernel)
set_option maxRecDepth 1000000 in
theorem zk_X12_partOf : Cond.code yX12_partOf cX12_partOf 4 (some .long) ∈ zt := zw_t6 (i := 114) rfl rfl
noncomputable def zc_X12_partOf : zq_Cd := [(0, .aload_n 0, 1), (1, .bipush 91, 2), (3, .invokestatic 232, 3), (6, .invokevirtual 297, 3), (9, .ifCond .eq 21, 3), (12, .aload_n 0, 1), (13, .iload_n 1, 1), (14, .invokevirtual 300, 3), (17, .lstore_n 2, 1), (18, .aload_n 0, 1), (19, .dup, 1), (20, .getfield 273, 3), (23, .iconst 1, 1), (24, .iadd, 1), (25, .putfield 273, 3), (28, .lload_n 2, 1), (29, .lreturn, 1), (30, .aload_n 0, 1), (31, .aload_n 0, 1), (32, .getfield 273, 3), (35, .invokevirtual 276, 3), (38, .istore_n 2, 1), (39, .iconst 0, 1), (40, .istore_n 3, 1), (41, .aload_n 0, 1), (42, .dup, 1), (43, .getfield 273, 3), (46, .iconst 1, 1), (47, .iadd, 1), (48, .putfield 273, 3), (51, .iload_n 2, 1), (52, .bipush 20, 2), (54, .if_icmp .eq 9, 3), (57, .iload_n 2, 1), (58, .bipush 21, 2), (60, .if_icmp .ne 27, 3), (63, .aload_n 0, 1), (64, .getfield 28, 3), (67, .sipush 2871, 3), (70, .aload_n 0, 1), (71, .getfield 273, 3), (74, .iadd, 1), (75, .iaload, 1), (76, .istore_n 3, 1), (77, .aload_n 0, 1), (78, .dup, 1), (79, .getfield 273, 3), (82, .iconst 1, 1), (83, .iadd, 1), (84, .putfield 273, 3), (87, .iload_n 1, 1), (88, .ifCond .eq 10, 3), (91, .aload_n 0, 1), (92, .getfield 283, 3), (95, .ifCond .eq 5, 3), (98, .lconst 0, 1), (99, .lreturn, 1), (100, .iload_n 2, 1), (101, .bipush 50, 2), (103, .if_icmp .ne 20, 3), (106, .aload_n 0, 1), (107, .getfield 28, 3), (110, .sipush 2871, 3), (113, .aload_n 0, 1), (114, .getfield 273, 3), (117, .iadd, 1), (118, .iconst 1, 1), (119, .isub, 1), (120, .iaload, 1), (121, .i2l, 1), (122, .lreturn, 1), (123, .aload_n 0, 1), (124, .getfield 303, 3), (127, .ifCond .eq 13, 3), (130, .aload_n 0, 1), (131, .iload_n 2, 1), (132, .iload_n 3, 1), (133, .invokevirtual 306, 3), (136, .i2l, 1), (137, .goto 13, 3), (140, .aload_n 0, 1), (141, .getfield 63, 3), (144, .iload_n 2, 1), (145, .bipush 8, 2), (147, .isub, 1), (148, .iaload, 1), (149, .i2l, 1), (150, .lreturn, 1)]
theorem zd_X12_partOf : zq_ckC cX12_partOf zc_X12_partOf = true := by decide +kernel
theorem zp_X12_partOf : zq_pn yX12_partOf 1 = true := by decide +kernel
set_option maxRecDepth 1000000 in
theorem zn_X12_partOf : Cond.instanceMethod yX12_partOf ∈ zt := zw_t6 (i := 113) rfl rfl
theorem ze_X12_partOf : Cond.selects RX12 yX12_partOf yX12_partOf ∈ zt := zq_hw_ok (i := 51) (by decide +kernel)
set_option maxRecDepth 1000000 in
theorem zk_X12_bounded : Cond.code yX12_bounded cX12_bounded 4 (some .long) ∈ zt := zw_t6 (i := 133) rfl rfl
noncomputable def zc_X12_bounded : zq_Cd := [(0, .iload_n 3, 1), (1, .ifCond .eq 24, 3), (4, .lload_n 1, 1), (5, .ldc2_w 279, 3), (8, .lcmp, 1), (9, .ifCond .gt 11, 3), (12, .lload_n 1, 1), (13, .ldc2_w 281, 3), (16, .lcmp, 1), (17, .ifCond .ge 8, 3), (20, .aload_n 0, 1), (21, .iconst 1, 1), (22, .putfield 283, 3), (25, .aload_n 0, 1), (26, .getfield 283, 3), (29, .ifCond .eq 7, 3), (32, .lconst 0, 1), (33, .goto 4, 3), (36, .lload_n 1, 1), (37, .lreturn, 1)]
theorem zd_X12_bounded : zq_ckC cX12_bounded zc_X12_bounded = true := by decide +kernel
theorem zp_X12_bounded : zq_pn yX12_bounded 2 = true := by decide +kernel
set_option maxRecDepth 1000000 in
theorem zn_X12_bounded : Cond.instanceMethod yX12_bounded ∈ zt := zw_t6 (i := 132) rfl rfl
theorem ze_X12_bounded : Cond.selects RX12 yX12_bounded yX12_bounded ∈ zt := zq_hw_ok (i := 55) (by decide +kernel)
set_option maxRecDepth 1000000 in
theorem zk_X12_termOf : Cond.code yX12_termOf cX12_termOf 7 (some .long) ∈ zt := zw_t6 (i := 110) rfl rfl
noncomputable def zc_X12_termOf : zq_Cd := [(0, .aload_n 0, 1), (1, .iload_n 1, 1), (2, .invokevirtual 294, 3), (5, .lstore_n 2, 1), (6, .aload_n 0, 1), (7, .aload_n 0, 1), (8, .getfield 273, 3), (11, .invokevirtual 276, 3), (14, .bipush 42, 2), (16, .invokestatic 232, 3), (19, .if_icmp .eq 35, 3), (22, .aload_n 0, 1), (23, .aload_n 0, 1), (24, .getfield 273, 3), (27, .invokevirtual 276, 3), (30, .bipush 47, 2), (32, .invokestatic 232, 3), (35, .if_icmp .eq 19, 3), (38, .aload_n 0, 1), (39, .aload_n 0, 1), (40, .getfield 273, 3), (43, .invokevirtual 276, 3), (46, .bipush 37, 2), (48, .invokestatic 232, 3), (51, .if_icmp .ne 117, 3), (54, .aload_n 0, 1), (55, .aload_n 0, 1), (56, .getfield 273, 3), (59, .invokevirtual 276, 3), (62, .istore 4, 2), (64, .aload_n 0, 1), (65, .dup, 1), (66, .getfield 273, 3), (69, .iconst 1, 1), (70, .iadd, 1), (71, .putfield 273, 3), (74, .aload_n 0, 1), (75, .iload_n 1, 1), (76, .invokevirtual 294, 3), (79, .lstore 5, 2), (81, .iload 4, 2), (83, .bipush 42, 2), (85, .invokestatic 232, 3), (88, .if_icmp .eq 33, 3), (91, .lload 5, 2), (93, .lconst 0, 1), (94, .lcmp, 1), (95, .ifCond .ne 26, 3), (98, .aload_n 0, 1), (99, .aload_n 0, 1), (100, .getfield 283, 3), (103, .ifCond .ne 7, 3), (106, .iload_n 1, 1), (107, .ifCond .eq 7, 3), (110, .iconst 1, 1), (111, .goto 4, 3), (114, .iconst 0, 1), (115, .putfield 283, 3), (118, .lconst 1, 1), (119, .lstore 5, 2), (121, .aload_n 0, 1), (122, .iload 4, 2), (124, .bipush 42, 2), (126, .invokestatic 232, 3), (129, .if_icmp .ne 10, 3), (132, .lload_n 2, 1), (133, .lload 5, 2), (135, .lmul, 1), (136, .goto 24, 3), (139, .iload 4, 2), (141, .bipush 47, 2), (143, .invokestatic 232, 3), (146, .if_icmp .ne 10, 3), (149, .lload_n 2, 1), (150, .lload 5, 2), (152, .ldiv, 1), (153, .goto 7, 3), (156, .lload_n 2, 1), (157, .lload 5, 2), (159, .lrem, 1), (160, .iload_n 1, 1), (161, .invokevirtual 290, 3), (164, .lstore_n 2, 1), (165, .goto (-159), 3), (168, .lload_n 2, 1), (169, .lreturn, 1)]
theorem zd_X12_termOf : zq_ckC cX12_termOf zc_X12_termOf = true := by decide +kernel
theorem zp_X12_termOf : zq_pn yX12_termOf 1 = true := by decide +kernel
set_option maxRecDepth 1000000 in
theorem zn_X12_termOf : Cond.instanceMethod yX12_termOf ∈ zt := zw_t6 (i := 109) rfl rfl
theorem ze_X12_termOf : Cond.selects RX12 yX12_termOf yX12_termOf ∈ zt := zq_hw_ok (i := 50) (by decide +kernel)
set_option maxRecDepth 1000000 in
theorem zk_X12_sumOf : Cond.code yX12_sumOf cX12_sumOf 7 (some .long) ∈ zt := zw_t6 (i := 106) rfl rfl
noncomputable def zc_X12_sumOf : zq_Cd := [(0, .aload_n 0, 1), (1, .iload_n 1, 1), (2, .invokevirtual 286, 3), (5, .lstore_n 2, 1), (6, .aload_n 0, 1), (7, .aload_n 0, 1), (8, .getfield 273, 3), (11, .invokevirtual 276, 3), (14, .bipush 43, 2), (16, .invokestatic 232, 3), (19, .if_icmp .eq 19, 3), (22, .aload_n 0, 1), (23, .aload_n 0, 1), (24, .getfield 273, 3), (27, .invokevirtual 276, 3), (30, .bipush 45, 2), (32, .invokestatic 232, 3), (35, .if_icmp .ne 68, 3), (38, .aload_n 0, 1), (39, .aload_n 0, 1), (40, .getfield 273, 3), (43, .invokevirtual 276, 3), (46, .bipush 43, 2), (48, .invokestatic 232, 3), (51, .if_icmp .ne 7, 3), (54, .iconst 1, 1), (55, .goto 4, 3), (58, .iconst 0, 1), (59, .istore 4, 2), (61, .aload_n 0, 1), (62, .dup, 1), (63, .getfield 273, 3), (66, .iconst 1, 1), (67, .iadd, 1), (68, .putfield 273, 3), (71, .aload_n 0, 1), (72, .iload_n 1, 1), (73, .invokevirtual 286, 3), (76, .lstore 5, 2), (78, .aload_n 0, 1), (79, .iload 4, 2), (81, .ifCond .eq 10, 3), (84, .lload_n 2, 1), (85, .lload 5, 2), (87, .ladd, 1), (88, .goto 7, 3), (91, .lload_n 2, 1), (92, .lload 5, 2), (94, .lsub, 1), (95, .iload_n 1, 1), (96, .invokevirtual 290, 3), (99, .lstore_n 2, 1), (100, .goto (-94), 3), (103, .lload_n 2, 1), (104, .lreturn, 1)]
theorem zd_X12_sumOf : zq_ckC cX12_sumOf zc_X12_sumOf = true := by decide +kernel
theorem zp_X12_sumOf : zq_pn yX12_sumOf 1 = true := by decide +kernel
set_option maxRecDepth 1000000 in
theorem zn_X12_sumOf : Cond.instanceMethod yX12_sumOf ∈ zt := zw_t6 (i := 105) rfl rfl
theorem ze_X12_sumOf : Cond.selects RX12 yX12_sumOf yX12_sumOf ∈ zt := zq_hw_ok (i := 49) (by decide +kernel)
set_option maxRecDepth 1000000 in
theorem zk_X12_positiveOf : Cond.code yX12_positiveOf cX12_positiveOf 7 (some .boolean) ∈ zt := zw_t6 (i := 151) rfl rfl
noncomputable def zc_X12_positiveOf : zq_Cd := [(0, .aload_n 0, 1), (1, .bipush 40, 2), (3, .invokestatic 232, 3), (6, .invokevirtual 297, 3), (9, .ifCond .eq 21, 3), (12, .aload_n 0, 1), (13, .iload_n 1, 1), (14, .invokevirtual 327, 3), (17, .istore_n 2, 1), (18, .aload_n 0, 1), (19, .dup, 1), (20, .getfield 273, 3), (23, .iconst 1, 1), (24, .iadd, 1), (25, .putfield 273, 3), (28, .iload_n 2, 1), (29, .ireturn, 1), (30, .aload_n 0, 1), (31, .iload_n 1, 1), (32, .invokevirtual 300, 3), (35, .lstore_n 2, 1), (36, .aload_n 0, 1), (37, .aload_n 0, 1), (38, .getfield 273, 3), (41, .invokevirtual 276, 3), (44, .istore 4, 2), (46, .aload_n 0, 1), (47, .dup, 1), (48, .getfield 273, 3), (51, .iconst 1, 1), (52, .iadd, 1), (53, .putfield 273, 3), (56, .aload_n 0, 1), (57, .iload_n 1, 1), (58, .invokevirtual 300, 3), (61, .lstore 5, 2), (63, .iload_n 1, 1), (64, .ifCond .eq 61, 3), (67, .aload_n 0, 1), (68, .getfield 283, 3), (71, .ifCond .ne 54, 3), (74, .iload 4, 2), (76, .bipush 60, 2), (78, .invokestatic 232, 3), (81, .if_icmp .ne 13, 3), (84, .lload_n 2, 1), (85, .lload 5, 2), (87, .lcmp, 1), (88, .ifCond .ge 37, 3), (91, .goto 30, 3), (94, .iload 4, 2), (96, .bipush 62, 2), (98, .invokestatic 232, 3), (101, .if_icmp .ne 13, 3), (104, .lload_n 2, 1), (105, .lload 5, 2), (107, .lcmp, 1), (108, .ifCond .le 17, 3), (111, .goto 10, 3), (114, .lload_n 2, 1), (115, .lload 5, 2), (117, .lcmp, 1), (118, .ifCond .ne 7, 3), (121, .iconst 1, 1), (122, .goto 4, 3), (125, .iconst 0, 1), (126, .ireturn, 1)]
theorem zd_X12_positiveOf : zq_ckC cX12_positiveOf zc_X12_positiveOf = true := by decide +kernel
theorem zp_X12_positiveOf : zq_pn yX12_positiveOf 1 = true := by decide +kernel
set_option maxRecDepth 1000000 in
theorem zn_X12_positiveOf : Cond.instanceMethod yX12_positiveOf ∈ zt := zw_t6 (i := 150) rfl rfl
theorem ze_X12_positiveOf : Cond.selects RX12 yX12_positiveOf yX12_positiveOf ∈ zt := zq_hw_ok (i := 59) (by decide +kernel)
set_option maxRecDepth 1000000 in
theorem zk_X12_plainOf : Cond.code yX12_plainOf cX12_plainOf 3 (some .boolean) ∈ zt := zw_t6 (i := 147) rfl rfl
noncomputable def zc_X12_plainOf : zq_Cd := [(0, .iconst 0, 1), (1, .istore_n 2, 1), (2, .aload_n 0, 1), (3, .bipush 7, 2), (5, .invokevirtual 297, 3), (8, .ifCond .eq 16, 3), (11, .iload_n 2, 1), (12, .ifCond .ne 7, 3), (15, .iconst 1, 1), (16, .goto 4, 3), (19, .iconst 0, 1), (20, .istore_n 2, 1), (21, .goto (-19), 3), (24, .aload_n 0, 1), (25, .iload_n 1, 1), (26, .invokevirtual 324, 3), (29, .iload_n 2, 1), (30, .if_icmp .eq 7, 3), (33, .iconst 1, 1), (34, .goto 4, 3), (37, .iconst 0, 1), (38, .ireturn, 1)]
theorem zd_X12_plainOf : zq_ckC cX12_plainOf zc_X12_plainOf = true := by decide +kernel
theorem zp_X12_plainOf : zq_pn yX12_plainOf 1 = true := by decide +kernel
set_option maxRecDepth 1000000 in
theorem zn_X12_plainOf : Cond.instanceMethod yX12_plainOf ∈ zt := zw_t6 (i := 146) rfl rfl
theorem ze_X12_plainOf : Cond.selects RX12 yX12_plainOf yX12_plainOf ∈ zt := zq_hw_ok (i := 58) (by decide +kernel)
set_option maxRecDepth 1000000 in
theorem zk_X12_bothOf : Cond.code yX12_bothOf cX12_bothOf 4 (some .boolean) ∈ zt := zw_t6 (i := 143) rfl rfl
noncomputable def zc_X12_bothOf : zq_Cd := [(0, .aload_n 0, 1), (1, .iload_n 1, 1), (2, .invokevirtual 321, 3), (5, .istore_n 2, 1), (6, .aload_n 0, 1), (7, .bipush 6, 2), (9, .invokevirtual 297, 3), (12, .ifCond .eq 38, 3), (15, .aload_n 0, 1), (16, .iload_n 1, 1), (17, .ifCond .eq 11, 3), (20, .iload_n 2, 1), (21, .ifCond .eq 7, 3), (24, .iconst 1, 1), (25, .goto 4, 3), (28, .iconst 0, 1), (29, .invokevirtual 321, 3), (32, .istore_n 3, 1), (33, .iload_n 2, 1), (34, .ifCond .eq 11, 3), (37, .iload_n 3, 1), (38, .ifCond .eq 7, 3), (41, .iconst 1, 1), (42, .goto 4, 3), (45, .iconst 0, 1), (46, .istore_n 2, 1), (47, .goto (-41), 3), (50, .iload_n 2, 1), (51, .ireturn, 1)]
theorem zd_X12_bothOf : zq_ckC cX12_bothOf zc_X12_bothOf = true := by decide +kernel
theorem zp_X12_bothOf : zq_pn yX12_bothOf 1 = true := by decide +kernel
set_option maxRecDepth 1000000 in
theorem zn_X12_bothOf : Cond.instanceMethod yX12_bothOf ∈ zt := zw_t6 (i := 142) rfl rfl
theorem ze_X12_bothOf : Cond.selects RX12 yX12_bothOf yX12_bothOf ∈ zt := zq_hw_ok (i := 57) (by decide +kernel)
set_option maxRecDepth 1000000 in
theorem zk_X12_testOf : Cond.code yX12_testOf cX12_testOf 4 (some .boolean) ∈ zt := zw_t6 (i := 139) rfl rfl
noncomputable def zc_X12_testOf : zq_Cd := [(0, .aload_n 0, 1), (1, .iload_n 1, 1), (2, .invokevirtual 318, 3), (5, .istore_n 2, 1), (6, .aload_n 0, 1), (7, .iconst 5, 1), (8, .invokevirtual 297, 3), (11, .ifCond .eq 38, 3), (14, .aload_n 0, 1), (15, .iload_n 1, 1), (16, .ifCond .eq 11, 3), (19, .iload_n 2, 1), (20, .ifCond .ne 7, 3), (23, .iconst 1, 1), (24, .goto 4, 3), (27, .iconst 0, 1), (28, .invokevirtual 318, 3), (31, .istore_n 3, 1), (32, .iload_n 2, 1), (33, .ifCond .ne 7, 3), (36, .iload_n 3, 1), (37, .ifCond .eq 7, 3), (40, .iconst 1, 1), (41, .goto 4, 3), (44, .iconst 0, 1), (45, .istore_n 2, 1), (46, .goto (-40), 3), (49, .iload_n 2, 1), (50, .ireturn, 1)]
theorem zd_X12_testOf : zq_ckC cX12_testOf zc_X12_testOf = true := by decide +kernel
theorem zp_X12_testOf : zq_pn yX12_testOf 1 = true := by decide +kernel
set_option maxRecDepth 1000000 in
theorem zn_X12_testOf : Cond.instanceMethod yX12_testOf ∈ zt := zw_t6 (i := 138) rfl rfl
theorem ze_X12_testOf : Cond.selects RX12 yX12_testOf yX12_testOf ∈ zt := zq_hw_ok (i := 56) (by decide +kernel)
set_option maxRecDepth 1000000 in
theorem zk_X12_tells : Cond.code yX12_tells cX12_tells 9 (some .long) ∈ zt := zw_t6 (i := 97) rfl rfl
noncomputable def zc_X12_tells : zq_Cd := [(0, .aload_n 0, 1), (1, .getfield 28, 3), (4, .bipush 63, 2), (6, .iaload, 1), (7, .iconst (-1), 1), (8, .if_icmp .ne 7, 3), (11, .ldc2_w 330, 3), (14, .lreturn, 1), (15, .aload_n 0, 1), (16, .iconst 0, 1), (17, .putfield 303, 3), (20, .ldc2_w 330, 3), (23, .lstore_n 2, 1), (24, .aload_n 0, 1), (25, .sipush 400, 3), (28, .aload_n 0, 1), (29, .getfield 28, 3), (32, .bipush 63, 2), (34, .iaload, 1), (35, .imul, 1), (36, .putfield 273, 3), (39, .aload_n 0, 1), (40, .aload_n 0, 1), (41, .getfield 273, 3), (44, .aload_n 0, 1), (45, .getfield 28, 3), (48, .bipush 64, 2), (50, .aload_n 0, 1), (51, .getfield 28, 3), (54, .bipush 63, 2), (56, .iaload, 1), (57, .iadd, 1), (58, .iaload, 1), (59, .iadd, 1), (60, .putfield 270, 3), (63, .aload_n 0, 1), (64, .getfield 273, 3), (67, .aload_n 0, 1), (68, .getfield 270, 3), (71, .if_icmp .ge 118, 3), (74, .aload_n 0, 1), (75, .aload_n 0, 1), (76, .getfield 273, 3), (79, .invokevirtual 276, 3), (82, .istore 4, 2), (84, .aload_n 0, 1), (85, .iconst 0, 1), (86, .putfield 283, 3), (89, .aload_n 0, 1), (90, .dup, 1), (91, .getfield 273, 3), (94, .iconst 1, 1), (95, .iadd, 1), (96, .putfield 273, 3), (99, .iload 4, 2), (101, .iconst 3, 1), (102, .if_icmp .ne 7, 3), (105, .lconst 1, 1), (106, .goto 8, 3), (109, .aload_n 0, 1), (110, .iconst 1, 1), (111, .invokevirtual 300, 3), (114, .lstore 5, 2), (116, .aload_n 0, 1), (117, .getfield 283, 3), (120, .istore 7, 2), (122, .aload_n 0, 1), (123, .iconst 0, 1), (124, .putfield 283, 3), (127, .aload_n 0, 1), (128, .iconst 4, 1), (129, .invokevirtual 297, 3), (132, .ifCond .eq 11, 3), (135, .aload_n 0, 1), (136, .iconst 1, 1), (137, .invokevirtual 327, 3), (140, .ifCond .eq 7, 3), (143, .iconst 1, 1), (144, .goto 4, 3), (147, .iconst 0, 1), (148, .istore 8, 2), (150, .iload 4, 2), (152, .iload_n 1, 1), (153, .if_icmp .ne 23, 3), (156, .iload 8, 2), (158, .ifCond .eq 18, 3), (161, .aload_n 0, 1), (162, .getfield 283, 3), (165, .ifCond .ne 11, 3), (168, .iload 7, 2), (170, .ifCond .ne 6, 3), (173, .lload 5, 2), (175, .lstore_n 2, 1), (176, .aload_n 0, 1), (177, .dup, 1), (178, .getfield 273, 3), (181, .iconst 1, 1), (182, .iadd, 1), (183, .putfield 273, 3), (186, .goto (-123), 3), (189, .lload_n 2, 1), (190, .lreturn, 1)]
theorem zd_X12_tells : zq_ckC cX12_tells zc_X12_tells = true := by decide +kernel
theorem zp_X12_tells : zq_pn yX12_tells 1 = true := by decide +kernel
set_option maxRecDepth 1000000 in
theorem zn_X12_tells : Cond.instanceMethod yX12_tells ∈ zt := zw_t6 (i := 96) rfl rfl
theorem ze_X12_tells : Cond.selects RX12 yX12_tells yX12_tells ∈ zt := zq_hw_ok (i := 47) (by decide +kernel)
set_option maxRecDepth 1000000 in
theorem zk_X12_owesFor : Cond.code yX12_owesFor cX12_owesFor 6 (some .int) ∈ zt := zw_t6 (i := 89) rfl rfl
noncomputable def zc_X12_owesFor : zq_Cd := [(0, .aload_n 0, 1), (1, .iload_n 1, 1), (2, .iload_n 2, 1), (3, .iload_n 3, 1), (4, .aload_n 0, 1), (5, .getfield 28, 3), (8, .bipush 10, 2), (10, .iaload, 1), (11, .invokevirtual 332, 3), (14, .aload_n 0, 1), (15, .iconst 2, 1), (16, .invokevirtual 336, 3), (19, .lstore 4, 2), (21, .lload 4, 2), (23, .ldc2_w 330, 3), (26, .lcmp, 1), (27, .ifCond .ne 13, 3), (30, .aload_n 0, 1), (31, .getfield 28, 3), (34, .bipush 27, 2), (36, .iload_n 1, 1), (37, .iadd, 1), (38, .iaload, 1), (39, .ireturn, 1), (40, .lload 4, 2), (42, .lconst 0, 1), (43, .lcmp, 1), (44, .ifCond .ge 7, 3), (47, .iconst 0, 1), (48, .goto 20, 3), (51, .lload 4, 2), (53, .ldc2_w 340, 3), (56, .lcmp, 1), (57, .ifCond .le 8, 3), (60, .bipush 99, 2), (62, .goto 6, 3), (65, .lload 4, 2), (67, .l2i, 1), (68, .ireturn, 1)]
theorem zd_X12_owesFor : zq_ckC cX12_owesFor zc_X12_owesFor = true := by decide +kernel
theorem zp_X12_owesFor : zq_pn yX12_owesFor 3 = true := by decide +kernel
set_option maxRecDepth 1000000 in
theorem zn_X12_owesFor : Cond.instanceMethod yX12_owesFor ∈ zt := zw_t6 (i := 88) rfl rfl
theorem ze_X12_owesFor : Cond.selects RX12 yX12_owesFor yX12_owesFor ∈ zt := zq_hw_ok (i := 45) (by decide +kernel)
set_option maxRecDepth 1000000 in
theorem zk_X12_whoOn : Cond.code yX12_whoOn cX12_whoOn 7 (some .int) ∈ zt := zw_t6 (i := 156) rfl rfl
noncomputable def zc_X12_whoOn : zq_Cd := [(0, .aload_n 0, 1), (1, .iload_n 1, 1), (2, .iload_n 2, 1), (3, .iload_n 3, 1), (4, .iload 4, 2), (6, .invokevirtual 332, 3), (9, .aload_n 0, 1), (10, .iconst 3, 1), (11, .invokevirtual 336, 3), (14, .ldc2_w 330, 3), (17, .lcmp, 1), (18, .ifCond .eq 6, 3), (21, .bipush 7, 2), (23, .ireturn, 1), (24, .aload_n 0, 1), (25, .iconst 1, 1), (26, .invokevirtual 336, 3), (29, .lstore 5, 2), (31, .lload 5, 2), (33, .ldc2_w 330, 3), (36, .lcmp, 1), (37, .ifCond .ne 5, 3), (40, .iload_n 2, 1), (41, .ireturn, 1), (42, .lload 5, 2), (44, .lconst 0, 1), (45, .lcmp, 1), (46, .ifCond .lt 14, 3), (49, .lload 5, 2), (51, .aload_n 0, 1), (52, .invokevirtual 115, 3), (55, .i2l, 1), (56, .lcmp, 1), (57, .ifCond .lt 8, 3), (60, .bipush 6, 2), (62, .goto 6, 3), (65, .lload 5, 2), (67, .l2i, 1), (68, .ireturn, 1)]
theorem zd_X12_whoOn : zq_ckC cX12_whoOn zc_X12_whoOn = true := by decide +kernel
theorem zp_X12_whoOn : zq_pn yX12_whoOn 4 = true := by decide +kernel
set_option maxRecDepth 1000000 in
theorem zn_X12_whoOn : Cond.instanceMethod yX12_whoOn ∈ zt := zw_t6 (i := 155) rfl rfl
theorem ze_X12_whoOn : Cond.selects RX12 yX12_whoOn yX12_whoOn ∈ zt := zq_hw_ok (i := 60) (by decide +kernel)
set_option maxRecDepth 1000000 in
theorem zk_X12_asks : Cond.code yX12_asks cX12_asks 5 (some .int) ∈ zt := zw_t6 (i := 81) rfl rfl
noncomputable def zc_X12_asks : zq_Cd := [(0, .aload_n 0, 1), (1, .iload_n 1, 1), (2, .iload_n 2, 1), (3, .iload_n 3, 1), (4, .invokevirtual 144, 3), (7, .ifCond .ne 5, 3), (10, .iconst (-1), 1), (11, .ireturn, 1), (12, .iload 4, 2), (14, .lookupswitch 59 #[(0, 26), (1, 34)], 26), (40, .aload_n 0, 1), (41, .iload_n 1, 1), (42, .iload_n 2, 1), (43, .iload_n 3, 1), (44, .invokevirtual 147, 3), (47, .ireturn, 1), (48, .aload_n 0, 1), (49, .iload_n 1, 1), (50, .iload_n 2, 1), (51, .iload_n 3, 1), (52, .aload_n 0, 1), (53, .getfield 28, 3), (56, .bipush 10, 2), (58, .iaload, 1), (59, .invokevirtual 151, 3), (62, .bipush 7, 2), (64, .if_icmp .ne 7, 3), (67, .iconst 1, 1), (68, .goto 4, 3), (71, .iconst 0, 1), (72, .ireturn, 1), (73, .iconst (-1), 1), (74, .ireturn, 1)]
theorem zd_X12_asks : zq_ckC cX12_asks zc_X12_asks = true := by decide +kernel
theorem zp_X12_asks : zq_pn yX12_asks 4 = true := by decide +kernel
set_option maxRecDepth 1000000 in
theorem zn_X12_asks : Cond.instanceMethod yX12_asks ∈ zt := zw_t6 (i := 79) rfl rfl
set_option maxRecDepth 1000000 in
theorem ze_X12_asks : Cond.selects RX12 yX12_asks yX12_asks ∈ zt := zw_t6 (i := 80) rfl rfl
set_option maxRecDepth 1000000 in
theorem zk_X12_isTerm : Cond.code yX12_isTerm cX12_isTerm 2 (some .boolean) ∈ zt := zw_t6 (i := 163) rfl rfl
noncomputable def zc_X12_isTerm : zq_Cd := [(0, .iload_n 0, 1), (1, .tableswitch 52 0 2 #[27, 36, 44], 27), (28, .iload_n 1, 1), (29, .iconst 0, 1), (30, .sipush 999, 3), (33, .invokestatic 18, 3), (36, .ireturn, 1), (37, .iload_n 1, 1), (38, .iconst 0, 1), (39, .bipush 10, 2), (41, .invokestatic 18, 3), (44, .ireturn, 1), (45, .iload_n 1, 1), (46, .iconst 0, 1), (47, .bipush 9, 2), (49, .invokestatic 18, 3), (52, .ireturn, 1), (53, .iconst 0, 1), (54, .ireturn, 1)]
theorem zd_X12_isTerm : zq_ckC cX12_isTerm zc_X12_isTerm = true := by decide +kernel
theorem zp_X12_isTerm : zq_pn yX12_isTerm 2 = true := by decide +kernel
set_option maxRecDepth 1000000 in
theorem zs_X12_isTerm : Cond.static yX12_isTerm ∈ zt := zw_t6 (i := 162) rfl rfl
set_option maxRecDepth 1000000 in
theorem zk_X12_termAt : Cond.code yX12_termAt cX12_termAt 1 (some .int) ∈ zt := zw_t6 (i := 166) rfl rfl
noncomputable def zc_X12_termAt : zq_Cd := [(0, .iload_n 0, 1), (1, .ifCond .ne 8, 3), (4, .bipush 10, 2), (6, .goto 15, 3), (9, .iload_n 0, 1), (10, .iconst 1, 1), (11, .if_icmp .ne 8, 3), (14, .bipush 57, 2), (16, .goto 5, 3), (19, .bipush 58, 2), (21, .ireturn, 1)]
theorem zd_X12_termAt : zq_ckC cX12_termAt zc_X12_termAt = true := by decide +kernel
theorem zp_X12_termAt : zq_pn yX12_termAt 1 = true := by decide +kernel
set_option maxRecDepth 1000000 in
theorem zs_X12_termAt : Cond.static yX12_termAt ∈ zt := zw_t6 (i := 165) rfl rfl
set_option maxRecDepth 1000000 in
theorem zk_X12_terms : Cond.code yX12_terms cX12_terms 4 (some .int) ∈ zt := zw_t6 (i := 160) rfl rfl
noncomputable def zc_X12_terms : zq_Cd := [(0, .iload_n 1, 1), (1, .iload_n 2, 1), (2, .invokestatic 155, 3), (5, .ifCond .ne 9, 3), (8, .aload_n 0, 1), (9, .iconst (-1), 1), (10, .invokevirtual 109, 3), (13, .ireturn, 1), (14, .aload_n 0, 1), (15, .getfield 28, 3), (18, .iload_n 1, 1), (19, .invokestatic 158, 3), (22, .iaload, 1), (23, .istore_n 3, 1), (24, .aload_n 0, 1), (25, .getfield 28, 3), (28, .iload_n 1, 1), (29, .invokestatic 158, 3), (32, .iload_n 2, 1), (33, .iastore, 1), (34, .aload_n 0, 1), (35, .iload_n 3, 1), (36, .invokevirtual 112, 3), (39, .ireturn, 1)]
theorem zd_X12_terms : zq_ckC cX12_terms zc_X12_terms = true := by decide +kernel
theorem zp_X12_terms : zq_pn yX12_terms 2 = true := by decide +kernel
set_option maxRecDepth 1000000 in
theorem zn_X12_terms : Cond.instanceMethod yX12_terms ∈ zt := zw_t6 (i := 158) rfl rfl
set_option maxRecDepth 1000000 in
theorem ze_X12_terms : Cond.selects RX12 yX12_terms yX12_terms ∈ zt := zw_t6 (i := 159) rfl rfl
set_option maxRecDepth 1000000 in
theorem zk_X12_row : Cond.code yX12_row cX12_row 5 (some .int) ∈ zt := zw_t6 (i := 170) rfl rfl
noncomputable def zc_X12_row : zq_Cd := [(0, .aload_n 0, 1), (1, .getfield 161, 3), (4, .istore_n 1, 1), (5, .aload_n 0, 1), (6, .iconst 0, 1), (7, .putfield 161, 3), (10, .iload_n 1, 1), (11, .ifCond .ne 10, 3), (14, .aload_n 0, 1), (15, .bipush (-6), 2), (17, .invokevirtual 109, 3), (20, .ireturn, 1), (21, .iconst 0, 1), (22, .istore_n 2, 1), (23, .aload_n 0, 1), (24, .iload_n 1, 1), (25, .iconst 2, 1), (26, .irem, 1), (27, .putfield 164, 3), (30, .iconst 0, 1), (31, .istore_n 3, 1), (32, .iload_n 3, 1), (33, .iconst 2, 1), (34, .iadd, 1), (35, .iload_n 1, 1), (36, .if_icmp .gt 103, 3), (39, .aload_n 0, 1), (40, .getfield 28, 3), (43, .bipush 60, 2), (45, .iaload, 1), (46, .bipush 6, 2), (48, .if_icmp .ge 27, 3), (51, .aload_n 0, 1), (52, .getfield 45, 3), (55, .iload_n 3, 1), (56, .baload, 1), (57, .aload_n 0, 1), (58, .getfield 45, 3), (61, .iload_n 3, 1), (62, .iconst 1, 1), (63, .iadd, 1), (64, .baload, 1), (65, .invokestatic 129, 3), (68, .ifCond .eq 7, 3), (71, .iconst 1, 1), (72, .goto 4, 3), (75, .iconst 0, 1), (76, .istore 4, 2), (78, .iload 4, 2), (80, .ifCond .eq 21, 3), (83, .aload_n 0, 1), (84, .aload_n 0, 1), (85, .getfield 45, 3), (88, .iload_n 3, 1), (89, .baload, 1), (90, .aload_n 0, 1), (91, .getfield 45, 3), (94, .iload_n 3, 1), (95, .iconst 1, 1), (96, .iadd, 1), (97, .baload, 1), (98, .invokevirtual 133, 3), (101, .iload_n 2, 1), (102, .iload 4, 2), (104, .ifCond .eq 7, 3), (107, .iconst 1, 1), (108, .goto 4, 3), (111, .iconst 0, 1), (112, .iadd, 1), (113, .istore_n 2, 1), (114, .aload_n 0, 1), (115, .dup, 1), (116, .getfield 164, 3), (119, .iload 4, 2), (121, .ifCond .eq 7, 3), (124, .iconst 0, 1), (125, .goto 4, 3), (128, .iconst 1, 1), (129, .iadd, 1), (130, .putfield 164, 3), (133, .iinc 3 2, 3), (136, .goto (-104), 3), (139, .aload_n 0, 1), (140, .iload_n 2, 1), (141, .invokevirtual 14, 3), (144, .ireturn, 1)]
theorem zd_X12_row : zq_ckC cX12_row zc_X12_row = true := by decide +kernel
theorem zp_X12_row : zq_pn yX12_row 0 = true := by decide +kernel
set_option maxRecDepth 1000000 in
theorem zn_X12_row : Cond.instanceMethod yX12_row ∈ zt := zw_t6 (i := 168) rfl rfl
set_option maxRecDepth 1000000 in
theorem ze_X12_row : Cond.selects RX12 yX12_row yX12_row ∈ zt := zw_t6 (i := 169) rfl rfl
set_option maxRecDepth 1000000 in
theorem zk_X12_blots : Cond.code yX12_blots cX12_blots 1 (some .int) ∈ zt := zw_t6 (i := 174) rfl rfl
noncomputable def zc_X12_blots : zq_Cd := [(0, .aload_n 0, 1), (1, .getfield 164, 3), (4, .ireturn, 1)]
theorem zd_X12_blots : zq_ckC cX12_blots zc_X12_blots = true := by decide +kernel
theorem zp_X12_blots : zq_pn yX12_blots 0 = true := by decide +kernel
set_option maxRecDepth 1000000 in
theorem zn_X12_blots : Cond.instanceMethod yX12_blots ∈ zt := zw_t6 (i := 172) rfl rfl
set_option maxRecDepth 1000000 in
theorem ze_X12_blots : Cond.selects RX12 yX12_blots yX12_blots ∈ zt := zw_t6 (i := 173) rfl rfl
set_option maxRecDepth 1000000 in
theorem zk_X12_feed : Cond.code yX12_feed cX12_feed 7 (some .int) ∈ zt := zw_t6 (i := 178) rfl rfl
noncomputable def zc_X12_feed : zq_Cd := [(0, .aload_n 0, 1), (1, .getfield 161, 3), (4, .bipush 20, 2), (6, .iadd, 1), (7, .sipush 400, 3), (10, .if_icmp .le 5, 3), (13, .iconst (-1), 1), (14, .ireturn, 1), (15, .aload_n 0, 1), (16, .getfield 48, 3), (19, .iconst 0, 1), (20, .iload_n 1, 1), (21, .iastore, 1), (22, .aload_n 0, 1), (23, .getfield 48, 3), (26, .iconst 1, 1), (27, .iload_n 2, 1), (28, .iastore, 1), (29, .aload_n 0, 1), (30, .getfield 48, 3), (33, .iconst 2, 1), (34, .iload_n 3, 1), (35, .iastore, 1), (36, .aload_n 0, 1), (37, .getfield 48, 3), (40, .iconst 3, 1), (41, .iload 4, 2), (43, .iastore, 1), (44, .aload_n 0, 1), (45, .getfield 48, 3), (48, .iconst 4, 1), (49, .iload 5, 2), (51, .iastore, 1), (52, .iconst 0, 1), (53, .istore 6, 2), (55, .iload 6, 2), (57, .bipush 20, 2), (59, .if_icmp .ge 42, 3), (62, .aload_n 0, 1), (63, .getfield 45, 3), (66, .aload_n 0, 1), (67, .getfield 161, 3), (70, .iload 6, 2), (72, .iadd, 1), (73, .aload_n 0, 1), (74, .getfield 48, 3), (77, .iload 6, 2), (79, .iconst 4, 1), (80, .idiv, 1), (81, .iaload, 1), (82, .bipush 24, 2), (84, .bipush 8, 2), (86, .iload 6, 2), (88, .iconst 4, 1), (89, .irem, 1), (90, .imul, 1), (91, .isub, 1), (92, .ishr, 1), (93, .i2b, 1), (94, .bastore, 1), (95, .iinc 6 1, 3), (98, .goto (-43), 3), (101, .aload_n 0, 1), (102, .dup, 1), (103, .getfield 161, 3), (106, .bipush 20, 2), (108, .iadd, 1), (109, .putfield 161, 3), (112, .aload_n 0, 1), (113, .getfield 161, 3), (116, .ireturn, 1)]
theorem zd_X12_feed : zq_ckC cX12_feed zc_X12_feed = true := by decide +kernel
theorem zp_X12_feed : zq_pn yX12_feed 5 = true := by decide +kernel
set_option maxRecDepth 1000000 in
theorem zn_X12_feed : Cond.instanceMethod yX12_feed ∈ zt := zw_t6 (i := 176) rfl rfl
set_option maxRecDepth 1000000 in
theorem ze_X12_feed : Cond.selects RX12 yX12_feed yX12_feed ∈ zt := zw_t6 (i := 177) rfl rfl
set_option maxRecDepth 1000000 in
theorem zk_X12_end : Cond.code yX12_end cX12_end 2 (some .int) ∈ zt := zw_t6 (i := 182) rfl rfl
noncomputable def zc_X12_end : zq_Cd := [(0, .iload_n 1, 1), (1, .iconst 0, 1), (2, .aload_n 0, 1), (3, .getfield 161, 3), (6, .invokestatic 18, 3), (9, .ifCond .ne 5, 3), (12, .iconst (-1), 1), (13, .ireturn, 1), (14, .aload_n 0, 1), (15, .iload_n 1, 1), (16, .putfield 161, 3), (19, .iload_n 1, 1), (20, .ireturn, 1)]
theorem zd_X12_end : zq_ckC cX12_end zc_X12_end = true := by decide +kernel
theorem zp_X12_end : zq_pn yX12_end 1 = true := by decide +kernel
set_option maxRecDepth 1000000 in
theorem zn_X12_end : Cond.instanceMethod yX12_end ∈ zt := zw_t6 (i := 180) rfl rfl
set_option maxRecDepth 1000000 in
theorem ze_X12_end : Cond.selects RX12 yX12_end yX12_end ∈ zt := zw_t6 (i := 181) rfl rfl
set_option maxRecDepth 1000000 in
theorem zk_X12_isSmall : Cond.code yX12_isSmall cX12_isSmall 1 (some .boolean) ∈ zt := zw_t6 (i := 201) rfl rfl
noncomputable def zc_X12_isSmall : zq_Cd := [(0, .iload_n 0, 1), (1, .bipush 97, 2), (3, .if_icmp .lt 13, 3), (6, .iload_n 0, 1), (7, .bipush 122, 2), (9, .if_icmp .gt 7, 3), (12, .iconst 1, 1), (13, .goto 4, 3), (16, .iconst 0, 1), (17, .ireturn, 1)]
theorem zd_X12_isSmall : zq_ckC cX12_isSmall zc_X12_isSmall = true := by decide +kernel
theorem zp_X12_isSmall : zq_pn yX12_isSmall 1 = true := by decide +kernel
set_option maxRecDepth 1000000 in
theorem zs_X12_isSmall : Cond.static yX12_isSmall ∈ zt := zw_t6 (i := 200) rfl rfl
set_option maxRecDepth 1000000 in
theorem zk_X12_isDigit : Cond.code yX12_isDigit cX12_isDigit 1 (some .boolean) ∈ zt := zw_t6 (i := 204) rfl rfl
noncomputable def zc_X12_isDigit : zq_Cd := [(0, .iload_n 0, 1), (1, .bipush 48, 2), (3, .if_icmp .lt 13, 3), (6, .iload_n 0, 1), (7, .bipush 57, 2), (9, .if_icmp .gt 7, 3), (12, .iconst 1, 1), (13, .goto 4, 3), (16, .iconst 0, 1), (17, .ireturn, 1)]
theorem zd_X12_isDigit : zq_ckC cX12_isDigit zc_X12_isDigit = true := by decide +kernel
theorem zp_X12_isDigit : zq_pn yX12_isDigit 1 = true := by decide +kernel
set_option maxRecDepth 1000000 in
theorem zs_X12_isDigit : Cond.static yX12_isDigit ∈ zt := zw_t6 (i := 203) rfl rfl
set_option maxRecDepth 1000000 in
theorem zk_X12_wordOf : Cond.code yX12_wordOf cX12_wordOf 8 (some .int) ∈ zt := zw_t6 (i := 208) rfl rfl
noncomputable def zc_X12_wordOf : zq_Cd := [(0, .iconst 1, 1), (1, .istore_n 3, 1), (2, .iconst 0, 1), (3, .istore 4, 2), (5, .iload 4, 2), (7, .aload_n 0, 1), (8, .getfield 41, 3), (11, .arraylength, 1), (12, .if_icmp .ge 114, 3), (15, .iconst 0, 1), (16, .istore 5, 2), (18, .aload_n 0, 1), (19, .getfield 41, 3), (22, .iload 4, 2), (24, .iload 5, 2), (26, .iadd, 1), (27, .baload, 1), (28, .bipush 32, 2), (30, .if_icmp .eq 9, 3), (33, .iinc 5 1, 3), (36, .goto (-18), 3), (39, .iload 5, 2), (41, .iload_n 2, 1), (42, .iload_n 1, 1), (43, .isub, 1), (44, .if_icmp .ne 7, 3), (47, .iconst 1, 1), (48, .goto 4, 3), (51, .iconst 0, 1), (52, .istore 6, 2), (54, .iconst 0, 1), (55, .istore 7, 2), (57, .iload 7, 2), (59, .iload 5, 2), (61, .if_icmp .ge 43, 3), (64, .iload 6, 2), (66, .ifCond .eq 38, 3), (69, .aload_n 0, 1), (70, .getfield 41, 3), (73, .iload 4, 2), (75, .iload 7, 2), (77, .iadd, 1), (78, .baload, 1), (79, .aload_n 0, 1), (80, .getfield 45, 3), (83, .iload_n 1, 1), (84, .iload 7, 2), (86, .iadd, 1), (87, .baload, 1), (88, .if_icmp .ne 7, 3), (91, .iconst 1, 1), (92, .goto 4, 3), (95, .iconst 0, 1), (96, .istore 6, 2), (98, .iinc 7 1, 3), (101, .goto (-44), 3), (104, .iload 6, 2), (106, .ifCond .eq 5, 3), (109, .iload_n 3, 1), (110, .ireturn, 1), (111, .iload 4, 2), (113, .iload 5, 2), (115, .iconst 1, 1), (116, .iadd, 1), (117, .iadd, 1), (118, .istore 4, 2), (120, .iinc 3 1, 3), (123, .goto (-118), 3), (126, .iconst 0, 1), (127, .ireturn, 1)]
theorem zd_X12_wordOf : zq_ckC cX12_wordOf zc_X12_wordOf = true := by decide +kernel
theorem zp_X12_wordOf : zq_pn yX12_wordOf 2 = true := by decide +kernel
set_option maxRecDepth 1000000 in
theorem zn_X12_wordOf : Cond.instanceMethod yX12_wordOf ∈ zt := zw_t6 (i := 207) rfl rfl
theorem ze_X12_wordOf : Cond.selects RX12 yX12_wordOf yX12_wordOf ∈ zt := zq_hw_ok (i := 64) (by decide +kernel)
set_option maxRecDepth 1000000 in
theorem zk_X12_splits : Cond.code yX12_splits cX12_splits 6 none ∈ zt := List.mem_filter.mpr ⟨List.mem_of_getElem? (i := 1505) (Eq.refl (some (Cond.code yX12_splits cX12_splits 6 none))), Eq.refl true⟩
noncomputable def zc_X12_splits : zq_Cd := [(0, .aload_n 0, 1), (1, .iconst 0, 1), (2, .putfield 167, 3), (5, .iconst 0, 1), (6, .istore_n 2, 1), (7, .iload_n 2, 1), (8, .iload_n 1, 1), (9, .if_icmp .ge 254, 3), (12, .aload_n 0, 1), (13, .getfield 45, 3), (16, .iload_n 2, 1), (17, .baload, 1), (18, .istore_n 3, 1), (19, .iload_n 3, 1), (20, .bipush 32, 2), (22, .if_icmp .ne 9, 3), (25, .iinc 2 1, 3), (28, .goto (-21), 3), (31, .iload_n 2, 1), (32, .iconst 1, 1), (33, .iadd, 1), (34, .istore 4, 2), (36, .iload_n 3, 1), (37, .invokestatic 170, 3), (40, .ifCond .eq 28, 3), (43, .iload 4, 2), (45, .iload_n 1, 1), (46, .if_icmp .ge 22, 3), (49, .aload_n 0, 1), (50, .getfield 45, 3), (53, .iload 4, 2), (55, .baload, 1), (56, .invokestatic 170, 3), (59, .ifCond .eq 9, 3), (62, .iinc 4 1, 3), (65, .goto (-22), 3), (68, .iload_n 3, 1), (69, .invokestatic 173, 3), (72, .ifCond .eq 28, 3), (75, .iload 4, 2), (77, .iload_n 1, 1), (78, .if_icmp .ge 22, 3), (81, .aload_n 0, 1), (82, .getfield 45, 3), (85, .iload 4, 2), (87, .baload, 1), (88, .invokestatic 173, 3), (91, .ifCond .eq 9, 3), (94, .iinc 4 1, 3), (97, .goto (-22), 3), (100, .aload_n 0, 1), (101, .getfield 60, 3), (104, .aload_n 0, 1), (105, .getfield 167, 3), (108, .iload_n 2, 1), (109, .iastore, 1), (110, .aload_n 0, 1), (111, .getfield 57, 3), (114, .aload_n 0, 1), (115, .getfield 167, 3), (118, .iconst 0, 1), (119, .iastore, 1), (120, .aload_n 0, 1), (121, .getfield 54, 3), (124, .aload_n 0, 1), (125, .getfield 167, 3), (128, .iload_n 3, 1), (129, .invokestatic 170, 3), (132, .ifCond .eq 13, 3), (135, .aload_n 0, 1), (136, .iload_n 2, 1), (137, .iload 4, 2), (139, .invokevirtual 176, 3), (142, .goto 23, 3), (145, .iload_n 3, 1), (146, .invokestatic 173, 3), (149, .ifCond .eq 8, 3), (152, .bipush 50, 2), (154, .goto 11, 3), (157, .bipush 100, 2), (159, .iload_n 3, 1), (160, .sipush 255, 3), (163, .iand, 1), (164, .iadd, 1), (165, .iastore, 1), (166, .iload_n 2, 1), (167, .istore 5, 2), (169, .iload 5, 2), (171, .iload 4, 2), (173, .if_icmp .ge 74, 3), (176, .iload_n 3, 1), (177, .invokestatic 173, 3), (180, .ifCond .eq 67, 3), (183, .aload_n 0, 1), (184, .getfield 57, 3), (187, .aload_n 0, 1), (188, .getfield 167, 3), (191, .aload_n 0, 1), (192, .getfield 57, 3), (195, .aload_n 0, 1), (196, .getfield 167, 3), (199, .iaload, 1), (200, .ldc 180, 2), (202, .if_icmp .le 15, 3), (205, .aload_n 0, 1), (206, .getfield 57, 3), (209, .aload_n 0, 1), (210, .getfield 167, 3), (213, .iaload, 1), (214, .goto 26, 3), (217, .bipush 10, 2), (219, .aload_n 0, 1), (220, .getfield 57, 3), (223, .aload_n 0, 1), (224, .getfield 167, 3), (227, .iaload, 1), (228, .imul, 1), (229, .aload_n 0, 1), (230, .getfield 45, 3), (233, .iload 5, 2), (235, .baload, 1), (236, .iadd, 1), (237, .bipush 48, 2), (239, .isub, 1), (240, .iastore, 1), (241, .iinc 5 1, 3), (244, .goto (-75), 3), (247, .aload_n 0, 1), (248, .dup, 1), (249, .getfield 167, 3), (252, .iconst 1, 1), (253, .iadd, 1), (254, .putfield 167, 3), (257, .iload 4, 2), (259, .istore_n 2, 1), (260, .goto (-253), 3), (263, .aload_n 0, 1), (264, .getfield 60, 3), (267, .aload_n 0, 1), (268, .getfield 167, 3), (271, .iload_n 1, 1), (272, .iastore, 1), (273, .aload_n 0, 1), (274, .getfield 54, 3), (277, .aload_n 0, 1), (278, .getfield 167, 3), (281, .iconst 0, 1), (282, .iastore, 1), (283, .aload_n 0, 1), (284, .getfield 57, 3), (287, .aload_n 0, 1), (288, .getfield 167, 3), (291, .iconst 0, 1), (292, .iastore, 1), (293, .return_, 1)]
noncomputable def zc_X12_splits_0 : zq_Cd := [(0, .aload_n 0, 1), (1, .iconst 0, 1), (2, .putfield 167, 3), (5, .iconst 0, 1), (6, .istore_n 2, 1), (7, .iload_n 2, 1), (8, .iload_n 1, 1), (9, .if_icmp .ge 254, 3), (12, .aload_n 0, 1), (13, .getfield 45, 3), (16, .iload_n 2, 1), (17, .baload, 1), (18, .istore_n 3, 1), (19, .iload_n 3, 1), (20, .bipush 32, 2), (22, .if_icmp .ne 9, 3), (25, .iinc 2 1, 3), (28, .goto (-21), 3), (31, .iload_n 2, 1), (32, .iconst 1, 1), (33, .iadd, 1), (34, .istore 4, 2), (36, .iload_n 3, 1), (37, .invokestatic 170, 3), (40, .ifCond .eq 28, 3), (43, .iload 4, 2), (45, .iload_n 1, 1), (46, .if_icmp .ge 22, 3), (49, .aload_n 0, 1), (50, .getfield 45, 3), (53, .iload 4, 2), (55, .baload, 1), (56, .invokestatic 170, 3), (59, .ifCond .eq 9, 3), (62, .iinc 4 1, 3), (65, .goto (-22), 3), (68, .iload_n 3, 1), (69, .invokestatic 173, 3), (72, .ifCond .eq 28, 3), (75, .iload 4, 2)]
theorem zd_X12_splits_0 : zq_ckC cX12_splits zc_X12_splits_0 = true := by decide +kernel
noncomputable def zc_X12_splits_1 : zq_Cd := [(77, .iload_n 1, 1), (78, .if_icmp .ge 22, 3), (81, .aload_n 0, 1), (82, .getfield 45, 3), (85, .iload 4, 2), (87, .baload, 1), (88, .invokestatic 173, 3), (91, .ifCond .eq 9, 3), (94, .iinc 4 1, 3), (97, .goto (-22), 3), (100, .aload_n 0, 1), (101, .getfield 60, 3), (104, .aload_n 0, 1), (105, .getfield 167, 3), (108, .iload_n 2, 1), (109, .iastore, 1), (110, .aload_n 0, 1), (111, .getfield 57, 3), (114, .aload_n 0, 1), (115, .getfield 167, 3), (118, .iconst 0, 1), (119, .iastore, 1), (120, .aload_n 0, 1), (121, .getfield 54, 3), (124, .aload_n 0, 1), (125, .getfield 167, 3), (128, .iload_n 3, 1), (129, .invokestatic 170, 3), (132, .ifCond .eq 13, 3), (135, .aload_n 0, 1), (136, .iload_n 2, 1), (137, .iload 4, 2), (139, .invokevirtual 176, 3), (142, .goto 23, 3), (145, .iload_n 3, 1), (146, .invokestatic 173, 3), (149, .ifCond .eq 8, 3), (152, .bipush 50, 2), (154, .goto 11, 3), (157, .bipush 100, 2)]
theorem zd_X12_splits_1 : zq_ckC cX12_splits zc_X12_splits_1 = true := by decide +kernel
noncomputable def zc_X12_splits_2 : zq_Cd := [(159, .iload_n 3, 1), (160, .sipush 255, 3), (163, .iand, 1), (164, .iadd, 1), (165, .iastore, 1), (166, .iload_n 2, 1), (167, .istore 5, 2), (169, .iload 5, 2), (171, .iload 4, 2), (173, .if_icmp .ge 74, 3), (176, .iload_n 3, 1), (177, .invokestatic 173, 3), (180, .ifCond .eq 67, 3), (183, .aload_n 0, 1), (184, .getfield 57, 3), (187, .aload_n 0, 1), (188, .getfield 167, 3), (191, .aload_n 0, 1), (192, .getfield 57, 3), (195, .aload_n 0, 1), (196, .getfield 167, 3), (199, .iaload, 1), (200, .ldc 180, 2), (202, .if_icmp .le 15, 3), (205, .aload_n 0, 1), (206, .getfield 57, 3), (209, .aload_n 0, 1), (210, .getfield 167, 3), (213, .iaload, 1), (214, .goto 26, 3), (217, .bipush 10, 2), (219, .aload_n 0, 1), (220, .getfield 57, 3), (223, .aload_n 0, 1), (224, .getfield 167, 3), (227, .iaload, 1), (228, .imul, 1), (229, .aload_n 0, 1), (230, .getfield 45, 3), (233, .iload 5, 2)]
theorem zd_X12_splits_2 : zq_ckC cX12_splits zc_X12_splits_2 = true := by decide +kernel
noncomputable def zc_X12_splits_3 : zq_Cd := [(235, .baload, 1), (236, .iadd, 1), (237, .bipush 48, 2), (239, .isub, 1), (240, .iastore, 1), (241, .iinc 5 1, 3), (244, .goto (-75), 3), (247, .aload_n 0, 1), (248, .dup, 1), (249, .getfield 167, 3), (252, .iconst 1, 1), (253, .iadd, 1), (254, .putfield 167, 3), (257, .iload 4, 2), (259, .istore_n 2, 1), (260, .goto (-253), 3), (263, .aload_n 0, 1), (264, .getfield 60, 3), (267, .aload_n 0, 1), (268, .getfield 167, 3), (271, .iload_n 1, 1), (272, .iastore, 1), (273, .aload_n 0, 1), (274, .getfield 54, 3), (277, .aload_n 0, 1), (278, .getfield 167, 3), (281, .iconst 0, 1), (282, .iastore, 1), (283, .aload_n 0, 1), (284, .getfield 57, 3), (287, .aload_n 0, 1), (288, .getfield 167, 3), (291, .iconst 0, 1), (292, .iastore, 1), (293, .return_, 1)]
theorem zd_X12_splits_3 : zq_ckC cX12_splits zc_X12_splits_3 = true := by decide +kernel
set_option maxRecDepth 1000000 in
theorem zd_X12_splits : zq_ckC cX12_splits zc_X12_splits = true := show zq_ckC cX12_splits (zc_X12_splits_0 ++ (zc_X12_splits_1 ++ (zc_X12_splits_2 ++ (zc_X12_splits_3)))) = true from zq_ckC_app zd_X12_splits_0 (zq_ckC_app zd_X12_splits_1 (zq_ckC_app zd_X12_splits_2 (zd_X12_splits_3)))
theorem zp_X12_splits : zq_pn yX12_splits 1 = true := by decide +kernel
set_option maxRecDepth 1000000 in
theorem zn_X12_splits : Cond.instanceMethod yX12_splits ∈ zt := zw_t6 (i := 197) rfl rfl
theorem ze_X12_splits : Cond.selects RX12 yX12_splits yX12_splits ∈ zt := zq_hw_ok (i := 63) (by decide +kernel)
set_option maxRecDepth 1000000 in
theorem zk_X12_fine : Cond.code yX12_fine cX12_fine 1 (some .boolean) ∈ zt := zw_t6 (i := 225) rfl rfl
noncomputable def zc_X12_fine : zq_Cd := [(0, .aload_n 0, 1), (1, .getfield 181, 3), (4, .iconst (-1), 1), (5, .if_icmp .ne 7, 3), (8, .iconst 1, 1), (9, .goto 4, 3), (12, .iconst 0, 1), (13, .ireturn, 1)]
theorem zd_X12_fine : zq_ckC cX12_fine zc_X12_fine = true := by decide +kernel
theorem zp_X12_fine : zq_pn yX12_fine 0 = true := by decide +kernel
set_option maxRecDepth 1000000 in
theorem zn_X12_fine : Cond.instanceMethod yX12_fine ∈ zt := zw_t6 (i := 224) rfl rfl
theorem ze_X12_fine : Cond.selects RX12 yX12_fine yX12_fine ∈ zt := zq_hw_ok (i := 68) (by decide +kernel)
set_option maxRecDepth 1000000 in
theorem zk_X12_takes0 : Cond.code yX12_takes0 cX12_takes0 3 (some .boolean) ∈ zt := zw_t6 (i := 221) rfl rfl
noncomputable def zc_X12_takes0 : zq_Cd := [(0, .aload_n 0, 1), (1, .invokevirtual 184, 3), (4, .ifCond .eq 20, 3), (7, .aload_n 0, 1), (8, .getfield 54, 3), (11, .aload_n 0, 1), (12, .getfield 188, 3), (15, .iaload, 1), (16, .iload_n 1, 1), (17, .if_icmp .ne 7, 3), (20, .iconst 1, 1), (21, .goto 4, 3), (24, .iconst 0, 1), (25, .istore_n 2, 1), (26, .iload_n 2, 1), (27, .ifCond .eq 13, 3), (30, .aload_n 0, 1), (31, .dup, 1), (32, .getfield 188, 3), (35, .iconst 1, 1), (36, .iadd, 1), (37, .putfield 188, 3), (40, .iload_n 2, 1), (41, .ireturn, 1)]
theorem zd_X12_takes0 : zq_ckC cX12_takes0 zc_X12_takes0 = true := by decide +kernel
theorem zp_X12_takes0 : zq_pn yX12_takes0 1 = true := by decide +kernel
set_option maxRecDepth 1000000 in
theorem zn_X12_takes0 : Cond.instanceMethod yX12_takes0 ∈ zt := zw_t6 (i := 220) rfl rfl
theorem ze_X12_takes0 : Cond.selects RX12 yX12_takes0 yX12_takes0 ∈ zt := zq_hw_ok (i := 67) (by decide +kernel)
set_option maxRecDepth 1000000 in
theorem zk_X12_faults : Cond.code yX12_faults cX12_faults 1 none ∈ zt := zw_t7 (i := 1) rfl rfl
noncomputable def zc_X12_faults : zq_Cd := [(0, .aload_n 0, 1), (1, .invokevirtual 184, 3), (4, .ifCond .eq 16, 3), (7, .aload_n 0, 1), (8, .aload_n 0, 1), (9, .getfield 60, 3), (12, .aload_n 0, 1), (13, .getfield 188, 3), (16, .iaload, 1), (17, .putfield 181, 3), (20, .return_, 1)]
theorem zd_X12_faults : zq_ckC cX12_faults zc_X12_faults = true := by decide +kernel
theorem zp_X12_faults : zq_pn yX12_faults 0 = true := by decide +kernel
set_option maxRecDepth 1000000 in
theorem zn_X12_faults : Cond.instanceMethod yX12_faults ∈ zt := zw_t7 (i := 0) rfl rfl
theorem ze_X12_faults : Cond.selects RX12 yX12_faults yX12_faults ∈ zt := zq_hw_ok (i := 72) (by decide +kernel)
set_option maxRecDepth 1000000 in
theorem zk_X12_must : Cond.code yX12_must cX12_must 2 none ∈ zt := zw_t7 (i := 5) rfl rfl
noncomputable def zc_X12_must : zq_Cd := [(0, .aload_n 0, 1), (1, .iload_n 1, 1), (2, .invokevirtual 191, 3), (5, .ifCond .ne 7, 3), (8, .aload_n 0, 1), (9, .invokevirtual 194, 3), (12, .return_, 1)]
theorem zd_X12_must : zq_ckC cX12_must zc_X12_must = true := by decide +kernel
theorem zp_X12_must : zq_pn yX12_must 1 = true := by decide +kernel
set_option maxRecDepth 1000000 in
theorem zn_X12_must : Cond.instanceMethod yX12_must ∈ zt := zw_t7 (i := 4) rfl rfl
theorem ze_X12_must : Cond.selects RX12 yX12_must yX12_must ∈ zt := zq_hw_ok (i := 73) (by decide +kernel)
set_option maxRecDepth 1000000 in
theorem zk_X12_leaf : Cond.code yX12_leaf cX12_leaf 1 none ∈ zt := zw_t7 (i := 9) rfl rfl
noncomputable def zc_X12_leaf : zq_Cd := [(0, .aload_n 0, 1), (1, .getfield 197, 3), (4, .bipush 50, 2), (6, .if_icmp .ne 7, 3), (9, .aload_n 0, 1), (10, .invokevirtual 194, 3), (13, .aload_n 0, 1), (14, .dup, 1), (15, .getfield 197, 3), (18, .iconst 1, 1), (19, .iadd, 1), (20, .putfield 197, 3), (23, .aload_n 0, 1), (24, .invokevirtual 184, 3), (27, .ifCond .eq 13, 3), (30, .aload_n 0, 1), (31, .dup, 1), (32, .getfield 188, 3), (35, .iconst 1, 1), (36, .iadd, 1), (37, .putfield 188, 3), (40, .return_, 1)]
theorem zd_X12_leaf : zq_ckC cX12_leaf zc_X12_leaf = true := by decide +kernel
theorem zp_X12_leaf : zq_pn yX12_leaf 0 = true := by decide +kernel
set_option maxRecDepth 1000000 in
theorem zn_X12_leaf : Cond.instanceMethod yX12_leaf ∈ zt := zw_t7 (i := 8) rfl rfl
theorem ze_X12_leaf : Cond.selects RX12 yX12_leaf yX12_leaf ∈ zt := zq_hw_ok (i := 74) (by decide +kernel)
set_option maxRecDepth 1000000 in
theorem zk_X12_mustNumber : Cond.code yX12_mustNumber cX12_mustNumber 3 none ∈ zt := zw_t7 (i := 13) rfl rfl
noncomputable def zc_X12_mustNumber : zq_Cd := [(0, .aload_n 0, 1), (1, .invokevirtual 184, 3), (4, .ifCond .eq 38, 3), (7, .aload_n 0, 1), (8, .getfield 54, 3), (11, .aload_n 0, 1), (12, .getfield 188, 3), (15, .iaload, 1), (16, .bipush 50, 2), (18, .if_icmp .ne 20, 3), (21, .aload_n 0, 1), (22, .getfield 57, 3), (25, .aload_n 0, 1), (26, .getfield 188, 3), (29, .iaload, 1), (30, .iload_n 1, 1), (31, .iload_n 2, 1), (32, .invokestatic 18, 3), (35, .ifCond .ne 7, 3), (38, .aload_n 0, 1), (39, .invokevirtual 194, 3), (42, .aload_n 0, 1), (43, .invokevirtual 184, 3), (46, .ifCond .eq 13, 3), (49, .aload_n 0, 1), (50, .dup, 1), (51, .getfield 188, 3), (54, .iconst 1, 1), (55, .iadd, 1), (56, .putfield 188, 3), (59, .return_, 1)]
theorem zd_X12_mustNumber : zq_ckC cX12_mustNumber zc_X12_mustNumber = true := by decide +kernel
theorem zp_X12_mustNumber : zq_pn yX12_mustNumber 2 = true := by decide +kernel
set_option maxRecDepth 1000000 in
theorem zn_X12_mustNumber : Cond.instanceMethod yX12_mustNumber ∈ zt := zw_t7 (i := 12) rfl rfl
theorem ze_X12_mustNumber : Cond.selects RX12 yX12_mustNumber yX12_mustNumber ∈ zt := zq_hw_ok (i := 75) (by decide +kernel)
set_option maxRecDepth 1000000 in
theorem zk_X12_readPart : Cond.code yX12_readPart cX12_readPart 3 none ∈ zt := zw_t6 (i := 237) rfl rfl
noncomputable def zc_X12_readPart : zq_Cd := [(0, .aload_n 0, 1), (1, .invokevirtual 184, 3), (4, .ifCond .ne 4, 3), (7, .return_, 1), (8, .aload_n 0, 1), (9, .getfield 54, 3), (12, .aload_n 0, 1), (13, .getfield 188, 3), (16, .iaload, 1), (17, .istore_n 2, 1), (18, .iload_n 2, 1), (19, .bipush 91, 2), (21, .invokestatic 232, 3), (24, .if_icmp .ne 50, 3), (27, .iload_n 1, 1), (28, .bipush 8, 2), (30, .if_icmp .ne 7, 3), (33, .aload_n 0, 1), (34, .invokevirtual 194, 3), (37, .aload_n 0, 1), (38, .invokevirtual 184, 3), (41, .ifCond .ne 4, 3), (44, .return_, 1), (45, .aload_n 0, 1), (46, .dup, 1), (47, .getfield 188, 3), (50, .iconst 1, 1), (51, .iadd, 1), (52, .putfield 188, 3), (55, .aload_n 0, 1), (56, .iload_n 1, 1), (57, .iconst 1, 1), (58, .iadd, 1), (59, .invokevirtual 200, 3), (62, .aload_n 0, 1), (63, .bipush 93, 2), (65, .invokestatic 232, 3), (68, .invokevirtual 204, 3), (71, .goto 75, 3), (74, .iload_n 2, 1), (75, .bipush 50, 2), (77, .if_icmp .ne 18, 3), (80, .aload_n 0, 1), (81, .getfield 57, 3), (84, .aload_n 0, 1), (85, .getfield 188, 3), (88, .iaload, 1), (89, .sipush 1000, 3), (92, .if_icmp .le 19, 3), (95, .iload_n 2, 1), (96, .aload_n 0, 1), (97, .getfield 242, 3), (100, .if_icmp .lt 42, 3), (103, .iload_n 2, 1), (104, .aload_n 0, 1), (105, .getfield 245, 3), (108, .if_icmp .gt 34, 3), (111, .aload_n 0, 1), (112, .invokevirtual 248, 3), (115, .iload_n 2, 1), (116, .bipush 20, 2), (118, .if_icmp .ne 9, 3), (121, .aload_n 0, 1), (122, .iconst 0, 1), (123, .iconst 5, 1), (124, .invokevirtual 213, 3), (127, .iload_n 2, 1), (128, .bipush 21, 2), (130, .if_icmp .ne 16, 3), (133, .aload_n 0, 1), (134, .iconst 0, 1), (135, .iconst 3, 1), (136, .invokevirtual 213, 3), (139, .goto 7, 3), (142, .aload_n 0, 1), (143, .invokevirtual 194, 3), (146, .return_, 1)]
theorem zd_X12_readPart : zq_ckC cX12_readPart zc_X12_readPart = true := by decide +kernel
theorem zp_X12_readPart : zq_pn yX12_readPart 1 = true := by decide +kernel
set_option maxRecDepth 1000000 in
theorem zn_X12_readPart : Cond.instanceMethod yX12_readPart ∈ zt := zw_t6 (i := 236) rfl rfl
theorem ze_X12_readPart : Cond.selects RX12 yX12_readPart yX12_readPart ∈ zt := zq_hw_ok (i := 71) (by decide +kernel)
set_option maxRecDepth 1000000 in
theorem zk_X12_readTerm : Cond.code yX12_readTerm cX12_readTerm 2 none ∈ zt := zw_t6 (i := 233) rfl rfl
noncomputable def zc_X12_readTerm : zq_Cd := [(0, .aload_n 0, 1), (1, .iload_n 1, 1), (2, .invokevirtual 239, 3), (5, .aload_n 0, 1), (6, .bipush 42, 2), (8, .invokestatic 232, 3), (11, .invokevirtual 191, 3), (14, .ifCond .ne 27, 3), (17, .aload_n 0, 1), (18, .bipush 47, 2), (20, .invokestatic 232, 3), (23, .invokevirtual 191, 3), (26, .ifCond .ne 15, 3), (29, .aload_n 0, 1), (30, .bipush 37, 2), (32, .invokestatic 232, 3), (35, .invokevirtual 191, 3), (38, .ifCond .eq 11, 3), (41, .aload_n 0, 1), (42, .iload_n 1, 1), (43, .invokevirtual 239, 3), (46, .goto (-41), 3), (49, .return_, 1)]
theorem zd_X12_readTerm : zq_ckC cX12_readTerm zc_X12_readTerm = true := by decide +kernel
theorem zp_X12_readTerm : zq_pn yX12_readTerm 1 = true := by decide +kernel
set_option maxRecDepth 1000000 in
theorem zn_X12_readTerm : Cond.instanceMethod yX12_readTerm ∈ zt := zw_t6 (i := 232) rfl rfl
theorem ze_X12_readTerm : Cond.selects RX12 yX12_readTerm yX12_readTerm ∈ zt := zq_hw_ok (i := 70) (by decide +kernel)
set_option maxRecDepth 1000000 in
theorem zk_X12_readSum : Cond.code yX12_readSum cX12_readSum 2 none ∈ zt := zw_t6 (i := 229) rfl rfl
noncomputable def zc_X12_readSum : zq_Cd := [(0, .aload_n 0, 1), (1, .iload_n 1, 1), (2, .invokevirtual 236, 3), (5, .aload_n 0, 1), (6, .bipush 43, 2), (8, .invokestatic 232, 3), (11, .invokevirtual 191, 3), (14, .ifCond .ne 15, 3), (17, .aload_n 0, 1), (18, .bipush 45, 2), (20, .invokestatic 232, 3), (23, .invokevirtual 191, 3), (26, .ifCond .eq 11, 3), (29, .aload_n 0, 1), (30, .iload_n 1, 1), (31, .invokevirtual 236, 3), (34, .goto (-29), 3), (37, .return_, 1)]
theorem zd_X12_readSum : zq_ckC cX12_readSum zc_X12_readSum = true := by decide +kernel
theorem zp_X12_readSum : zq_pn yX12_readSum 1 = true := by decide +kernel
set_option maxRecDepth 1000000 in
theorem zn_X12_readSum : Cond.instanceMethod yX12_readSum ∈ zt := zw_t6 (i := 228) rfl rfl
theorem ze_X12_readSum : Cond.selects RX12 yX12_readSum yX12_readSum ∈ zt := zq_hw_ok (i := 69) (by decide +kernel)
set_option maxRecDepth 1000000 in
theorem zk_X12_readPlain : Cond.code yX12_readPlain cX12_readPlain 4 none ∈ zt := zw_t7 (i := 29) rfl rfl
noncomputable def zc_X12_readPlain : zq_Cd := [(0, .iconst 1, 1), (1, .istore_n 2, 1), (2, .iload_n 2, 1), (3, .ifCond .eq 13, 3), (6, .aload_n 0, 1), (7, .bipush 7, 2), (9, .invokevirtual 191, 3), (12, .istore_n 2, 1), (13, .goto (-11), 3), (16, .aload_n 0, 1), (17, .invokevirtual 184, 3), (20, .ifCond .ne 4, 3), (23, .return_, 1), (24, .aload_n 0, 1), (25, .getfield 54, 3), (28, .aload_n 0, 1), (29, .getfield 188, 3), (32, .iaload, 1), (33, .istore_n 3, 1), (34, .iload_n 3, 1), (35, .bipush 40, 2), (37, .invokestatic 232, 3), (40, .if_icmp .ne 50, 3), (43, .iload_n 1, 1), (44, .bipush 8, 2), (46, .if_icmp .ne 7, 3), (49, .aload_n 0, 1), (50, .invokevirtual 194, 3), (53, .aload_n 0, 1), (54, .invokevirtual 184, 3), (57, .ifCond .ne 4, 3), (60, .return_, 1), (61, .aload_n 0, 1), (62, .dup, 1), (63, .getfield 188, 3), (66, .iconst 1, 1), (67, .iadd, 1), (68, .putfield 188, 3), (71, .aload_n 0, 1), (72, .iload_n 1, 1), (73, .iconst 1, 1), (74, .iadd, 1), (75, .invokevirtual 207, 3), (78, .aload_n 0, 1), (79, .bipush 41, 2), (81, .invokestatic 232, 3), (84, .invokevirtual 204, 3), (87, .goto 46, 3), (90, .aload_n 0, 1), (91, .iload_n 1, 1), (92, .invokevirtual 200, 3), (95, .aload_n 0, 1), (96, .bipush 60, 2), (98, .invokestatic 232, 3), (101, .invokevirtual 191, 3), (104, .ifCond .ne 24, 3), (107, .aload_n 0, 1), (108, .bipush 62, 2), (110, .invokestatic 232, 3), (113, .invokevirtual 191, 3), (116, .ifCond .ne 12, 3), (119, .aload_n 0, 1), (120, .bipush 61, 2), (122, .invokestatic 232, 3), (125, .invokevirtual 204, 3), (128, .aload_n 0, 1), (129, .iload_n 1, 1), (130, .invokevirtual 200, 3), (133, .return_, 1)]
theorem zd_X12_readPlain : zq_ckC cX12_readPlain zc_X12_readPlain = true := by decide +kernel
theorem zp_X12_readPlain : zq_pn yX12_readPlain 1 = true := by decide +kernel
set_option maxRecDepth 1000000 in
theorem zn_X12_readPlain : Cond.instanceMethod yX12_readPlain ∈ zt := zw_t7 (i := 28) rfl rfl
theorem ze_X12_readPlain : Cond.selects RX12 yX12_readPlain yX12_readPlain ∈ zt := zq_hw_ok (i := 79) (by decide +kernel)
set_option maxRecDepth 1000000 in
theorem zk_X12_readBoth : Cond.code yX12_readBoth cX12_readBoth 2 none ∈ zt := zw_t7 (i := 25) rfl rfl
noncomputable def zc_X12_readBoth : zq_Cd := [(0, .aload_n 0, 1), (1, .iload_n 1, 1), (2, .invokevirtual 229, 3), (5, .aload_n 0, 1), (6, .bipush 6, 2), (8, .invokevirtual 191, 3), (11, .ifCond .eq 11, 3), (14, .aload_n 0, 1), (15, .iload_n 1, 1), (16, .invokevirtual 229, 3), (19, .goto (-14), 3), (22, .return_, 1)]
theorem zd_X12_readBoth : zq_ckC cX12_readBoth zc_X12_readBoth = true := by decide +kernel
theorem zp_X12_readBoth : zq_pn yX12_readBoth 1 = true := by decide +kernel
set_option maxRecDepth 1000000 in
theorem zn_X12_readBoth : Cond.instanceMethod yX12_readBoth ∈ zt := zw_t7 (i := 24) rfl rfl
theorem ze_X12_readBoth : Cond.selects RX12 yX12_readBoth yX12_readBoth ∈ zt := zq_hw_ok (i := 78) (by decide +kernel)
set_option maxRecDepth 1000000 in
theorem zk_X12_readTest : Cond.code yX12_readTest cX12_readTest 2 none ∈ zt := zw_t7 (i := 21) rfl rfl
noncomputable def zc_X12_readTest : zq_Cd := [(0, .aload_n 0, 1), (1, .iload_n 1, 1), (2, .invokevirtual 226, 3), (5, .aload_n 0, 1), (6, .iconst 5, 1), (7, .invokevirtual 191, 3), (10, .ifCond .eq 11, 3), (13, .aload_n 0, 1), (14, .iload_n 1, 1), (15, .invokevirtual 226, 3), (18, .goto (-13), 3), (21, .return_, 1)]
theorem zd_X12_readTest : zq_ckC cX12_readTest zc_X12_readTest = true := by decide +kernel
theorem zp_X12_readTest : zq_pn yX12_readTest 1 = true := by decide +kernel
set_option maxRecDepth 1000000 in
theorem zn_X12_readTest : Cond.instanceMethod yX12_readTest ∈ zt := zw_t7 (i := 20) rfl rfl
theorem ze_X12_readTest : Cond.selects RX12 yX12_readTest yX12_readTest ∈ zt := zq_hw_ok (i := 77) (by decide +kernel)
set_option maxRecDepth 1000000 in
theorem zk_X12_readClause : Cond.code yX12_readClause cX12_readClause 1 none ∈ zt := zw_t7 (i := 33) rfl rfl
noncomputable def zc_X12_readClause : zq_Cd := [(0, .aload_n 0, 1), (1, .iconst 1, 1), (2, .invokevirtual 191, 3), (5, .ifCond .ne 11, 3), (8, .aload_n 0, 1), (9, .iconst 2, 1), (10, .invokevirtual 191, 3), (13, .ifCond .eq 11, 3), (16, .aload_n 0, 1), (17, .iconst 0, 1), (18, .invokevirtual 200, 3), (21, .goto 8, 3), (24, .aload_n 0, 1), (25, .iconst 3, 1), (26, .invokevirtual 204, 3), (29, .aload_n 0, 1), (30, .iconst 4, 1), (31, .invokevirtual 191, 3), (34, .ifCond .eq 8, 3), (37, .aload_n 0, 1), (38, .iconst 0, 1), (39, .invokevirtual 207, 3), (42, .return_, 1)]
theorem zd_X12_readClause : zq_ckC cX12_readClause zc_X12_readClause = true := by decide +kernel
theorem zp_X12_readClause : zq_pn yX12_readClause 0 = true := by decide +kernel
set_option maxRecDepth 1000000 in
theorem zn_X12_readClause : Cond.instanceMethod yX12_readClause ∈ zt := zw_t7 (i := 32) rfl rfl
theorem ze_X12_readClause : Cond.selects RX12 yX12_readClause yX12_readClause ∈ zt := zq_hw_ok (i := 80) (by decide +kernel)
set_option maxRecDepth 1000000 in
theorem zk_X12_readMore : Cond.code yX12_readMore cX12_readMore 2 none ∈ zt := zw_t7 (i := 17) rfl rfl
noncomputable def zc_X12_readMore : zq_Cd := [(0, .aload_n 0, 1), (1, .iload_n 1, 1), (2, .invokevirtual 204, 3), (5, .aload_n 0, 1), (6, .iconst 0, 1), (7, .invokevirtual 200, 3), (10, .return_, 1)]
theorem zd_X12_readMore : zq_ckC cX12_readMore zc_X12_readMore = true := by decide +kernel
theorem zp_X12_readMore : zq_pn yX12_readMore 1 = true := by decide +kernel
set_option maxRecDepth 1000000 in
theorem zn_X12_readMore : Cond.instanceMethod yX12_readMore ∈ zt := zw_t7 (i := 16) rfl rfl
theorem ze_X12_readMore : Cond.selects RX12 yX12_readMore yX12_readMore ∈ zt := zq_hw_ok (i := 76) (by decide +kernel)
set_option maxRecDepth 1000000 in
theorem zk_X12_readOrder : Cond.code yX12_readOrder cX12_readOrder 1 none ∈ zt := zw_t6 (i := 217) rfl rfl
noncomputable def zc_X12_readOrder : zq_Cd := [(0, .aload_n 0, 1), (1, .bipush 22, 2), (3, .invokevirtual 191, 3), (6, .ifCond .eq 23, 3), (9, .aload_n 0, 1), (10, .iconst 0, 1), (11, .invokevirtual 200, 3), (14, .aload_n 0, 1), (15, .bipush 23, 2), (17, .invokevirtual 210, 3), (20, .aload_n 0, 1), (21, .bipush 24, 2), (23, .invokevirtual 210, 3), (26, .goto 49, 3), (29, .aload_n 0, 1), (30, .bipush 25, 2), (32, .invokevirtual 191, 3), (35, .ifCond .eq 17, 3), (38, .aload_n 0, 1), (39, .iconst 0, 1), (40, .invokevirtual 200, 3), (43, .aload_n 0, 1), (44, .bipush 26, 2), (46, .invokevirtual 210, 3), (49, .goto 26, 3), (52, .aload_n 0, 1), (53, .bipush 27, 2), (55, .invokevirtual 191, 3), (58, .ifCond .eq 11, 3), (61, .aload_n 0, 1), (62, .iconst 0, 1), (63, .invokevirtual 200, 3), (66, .goto 9, 3), (69, .aload_n 0, 1), (70, .bipush 28, 2), (72, .invokevirtual 204, 3), (75, .aload_n 0, 1), (76, .bipush 29, 2), (78, .invokevirtual 191, 3), (81, .ifCond .eq 10, 3), (84, .aload_n 0, 1), (85, .iconst 1, 1), (86, .bipush 20, 2), (88, .invokevirtual 213, 3), (91, .aload_n 0, 1), (92, .iconst 4, 1), (93, .invokevirtual 191, 3), (96, .ifCond .eq 8, 3), (99, .aload_n 0, 1), (100, .iconst 0, 1), (101, .invokevirtual 207, 3), (104, .return_, 1)]
theorem zd_X12_readOrder : zq_ckC cX12_readOrder zc_X12_readOrder = true := by decide +kernel
theorem zp_X12_readOrder : zq_pn yX12_readOrder 0 = true := by decide +kernel
set_option maxRecDepth 1000000 in
theorem zn_X12_readOrder : Cond.instanceMethod yX12_readOrder ∈ zt := zw_t6 (i := 216) rfl rfl
theorem ze_X12_readOrder : Cond.selects RX12 yX12_readOrder yX12_readOrder ∈ zt := zq_hw_ok (i := 66) (by decide +kernel)
set_option maxRecDepth 1000000 in
theorem zk_X12_readOne : Cond.code yX12_readOne cX12_readOne 1 none ∈ zt := zw_t6 (i := 213) rfl rfl
noncomputable def zc_X12_readOne : zq_Cd := [(0, .aload_n 0, 1), (1, .getfield 216, 3), (4, .ifCond .eq 10, 3), (7, .aload_n 0, 1), (8, .invokevirtual 220, 3), (11, .goto 7, 3), (14, .aload_n 0, 1), (15, .invokevirtual 223, 3), (18, .return_, 1)]
theorem zd_X12_readOne : zq_ckC cX12_readOne zc_X12_readOne = true := by decide +kernel
theorem zp_X12_readOne : zq_pn yX12_readOne 0 = true := by decide +kernel
set_option maxRecDepth 1000000 in
theorem zn_X12_readOne : Cond.instanceMethod yX12_readOne ∈ zt := zw_t6 (i := 212) rfl rfl
theorem ze_X12_readOne : Cond.selects RX12 yX12_readOne yX12_readOne ∈ zt := zq_hw_ok (i := 65) (by decide +kernel)
set_option maxRecDepth 1000000 in
theorem zk_X12_reads : Cond.code yX12_reads cX12_reads 2 (some .boolean) ∈ zt := zw_t6 (i := 194) rfl rfl
noncomputable def zc_X12_reads : zq_Cd := [(0, .aload_n 0, 1), (1, .aload_n 0, 1), (2, .getfield 161, 3), (5, .invokevirtual 251, 3), (8, .aload_n 0, 1), (9, .iconst 0, 1), (10, .putfield 161, 3), (13, .aload_n 0, 1), (14, .iconst 0, 1), (15, .putfield 188, 3), (18, .aload_n 0, 1), (19, .iconst 0, 1), (20, .putfield 197, 3), (23, .aload_n 0, 1), (24, .iconst (-1), 1), (25, .putfield 181, 3), (28, .aload_n 0, 1), (29, .invokevirtual 254, 3), (32, .iconst 1, 1), (33, .istore_n 1, 1), (34, .aload_n 0, 1), (35, .bipush 59, 2), (37, .invokestatic 232, 3), (40, .invokevirtual 191, 3), (43, .ifCond .eq 30, 3), (46, .iload_n 1, 1), (47, .bipush 12, 2), (49, .if_icmp .ne 7, 3), (52, .aload_n 0, 1), (53, .invokevirtual 194, 3), (56, .aload_n 0, 1), (57, .invokevirtual 184, 3), (60, .ifCond .eq 7, 3), (63, .aload_n 0, 1), (64, .invokevirtual 254, 3), (67, .iinc 1 1, 3), (70, .goto (-36), 3), (73, .aload_n 0, 1), (74, .invokevirtual 184, 3), (77, .ifCond .eq 18, 3), (80, .aload_n 0, 1), (81, .getfield 188, 3), (84, .aload_n 0, 1), (85, .getfield 167, 3), (88, .if_icmp .ge 7, 3), (91, .aload_n 0, 1), (92, .invokevirtual 194, 3), (95, .aload_n 0, 1), (96, .aload_n 0, 1), (97, .getfield 181, 3), (100, .putfield 51, 3), (103, .aload_n 0, 1), (104, .invokevirtual 184, 3), (107, .ireturn, 1)]
theorem zd_X12_reads : zq_ckC cX12_reads zc_X12_reads = true := by decide +kernel
theorem zp_X12_reads : zq_pn yX12_reads 0 = true := by decide +kernel
set_option maxRecDepth 1000000 in
theorem zn_X12_reads : Cond.instanceMethod yX12_reads ∈ zt := zw_t6 (i := 193) rfl rfl
theorem ze_X12_reads : Cond.selects RX12 yX12_reads yX12_reads ∈ zt := zq_hw_ok (i := 62) (by decide +kernel)
set_option maxRecDepth 1000000 in
theorem zk_X12_readsAs : Cond.code yX12_readsAs cX12_readsAs 2 (some .boolean) ∈ zt := zw_t6 (i := 190) rfl rfl
noncomputable def zc_X12_readsAs : zq_Cd := [(0, .aload_n 0, 1), (1, .iload_n 1, 1), (2, .putfield 216, 3), (5, .aload_n 0, 1), (6, .iload_n 1, 1), (7, .ifCond .eq 8, 3), (10, .bipush 16, 2), (12, .goto 5, 3), (15, .bipush 8, 2), (17, .putfield 242, 3), (20, .aload_n 0, 1), (21, .iload_n 1, 1), (22, .ifCond .eq 8, 3), (25, .bipush 21, 2), (27, .goto 5, 3), (30, .bipush 15, 2), (32, .putfield 245, 3), (35, .aload_n 0, 1), (36, .invokevirtual 257, 3), (39, .ireturn, 1)]
theorem zd_X12_readsAs : zq_ckC cX12_readsAs zc_X12_readsAs = true := by decide +kernel
theorem zp_X12_readsAs : zq_pn yX12_readsAs 1 = true := by decide +kernel
set_option maxRecDepth 1000000 in
theorem zn_X12_readsAs : Cond.instanceMethod yX12_readsAs ∈ zt := zw_t6 (i := 189) rfl rfl
theorem ze_X12_readsAs : Cond.selects RX12 yX12_readsAs yX12_readsAs ∈ zt := zq_hw_ok (i := 61) (by decide +kernel)
set_option maxRecDepth 1000000 in
theorem zk_X12_lays : Cond.code yX12_lays cX12_lays 3 none ∈ zt := zw_t7 (i := 37) rfl rfl
noncomputable def zc_X12_lays : zq_Cd := [(0, .aload_n 0, 1), (1, .getfield 28, 3), (4, .bipush 64, 2), (6, .iload_n 1, 1), (7, .iadd, 1), (8, .aload_n 0, 1), (9, .getfield 167, 3), (12, .iastore, 1), (13, .iconst 0, 1), (14, .istore_n 2, 1), (15, .iload_n 2, 1), (16, .aload_n 0, 1), (17, .getfield 167, 3), (20, .if_icmp .ge 52, 3), (23, .aload_n 0, 1), (24, .getfield 28, 3), (27, .bipush 71, 2), (29, .sipush 400, 3), (32, .iload_n 1, 1), (33, .imul, 1), (34, .iadd, 1), (35, .iload_n 2, 1), (36, .iadd, 1), (37, .aload_n 0, 1), (38, .getfield 54, 3), (41, .iload_n 2, 1), (42, .iaload, 1), (43, .iastore, 1), (44, .aload_n 0, 1), (45, .getfield 28, 3), (48, .sipush 2871, 3), (51, .sipush 400, 3), (54, .iload_n 1, 1), (55, .imul, 1), (56, .iadd, 1), (57, .iload_n 2, 1), (58, .iadd, 1), (59, .aload_n 0, 1), (60, .getfield 57, 3), (63, .iload_n 2, 1), (64, .iaload, 1), (65, .iastore, 1), (66, .iinc 2 1, 3), (69, .goto (-54), 3), (72, .return_, 1)]
theorem zd_X12_lays : zq_ckC cX12_lays zc_X12_lays = true := by decide +kernel
theorem zp_X12_lays : zq_pn yX12_lays 1 = true := by decide +kernel
set_option maxRecDepth 1000000 in
theorem zn_X12_lays : Cond.instanceMethod yX12_lays ∈ zt := zw_t7 (i := 36) rfl rfl
theorem ze_X12_lays : Cond.selects RX12 yX12_lays yX12_lays ∈ zt := zq_hw_ok (i := 81) (by decide +kernel)
set_option maxRecDepth 1000000 in
theorem zk_X12_law : Cond.code yX12_law cX12_law 1 (some .int) ∈ zt := zw_t6 (i := 186) rfl rfl
noncomputable def zc_X12_law : zq_Cd := [(0, .aload_n 0, 1), (1, .getfield 28, 3), (4, .bipush 62, 2), (6, .iaload, 1), (7, .bipush 6, 2), (9, .if_icmp .ne 15, 3), (12, .aload_n 0, 1), (13, .iconst 0, 1), (14, .putfield 161, 3), (17, .aload_n 0, 1), (18, .bipush (-5), 2), (20, .invokevirtual 109, 3), (23, .ireturn, 1), (24, .aload_n 0, 1), (25, .iconst 0, 1), (26, .invokevirtual 260, 3), (29, .ifCond .ne 10, 3), (32, .aload_n 0, 1), (33, .bipush (-6), 2), (35, .invokevirtual 109, 3), (38, .ireturn, 1), (39, .aload_n 0, 1), (40, .aload_n 0, 1), (41, .getfield 28, 3), (44, .bipush 62, 2), (46, .iaload, 1), (47, .invokevirtual 264, 3), (50, .aload_n 0, 1), (51, .getfield 28, 3), (54, .bipush 62, 2), (56, .dup2, 1), (57, .iaload, 1), (58, .iconst 1, 1), (59, .iadd, 1), (60, .iastore, 1), (61, .aload_n 0, 1), (62, .aload_n 0, 1), (63, .getfield 28, 3), (66, .bipush 62, 2), (68, .iaload, 1), (69, .iconst 1, 1), (70, .isub, 1), (71, .invokevirtual 14, 3), (74, .ireturn, 1)]
theorem zd_X12_law : zq_ckC cX12_law zc_X12_law = true := by decide +kernel
theorem zp_X12_law : zq_pn yX12_law 0 = true := by decide +kernel
set_option maxRecDepth 1000000 in
theorem zn_X12_law : Cond.instanceMethod yX12_law ∈ zt := zw_t6 (i := 184) rfl rfl
set_option maxRecDepth 1000000 in
theorem ze_X12_law : Cond.selects RX12 yX12_law yX12_law ∈ zt := zw_t6 (i := 185) rfl rfl
set_option maxRecDepth 1000000 in
theorem zk_X12_fault : Cond.code yX12_fault cX12_fault 1 (some .int) ∈ zt := zw_t7 (i := 41) rfl rfl
noncomputable def zc_X12_fault : zq_Cd := [(0, .aload_n 0, 1), (1, .getfield 51, 3), (4, .ireturn, 1)]
theorem zd_X12_fault : zq_ckC cX12_fault zc_X12_fault = true := by decide +kernel
theorem zp_X12_fault : zq_pn yX12_fault 0 = true := by decide +kernel
set_option maxRecDepth 1000000 in
theorem zn_X12_fault : Cond.instanceMethod yX12_fault ∈ zt := zw_t7 (i := 39) rfl rfl
set_option maxRecDepth 1000000 in
theorem ze_X12_fault : Cond.selects RX12 yX12_fault yX12_fault ∈ zt := zw_t7 (i := 40) rfl rfl
set_option maxRecDepth 1000000 in
theorem zk_X12_isLaw : Cond.code yX12_isLaw cX12_isLaw 2 (some .boolean) ∈ zt := zw_t7 (i := 49) rfl rfl
noncomputable def zc_X12_isLaw : zq_Cd := [(0, .iload_n 1, 1), (1, .iconst (-1), 1), (2, .aload_n 0, 1), (3, .getfield 28, 3), (6, .bipush 62, 2), (8, .iaload, 1), (9, .iconst 1, 1), (10, .isub, 1), (11, .invokestatic 18, 3), (14, .ireturn, 1)]
theorem zd_X12_isLaw : zq_ckC cX12_isLaw zc_X12_isLaw = true := by decide +kernel
theorem zp_X12_isLaw : zq_pn yX12_isLaw 1 = true := by decide +kernel
set_option maxRecDepth 1000000 in
theorem zn_X12_isLaw : Cond.instanceMethod yX12_isLaw ∈ zt := zw_t7 (i := 48) rfl rfl
theorem ze_X12_isLaw : Cond.selects RX12 yX12_isLaw yX12_isLaw ∈ zt := zq_hw_ok (i := 82) (by decide +kernel)
set_option maxRecDepth 1000000 in
theorem zk_X12_force : Cond.code yX12_force cX12_force 3 (some .int) ∈ zt := zw_t7 (i := 45) rfl rfl
noncomputable def zc_X12_force : zq_Cd := [(0, .aload_n 0, 1), (1, .iload_n 1, 1), (2, .invokevirtual 267, 3), (5, .ifCond .ne 10, 3), (8, .aload_n 0, 1), (9, .bipush (-2), 2), (11, .invokevirtual 109, 3), (14, .ireturn, 1), (15, .aload_n 0, 1), (16, .getfield 28, 3), (19, .bipush 63, 2), (21, .iaload, 1), (22, .istore_n 2, 1), (23, .aload_n 0, 1), (24, .getfield 28, 3), (27, .bipush 63, 2), (29, .iload_n 1, 1), (30, .iastore, 1), (31, .aload_n 0, 1), (32, .iload_n 2, 1), (33, .invokevirtual 14, 3), (36, .ireturn, 1)]
theorem zd_X12_force : zq_ckC cX12_force zc_X12_force = true := by decide +kernel
theorem zp_X12_force : zq_pn yX12_force 1 = true := by decide +kernel
set_option maxRecDepth 1000000 in
theorem zn_X12_force : Cond.instanceMethod yX12_force ∈ zt := zw_t7 (i := 43) rfl rfl
set_option maxRecDepth 1000000 in
theorem ze_X12_force : Cond.selects RX12 yX12_force yX12_force ∈ zt := zw_t7 (i := 44) rfl rfl
set_option maxRecDepth 1000000 in
theorem zk_X12_undo : Cond.code yX12_undo cX12_undo 3 (some .int) ∈ zt := zw_t7 (i := 53) rfl rfl
noncomputable def zc_X12_undo : zq_Cd := [(0, .aload_n 0, 1), (1, .getfield 11, 3), (4, .ifCond .ne 10, 3), (7, .aload_n 0, 1), (8, .bipush (-3), 2), (10, .invokevirtual 109, 3), (13, .ireturn, 1), (14, .aload_n 0, 1), (15, .dup, 1), (16, .getfield 11, 3), (19, .iconst 1, 1), (20, .isub, 1), (21, .putfield 11, 3), (24, .bipush 12, 2), (26, .aload_n 0, 1), (27, .getfield 11, 3), (30, .imul, 1), (31, .istore_n 1, 1), (32, .iconst 0, 1), (33, .istore_n 2, 1), (34, .iload_n 2, 1), (35, .bipush 11, 2), (37, .if_icmp .ge 23, 3), (40, .aload_n 0, 1), (41, .getfield 28, 3), (44, .iload_n 2, 1), (45, .aload_n 0, 1), (46, .getfield 66, 3), (49, .iload_n 1, 1), (50, .iload_n 2, 1), (51, .iadd, 1), (52, .iaload, 1), (53, .iastore, 1), (54, .iinc 2 1, 3), (57, .goto (-23), 3), (60, .aload_n 0, 1), (61, .aload_n 0, 1), (62, .getfield 66, 3), (65, .iload_n 1, 1), (66, .bipush 11, 2), (68, .iadd, 1), (69, .iaload, 1), (70, .invokevirtual 14, 3), (73, .ireturn, 1)]
theorem zd_X12_undo : zq_ckC cX12_undo zc_X12_undo = true := by decide +kernel
theorem zp_X12_undo : zq_pn yX12_undo 0 = true := by decide +kernel
set_option maxRecDepth 1000000 in
theorem zn_X12_undo : Cond.instanceMethod yX12_undo ∈ zt := zw_t7 (i := 51) rfl rfl
set_option maxRecDepth 1000000 in
theorem ze_X12_undo : Cond.selects RX12 yX12_undo yX12_undo ∈ zt := zw_t7 (i := 52) rfl rfl
set_option maxRecDepth 1000000 in
theorem zk_X12_laysAside : Cond.code yX12_laysAside cX12_laysAside 3 none ∈ zt := zw_t7 (i := 65) rfl rfl
noncomputable def zc_X12_laysAside : zq_Cd := [(0, .iconst 0, 1), (1, .istore_n 2, 1), (2, .iload_n 2, 1), (3, .bipush 11, 2), (5, .if_icmp .ge 26, 3), (8, .aload_n 0, 1), (9, .getfield 38, 3), (12, .bipush 11, 2), (14, .iload_n 1, 1), (15, .imul, 1), (16, .iload_n 2, 1), (17, .iadd, 1), (18, .aload_n 0, 1), (19, .getfield 28, 3), (22, .iload_n 2, 1), (23, .iaload, 1), (24, .iastore, 1), (25, .iinc 2 1, 3), (28, .goto (-26), 3), (31, .return_, 1)]
theorem zd_X12_laysAside : zq_ckC cX12_laysAside zc_X12_laysAside = true := by decide +kernel
theorem zp_X12_laysAside : zq_pn yX12_laysAside 1 = true := by decide +kernel
set_option maxRecDepth 1000000 in
theorem zn_X12_laysAside : Cond.instanceMethod yX12_laysAside ∈ zt := zw_t7 (i := 64) rfl rfl
theorem ze_X12_laysAside : Cond.selects RX12 yX12_laysAside yX12_laysAside ∈ zt := zq_hw_ok (i := 84) (by decide +kernel)
set_option maxRecDepth 1000000 in
theorem zk_X12_whoThen : Cond.code yX12_whoThen cX12_whoThen 5 (some .int) ∈ zt := zw_t7 (i := 73) rfl rfl
noncomputable def zc_X12_whoThen : zq_Cd := [(0, .aload_n 0, 1), (1, .iload_n 1, 1), (2, .iload_n 2, 1), (3, .iload_n 3, 1), (4, .aload_n 0, 1), (5, .getfield 28, 3), (8, .bipush 10, 2), (10, .iaload, 1), (11, .iload 4, 2), (13, .iadd, 1), (14, .invokevirtual 151, 3), (17, .ireturn, 1)]
theorem zd_X12_whoThen : zq_ckC cX12_whoThen zc_X12_whoThen = true := by decide +kernel
theorem zp_X12_whoThen : zq_pn yX12_whoThen 4 = true := by decide +kernel
set_option maxRecDepth 1000000 in
theorem zn_X12_whoThen : Cond.instanceMethod yX12_whoThen ∈ zt := zw_t7 (i := 72) rfl rfl
theorem ze_X12_whoThen : Cond.selects RX12 yX12_whoThen yX12_whoThen ∈ zt := zq_hw_ok (i := 86) (by decide +kernel)
set_option maxRecDepth 1000000 in
theorem zk_X12_canMove : Cond.code yX12_canMove cX12_canMove 3 (some .boolean) ∈ zt := zw_t7 (i := 77) rfl rfl
noncomputable def zc_X12_canMove : zq_Cd := [(0, .aload_n 0, 1), (1, .getfield 28, 3), (4, .iconst 0, 1), (5, .iload_n 1, 1), (6, .iadd, 1), (7, .iaload, 1), (8, .iload_n 2, 1), (9, .iadd, 1), (10, .sipush (-9999), 3), (13, .sipush 9999, 3), (16, .invokestatic 18, 3), (19, .ireturn, 1)]
theorem zd_X12_canMove : zq_ckC cX12_canMove zc_X12_canMove = true := by decide +kernel
theorem zp_X12_canMove : zq_pn yX12_canMove 2 = true := by decide +kernel
set_option maxRecDepth 1000000 in
theorem zn_X12_canMove : Cond.instanceMethod yX12_canMove ∈ zt := zw_t7 (i := 76) rfl rfl
theorem ze_X12_canMove : Cond.selects RX12 yX12_canMove yX12_canMove ∈ zt := zq_hw_ok (i := 87) (by decide +kernel)
set_option maxRecDepth 1000000 in
theorem zk_X12_moves : Cond.code yX12_moves cX12_moves 4 none ∈ zt := zw_t7 (i := 81) rfl rfl
noncomputable def zc_X12_moves : zq_Cd := [(0, .aload_n 0, 1), (1, .getfield 28, 3), (4, .iconst 0, 1), (5, .iload_n 1, 1), (6, .iadd, 1), (7, .dup2, 1), (8, .iaload, 1), (9, .iload_n 3, 1), (10, .isub, 1), (11, .iastore, 1), (12, .aload_n 0, 1), (13, .getfield 28, 3), (16, .iconst 0, 1), (17, .iload_n 2, 1), (18, .iadd, 1), (19, .dup2, 1), (20, .iaload, 1), (21, .iload_n 3, 1), (22, .iadd, 1), (23, .iastore, 1), (24, .return_, 1)]
theorem zd_X12_moves : zq_ckC cX12_moves zc_X12_moves = true := by decide +kernel
theorem zp_X12_moves : zq_pn yX12_moves 3 = true := by decide +kernel
set_option maxRecDepth 1000000 in
theorem zn_X12_moves : Cond.instanceMethod yX12_moves ∈ zt := zw_t7 (i := 80) rfl rfl
theorem ze_X12_moves : Cond.selects RX12 yX12_moves yX12_moves ∈ zt := zq_hw_ok (i := 88) (by decide +kernel)
set_option maxRecDepth 1000000 in
theorem zk_X12_doesNow : Cond.code yX12_doesNow cX12_doesNow 6 (some .int) ∈ zt := zw_t7 (i := 69) rfl rfl
noncomputable def zc_X12_doesNow : zq_Cd := [(0, .aload_n 0, 1), (1, .iload_n 1, 1), (2, .iload_n 2, 1), (3, .iload_n 3, 1), (4, .iconst 0, 1), (5, .invokevirtual 342, 3), (8, .istore 4, 2), (10, .iload 4, 2), (12, .bipush 7, 2), (14, .if_icmp .ne 5, 3), (17, .iconst (-1), 1), (18, .ireturn, 1), (19, .iload 4, 2), (21, .bipush 6, 2), (23, .if_icmp .eq 9, 3), (26, .iload 4, 2), (28, .iload_n 2, 1), (29, .if_icmp .ne 6, 3), (32, .iload 4, 2), (34, .ireturn, 1), (35, .aload_n 0, 1), (36, .iload_n 1, 1), (37, .iload_n 2, 1), (38, .iload_n 3, 1), (39, .invokevirtual 147, 3), (42, .istore 5, 2), (44, .aload_n 0, 1), (45, .iload 4, 2), (47, .iload 5, 2), (49, .ineg, 1), (50, .invokevirtual 345, 3), (53, .ifCond .eq 13, 3), (56, .aload_n 0, 1), (57, .iload_n 2, 1), (58, .iload 5, 2), (60, .invokevirtual 345, 3), (63, .ifCond .ne 5, 3), (66, .iconst (-1), 1), (67, .ireturn, 1), (68, .aload_n 0, 1), (69, .iload 4, 2), (71, .iload_n 2, 1), (72, .iload 5, 2), (74, .invokevirtual 348, 3), (77, .iload 4, 2), (79, .ireturn, 1)]
theorem zd_X12_doesNow : zq_ckC cX12_doesNow zc_X12_doesNow = true := by decide +kernel
theorem zp_X12_doesNow : zq_pn yX12_doesNow 3 = true := by decide +kernel
set_option maxRecDepth 1000000 in
theorem zn_X12_doesNow : Cond.instanceMethod yX12_doesNow ∈ zt := zw_t7 (i := 68) rfl rfl
theorem ze_X12_doesNow : Cond.selects RX12 yX12_doesNow yX12_doesNow ∈ zt := zq_hw_ok (i := 85) (by decide +kernel)
set_option maxRecDepth 1000000 in
theorem zk_X12_takesBack : Cond.code yX12_takesBack cX12_takesBack 3 none ∈ zt := zw_t7 (i := 85) rfl rfl
noncomputable def zc_X12_takesBack : zq_Cd := [(0, .iconst 0, 1), (1, .istore_n 2, 1), (2, .iload_n 2, 1), (3, .bipush 11, 2), (5, .if_icmp .ge 26, 3), (8, .aload_n 0, 1), (9, .getfield 28, 3), (12, .iload_n 2, 1), (13, .aload_n 0, 1), (14, .getfield 38, 3), (17, .bipush 11, 2), (19, .iload_n 1, 1), (20, .imul, 1), (21, .iload_n 2, 1), (22, .iadd, 1), (23, .iaload, 1), (24, .iastore, 1), (25, .iinc 2 1, 3), (28, .goto (-26), 3), (31, .return_, 1)]
theorem zd_X12_takesBack : zq_ckC cX12_takesBack zc_X12_takesBack = true := by decide +kernel
theorem zp_X12_takesBack : zq_pn yX12_takesBack 1 = true := by decide +kernel
set_option maxRecDepth 1000000 in
theorem zn_X12_takesBack : Cond.instanceMethod yX12_takesBack ∈ zt := zw_t7 (i := 84) rfl rfl
theorem ze_X12_takesBack : Cond.selects RX12 yX12_takesBack yX12_takesBack ∈ zt := zq_hw_ok (i := 89) (by decide +kernel)
set_option maxRecDepth 1000000 in
theorem zk_X12_keeps : Cond.code yX12_keeps cX12_keeps 4 none ∈ zt := zw_t7 (i := 89) rfl rfl
noncomputable def zc_X12_keeps : zq_Cd := [(0, .bipush 12, 2), (2, .istore_n 2, 1), (3, .aload_n 0, 1), (4, .getfield 11, 3), (7, .bipush 16, 2), (9, .if_icmp .ne 43, 3), (12, .iconst 0, 1), (13, .istore_n 3, 1), (14, .iload_n 3, 1), (15, .bipush 15, 2), (17, .iload_n 2, 1), (18, .imul, 1), (19, .if_icmp .ge 23, 3), (22, .aload_n 0, 1), (23, .getfield 66, 3), (26, .iload_n 3, 1), (27, .aload_n 0, 1), (28, .getfield 66, 3), (31, .iload_n 3, 1), (32, .iload_n 2, 1), (33, .iadd, 1), (34, .iaload, 1), (35, .iastore, 1), (36, .iinc 3 1, 3), (39, .goto (-25), 3), (42, .aload_n 0, 1), (43, .dup, 1), (44, .getfield 11, 3), (47, .iconst 1, 1), (48, .isub, 1), (49, .putfield 11, 3), (52, .iconst 0, 1), (53, .istore_n 3, 1), (54, .iload_n 3, 1), (55, .bipush 11, 2), (57, .if_icmp .ge 28, 3), (60, .aload_n 0, 1), (61, .getfield 66, 3), (64, .iload_n 2, 1), (65, .aload_n 0, 1), (66, .getfield 11, 3), (69, .imul, 1), (70, .iload_n 3, 1), (71, .iadd, 1), (72, .aload_n 0, 1), (73, .getfield 28, 3), (76, .iload_n 3, 1), (77, .iaload, 1), (78, .iastore, 1), (79, .iinc 3 1, 3), (82, .goto (-28), 3), (85, .aload_n 0, 1), (86, .getfield 66, 3), (89, .iload_n 2, 1), (90, .aload_n 0, 1), (91, .getfield 11, 3), (94, .imul, 1), (95, .bipush 11, 2), (97, .iadd, 1), (98, .iload_n 1, 1), (99, .iastore, 1), (100, .aload_n 0, 1), (101, .dup, 1), (102, .getfield 11, 3), (105, .iconst 1, 1), (106, .iadd, 1), (107, .putfield 11, 3), (110, .return_, 1)]
theorem zd_X12_keeps : zq_ckC cX12_keeps zc_X12_keeps = true := by decide +kernel
theorem zp_X12_keeps : zq_pn yX12_keeps 1 = true := by decide +kernel
set_option maxRecDepth 1000000 in
theorem zn_X12_keeps : Cond.instanceMethod yX12_keeps ∈ zt := zw_t7 (i := 88) rfl rfl
theorem ze_X12_keeps : Cond.selects RX12 yX12_keeps yX12_keeps ∈ zt := zq_hw_ok (i := 90) (by decide +kernel)
set_option maxRecDepth 1000000 in
theorem zk_X12_commitsKept : Cond.code yX12_commitsKept cX12_commitsKept 7 (some .int) ∈ zt := zw_t7 (i := 61) rfl rfl
noncomputable def zc_X12_commitsKept : zq_Cd := [(0, .iload_n 3, 1), (1, .invokestatic 126, 3), (4, .ifCond .ne 5, 3), (7, .iconst (-1), 1), (8, .ireturn, 1), (9, .aload_n 0, 1), (10, .iload_n 1, 1), (11, .invokevirtual 119, 3), (14, .ifCond .eq 11, 3), (17, .aload_n 0, 1), (18, .iload_n 2, 1), (19, .invokevirtual 123, 3), (22, .ifCond .ne 6, 3), (25, .bipush (-2), 2), (27, .ireturn, 1), (28, .aload_n 0, 1), (29, .iconst 0, 1), (30, .invokevirtual 351, 3), (33, .aload_n 0, 1), (34, .iload_n 1, 1), (35, .iload_n 2, 1), (36, .iload_n 3, 1), (37, .invokevirtual 354, 3), (40, .istore 4, 2), (42, .iload 4, 2), (44, .iconst (-1), 1), (45, .if_icmp .ne 6, 3), (48, .bipush (-3), 2), (50, .ireturn, 1), (51, .aload_n 0, 1), (52, .getfield 28, 3), (55, .iconst 0, 1), (56, .iload_n 2, 1), (57, .iadd, 1), (58, .iaload, 1), (59, .istore 5, 2), (61, .iload 4, 2), (63, .bipush 6, 2), (65, .if_icmp .ne 7, 3), (68, .iconst 0, 1), (69, .goto 12, 3), (72, .aload_n 0, 1), (73, .getfield 28, 3), (76, .iconst 0, 1), (77, .iload 4, 2), (79, .iadd, 1), (80, .iaload, 1), (81, .istore 6, 2), (83, .aload_n 0, 1), (84, .iconst 0, 1), (85, .invokevirtual 357, 3), (88, .aload_n 0, 1), (89, .iconst 0, 1), (90, .invokevirtual 360, 3), (93, .aload_n 0, 1), (94, .getfield 28, 3), (97, .iconst 0, 1), (98, .iload_n 2, 1), (99, .iadd, 1), (100, .iload 5, 2), (102, .iastore, 1), (103, .iload 4, 2), (105, .bipush 6, 2), (107, .if_icmp .eq 14, 3), (110, .aload_n 0, 1), (111, .getfield 28, 3), (114, .iconst 0, 1), (115, .iload 4, 2), (117, .iadd, 1), (118, .iload 6, 2), (120, .iastore, 1), (121, .iload 4, 2), (123, .ireturn, 1)]
theorem zd_X12_commitsKept : zq_ckC cX12_commitsKept zc_X12_commitsKept = true := by decide +kernel
theorem zp_X12_commitsKept : zq_pn yX12_commitsKept 3 = true := by decide +kernel
set_option maxRecDepth 1000000 in
theorem zn_X12_commitsKept : Cond.instanceMethod yX12_commitsKept ∈ zt := zw_t7 (i := 60) rfl rfl
theorem ze_X12_commitsKept : Cond.selects RX12 yX12_commitsKept yX12_commitsKept ∈ zt := zq_hw_ok (i := 83) (by decide +kernel)
set_option maxRecDepth 1000000 in
theorem zk_X12_goodOr : Cond.code yX12_goodOr cX12_goodOr 2 (some .int) ∈ zt := zw_t7 (i := 93) rfl rfl
noncomputable def zc_X12_goodOr : zq_Cd := [(0, .iload_n 1, 1), (1, .ifCond .ge 11, 3), (4, .aload_n 0, 1), (5, .iload_n 1, 1), (6, .invokevirtual 109, 3), (9, .goto 8, 3), (12, .aload_n 0, 1), (13, .iload_n 1, 1), (14, .invokevirtual 14, 3), (17, .ireturn, 1)]
theorem zd_X12_goodOr : zq_ckC cX12_goodOr zc_X12_goodOr = true := by decide +kernel
theorem zp_X12_goodOr : zq_pn yX12_goodOr 1 = true := by decide +kernel
set_option maxRecDepth 1000000 in
theorem zn_X12_goodOr : Cond.instanceMethod yX12_goodOr ∈ zt := zw_t7 (i := 92) rfl rfl
theorem ze_X12_goodOr : Cond.selects RX12 yX12_goodOr yX12_goodOr ∈ zt := zq_hw_ok (i := 91) (by decide +kernel)
set_option maxRecDepth 1000000 in
theorem zk_X12_commit : Cond.code yX12_commit cX12_commit 4 (some .int) ∈ zt := zw_t7 (i := 57) rfl rfl
noncomputable def zc_X12_commit : zq_Cd := [(0, .aload_n 0, 1), (1, .aload_n 0, 1), (2, .iload_n 1, 1), (3, .iload_n 2, 1), (4, .iload_n 3, 1), (5, .invokevirtual 366, 3), (8, .invokevirtual 369, 3), (11, .ireturn, 1)]
theorem zd_X12_commit : zq_ckC cX12_commit zc_X12_commit = true := by decide +kernel
theorem zp_X12_commit : zq_pn yX12_commit 3 = true := by decide +kernel
set_option maxRecDepth 1000000 in
theorem zn_X12_commit : Cond.instanceMethod yX12_commit ∈ zt := zw_t7 (i := 55) rfl rfl
set_option maxRecDepth 1000000 in
theorem ze_X12_commit : Cond.selects RX12 yX12_commit yX12_commit ∈ zt := zw_t7 (i := 56) rfl rfl
set_option maxRecDepth 1000000 in
theorem zk_X12_paysKept : Cond.code yX12_paysKept cX12_paysKept 4 (some .int) ∈ zt := zw_t7 (i := 101) rfl rfl
noncomputable def zc_X12_paysKept : zq_Cd := [(0, .iload_n 3, 1), (1, .iconst 1, 1), (2, .bipush 99, 2), (4, .invokestatic 18, 3), (7, .ifCond .eq 8, 3), (10, .iload_n 1, 1), (11, .iload_n 2, 1), (12, .if_icmp .ne 5, 3), (15, .iconst (-1), 1), (16, .ireturn, 1), (17, .aload_n 0, 1), (18, .iload_n 1, 1), (19, .invokevirtual 123, 3), (22, .ifCond .eq 11, 3), (25, .aload_n 0, 1), (26, .iload_n 2, 1), (27, .invokevirtual 123, 3), (30, .ifCond .ne 6, 3), (33, .bipush (-2), 2), (35, .ireturn, 1), (36, .aload_n 0, 1), (37, .iload_n 1, 1), (38, .iload_n 3, 1), (39, .invokevirtual 345, 3), (42, .ifCond .eq 13, 3), (45, .aload_n 0, 1), (46, .iload_n 2, 1), (47, .iload_n 3, 1), (48, .ineg, 1), (49, .invokevirtual 345, 3), (52, .ifCond .ne 6, 3), (55, .bipush (-3), 2), (57, .ireturn, 1), (58, .aload_n 0, 1), (59, .iconst 1, 1), (60, .invokevirtual 360, 3), (63, .aload_n 0, 1), (64, .iload_n 2, 1), (65, .iload_n 1, 1), (66, .iload_n 3, 1), (67, .invokevirtual 348, 3), (70, .aload_n 0, 1), (71, .getfield 28, 3), (74, .iconst 0, 1), (75, .iload_n 1, 1), (76, .iadd, 1), (77, .iaload, 1), (78, .sipush 9999, 3), (81, .iadd, 1), (82, .ireturn, 1)]
theorem zd_X12_paysKept : zq_ckC cX12_paysKept zc_X12_paysKept = true := by decide +kernel
theorem zp_X12_paysKept : zq_pn yX12_paysKept 3 = true := by decide +kernel
set_option maxRecDepth 1000000 in
theorem zn_X12_paysKept : Cond.instanceMethod yX12_paysKept ∈ zt := zw_t7 (i := 100) rfl rfl
theorem ze_X12_paysKept : Cond.selects RX12 yX12_paysKept yX12_paysKept ∈ zt := zq_hw_ok (i := 92) (by decide +kernel)
set_option maxRecDepth 1000000 in
theorem zk_X12_pay : Cond.code yX12_pay cX12_pay 4 (some .int) ∈ zt := zw_t7 (i := 97) rfl rfl
noncomputable def zc_X12_pay : zq_Cd := [(0, .aload_n 0, 1), (1, .aload_n 0, 1), (2, .iload_n 1, 1), (3, .iload_n 2, 1), (4, .iload_n 3, 1), (5, .invokevirtual 372, 3), (8, .invokevirtual 369, 3), (11, .ireturn, 1)]
theorem zd_X12_pay : zq_ckC cX12_pay zc_X12_pay = true := by decide +kernel
theorem zp_X12_pay : zq_pn yX12_pay 3 = true := by decide +kernel
set_option maxRecDepth 1000000 in
theorem zn_X12_pay : Cond.instanceMethod yX12_pay ∈ zt := zw_t7 (i := 95) rfl rfl
set_option maxRecDepth 1000000 in
theorem ze_X12_pay : Cond.selects RX12 yX12_pay yX12_pay ∈ zt := zw_t7 (i := 96) rfl rfl
set_option maxRecDepth 1000000 in
theorem zk_X12_isClock : Cond.code yX12_isClock cX12_isClock 1 (some .boolean) ∈ zt := zw_t7 (i := 112) rfl rfl
noncomputable def zc_X12_isClock : zq_Cd := [(0, .iload_n 0, 1), (1, .iconst 0, 1), (2, .bipush 6, 2), (4, .invokestatic 18, 3), (7, .ireturn, 1)]
theorem zd_X12_isClock : zq_ckC cX12_isClock zc_X12_isClock = true := by decide +kernel
theorem zp_X12_isClock : zq_pn yX12_isClock 1 = true := by decide +kernel
set_option maxRecDepth 1000000 in
theorem zs_X12_isClock : Cond.static yX12_isClock ∈ zt := zw_t7 (i := 111) rfl rfl
set_option maxRecDepth 1000000 in
theorem zk_X12_windsKept : Cond.code yX12_windsKept cX12_windsKept 4 (some .int) ∈ zt := zw_t7 (i := 109) rfl rfl
noncomputable def zc_X12_windsKept : zq_Cd := [(0, .iload_n 1, 1), (1, .invokestatic 126, 3), (4, .ifCond .eq 10, 3), (7, .iload_n 2, 1), (8, .invokestatic 363, 3), (11, .ifCond .ne 5, 3), (14, .iconst (-1), 1), (15, .ireturn, 1), (16, .aload_n 0, 1), (17, .getfield 28, 3), (20, .bipush 6, 2), (22, .iload_n 1, 1), (23, .iadd, 1), (24, .iaload, 1), (25, .istore_n 3, 1), (26, .iload_n 3, 1), (27, .iload_n 2, 1), (28, .if_icmp .ne 6, 3), (31, .bipush (-3), 2), (33, .ireturn, 1), (34, .aload_n 0, 1), (35, .iconst 2, 1), (36, .invokevirtual 360, 3), (39, .aload_n 0, 1), (40, .getfield 28, 3), (43, .bipush 6, 2), (45, .iload_n 1, 1), (46, .iadd, 1), (47, .iload_n 2, 1), (48, .iastore, 1), (49, .iload_n 3, 1), (50, .ireturn, 1)]
theorem zd_X12_windsKept : zq_ckC cX12_windsKept zc_X12_windsKept = true := by decide +kernel
theorem zp_X12_windsKept : zq_pn yX12_windsKept 2 = true := by decide +kernel
set_option maxRecDepth 1000000 in
theorem zn_X12_windsKept : Cond.instanceMethod yX12_windsKept ∈ zt := zw_t7 (i := 108) rfl rfl
theorem ze_X12_windsKept : Cond.selects RX12 yX12_windsKept yX12_windsKept ∈ zt := zq_hw_ok (i := 93) (by decide +kernel)
set_option maxRecDepth 1000000 in
theorem zk_X12_wind : Cond.code yX12_wind cX12_wind 3 (some .int) ∈ zt := zw_t7 (i := 105) rfl rfl
noncomputable def zc_X12_wind : zq_Cd := [(0, .aload_n 0, 1), (1, .aload_n 0, 1), (2, .iload_n 1, 1), (3, .iload_n 2, 1), (4, .invokevirtual 375, 3), (7, .invokevirtual 369, 3), (10, .ireturn, 1)]
theorem zd_X12_wind : zq_ckC cX12_wind zc_X12_wind = true := by decide +kernel
theorem zp_X12_wind : zq_pn yX12_wind 2 = true := by decide +kernel
set_option maxRecDepth 1000000 in
theorem zn_X12_wind : Cond.instanceMethod yX12_wind ∈ zt := zw_t7 (i := 103) rfl rfl
set_option maxRecDepth 1000000 in
theorem ze_X12_wind : Cond.selects RX12 yX12_wind yX12_wind ∈ zt := zw_t7 (i := 104) rfl rfl
set_option maxRecDepth 1000000 in
theorem zk_X12_passesKept : Cond.code yX12_passesKept cX12_passesKept 1 (some .int) ∈ zt := zw_t7 (i := 120) rfl rfl
noncomputable def zc_X12_passesKept : zq_Cd := [(0, .aload_n 0, 1), (1, .getfield 28, 3), (4, .bipush 10, 2), (6, .iaload, 1), (7, .sipush 999, 3), (10, .if_icmp .ne 6, 3), (13, .bipush (-3), 2), (15, .ireturn, 1), (16, .aload_n 0, 1), (17, .iconst 3, 1), (18, .invokevirtual 360, 3), (21, .aload_n 0, 1), (22, .getfield 28, 3), (25, .bipush 10, 2), (27, .dup2, 1), (28, .iaload, 1), (29, .iconst 1, 1), (30, .iadd, 1), (31, .iastore, 1), (32, .aload_n 0, 1), (33, .getfield 28, 3), (36, .bipush 10, 2), (38, .iaload, 1), (39, .ireturn, 1)]
theorem zd_X12_passesKept : zq_ckC cX12_passesKept zc_X12_passesKept = true := by decide +kernel
theorem zp_X12_passesKept : zq_pn yX12_passesKept 0 = true := by decide +kernel
set_option maxRecDepth 1000000 in
theorem zn_X12_passesKept : Cond.instanceMethod yX12_passesKept ∈ zt := zw_t7 (i := 119) rfl rfl
theorem ze_X12_passesKept : Cond.selects RX12 yX12_passesKept yX12_passesKept ∈ zt := zq_hw_ok (i := 94) (by decide +kernel)
set_option maxRecDepth 1000000 in
theorem zk_X12_pass : Cond.code yX12_pass cX12_pass 1 (some .int) ∈ zt := zw_t7 (i := 116) rfl rfl
noncomputable def zc_X12_pass : zq_Cd := [(0, .aload_n 0, 1), (1, .aload_n 0, 1), (2, .invokevirtual 378, 3), (5, .invokevirtual 369, 3), (8, .ireturn, 1)]
theorem zd_X12_pass : zq_ckC cX12_pass zc_X12_pass = true := by decide +kernel
theorem zp_X12_pass : zq_pn yX12_pass 0 = true := by decide +kernel
set_option maxRecDepth 1000000 in
theorem zn_X12_pass : Cond.instanceMethod yX12_pass ∈ zt := zw_t7 (i := 114) rfl rfl
set_option maxRecDepth 1000000 in
theorem ze_X12_pass : Cond.selects RX12 yX12_pass yX12_pass ∈ zt := zw_t7 (i := 115) rfl rfl
set_option maxRecDepth 1000000 in
theorem zk_X12_who : Cond.code yX12_who cX12_who 5 (some .int) ∈ zt := zw_t7 (i := 124) rfl rfl
noncomputable def zc_X12_who : zq_Cd := [(0, .aload_n 0, 1), (1, .iload_n 1, 1), (2, .iload_n 2, 1), (3, .iload_n 3, 1), (4, .invokevirtual 144, 3), (7, .ifCond .eq 26, 3), (10, .iload 4, 2), (12, .iconst 0, 1), (13, .bipush 99, 2), (15, .invokestatic 18, 3), (18, .ifCond .eq 15, 3), (21, .aload_n 0, 1), (22, .iload_n 1, 1), (23, .iload_n 2, 1), (24, .iload_n 3, 1), (25, .iload 4, 2), (27, .invokevirtual 342, 3), (30, .goto 4, 3), (33, .iconst (-1), 1), (34, .ireturn, 1)]
theorem zd_X12_who : zq_ckC cX12_who zc_X12_who = true := by decide +kernel
theorem zp_X12_who : zq_pn yX12_who 4 = true := by decide +kernel
set_option maxRecDepth 1000000 in
theorem zn_X12_who : Cond.instanceMethod yX12_who ∈ zt := zw_t7 (i := 122) rfl rfl
set_option maxRecDepth 1000000 in
theorem ze_X12_who : Cond.selects RX12 yX12_who yX12_who ∈ zt := zw_t7 (i := 123) rfl rfl
set_option maxRecDepth 1000000 in
theorem zk_X12_first : Cond.code yX12_first cX12_first 6 (some .int) ∈ zt := zw_t7 (i := 128) rfl rfl
noncomputable def zc_X12_first : zq_Cd := [(0, .aload_n 0, 1), (1, .iload_n 1, 1), (2, .iload_n 2, 1), (3, .iload_n 3, 1), (4, .invokevirtual 144, 3), (7, .ifCond .eq 14, 3), (10, .iload 4, 2), (12, .iconst 0, 1), (13, .bipush 7, 2), (15, .invokestatic 18, 3), (18, .ifCond .ne 5, 3), (21, .iconst (-1), 1), (22, .ireturn, 1), (23, .iconst 0, 1), (24, .istore 5, 2), (26, .iload 5, 2), (28, .bipush 60, 2), (30, .if_icmp .gt 23, 3), (33, .aload_n 0, 1), (34, .iload_n 1, 1), (35, .iload_n 2, 1), (36, .iload_n 3, 1), (37, .iload 5, 2), (39, .invokevirtual 342, 3), (42, .iload 4, 2), (44, .if_icmp .eq 9, 3), (47, .iinc 5 1, 3), (50, .goto (-24), 3), (53, .iload 5, 2), (55, .bipush 60, 2), (57, .if_icmp .le 7, 3), (60, .iconst (-1), 1), (61, .goto 5, 3), (64, .iload 5, 2), (66, .ireturn, 1)]
theorem zd_X12_first : zq_ckC cX12_first zc_X12_first = true := by decide +kernel
theorem zp_X12_first : zq_pn yX12_first 4 = true := by decide +kernel
set_option maxRecDepth 1000000 in
theorem zn_X12_first : Cond.instanceMethod yX12_first ∈ zt := zw_t7 (i := 126) rfl rfl
set_option maxRecDepth 1000000 in
theorem ze_X12_first : Cond.selects RX12 yX12_first yX12_first ∈ zt := zw_t7 (i := 127) rfl rfl
set_option maxRecDepth 1000000 in
theorem zk_X12_comesAgain : Cond.code yX12_comesAgain cX12_comesAgain 4 (some .boolean) ∈ zt := zw_t7 (i := 136) rfl rfl
noncomputable def zc_X12_comesAgain : zq_Cd := [(0, .iconst 1, 1), (1, .istore_n 2, 1), (2, .iconst 0, 1), (3, .istore_n 3, 1), (4, .iload_n 3, 1), (5, .iload_n 1, 1), (6, .iadd, 1), (7, .bipush 120, 2), (9, .if_icmp .ge 36, 3), (12, .iload_n 2, 1), (13, .ifCond .eq 32, 3), (16, .aload_n 0, 1), (17, .getfield 72, 3), (20, .iload_n 3, 1), (21, .iaload, 1), (22, .aload_n 0, 1), (23, .getfield 72, 3), (26, .iload_n 3, 1), (27, .iload_n 1, 1), (28, .iadd, 1), (29, .iaload, 1), (30, .if_icmp .ne 7, 3), (33, .iconst 1, 1), (34, .goto 4, 3), (37, .iconst 0, 1), (38, .istore_n 2, 1), (39, .iinc 3 1, 3), (42, .goto (-38), 3), (45, .iload_n 2, 1), (46, .ireturn, 1)]
theorem zd_X12_comesAgain : zq_ckC cX12_comesAgain zc_X12_comesAgain = true := by decide +kernel
theorem zp_X12_comesAgain : zq_pn yX12_comesAgain 1 = true := by decide +kernel
set_option maxRecDepth 1000000 in
theorem zn_X12_comesAgain : Cond.instanceMethod yX12_comesAgain ∈ zt := zw_t7 (i := 135) rfl rfl
theorem ze_X12_comesAgain : Cond.selects RX12 yX12_comesAgain yX12_comesAgain ∈ zt := zq_hw_ok (i := 95) (by decide +kernel)
set_option maxRecDepth 1000000 in
theorem zk_X12_period : Cond.code yX12_period cX12_period 5 (some .int) ∈ zt := zw_t7 (i := 132) rfl rfl
noncomputable def zc_X12_period : zq_Cd := [(0, .aload_n 0, 1), (1, .iload_n 1, 1), (2, .iload_n 2, 1), (3, .iload_n 3, 1), (4, .invokevirtual 144, 3), (7, .ifCond .ne 5, 3), (10, .iconst (-1), 1), (11, .ireturn, 1), (12, .iconst 0, 1), (13, .istore 4, 2), (15, .iload 4, 2), (17, .bipush 120, 2), (19, .if_icmp .ge 25, 3), (22, .aload_n 0, 1), (23, .getfield 72, 3), (26, .iload 4, 2), (28, .aload_n 0, 1), (29, .iload_n 1, 1), (30, .iload_n 2, 1), (31, .iload_n 3, 1), (32, .iload 4, 2), (34, .invokevirtual 342, 3), (37, .iastore, 1), (38, .iinc 4 1, 3), (41, .goto (-26), 3), (44, .iconst 1, 1), (45, .istore 4, 2), (47, .iload 4, 2), (49, .bipush 60, 2), (51, .if_icmp .gt 18, 3), (54, .aload_n 0, 1), (55, .iload 4, 2), (57, .invokevirtual 381, 3), (60, .ifCond .ne 9, 3), (63, .iinc 4 1, 3), (66, .goto (-19), 3), (69, .iload 4, 2), (71, .bipush 60, 2), (73, .if_icmp .le 7, 3), (76, .iconst (-1), 1), (77, .goto 5, 3), (80, .iload 4, 2), (82, .ireturn, 1)]
theorem zd_X12_period : zq_ckC cX12_period zc_X12_period = true := by decide +kernel
theorem zp_X12_period : zq_pn yX12_period 3 = true := by decide +kernel
set_option maxRecDepth 1000000 in
theorem zn_X12_period : Cond.instanceMethod yX12_period ∈ zt := zw_t7 (i := 130) rfl rfl
set_option maxRecDepth 1000000 in
theorem ze_X12_period : Cond.selects RX12 yX12_period yX12_period ∈ zt := zw_t7 (i := 131) rfl rfl
set_option maxRecDepth 1000000 in
theorem zk_X12_loopholes : Cond.code yX12_loopholes cX12_loopholes 7 (some .int) ∈ zt := zw_t7 (i := 140) rfl rfl
noncomputable def zc_X12_loopholes : zq_Cd := [(0, .iload_n 1, 1), (1, .invokestatic 126, 3), (4, .ifCond .eq 18, 3), (7, .iload_n 2, 1), (8, .iconst 0, 1), (9, .bipush 99, 2), (11, .invokestatic 18, 3), (14, .ifCond .eq 8, 3), (17, .iload_n 3, 1), (18, .iconst (-1), 1), (19, .if_icmp .ge 5, 3), (22, .iconst (-1), 1), (23, .ireturn, 1), (24, .iconst 0, 1), (25, .istore 4, 2), (27, .iconst 0, 1), (28, .istore 5, 2), (30, .iload 5, 2), (32, .aload_n 0, 1), (33, .getfield 28, 3), (36, .bipush 60, 2), (38, .iaload, 1), (39, .if_icmp .ge 63, 3), (42, .iconst 0, 1), (43, .istore 6, 2), (45, .iload 6, 2), (47, .aload_n 0, 1), (48, .invokevirtual 115, 3), (51, .if_icmp .ge 45, 3), (54, .aload_n 0, 1), (55, .iload 5, 2), (57, .iload 6, 2), (59, .iload_n 1, 1), (60, .iload_n 2, 1), (61, .invokevirtual 342, 3), (64, .bipush 6, 2), (66, .if_icmp .eq 6, 3), (69, .goto 21, 3), (72, .iload 4, 2), (74, .iload_n 3, 1), (75, .if_icmp .ne 12, 3), (78, .bipush 10, 2), (80, .iload 5, 2), (82, .imul, 1), (83, .iload 6, 2), (85, .iadd, 1), (86, .ireturn, 1), (87, .iinc 4 1, 3), (90, .iinc 6 1, 3), (93, .goto (-48), 3), (96, .iinc 5 1, 3), (99, .goto (-69), 3), (102, .iload_n 3, 1), (103, .iconst (-1), 1), (104, .if_icmp .ne 8, 3), (107, .iload 4, 2), (109, .goto 4, 3), (112, .iconst (-1), 1), (113, .ireturn, 1)]
theorem zd_X12_loopholes : zq_ckC cX12_loopholes zc_X12_loopholes = true := by decide +kernel
theorem zp_X12_loopholes : zq_pn yX12_loopholes 3 = true := by decide +kernel
set_option maxRecDepth 1000000 in
theorem zn_X12_loopholes : Cond.instanceMethod yX12_loopholes ∈ zt := zw_t7 (i := 138) rfl rfl
set_option maxRecDepth 1000000 in
theorem ze_X12_loopholes : Cond.selects RX12 yX12_loopholes yX12_loopholes ∈ zt := zw_t7 (i := 139) rfl rfl
set_option maxRecDepth 1000000 in
theorem zk_X12_greater : Cond.code yX12_greater cX12_greater 2 (some .int) ∈ zt := zw_t7 (i := 147) rfl rfl
noncomputable def zc_X12_greater : zq_Cd := [(0, .iload_n 0, 1), (1, .iload_n 1, 1), (2, .if_icmp .le 7, 3), (5, .iload_n 0, 1), (6, .goto 4, 3), (9, .iload_n 1, 1), (10, .ireturn, 1)]
theorem zd_X12_greater : zq_ckC cX12_greater zc_X12_greater = true := by decide +kernel
theorem zp_X12_greater : zq_pn yX12_greater 2 = true := by decide +kernel
set_option maxRecDepth 1000000 in
theorem zs_X12_greater : Cond.static yX12_greater ∈ zt := zw_t7 (i := 146) rfl rfl
set_option maxRecDepth 1000000 in
theorem zk_X12_plans : Cond.code yX12_plans cX12_plans 5 (some .boolean) ∈ zt := zw_t7 (i := 151) rfl rfl
noncomputable def zc_X12_plans : zq_Cd := [(0, .iload_n 1, 1), (1, .aload_n 0, 1), (2, .getfield 28, 3), (5, .bipush 60, 2), (7, .iaload, 1), (8, .if_icmp .ne 5, 3), (11, .iconst 1, 1), (12, .ireturn, 1), (13, .iconst 0, 1), (14, .istore 4, 2), (16, .iload 4, 2), (18, .iload_n 3, 1), (19, .if_icmp .gt 63, 3), (22, .iload_n 2, 1), (23, .iload 4, 2), (25, .invokestatic 137, 3), (28, .ifCond .ne 48, 3), (31, .aload_n 0, 1), (32, .getfield 75, 3), (35, .bipush 10, 2), (37, .iload_n 1, 1), (38, .imul, 1), (39, .iload 4, 2), (41, .iadd, 1), (42, .baload, 1), (43, .ifCond .ne 6, 3), (46, .goto 30, 3), (49, .aload_n 0, 1), (50, .getfield 78, 3), (53, .iload_n 1, 1), (54, .iload 4, 2), (56, .iastore, 1), (57, .aload_n 0, 1), (58, .iload_n 1, 1), (59, .iconst 1, 1), (60, .iadd, 1), (61, .iload_n 2, 1), (62, .iconst 1, 1), (63, .iload 4, 2), (65, .ishl, 1), (66, .ior, 1), (67, .iload_n 3, 1), (68, .invokevirtual 384, 3), (71, .ifCond .eq 5, 3), (74, .iconst 1, 1), (75, .ireturn, 1), (76, .iinc 4 1, 3), (79, .goto (-63), 3), (82, .iconst 0, 1), (83, .ireturn, 1)]
theorem zd_X12_plans : zq_ckC cX12_plans zc_X12_plans = true := by decide +kernel
theorem zp_X12_plans : zq_pn yX12_plans 3 = true := by decide +kernel
set_option maxRecDepth 1000000 in
theorem zn_X12_plans : Cond.instanceMethod yX12_plans ∈ zt := zw_t7 (i := 150) rfl rfl
theorem ze_X12_plans : Cond.selects RX12 yX12_plans yX12_plans ∈ zt := zq_hw_ok (i := 96) (by decide +kernel)
set_option maxRecDepth 1000000 in
theorem zk_X12_plan : Cond.code yX12_plan cX12_plan 8 (some .int) ∈ zt := zw_t7 (i := 144) rfl rfl
noncomputable def zc_X12_plan : zq_Cd := [(0, .aload_n 0, 1), (1, .iload_n 1, 1), (2, .invokevirtual 123, 3), (5, .ifCond .eq 34, 3), (8, .iload_n 2, 1), (9, .invokestatic 126, 3), (12, .ifCond .eq 27, 3), (15, .aload_n 0, 1), (16, .iload_n 3, 1), (17, .invokevirtual 123, 3), (20, .ifCond .eq 19, 3), (23, .iload 4, 2), (25, .iconst 0, 1), (26, .aload_n 0, 1), (27, .getfield 28, 3), (30, .bipush 60, 2), (32, .iaload, 1), (33, .invokestatic 18, 3), (36, .ifCond .ne 5, 3), (39, .iconst (-1), 1), (40, .ireturn, 1), (41, .iconst 0, 1), (42, .istore 5, 2), (44, .iload 5, 2), (46, .aload_n 0, 1), (47, .getfield 28, 3), (50, .bipush 60, 2), (52, .iaload, 1), (53, .if_icmp .ge 68, 3), (56, .iconst 0, 1), (57, .istore 6, 2), (59, .iload 6, 2), (61, .bipush 10, 2), (63, .if_icmp .ge 52, 3), (66, .aload_n 0, 1), (67, .iload 5, 2), (69, .iload_n 1, 1), (70, .iload_n 2, 1), (71, .iload 6, 2), (73, .invokevirtual 342, 3), (76, .istore 7, 2), (78, .aload_n 0, 1), (79, .getfield 75, 3), (82, .bipush 10, 2), (84, .iload 5, 2), (86, .imul, 1), (87, .iload 6, 2), (89, .iadd, 1), (90, .iload 7, 2), (92, .iload_n 3, 1), (93, .if_icmp .eq 14, 3), (96, .iload 7, 2), (98, .bipush 7, 2), (100, .if_icmp .eq 7, 3), (103, .iconst 1, 1), (104, .goto 4, 3), (107, .iconst 0, 1), (108, .bastore, 1), (109, .iinc 6 1, 3), (112, .goto (-53), 3), (115, .iinc 5 1, 3), (118, .goto (-74), 3), (121, .iconst 0, 1), (122, .aload_n 0, 1), (123, .getfield 28, 3), (126, .bipush 60, 2), (128, .iaload, 1), (129, .iconst 1, 1), (130, .isub, 1), (131, .invokestatic 387, 3), (134, .istore 5, 2), (136, .iload 5, 2), (138, .bipush 10, 2), (140, .if_icmp .ge 20, 3), (143, .aload_n 0, 1), (144, .iconst 0, 1), (145, .iconst 0, 1), (146, .iload 5, 2), (148, .invokevirtual 384, 3), (151, .ifCond .ne 9, 3), (154, .iinc 5 1, 3), (157, .goto (-21), 3), (160, .iload 5, 2), (162, .bipush 10, 2), (164, .if_icmp .ne 5, 3), (167, .iconst (-1), 1), (168, .ireturn, 1), (169, .iload 4, 2), (171, .ifCond .ne 8, 3), (174, .iload 5, 2), (176, .goto 12, 3), (179, .aload_n 0, 1), (180, .getfield 78, 3), (183, .iload 4, 2), (185, .iconst 1, 1), (186, .isub, 1), (187, .iaload, 1), (188, .ireturn, 1)]
theorem zd_X12_plan : zq_ckC cX12_plan zc_X12_plan = true := by decide +kernel
theorem zp_X12_plan : zq_pn yX12_plan 4 = true := by decide +kernel
set_option maxRecDepth 1000000 in
theorem zn_X12_plan : Cond.instanceMethod yX12_plan ∈ zt := zw_t7 (i := 142) rfl rfl
set_option maxRecDepth 1000000 in
theorem ze_X12_plan : Cond.selects RX12 yX12_plan yX12_plan ∈ zt := zw_t7 (i := 143) rfl rfl
set_option maxRecDepth 1000000 in
theorem zk_X12_bindsFrom : Cond.code yX12_bindsFrom cX12_bindsFrom 3 (some .int) ∈ zt := zw_t7 (i := 163) rfl rfl
noncomputable def zc_X12_bindsFrom : zq_Cd := [(0, .aload_n 0, 1), (1, .getfield 81, 3), (4, .iconst 4, 1), (5, .iload_n 1, 1), (6, .imul, 1), (7, .iload_n 2, 1), (8, .iadd, 1), (9, .iaload, 1), (10, .ireturn, 1)]
theorem zd_X12_bindsFrom : zq_ckC cX12_bindsFrom zc_X12_bindsFrom = true := by decide +kernel
theorem zp_X12_bindsFrom : zq_pn yX12_bindsFrom 2 = true := by decide +kernel
set_option maxRecDepth 1000000 in
theorem zn_X12_bindsFrom : Cond.instanceMethod yX12_bindsFrom ∈ zt := zw_t7 (i := 162) rfl rfl
theorem ze_X12_bindsFrom : Cond.selects RX12 yX12_bindsFrom yX12_bindsFrom ∈ zt := zq_hw_ok (i := 98) (by decide +kernel)
set_option maxRecDepth 1000000 in
theorem zk_X12_nextPlace : Cond.code yX12_nextPlace cX12_nextPlace 5 (some .int) ∈ zt := zw_t7 (i := 159) rfl rfl
noncomputable def zc_X12_nextPlace : zq_Cd := [(0, .iload_n 2, 1), (1, .istore_n 3, 1), (2, .iconst 3, 1), (3, .istore 4, 2), (5, .iload 4, 2), (7, .ifCond .lt 84, 3), (10, .iload 4, 2), (12, .iload_n 2, 1), (13, .if_icmp .eq 23, 3), (16, .aload_n 0, 1), (17, .getfield 28, 3), (20, .bipush 17, 2), (22, .iload_n 2, 1), (23, .iadd, 1), (24, .iaload, 1), (25, .iload 4, 2), (27, .invokestatic 137, 3), (30, .ifCond .ne 6, 3), (33, .goto 52, 3), (36, .aload_n 0, 1), (37, .iload_n 1, 1), (38, .iconst 1, 1), (39, .iadd, 1), (40, .iload 4, 2), (42, .invokevirtual 390, 3), (45, .aload_n 0, 1), (46, .iload_n 1, 1), (47, .iconst 1, 1), (48, .iadd, 1), (49, .iload_n 3, 1), (50, .invokevirtual 390, 3), (53, .if_icmp .lt 29, 3), (56, .aload_n 0, 1), (57, .iload_n 1, 1), (58, .iconst 1, 1), (59, .iadd, 1), (60, .iload 4, 2), (62, .invokevirtual 390, 3), (65, .aload_n 0, 1), (66, .iload_n 1, 1), (67, .iconst 1, 1), (68, .iadd, 1), (69, .iload_n 3, 1), (70, .invokevirtual 390, 3), (73, .if_icmp .ne 12, 3), (76, .iload 4, 2), (78, .iload_n 3, 1), (79, .if_icmp .ge 6, 3), (82, .iload 4, 2), (84, .istore_n 3, 1), (85, .iinc 4 (-1), 3), (88, .goto (-83), 3), (91, .iload_n 3, 1), (92, .ireturn, 1)]
theorem zd_X12_nextPlace : zq_ckC cX12_nextPlace zc_X12_nextPlace = true := by decide +kernel
theorem zp_X12_nextPlace : zq_pn yX12_nextPlace 2 = true := by decide +kernel
set_option maxRecDepth 1000000 in
theorem zn_X12_nextPlace : Cond.instanceMethod yX12_nextPlace ∈ zt := zw_t7 (i := 158) rfl rfl
theorem ze_X12_nextPlace : Cond.selects RX12 yX12_nextPlace yX12_nextPlace ∈ zt := zq_hw_ok (i := 97) (by decide +kernel)
set_option maxRecDepth 1000000 in
theorem zk_X12_walk : Cond.code yX12_walk cX12_walk 8 (some .int) ∈ zt := zw_t7 (i := 155) rfl rfl
noncomputable def zc_X12_walk : zq_Cd := [(0, .aload_n 0, 1), (1, .iload_n 1, 1), (2, .iload_n 2, 1), (3, .iload_n 3, 1), (4, .invokevirtual 144, 3), (7, .ifCond .eq 25, 3), (10, .iload 4, 2), (12, .iconst 1, 1), (13, .bipush 20, 2), (15, .invokestatic 18, 3), (18, .ifCond .eq 14, 3), (21, .iload 5, 2), (23, .iconst 0, 1), (24, .iload 4, 2), (26, .invokestatic 18, 3), (29, .ifCond .ne 5, 3), (32, .iconst (-1), 1), (33, .ireturn, 1), (34, .iconst 0, 1), (35, .istore 6, 2), (37, .iload 6, 2), (39, .iconst 4, 1), (40, .if_icmp .ge 22, 3), (43, .aload_n 0, 1), (44, .getfield 81, 3), (47, .iconst 4, 1), (48, .iload 4, 2), (50, .imul, 1), (51, .iload 6, 2), (53, .iadd, 1), (54, .iconst 0, 1), (55, .iastore, 1), (56, .iinc 6 1, 3), (59, .goto (-22), 3), (62, .iload 4, 2), (64, .iconst 1, 1), (65, .isub, 1), (66, .istore 6, 2), (68, .iload 6, 2), (70, .ifCond .lt 72, 3), (73, .iconst 0, 1), (74, .istore 7, 2), (76, .iload 7, 2), (78, .iconst 4, 1), (79, .if_icmp .ge 57, 3), (82, .aload_n 0, 1), (83, .getfield 81, 3), (86, .iconst 4, 1), (87, .iload 6, 2), (89, .imul, 1), (90, .iload 7, 2), (92, .iadd, 1), (93, .aload_n 0, 1), (94, .iload_n 1, 1), (95, .iload_n 2, 1), (96, .iload 7, 2), (98, .iload 6, 2), (100, .invokevirtual 342, 3), (103, .iload_n 2, 1), (104, .if_icmp .ne 7, 3), (107, .iconst 1, 1), (108, .goto 4, 3), (111, .iconst 0, 1), (112, .aload_n 0, 1), (113, .iload 6, 2), (115, .iconst 1, 1), (116, .iadd, 1), (117, .aload_n 0, 1), (118, .iload 6, 2), (120, .iload 7, 2), (122, .invokevirtual 393, 3), (125, .invokevirtual 390, 3), (128, .iadd, 1), (129, .iastore, 1), (130, .iinc 7 1, 3), (133, .goto (-57), 3), (136, .iinc 6 (-1), 3), (139, .goto (-71), 3), (142, .iload 5, 2), (144, .ifCond .ne 10, 3), (147, .aload_n 0, 1), (148, .iconst 0, 1), (149, .iload_n 3, 1), (150, .invokevirtual 390, 3), (153, .ireturn, 1), (154, .iload_n 3, 1), (155, .istore 6, 2), (157, .iconst 0, 1), (158, .istore 7, 2), (160, .iload 7, 2), (162, .iload 5, 2), (164, .iconst 1, 1), (165, .isub, 1), (166, .if_icmp .ge 19, 3), (169, .aload_n 0, 1), (170, .iload 7, 2), (172, .iload 6, 2), (174, .invokevirtual 393, 3), (177, .istore 6, 2), (179, .iinc 7 1, 3), (182, .goto (-22), 3), (185, .iload 6, 2), (187, .ireturn, 1)]
theorem zd_X12_walk : zq_ckC cX12_walk zc_X12_walk = true := by decide +kernel
theorem zp_X12_walk : zq_pn yX12_walk 5 = true := by decide +kernel
set_option maxRecDepth 1000000 in
theorem zn_X12_walk : Cond.instanceMethod yX12_walk ∈ zt := zw_t7 (i := 153) rfl rfl
set_option maxRecDepth 1000000 in
theorem ze_X12_walk : Cond.selects RX12 yX12_walk yX12_walk ∈ zt := zw_t7 (i := 154) rfl rfl
set_option maxRecDepth 1000000 in
theorem zk_X12_ones : Cond.code yX12_ones cX12_ones 3 (some .int) ∈ zt := zw_t7 (i := 174) rfl rfl
noncomputable def zc_X12_ones : zq_Cd := [(0, .iconst 0, 1), (1, .istore_n 1, 1), (2, .iconst 0, 1), (3, .istore_n 2, 1), (4, .iload_n 2, 1), (5, .bipush 6, 2), (7, .if_icmp .ge 17, 3), (10, .iload_n 1, 1), (11, .iload_n 0, 1), (12, .iload_n 2, 1), (13, .ishr, 1), (14, .iconst 1, 1), (15, .iand, 1), (16, .iadd, 1), (17, .istore_n 1, 1), (18, .iinc 2 1, 3), (21, .goto (-17), 3), (24, .iload_n 1, 1), (25, .ireturn, 1)]
theorem zd_X12_ones : zq_ckC cX12_ones zc_X12_ones = true := by decide +kernel
theorem zp_X12_ones : zq_pn yX12_ones 1 = true := by decide +kernel
set_option maxRecDepth 1000000 in
theorem zs_X12_ones : Cond.static yX12_ones ∈ zt := zw_t7 (i := 173) rfl rfl
set_option maxRecDepth 1000000 in
theorem zk_X12_balanceOf : Cond.code yX12_balanceOf cX12_balanceOf 4 (some .int) ∈ zt := zw_t7 (i := 171) rfl rfl
noncomputable def zc_X12_balanceOf : zq_Cd := [(0, .iconst 0, 1), (1, .istore_n 2, 1), (2, .iconst 0, 1), (3, .istore_n 3, 1), (4, .iload_n 3, 1), (5, .aload_n 0, 1), (6, .invokevirtual 115, 3), (9, .if_icmp .ge 32, 3), (12, .iload_n 2, 1), (13, .iload_n 1, 1), (14, .iload_n 3, 1), (15, .invokestatic 137, 3), (18, .ifCond .eq 14, 3), (21, .aload_n 0, 1), (22, .getfield 28, 3), (25, .iconst 0, 1), (26, .iload_n 3, 1), (27, .iadd, 1), (28, .iaload, 1), (29, .goto 4, 3), (32, .iconst 0, 1), (33, .iadd, 1), (34, .istore_n 2, 1), (35, .iinc 3 1, 3), (38, .goto (-34), 3), (41, .iload_n 2, 1), (42, .ireturn, 1)]
theorem zd_X12_balanceOf : zq_ckC cX12_balanceOf zc_X12_balanceOf = true := by decide +kernel
theorem zp_X12_balanceOf : zq_pn yX12_balanceOf 1 = true := by decide +kernel
set_option maxRecDepth 1000000 in
theorem zn_X12_balanceOf : Cond.instanceMethod yX12_balanceOf ∈ zt := zw_t7 (i := 170) rfl rfl
theorem ze_X12_balanceOf : Cond.selects RX12 yX12_balanceOf yX12_balanceOf ∈ zt := zq_hw_ok (i := 99) (by decide +kernel)
set_option maxRecDepth 1000000 in
theorem zk_X12_quits : Cond.code yX12_quits cX12_quits 4 (some .int) ∈ zt := zw_t7 (i := 167) rfl rfl
noncomputable def zc_X12_quits : zq_Cd := [(0, .iconst 0, 1), (1, .istore_n 1, 1), (2, .iconst 0, 1), (3, .istore_n 2, 1), (4, .iload_n 2, 1), (5, .aload_n 0, 1), (6, .invokevirtual 115, 3), (9, .if_icmp .ge 30, 3), (12, .iload_n 1, 1), (13, .aload_n 0, 1), (14, .getfield 28, 3), (17, .iconst 0, 1), (18, .iload_n 2, 1), (19, .iadd, 1), (20, .iaload, 1), (21, .ifCond .ne 7, 3), (24, .iconst 0, 1), (25, .goto 6, 3), (28, .iconst 1, 1), (29, .iload_n 2, 1), (30, .ishl, 1), (31, .ior, 1), (32, .istore_n 1, 1), (33, .iinc 2 1, 3), (36, .goto (-32), 3), (39, .iconst 0, 1), (40, .istore_n 2, 1), (41, .iload_n 2, 1), (42, .iload_n 1, 1), (43, .if_icmp .gt 84, 3), (46, .aload_n 0, 1), (47, .getfield 84, 3), (50, .iload_n 2, 1), (51, .iload_n 2, 1), (52, .ifCond .ne 7, 3), (55, .iconst 0, 1), (56, .goto 4, 3), (59, .iconst (-1), 1), (60, .iastore, 1), (61, .iload_n 2, 1), (62, .istore_n 3, 1), (63, .iload_n 3, 1), (64, .ifCond .le 57, 3), (67, .aload_n 0, 1), (68, .iload_n 3, 1), (69, .invokevirtual 396, 3), (72, .ifCond .ne 40, 3), (75, .aload_n 0, 1), (76, .getfield 84, 3), (79, .iload_n 2, 1), (80, .iload_n 3, 1), (81, .ixor, 1), (82, .iaload, 1), (83, .iconst (-1), 1), (84, .if_icmp .eq 28, 3), (87, .aload_n 0, 1), (88, .getfield 84, 3), (91, .iload_n 2, 1), (92, .aload_n 0, 1), (93, .getfield 84, 3), (96, .iload_n 2, 1), (97, .iaload, 1), (98, .aload_n 0, 1), (99, .getfield 84, 3), (102, .iload_n 2, 1), (103, .iload_n 3, 1), (104, .ixor, 1), (105, .iaload, 1), (106, .iconst 1, 1), (107, .iadd, 1), (108, .invokestatic 387, 3), (111, .iastore, 1), (112, .iload_n 3, 1), (113, .iconst 1, 1), (114, .isub, 1), (115, .iload_n 2, 1), (116, .iand, 1), (117, .istore_n 3, 1), (118, .goto (-55), 3), (121, .iinc 2 1, 3), (124, .goto (-83), 3), (127, .iload_n 1, 1), (128, .invokestatic 399, 3), (131, .aload_n 0, 1), (132, .getfield 84, 3), (135, .iload_n 1, 1), (136, .iaload, 1), (137, .isub, 1), (138, .ireturn, 1)]
theorem zd_X12_quits : zq_ckC cX12_quits zc_X12_quits = true := by decide +kernel
theorem zp_X12_quits : zq_pn yX12_quits 0 = true := by decide +kernel
set_option maxRecDepth 1000000 in
theorem zn_X12_quits : Cond.instanceMethod yX12_quits ∈ zt := zw_t7 (i := 165) rfl rfl
set_option maxRecDepth 1000000 in
theorem ze_X12_quits : Cond.selects RX12 yX12_quits yX12_quits ∈ zt := zw_t7 (i := 166) rfl rfl
set_option maxRecDepth 1000000 in
theorem zk_X12_seen : Cond.code yX12_seen cX12_seen 6 (some .int) ∈ zt := zw_t7 (i := 178) rfl rfl
noncomputable def zc_X12_seen : zq_Cd := [(0, .iload_n 1, 1), (1, .iconst 0, 1), (2, .sipush 999, 3), (5, .invokestatic 18, 3), (8, .ifCond .eq 21, 3), (11, .iload_n 3, 1), (12, .invokestatic 126, 3), (15, .ifCond .eq 14, 3), (18, .iload 4, 2), (20, .iconst 0, 1), (21, .bipush 6, 2), (23, .invokestatic 18, 3), (26, .ifCond .ne 9, 3), (29, .aload_n 0, 1), (30, .iconst (-1), 1), (31, .invokevirtual 109, 3), (34, .ireturn, 1), (35, .aload_n 0, 1), (36, .iload_n 2, 1), (37, .invokevirtual 119, 3), (40, .ifCond .eq 19, 3), (43, .iload 4, 2), (45, .bipush 6, 2), (47, .if_icmp .eq 19, 3), (50, .aload_n 0, 1), (51, .iload 4, 2), (53, .invokevirtual 123, 3), (56, .ifCond .ne 10, 3), (59, .aload_n 0, 1), (60, .bipush (-2), 2), (62, .invokevirtual 109, 3), (65, .ireturn, 1), (66, .bipush 33, 2), (68, .iconst 4, 1), (69, .aload_n 0, 1), (70, .getfield 28, 3), (73, .bipush 61, 2), (75, .iaload, 1), (76, .imul, 1), (77, .iadd, 1), (78, .istore 5, 2), (80, .aload_n 0, 1), (81, .getfield 28, 3), (84, .bipush 61, 2), (86, .iaload, 1), (87, .bipush 6, 2), (89, .if_icmp .ne 10, 3), (92, .aload_n 0, 1), (93, .bipush (-5), 2), (95, .invokevirtual 109, 3), (98, .ireturn, 1), (99, .aload_n 0, 1), (100, .getfield 28, 3), (103, .iload 5, 2), (105, .iload_n 1, 1), (106, .iastore, 1), (107, .aload_n 0, 1), (108, .getfield 28, 3), (111, .iload 5, 2), (113, .iconst 1, 1), (114, .iadd, 1), (115, .iload_n 2, 1), (116, .iastore, 1), (117, .aload_n 0, 1), (118, .getfield 28, 3), (121, .iload 5, 2), (123, .iconst 2, 1), (124, .iadd, 1), (125, .iload_n 3, 1), (126, .iastore, 1), (127, .aload_n 0, 1), (128, .getfield 28, 3), (131, .iload 5, 2), (133, .iconst 3, 1), (134, .iadd, 1), (135, .iload 4, 2), (137, .iastore, 1), (138, .aload_n 0, 1), (139, .getfield 28, 3), (142, .bipush 61, 2), (144, .dup2, 1), (145, .iaload, 1), (146, .iconst 1, 1), (147, .iadd, 1), (148, .iastore, 1), (149, .aload_n 0, 1), (150, .aload_n 0, 1), (151, .getfield 28, 3), (154, .bipush 61, 2), (156, .iaload, 1), (157, .invokevirtual 14, 3), (160, .ireturn, 1)]
theorem zd_X12_seen : zq_ckC cX12_seen zc_X12_seen = true := by decide +kernel
theorem zp_X12_seen : zq_pn yX12_seen 4 = true := by decide +kernel
set_option maxRecDepth 1000000 in
theorem zn_X12_seen : Cond.instanceMethod yX12_seen ∈ zt := zw_t7 (i := 176) rfl rfl
set_option maxRecDepth 1000000 in
theorem ze_X12_seen : Cond.selects RX12 yX12_seen yX12_seen ∈ zt := zw_t7 (i := 177) rfl rfl
set_option maxRecDepth 1000000 in
theorem zk_X12_forget : Cond.code yX12_forget cX12_forget 2 (some .int) ∈ zt := zw_t7 (i := 182) rfl rfl
noncomputable def zc_X12_forget : zq_Cd := [(0, .aload_n 0, 1), (1, .getfield 28, 3), (4, .bipush 61, 2), (6, .iaload, 1), (7, .istore_n 1, 1), (8, .aload_n 0, 1), (9, .getfield 28, 3), (12, .bipush 61, 2), (14, .iconst 0, 1), (15, .iastore, 1), (16, .iload_n 1, 1), (17, .ireturn, 1)]
theorem zd_X12_forget : zq_ckC cX12_forget zc_X12_forget = true := by decide +kernel
theorem zp_X12_forget : zq_pn yX12_forget 0 = true := by decide +kernel
set_option maxRecDepth 1000000 in
theorem zn_X12_forget : Cond.instanceMethod yX12_forget ∈ zt := zw_t7 (i := 180) rfl rfl
set_option maxRecDepth 1000000 in
theorem ze_X12_forget : Cond.selects RX12 yX12_forget yX12_forget ∈ zt := zw_t7 (i := 181) rfl rfl
set_option maxRecDepth 1000000 in
theorem zk_X12_isDoer : Cond.code yX12_isDoer cX12_isDoer 5 (some .boolean) ∈ zt := zw_t7 (i := 190) rfl rfl
noncomputable def zc_X12_isDoer : zq_Cd := [(0, .iconst 1, 1), (1, .istore_n 2, 1), (2, .iconst 0, 1), (3, .istore_n 3, 1), (4, .iload_n 3, 1), (5, .aload_n 0, 1), (6, .getfield 28, 3), (9, .bipush 61, 2), (11, .iaload, 1), (12, .if_icmp .ge 69, 3), (15, .iload_n 2, 1), (16, .ifCond .eq 65, 3), (19, .bipush 33, 2), (21, .iconst 4, 1), (22, .iload_n 3, 1), (23, .imul, 1), (24, .iadd, 1), (25, .istore 4, 2), (27, .aload_n 0, 1), (28, .aload_n 0, 1), (29, .getfield 28, 3), (32, .iload 4, 2), (34, .iconst 1, 1), (35, .iadd, 1), (36, .iaload, 1), (37, .iload_n 1, 1), (38, .aload_n 0, 1), (39, .getfield 28, 3), (42, .iload 4, 2), (44, .iconst 2, 1), (45, .iadd, 1), (46, .iaload, 1), (47, .aload_n 0, 1), (48, .getfield 28, 3), (51, .iload 4, 2), (53, .iaload, 1), (54, .invokevirtual 151, 3), (57, .aload_n 0, 1), (58, .getfield 28, 3), (61, .iload 4, 2), (63, .iconst 3, 1), (64, .iadd, 1), (65, .iaload, 1), (66, .if_icmp .ne 7, 3), (69, .iconst 1, 1), (70, .goto 4, 3), (73, .iconst 0, 1), (74, .istore_n 2, 1), (75, .iinc 3 1, 3), (78, .goto (-74), 3), (81, .iload_n 2, 1), (82, .ireturn, 1)]
theorem zd_X12_isDoer : zq_ckC cX12_isDoer zc_X12_isDoer = true := by decide +kernel
theorem zp_X12_isDoer : zq_pn yX12_isDoer 1 = true := by decide +kernel
set_option maxRecDepth 1000000 in
theorem zn_X12_isDoer : Cond.instanceMethod yX12_isDoer ∈ zt := zw_t7 (i := 189) rfl rfl
theorem ze_X12_isDoer : Cond.selects RX12 yX12_isDoer yX12_isDoer ∈ zt := zq_hw_ok (i := 100) (by decide +kernel)
set_option maxRecDepth 1000000 in
theorem zk_X12_doers : Cond.code yX12_doers cX12_doers 3 (some .int) ∈ zt := zw_t7 (i := 186) rfl rfl
noncomputable def zc_X12_doers : zq_Cd := [(0, .iconst 0, 1), (1, .istore_n 1, 1), (2, .iconst 0, 1), (3, .istore_n 2, 1), (4, .iload_n 2, 1), (5, .aload_n 0, 1), (6, .invokevirtual 115, 3), (9, .if_icmp .ge 27, 3), (12, .iload_n 1, 1), (13, .aload_n 0, 1), (14, .iload_n 2, 1), (15, .invokevirtual 402, 3), (18, .ifCond .eq 9, 3), (21, .iconst 1, 1), (22, .iload_n 2, 1), (23, .ishl, 1), (24, .goto 4, 3), (27, .iconst 0, 1), (28, .ior, 1), (29, .istore_n 1, 1), (30, .iinc 2 1, 3), (33, .goto (-29), 3), (36, .iload_n 1, 1), (37, .ireturn, 1)]
theorem zd_X12_doers : zq_ckC cX12_doers zc_X12_doers = true := by decide +kernel
theorem zp_X12_doers : zq_pn yX12_doers 0 = true := by decide +kernel
set_option maxRecDepth 1000000 in
theorem zn_X12_doers : Cond.instanceMethod yX12_doers ∈ zt := zw_t7 (i := 184) rfl rfl
set_option maxRecDepth 1000000 in
theorem ze_X12_doers : Cond.selects RX12 yX12_doers yX12_doers ∈ zt := zw_t7 (i := 185) rfl rfl
set_option maxRecDepth 1000000 in
theorem zk_X12_mostAlike : Cond.code yX12_mostAlike cX12_mostAlike 8 (some .int) ∈ zt := zw_t7 (i := 199) rfl rfl
noncomputable def zc_X12_mostAlike : zq_Cd := [(0, .iconst 0, 1), (1, .istore 5, 2), (3, .iload 5, 2), (5, .bipush 7, 2), (7, .if_icmp .gt 17, 3), (10, .aload_n 0, 1), (11, .getfield 87, 3), (14, .iload 5, 2), (16, .iconst 0, 1), (17, .iastore, 1), (18, .iinc 5 1, 3), (21, .goto (-18), 3), (24, .iconst 0, 1), (25, .istore 5, 2), (27, .iconst 0, 1), (28, .istore 6, 2), (30, .iload 6, 2), (32, .aload_n 0, 1), (33, .invokevirtual 115, 3), (36, .if_icmp .ge 58, 3), (39, .iload 4, 2), (41, .iload 6, 2), (43, .invokestatic 137, 3), (46, .ifCond .ne 6, 3), (49, .goto 39, 3), (52, .aload_n 0, 1), (53, .iload_n 1, 1), (54, .iload 6, 2), (56, .iload_n 2, 1), (57, .iload_n 3, 1), (58, .invokevirtual 342, 3), (61, .istore 7, 2), (63, .aload_n 0, 1), (64, .getfield 87, 3), (67, .iload 7, 2), (69, .dup2, 1), (70, .iaload, 1), (71, .iconst 1, 1), (72, .iadd, 1), (73, .iastore, 1), (74, .iload 5, 2), (76, .aload_n 0, 1), (77, .getfield 87, 3), (80, .iload 7, 2), (82, .iaload, 1), (83, .invokestatic 387, 3), (86, .istore 5, 2), (88, .iinc 6 1, 3), (91, .goto (-61), 3), (94, .iload 5, 2), (96, .ireturn, 1)]
theorem zd_X12_mostAlike : zq_ckC cX12_mostAlike zc_X12_mostAlike = true := by decide +kernel
theorem zp_X12_mostAlike : zq_pn yX12_mostAlike 4 = true := by decide +kernel
set_option maxRecDepth 1000000 in
theorem zn_X12_mostAlike : Cond.instanceMethod yX12_mostAlike ∈ zt := zw_t7 (i := 198) rfl rfl
theorem ze_X12_mostAlike : Cond.selects RX12 yX12_mostAlike yX12_mostAlike ∈ zt := zq_hw_ok (i := 101) (by decide +kernel)
set_option maxRecDepth 1000000 in
theorem zk_X12_look : Cond.code yX12_look cX12_look 9 (some .int) ∈ zt := zw_t7 (i := 194) rfl rfl
noncomputable def zc_X12_look : zq_Cd := [(0, .aload_n 0, 1), (1, .iload_n 1, 1), (2, .invokevirtual 119, 3), (5, .ifCond .eq 19, 3), (8, .iload_n 2, 1), (9, .invokestatic 126, 3), (12, .ifCond .eq 12, 3), (15, .iload_n 3, 1), (16, .iconst 0, 1), (17, .iconst 1, 1), (18, .invokestatic 18, 3), (21, .ifCond .ne 5, 3), (24, .iconst (-1), 1), (25, .ireturn, 1), (26, .aload_n 0, 1), (27, .invokevirtual 405, 3), (30, .istore 4, 2), (32, .iload 4, 2), (34, .ifCond .ne 5, 3), (37, .iconst (-1), 1), (38, .ireturn, 1), (39, .iconst (-1), 1), (40, .istore 5, 2), (42, .ldc 180, 2), (44, .istore 6, 2), (46, .iconst 0, 1), (47, .istore 7, 2), (49, .iload 7, 2), (51, .bipush 30, 2), (53, .if_icmp .gt 39, 3), (56, .aload_n 0, 1), (57, .iload_n 1, 1), (58, .iload_n 2, 1), (59, .iload 7, 2), (61, .iload 4, 2), (63, .invokevirtual 408, 3), (66, .istore 8, 2), (68, .iload 8, 2), (70, .iload 6, 2), (72, .if_icmp .lt 6, 3), (75, .goto 11, 3), (78, .iload 8, 2), (80, .istore 6, 2), (82, .iload 7, 2), (84, .istore 5, 2), (86, .iinc 7 1, 3), (89, .goto (-40), 3), (92, .iload_n 3, 1), (93, .ifCond .ne 8, 3), (96, .iload 5, 2), (98, .goto 5, 3), (101, .iload 6, 2), (103, .ireturn, 1)]
theorem zd_X12_look : zq_ckC cX12_look zc_X12_look = true := by decide +kernel
theorem zp_X12_look : zq_pn yX12_look 3 = true := by decide +kernel
set_option maxRecDepth 1000000 in
theorem zn_X12_look : Cond.instanceMethod yX12_look ∈ zt := zw_t7 (i := 192) rfl rfl
set_option maxRecDepth 1000000 in
theorem ze_X12_look : Cond.selects RX12 yX12_look yX12_look ∈ zt := zw_t7 (i := 193) rfl rfl
set_option maxRecDepth 1000000 in
theorem zk_X12_lesser : Cond.code yX12_lesser cX12_lesser 2 (some .int) ∈ zt := zw_t7 (i := 210) rfl rfl
noncomputable def zc_X12_lesser : zq_Cd := [(0, .iload_n 0, 1), (1, .iload_n 1, 1), (2, .if_icmp .ge 7, 3), (5, .iload_n 0, 1), (6, .goto 4, 3), (9, .iload_n 1, 1), (10, .ireturn, 1)]
theorem zd_X12_lesser : zq_ckC cX12_lesser zc_X12_lesser = true := by decide +kernel
theorem zp_X12_lesser : zq_pn yX12_lesser 2 = true := by decide +kernel
set_option maxRecDepth 1000000 in
theorem zs_X12_lesser : Cond.static yX12_lesser ∈ zt := zw_t7 (i := 209) rfl rfl
set_option maxRecDepth 1000000 in
theorem zk_X12_unfair : Cond.code yX12_unfair cX12_unfair 6 (some .int) ∈ zt := zw_t7 (i := 207) rfl rfl
noncomputable def zc_X12_unfair : zq_Cd := [(0, .iconst 0, 1), (1, .istore_n 3, 1), (2, .iload_n 3, 1), (3, .bipush 6, 2), (5, .if_icmp .ge 16, 3), (8, .aload_n 0, 1), (9, .getfield 90, 3), (12, .iload_n 3, 1), (13, .iconst 0, 1), (14, .iastore, 1), (15, .iinc 3 1, 3), (18, .goto (-16), 3), (21, .iconst 0, 1), (22, .istore_n 3, 1), (23, .iload_n 3, 1), (24, .bipush 28, 2), (26, .if_icmp .ge 56, 3), (29, .iconst 0, 1), (30, .istore 4, 2), (32, .iload 4, 2), (34, .aload_n 0, 1), (35, .invokevirtual 115, 3), (38, .if_icmp .ge 38, 3), (41, .aload_n 0, 1), (42, .iload_n 1, 1), (43, .iload 4, 2), (45, .iload_n 2, 1), (46, .iload_n 3, 1), (47, .invokevirtual 342, 3), (50, .istore 5, 2), (52, .iload 5, 2), (54, .bipush 6, 2), (56, .if_icmp .ge 14, 3), (59, .aload_n 0, 1), (60, .getfield 90, 3), (63, .iload 5, 2), (65, .dup2, 1), (66, .iaload, 1), (67, .iconst 1, 1), (68, .iadd, 1), (69, .iastore, 1), (70, .iinc 4 1, 3), (73, .goto (-41), 3), (76, .iinc 3 1, 3), (79, .goto (-56), 3), (82, .iconst 0, 1), (83, .istore_n 3, 1), (84, .ldc 180, 2), (86, .istore 4, 2), (88, .iconst 0, 1), (89, .istore 5, 2), (91, .iload 5, 2), (93, .aload_n 0, 1), (94, .invokevirtual 115, 3), (97, .if_icmp .ge 35, 3), (100, .iload_n 3, 1), (101, .aload_n 0, 1), (102, .getfield 90, 3), (105, .iload 5, 2), (107, .iaload, 1), (108, .invokestatic 387, 3), (111, .istore_n 3, 1), (112, .iload 4, 2), (114, .aload_n 0, 1), (115, .getfield 90, 3), (118, .iload 5, 2), (120, .iaload, 1), (121, .invokestatic 411, 3), (124, .istore 4, 2), (126, .iinc 5 1, 3), (129, .goto (-38), 3), (132, .iload_n 3, 1), (133, .iload 4, 2), (135, .isub, 1), (136, .ireturn, 1)]
theorem zd_X12_unfair : zq_ckC cX12_unfair zc_X12_unfair = true := by decide +kernel
theorem zp_X12_unfair : zq_pn yX12_unfair 2 = true := by decide +kernel
set_option maxRecDepth 1000000 in
theorem zn_X12_unfair : Cond.instanceMethod yX12_unfair ∈ zt := zw_t7 (i := 206) rfl rfl
theorem ze_X12_unfair : Cond.selects RX12 yX12_unfair yX12_unfair ∈ zt := zq_hw_ok (i := 102) (by decide +kernel)
set_option maxRecDepth 1000000 in
theorem zk_X12_fair : Cond.code yX12_fair cX12_fair 9 (some .int) ∈ zt := zw_t7 (i := 203) rfl rfl
noncomputable def zc_X12_fair : zq_Cd := [(0, .aload_n 0, 1), (1, .iload_n 1, 1), (2, .invokevirtual 119, 3), (5, .ifCond .eq 26, 3), (8, .iload_n 2, 1), (9, .invokestatic 126, 3), (12, .ifCond .eq 19, 3), (15, .iload_n 3, 1), (16, .iconst 0, 1), (17, .iconst 1, 1), (18, .invokestatic 18, 3), (21, .ifCond .eq 10, 3), (24, .aload_n 0, 1), (25, .invokevirtual 115, 3), (28, .ifCond .ne 5, 3), (31, .iconst (-1), 1), (32, .ireturn, 1), (33, .aload_n 0, 1), (34, .getfield 28, 3), (37, .bipush 6, 2), (39, .iload_n 2, 1), (40, .iadd, 1), (41, .iaload, 1), (42, .istore 4, 2), (44, .iconst (-1), 1), (45, .istore 5, 2), (47, .ldc 180, 2), (49, .istore 6, 2), (51, .iconst 0, 1), (52, .istore 7, 2), (54, .iload 7, 2), (56, .bipush 7, 2), (58, .if_icmp .ge 46, 3), (61, .aload_n 0, 1), (62, .getfield 28, 3), (65, .bipush 6, 2), (67, .iload_n 2, 1), (68, .iadd, 1), (69, .iload 7, 2), (71, .iastore, 1), (72, .aload_n 0, 1), (73, .iload_n 1, 1), (74, .iload_n 2, 1), (75, .invokevirtual 414, 3), (78, .istore 8, 2), (80, .iload 8, 2), (82, .iload 6, 2), (84, .if_icmp .lt 6, 3), (87, .goto 11, 3), (90, .iload 8, 2), (92, .istore 6, 2), (94, .iload 7, 2), (96, .istore 5, 2), (98, .iinc 7 1, 3), (101, .goto (-47), 3), (104, .aload_n 0, 1), (105, .getfield 28, 3), (108, .bipush 6, 2), (110, .iload_n 2, 1), (111, .iadd, 1), (112, .iload 4, 2), (114, .iastore, 1), (115, .iload_n 3, 1), (116, .ifCond .ne 8, 3), (119, .iload 5, 2), (121, .goto 5, 3), (124, .iload 6, 2), (126, .ireturn, 1)]
theorem zd_X12_fair : zq_ckC cX12_fair zc_X12_fair = true := by decide +kernel
theorem zp_X12_fair : zq_pn yX12_fair 3 = true := by decide +kernel
set_option maxRecDepth 1000000 in
theorem zn_X12_fair : Cond.instanceMethod yX12_fair ∈ zt := zw_t7 (i := 201) rfl rfl
set_option maxRecDepth 1000000 in
theorem ze_X12_fair : Cond.selects RX12 yX12_fair yX12_fair ∈ zt := zw_t7 (i := 202) rfl rfl
set_option maxRecDepth 1000000 in
theorem zk_X12_few : Cond.code yX12_few cX12_few 6 (some .long) ∈ zt := zw_t7 (i := 214) rfl rfl
noncomputable def zc_X12_few : zq_Cd := [(0, .iload_n 1, 1), (1, .iconst 1, 1), (2, .bipush 20, 2), (4, .invokestatic 18, 3), (7, .ifCond .eq 13, 3), (10, .iload_n 2, 1), (11, .iconst 0, 1), (12, .bipush 99, 2), (14, .invokestatic 18, 3), (17, .ifCond .ne 7, 3), (20, .ldc2_w 417, 3), (23, .lreturn, 1), (24, .iconst 0, 1), (25, .istore_n 3, 1), (26, .iload_n 3, 1), (27, .bipush 20, 2), (29, .if_icmp .gt 26, 3), (32, .aload_n 0, 1), (33, .getfield 93, 3), (36, .iload_n 3, 1), (37, .iload_n 3, 1), (38, .ifCond .ne 9, 3), (41, .ldc2_w 419, 3), (44, .goto 4, 3), (47, .lconst 0, 1), (48, .lastore, 1), (49, .iinc 3 1, 3), (52, .goto (-26), 3), (55, .iconst 0, 1), (56, .istore_n 3, 1), (57, .iload_n 3, 1), (58, .iload_n 2, 1), (59, .if_icmp .ge 87, 3), (62, .iload_n 1, 1), (63, .iconst 1, 1), (64, .isub, 1), (65, .istore 4, 2), (67, .iload 4, 2), (69, .ifCond .lt 71, 3), (72, .aload_n 0, 1), (73, .getfield 93, 3), (76, .iload 4, 2), (78, .iconst 1, 1), (79, .iadd, 1), (80, .dup2, 1), (81, .laload, 1), (82, .aload_n 0, 1), (83, .getfield 93, 3), (86, .iload 4, 2), (88, .laload, 1), (89, .aload_n 0, 1), (90, .getfield 28, 3), (93, .bipush 57, 2), (95, .iaload, 1), (96, .i2l, 1), (97, .lmul, 1), (98, .ldc2_w 421, 3), (101, .ldiv, 1), (102, .ladd, 1), (103, .lastore, 1), (104, .aload_n 0, 1), (105, .getfield 93, 3), (108, .iload 4, 2), (110, .aload_n 0, 1), (111, .getfield 93, 3), (114, .iload 4, 2), (116, .laload, 1), (117, .bipush 10, 2), (119, .aload_n 0, 1), (120, .getfield 28, 3), (123, .bipush 57, 2), (125, .iaload, 1), (126, .isub, 1), (127, .i2l, 1), (128, .lmul, 1), (129, .ldc2_w 421, 3), (132, .ldiv, 1), (133, .lastore, 1), (134, .iinc 4 (-1), 3), (137, .goto (-70), 3), (140, .iinc 3 1, 3), (143, .goto (-86), 3), (146, .lconst 0, 1), (147, .lstore_n 3, 1), (148, .iconst 0, 1), (149, .istore 5, 2), (151, .iload 5, 2), (153, .iload_n 1, 1), (154, .if_icmp .ge 19, 3), (157, .lload_n 3, 1), (158, .aload_n 0, 1), (159, .getfield 93, 3), (162, .iload 5, 2), (164, .laload, 1), (165, .ladd, 1), (166, .lstore_n 3, 1), (167, .iinc 5 1, 3), (170, .goto (-19), 3), (173, .lload_n 3, 1), (174, .lreturn, 1)]
theorem zd_X12_few : zq_ckC cX12_few zc_X12_few = true := by decide +kernel
theorem zp_X12_few : zq_pn yX12_few 2 = true := by decide +kernel
set_option maxRecDepth 1000000 in
theorem zn_X12_few : Cond.instanceMethod yX12_few ∈ zt := zw_t7 (i := 212) rfl rfl
set_option maxRecDepth 1000000 in
theorem ze_X12_few : Cond.selects RX12 yX12_few yX12_few ∈ zt := zw_t7 (i := 213) rfl rfl
set_option maxRecDepth 1000000 in
theorem zk_X12_compare : Cond.code yX12_compare cX12_compare 8 (some .int) ∈ zt := zw_t7 (i := 221) rfl rfl
noncomputable def zc_X12_compare : zq_Cd := [(0, .aload_n 0, 1), (1, .iload_n 1, 1), (2, .invokevirtual 267, 3), (5, .ifCond .eq 14, 3), (8, .aload_n 0, 1), (9, .iload_n 2, 1), (10, .iload_n 3, 1), (11, .iload 4, 2), (13, .invokevirtual 144, 3), (16, .ifCond .ne 5, 3), (19, .iconst (-1), 1), (20, .ireturn, 1), (21, .aload_n 0, 1), (22, .getfield 28, 3), (25, .bipush 63, 2), (27, .iaload, 1), (28, .istore 5, 2), (30, .aload_n 0, 1), (31, .getfield 28, 3), (34, .bipush 63, 2), (36, .iload_n 1, 1), (37, .iastore, 1), (38, .iconst 0, 1), (39, .istore 6, 2), (41, .iconst 0, 1), (42, .istore 7, 2), (44, .iload 7, 2), (46, .bipush 60, 2), (48, .if_icmp .ge 34, 3), (51, .iload 6, 2), (53, .aload_n 0, 1), (54, .iload_n 2, 1), (55, .iload_n 3, 1), (56, .iload 4, 2), (58, .iload 7, 2), (60, .invokevirtual 342, 3), (63, .bipush 6, 2), (65, .if_icmp .ne 7, 3), (68, .iconst 1, 1), (69, .goto 4, 3), (72, .iconst 0, 1), (73, .iadd, 1), (74, .istore 6, 2), (76, .iinc 7 1, 3), (79, .goto (-35), 3), (82, .aload_n 0, 1), (83, .getfield 28, 3), (86, .bipush 63, 2), (88, .iload 5, 2), (90, .iastore, 1), (91, .iload 6, 2), (93, .ireturn, 1)]
theorem zd_X12_compare : zq_ckC cX12_compare zc_X12_compare = true := by decide +kernel
theorem zp_X12_compare : zq_pn yX12_compare 4 = true := by decide +kernel
set_option maxRecDepth 1000000 in
theorem zn_X12_compare : Cond.instanceMethod yX12_compare ∈ zt := zw_t7 (i := 219) rfl rfl
set_option maxRecDepth 1000000 in
theorem ze_X12_compare : Cond.selects RX12 yX12_compare yX12_compare ∈ zt := zw_t7 (i := 220) rfl rfl
set_option maxRecDepth 1000000 in
theorem zk_X12_stopped : Cond.code yX12_stopped cX12_stopped 1 (some .int) ∈ zt := zw_t7 (i := 225) rfl rfl
noncomputable def zc_X12_stopped : zq_Cd := [(0, .aload_n 0, 1), (1, .getfield 97, 3), (4, .ireturn, 1)]
theorem zd_X12_stopped : zq_ckC cX12_stopped zc_X12_stopped = true := by decide +kernel
theorem zp_X12_stopped : zq_pn yX12_stopped 0 = true := by decide +kernel
set_option maxRecDepth 1000000 in
theorem zn_X12_stopped : Cond.instanceMethod yX12_stopped ∈ zt := zw_t7 (i := 223) rfl rfl
set_option maxRecDepth 1000000 in
theorem ze_X12_stopped : Cond.selects RX12 yX12_stopped yX12_stopped ∈ zt := zw_t7 (i := 224) rfl rfl
set_option maxRecDepth 1000000 in
theorem zk_X12_goesAlong : Cond.code yX12_goesAlong cX12_goesAlong 5 none ∈ zt := List.mem_filter.mpr ⟨List.mem_of_getElem? (i := 1784) (Eq.refl (some (Cond.code yX12_goesAlong cX12_goesAlong 5 none))), Eq.refl true⟩
noncomputable def zc_X12_goesAlong : zq_Cd := [(0, .aload_n 0, 1), (1, .iconst 1, 1), (2, .putfield 303, 3), (5, .aload_n 0, 1), (6, .iload_n 1, 1), (7, .putfield 270, 3), (10, .aload_n 0, 1), (11, .aload_n 0, 1), (12, .getfield 423, 3), (15, .putfield 273, 3), (18, .aload_n 0, 1), (19, .aload_n 0, 1), (20, .aload_n 0, 1), (21, .getfield 273, 3), (24, .invokevirtual 276, 3), (27, .putfield 429, 3), (30, .aload_n 0, 1), (31, .dup, 1), (32, .getfield 273, 3), (35, .iconst 1, 1), (36, .iadd, 1), (37, .putfield 273, 3), (40, .aload_n 0, 1), (41, .iconst 1, 1), (42, .putfield 432, 3), (45, .aload_n 0, 1), (46, .getfield 429, 3), (49, .bipush 28, 2), (51, .if_icmp .ne 7, 3), (54, .iconst 0, 1), (55, .goto 30, 3), (58, .aload_n 0, 1), (59, .getfield 429, 3), (62, .bipush 27, 2), (64, .if_icmp .ne 7, 3), (67, .iconst 1, 1), (68, .goto 17, 3), (71, .aload_n 0, 1), (72, .getfield 429, 3), (75, .bipush 25, 2), (77, .if_icmp .ne 7, 3), (80, .iconst 2, 1), (81, .goto 4, 3), (84, .iconst 3, 1), (85, .istore_n 3, 1), (86, .iconst 0, 1), (87, .istore 4, 2), (89, .iload 4, 2), (91, .iload_n 3, 1), (92, .if_icmp .ge 64, 3), (95, .iload 4, 2), (97, .ifCond .le 13, 3), (100, .aload_n 0, 1), (101, .dup, 1), (102, .getfield 273, 3), (105, .iconst 1, 1), (106, .iadd, 1), (107, .putfield 273, 3), (110, .aload_n 0, 1), (111, .iconst 0, 1), (112, .putfield 283, 3), (115, .aload_n 0, 1), (116, .getfield 100, 3), (119, .iload 4, 2), (121, .aload_n 0, 1), (122, .iload_n 2, 1), (123, .invokevirtual 300, 3), (126, .lastore, 1), (127, .aload_n 0, 1), (128, .aload_n 0, 1), (129, .getfield 432, 3), (132, .ifCond .eq 14, 3), (135, .aload_n 0, 1), (136, .getfield 283, 3), (139, .ifCond .ne 7, 3), (142, .iconst 1, 1), (143, .goto 4, 3), (146, .iconst 0, 1), (147, .putfield 432, 3), (150, .iinc 4 1, 3), (153, .goto (-64), 3), (156, .aload_n 0, 1), (157, .iconst 1, 1), (158, .putfield 435, 3), (161, .aload_n 0, 1), (162, .bipush 29, 2), (164, .invokevirtual 297, 3), (167, .ifCond .eq 30, 3), (170, .aload_n 0, 1), (171, .aload_n 0, 1), (172, .getfield 28, 3), (175, .sipush 2871, 3), (178, .aload_n 0, 1), (179, .getfield 273, 3), (182, .iadd, 1), (183, .iaload, 1), (184, .putfield 435, 3), (187, .aload_n 0, 1), (188, .dup, 1), (189, .getfield 273, 3), (192, .iconst 1, 1), (193, .iadd, 1), (194, .putfield 273, 3), (197, .aload_n 0, 1), (198, .iconst 0, 1), (199, .putfield 283, 3), (202, .aload_n 0, 1), (203, .aload_n 0, 1), (204, .iconst 4, 1), (205, .invokevirtual 297, 3), (208, .ifCond .eq 11, 3), (211, .aload_n 0, 1), (212, .iload_n 2, 1), (213, .invokevirtual 327, 3), (216, .ifCond .eq 7, 3), (219, .iconst 1, 1), (220, .goto 4, 3), (223, .iconst 0, 1), (224, .putfield 438, 3), (227, .aload_n 0, 1), (228, .aload_n 0, 1), (229, .getfield 438, 3), (232, .ifCond .eq 14, 3), (235, .aload_n 0, 1), (236, .getfield 283, 3), (239, .ifCond .ne 7, 3), (242, .iconst 1, 1), (243, .goto 4, 3), (246, .iconst 0, 1), (247, .putfield 438, 3), (250, .aload_n 0, 1), (251, .dup, 1), (252, .getfield 273, 3), (255, .iconst 1, 1), (256, .iadd, 1), (257, .putfield 273, 3), (260, .return_, 1)]
noncomputable def zc_X12_goesAlong_0 : zq_Cd := [(0, .aload_n 0, 1), (1, .iconst 1, 1), (2, .putfield 303, 3), (5, .aload_n 0, 1), (6, .iload_n 1, 1), (7, .putfield 270, 3), (10, .aload_n 0, 1), (11, .aload_n 0, 1), (12, .getfield 423, 3), (15, .putfield 273, 3), (18, .aload_n 0, 1), (19, .aload_n 0, 1), (20, .aload_n 0, 1), (21, .getfield 273, 3), (24, .invokevirtual 276, 3), (27, .putfield 429, 3), (30, .aload_n 0, 1), (31, .dup, 1), (32, .getfield 273, 3), (35, .iconst 1, 1), (36, .iadd, 1), (37, .putfield 273, 3), (40, .aload_n 0, 1), (41, .iconst 1, 1), (42, .putfield 432, 3), (45, .aload_n 0, 1), (46, .getfield 429, 3), (49, .bipush 28, 2), (51, .if_icmp .ne 7, 3), (54, .iconst 0, 1), (55, .goto 30, 3), (58, .aload_n 0, 1), (59, .getfield 429, 3), (62, .bipush 27, 2), (64, .if_icmp .ne 7, 3), (67, .iconst 1, 1), (68, .goto 17, 3), (71, .aload_n 0, 1), (72, .getfield 429, 3), (75, .bipush 25, 2)]
theorem zd_X12_goesAlong_0 : zq_ckC cX12_goesAlong zc_X12_goesAlong_0 = true := by decide +kernel
noncomputable def zc_X12_goesAlong_1 : zq_Cd := [(77, .if_icmp .ne 7, 3), (80, .iconst 2, 1), (81, .goto 4, 3), (84, .iconst 3, 1), (85, .istore_n 3, 1), (86, .iconst 0, 1), (87, .istore 4, 2), (89, .iload 4, 2), (91, .iload_n 3, 1), (92, .if_icmp .ge 64, 3), (95, .iload 4, 2), (97, .ifCond .le 13, 3), (100, .aload_n 0, 1), (101, .dup, 1), (102, .getfield 273, 3), (105, .iconst 1, 1), (106, .iadd, 1), (107, .putfield 273, 3), (110, .aload_n 0, 1), (111, .iconst 0, 1), (112, .putfield 283, 3), (115, .aload_n 0, 1), (116, .getfield 100, 3), (119, .iload 4, 2), (121, .aload_n 0, 1), (122, .iload_n 2, 1), (123, .invokevirtual 300, 3), (126, .lastore, 1), (127, .aload_n 0, 1), (128, .aload_n 0, 1), (129, .getfield 432, 3), (132, .ifCond .eq 14, 3), (135, .aload_n 0, 1), (136, .getfield 283, 3), (139, .ifCond .ne 7, 3), (142, .iconst 1, 1), (143, .goto 4, 3), (146, .iconst 0, 1), (147, .putfield 432, 3), (150, .iinc 4 1, 3)]
theorem zd_X12_goesAlong_1 : zq_ckC cX12_goesAlong zc_X12_goesAlong_1 = true := by decide +kernel
noncomputable def zc_X12_goesAlong_2 : zq_Cd := [(153, .goto (-64), 3), (156, .aload_n 0, 1), (157, .iconst 1, 1), (158, .putfield 435, 3), (161, .aload_n 0, 1), (162, .bipush 29, 2), (164, .invokevirtual 297, 3), (167, .ifCond .eq 30, 3), (170, .aload_n 0, 1), (171, .aload_n 0, 1), (172, .getfield 28, 3), (175, .sipush 2871, 3), (178, .aload_n 0, 1), (179, .getfield 273, 3), (182, .iadd, 1), (183, .iaload, 1), (184, .putfield 435, 3), (187, .aload_n 0, 1), (188, .dup, 1), (189, .getfield 273, 3), (192, .iconst 1, 1), (193, .iadd, 1), (194, .putfield 273, 3), (197, .aload_n 0, 1), (198, .iconst 0, 1), (199, .putfield 283, 3), (202, .aload_n 0, 1), (203, .aload_n 0, 1), (204, .iconst 4, 1), (205, .invokevirtual 297, 3), (208, .ifCond .eq 11, 3), (211, .aload_n 0, 1), (212, .iload_n 2, 1), (213, .invokevirtual 327, 3), (216, .ifCond .eq 7, 3), (219, .iconst 1, 1), (220, .goto 4, 3), (223, .iconst 0, 1), (224, .putfield 438, 3), (227, .aload_n 0, 1)]
theorem zd_X12_goesAlong_2 : zq_ckC cX12_goesAlong zc_X12_goesAlong_2 = true := by decide +kernel
noncomputable def zc_X12_goesAlong_3 : zq_Cd := [(228, .aload_n 0, 1), (229, .getfield 438, 3), (232, .ifCond .eq 14, 3), (235, .aload_n 0, 1), (236, .getfield 283, 3), (239, .ifCond .ne 7, 3), (242, .iconst 1, 1), (243, .goto 4, 3), (246, .iconst 0, 1), (247, .putfield 438, 3), (250, .aload_n 0, 1), (251, .dup, 1), (252, .getfield 273, 3), (255, .iconst 1, 1), (256, .iadd, 1), (257, .putfield 273, 3), (260, .return_, 1)]
theorem zd_X12_goesAlong_3 : zq_ckC cX12_goesAlong zc_X12_goesAlong_3 = true := by decide +kernel
set_option maxRecDepth 1000000 in
theorem zd_X12_goesAlong : zq_ckC cX12_goesAlong zc_X12_goesAlong = true := show zq_ckC cX12_goesAlong (zc_X12_goesAlong_0 ++ (zc_X12_goesAlong_1 ++ (zc_X12_goesAlong_2 ++ (zc_X12_goesAlong_3)))) = true from zq_ckC_app zd_X12_goesAlong_0 (zq_ckC_app zd_X12_goesAlong_1 (zq_ckC_app zd_X12_goesAlong_2 (zd_X12_goesAlong_3)))
theorem zp_X12_goesAlong : zq_pn yX12_goesAlong 2 = true := by decide +kernel
set_option maxRecDepth 1000000 in
theorem zn_X12_goesAlong : Cond.instanceMethod yX12_goesAlong ∈ zt := zw_t7 (i := 236) rfl rfl
theorem ze_X12_goesAlong : Cond.selects RX12 yX12_goesAlong yX12_goesAlong ∈ zt := zq_hw_ok (i := 104) (by decide +kernel)
set_option maxRecDepth 1000000 in
theorem zk_X12_evenMany : Cond.code yX12_evenMany cX12_evenMany 3 (some .int) ∈ zt := zw_t6 (i := 129) rfl rfl
noncomputable def zc_X12_evenMany : zq_Cd := [(0, .iconst 0, 1), (1, .istore_n 1, 1), (2, .iconst 0, 1), (3, .istore_n 2, 1), (4, .iload_n 2, 1), (5, .aload_n 0, 1), (6, .invokevirtual 115, 3), (9, .if_icmp .ge 28, 3), (12, .iload_n 1, 1), (13, .aload_n 0, 1), (14, .getfield 28, 3), (17, .iconst 0, 1), (18, .iload_n 2, 1), (19, .iadd, 1), (20, .iaload, 1), (21, .ifCond .ne 7, 3), (24, .iconst 1, 1), (25, .goto 4, 3), (28, .iconst 0, 1), (29, .iadd, 1), (30, .istore_n 1, 1), (31, .iinc 2 1, 3), (34, .goto (-30), 3), (37, .iload_n 1, 1), (38, .ireturn, 1)]
theorem zd_X12_evenMany : zq_ckC cX12_evenMany zc_X12_evenMany = true := by decide +kernel
theorem zp_X12_evenMany : zq_pn yX12_evenMany 0 = true := by decide +kernel
set_option maxRecDepth 1000000 in
theorem zn_X12_evenMany : Cond.instanceMethod yX12_evenMany ∈ zt := zw_t6 (i := 128) rfl rfl
theorem ze_X12_evenMany : Cond.selects RX12 yX12_evenMany yX12_evenMany ∈ zt := zq_hw_ok (i := 54) (by decide +kernel)
set_option maxRecDepth 1000000 in
theorem zk_X12_orderValue : Cond.code yX12_orderValue cX12_orderValue 3 (some .int) ∈ zt := zw_t6 (i := 125) rfl rfl
noncomputable def zc_X12_orderValue : zq_Cd := [(0, .iload_n 1, 1), (1, .tableswitch 88 16 21 #[70, 78, 83, 88, 39, 60], 39), (40, .aload_n 0, 1), (41, .iload_n 2, 1), (42, .invokevirtual 123, 3), (45, .ifCond .eq 14, 3), (48, .aload_n 0, 1), (49, .getfield 28, 3), (52, .iconst 0, 1), (53, .iload_n 2, 1), (54, .iadd, 1), (55, .iaload, 1), (56, .goto 4, 3), (59, .iconst (-1), 1), (60, .ireturn, 1), (61, .aload_n 0, 1), (62, .getfield 28, 3), (65, .bipush 6, 2), (67, .iload_n 2, 1), (68, .iadd, 1), (69, .iaload, 1), (70, .ireturn, 1), (71, .aload_n 0, 1), (72, .getfield 28, 3), (75, .bipush 10, 2), (77, .iaload, 1), (78, .ireturn, 1), (79, .aload_n 0, 1), (80, .getfield 309, 3), (83, .ireturn, 1), (84, .aload_n 0, 1), (85, .getfield 312, 3), (88, .ireturn, 1), (89, .aload_n 0, 1), (90, .invokevirtual 315, 3), (93, .ireturn, 1)]
theorem zd_X12_orderValue : zq_ckC cX12_orderValue zc_X12_orderValue = true := by decide +kernel
theorem zp_X12_orderValue : zq_pn yX12_orderValue 2 = true := by decide +kernel
set_option maxRecDepth 1000000 in
theorem zn_X12_orderValue : Cond.instanceMethod yX12_orderValue ∈ zt := zw_t6 (i := 124) rfl rfl
theorem ze_X12_orderValue : Cond.selects RX12 yX12_orderValue yX12_orderValue ∈ zt := zq_hw_ok (i := 53) (by decide +kernel)
set_option maxRecDepth 1000000 in
theorem zk_X12_small : Cond.code yX12_small cX12_small 2 (some .int) ∈ zt := zw_t8 (i := 4) rfl rfl
noncomputable def zc_X12_small : zq_Cd := [(0, .lload_n 0, 1), (1, .lconst 0, 1), (2, .lcmp, 1), (3, .ifCond .lt 11, 3), (6, .lload_n 0, 1), (7, .ldc2_w 441, 3), (10, .lcmp, 1), (11, .ifCond .le 7, 3), (14, .iconst (-1), 1), (15, .goto 5, 3), (18, .lload_n 0, 1), (19, .l2i, 1), (20, .ireturn, 1)]
theorem zd_X12_small : zq_ckC cX12_small zc_X12_small = true := by decide +kernel
theorem zp_X12_small : zq_pn yX12_small 1 = true := by decide +kernel
set_option maxRecDepth 1000000 in
theorem zs_X12_small : Cond.static yX12_small ∈ zt := zw_t8 (i := 3) rfl rfl
set_option maxRecDepth 1000000 in
theorem zk_X12_obeys : Cond.code yX12_obeys cX12_obeys 4 (some .int) ∈ zt := zw_t8 (i := 1) rfl rfl
noncomputable def zc_X12_obeys : zq_Cd := [(0, .aload_n 0, 1), (1, .getfield 100, 3), (4, .iconst 0, 1), (5, .laload, 1), (6, .invokestatic 443, 3), (9, .istore_n 1, 1), (10, .aload_n 0, 1), (11, .getfield 100, 3), (14, .iconst 1, 1), (15, .laload, 1), (16, .invokestatic 443, 3), (19, .istore_n 2, 1), (20, .aload_n 0, 1), (21, .getfield 429, 3), (24, .tableswitch 76 25 28 #[32, 76, 40, 71], 32), (56, .aload_n 0, 1), (57, .iload_n 1, 1), (58, .iload_n 2, 1), (59, .iconst 1, 1), (60, .invokevirtual 372, 3), (63, .ireturn, 1), (64, .aload_n 0, 1), (65, .iload_n 1, 1), (66, .iload_n 1, 1), (67, .invokestatic 126, 3), (70, .ifCond .eq 20, 3), (73, .aload_n 0, 1), (74, .getfield 28, 3), (77, .bipush 6, 2), (79, .iload_n 1, 1), (80, .iadd, 1), (81, .iaload, 1), (82, .iconst 1, 1), (83, .iadd, 1), (84, .bipush 7, 2), (86, .irem, 1), (87, .goto 4, 3), (90, .iconst 0, 1), (91, .invokevirtual 375, 3), (94, .ireturn, 1), (95, .aload_n 0, 1), (96, .invokevirtual 378, 3), (99, .ireturn, 1), (100, .aload_n 0, 1), (101, .iload_n 1, 1), (102, .iload_n 2, 1), (103, .aload_n 0, 1), (104, .getfield 100, 3), (107, .iconst 2, 1), (108, .laload, 1), (109, .invokestatic 443, 3), (112, .invokevirtual 366, 3), (115, .istore_n 3, 1), (116, .aload_n 0, 1), (117, .iload_n 3, 1), (118, .ifCond .ge 10, 3), (121, .aload_n 0, 1), (122, .getfield 312, 3), (125, .goto 4, 3), (128, .iload_n 3, 1), (129, .putfield 312, 3), (132, .iload_n 3, 1), (133, .ireturn, 1)]
theorem zd_X12_obeys : zq_ckC cX12_obeys zc_X12_obeys = true := by decide +kernel
theorem zp_X12_obeys : zq_pn yX12_obeys 0 = true := by decide +kernel
set_option maxRecDepth 1000000 in
theorem zn_X12_obeys : Cond.instanceMethod yX12_obeys ∈ zt := zw_t8 (i := 0) rfl rfl
theorem ze_X12_obeys : Cond.selects RX12 yX12_obeys yX12_obeys ∈ zt := zq_hw_ok (i := 105) (by decide +kernel)
set_option maxRecDepth 1000000 in
theorem zk_X12_runs : Cond.code yX12_runs cX12_runs 5 (some .boolean) ∈ zt := zw_t7 (i := 233) rfl rfl
noncomputable def zc_X12_runs : zq_Cd := [(0, .aload_n 0, 1), (1, .iload_n 1, 1), (2, .iconst 0, 1), (3, .invokevirtual 447, 3), (6, .aload_n 0, 1), (7, .getfield 435, 3), (10, .istore_n 2, 1), (11, .aload_n 0, 1), (12, .getfield 273, 3), (15, .istore_n 3, 1), (16, .iconst 0, 1), (17, .istore 4, 2), (19, .iload 4, 2), (21, .iload_n 2, 1), (22, .if_icmp .ge 51, 3), (25, .aload_n 0, 1), (26, .iload_n 1, 1), (27, .iconst 1, 1), (28, .invokevirtual 447, 3), (31, .aload_n 0, 1), (32, .getfield 438, 3), (35, .ifCond .ne 6, 3), (38, .goto 29, 3), (41, .aload_n 0, 1), (42, .getfield 432, 3), (45, .ifCond .eq 10, 3), (48, .aload_n 0, 1), (49, .invokevirtual 451, 3), (52, .ifCond .ge 5, 3), (55, .iconst 0, 1), (56, .ireturn, 1), (57, .aload_n 0, 1), (58, .dup, 1), (59, .getfield 309, 3), (62, .iconst 1, 1), (63, .iadd, 1), (64, .putfield 309, 3), (67, .iinc 4 1, 3), (70, .goto (-51), 3), (73, .aload_n 0, 1), (74, .iload_n 3, 1), (75, .putfield 423, 3), (78, .iconst 1, 1), (79, .ireturn, 1)]
theorem zd_X12_runs : zq_ckC cX12_runs zc_X12_runs = true := by decide +kernel
theorem zp_X12_runs : zq_pn yX12_runs 1 = true := by decide +kernel
set_option maxRecDepth 1000000 in
theorem zn_X12_runs : Cond.instanceMethod yX12_runs ∈ zt := zw_t7 (i := 232) rfl rfl
theorem ze_X12_runs : Cond.selects RX12 yX12_runs yX12_runs ∈ zt := zq_hw_ok (i := 103) (by decide +kernel)
set_option maxRecDepth 1000000 in
theorem zk_X12_orders : Cond.code yX12_orders cX12_orders 5 (some .int) ∈ zt := zw_t7 (i := 229) rfl rfl
noncomputable def zc_X12_orders : zq_Cd := [(0, .aload_n 0, 1), (1, .iconst (-1), 1), (2, .putfield 97, 3), (5, .aload_n 0, 1), (6, .iconst 1, 1), (7, .invokevirtual 260, 3), (10, .ifCond .ne 10, 3), (13, .aload_n 0, 1), (14, .bipush (-6), 2), (16, .invokevirtual 109, 3), (19, .ireturn, 1), (20, .aload_n 0, 1), (21, .iconst 1, 1), (22, .invokevirtual 351, 3), (25, .iconst 0, 1), (26, .istore_n 1, 1), (27, .iload_n 1, 1), (28, .sipush 192, 3), (31, .if_icmp .ge 21, 3), (34, .aload_n 0, 1), (35, .getfield 69, 3), (38, .iload_n 1, 1), (39, .aload_n 0, 1), (40, .getfield 66, 3), (43, .iload_n 1, 1), (44, .iaload, 1), (45, .iastore, 1), (46, .iinc 1 1, 3), (49, .goto (-22), 3), (52, .aload_n 0, 1), (53, .getfield 11, 3), (56, .istore_n 1, 1), (57, .aload_n 0, 1), (58, .bipush 6, 2), (60, .invokevirtual 264, 3), (63, .aload_n 0, 1), (64, .iconst 0, 1), (65, .putfield 309, 3), (68, .aload_n 0, 1), (69, .iconst (-1), 1), (70, .putfield 312, 3), (73, .aload_n 0, 1), (74, .sipush 2400, 3), (77, .putfield 423, 3), (80, .aload_n 0, 1), (81, .getfield 423, 3), (84, .aload_n 0, 1), (85, .getfield 28, 3), (88, .bipush 70, 2), (90, .iaload, 1), (91, .iadd, 1), (92, .istore_n 2, 1), (93, .iconst 0, 1), (94, .istore_n 3, 1), (95, .aload_n 0, 1), (96, .getfield 423, 3), (99, .iload_n 2, 1), (100, .if_icmp .ge 73, 3), (103, .aload_n 0, 1), (104, .iload_n 2, 1), (105, .invokevirtual 426, 3), (108, .ifCond .eq 6, 3), (111, .goto 56, 3), (114, .aload_n 0, 1), (115, .iconst 1, 1), (116, .invokevirtual 357, 3), (119, .iconst 0, 1), (120, .istore 4, 2), (122, .iload 4, 2), (124, .sipush 192, 3), (127, .if_icmp .ge 23, 3), (130, .aload_n 0, 1), (131, .getfield 66, 3), (134, .iload 4, 2), (136, .aload_n 0, 1), (137, .getfield 69, 3), (140, .iload 4, 2), (142, .iaload, 1), (143, .iastore, 1), (144, .iinc 4 1, 3), (147, .goto (-25), 3), (150, .aload_n 0, 1), (151, .iload_n 1, 1), (152, .putfield 11, 3), (155, .aload_n 0, 1), (156, .iload_n 3, 1), (157, .putfield 97, 3), (160, .aload_n 0, 1), (161, .bipush (-3), 2), (163, .invokevirtual 109, 3), (166, .ireturn, 1), (167, .iinc 3 1, 3), (170, .goto (-75), 3), (173, .aload_n 0, 1), (174, .aload_n 0, 1), (175, .getfield 309, 3), (178, .invokevirtual 14, 3), (181, .ireturn, 1)]
theorem zd_X12_orders : zq_ckC cX12_orders zc_X12_orders = true := by decide +kernel
theorem zp_X12_orders : zq_pn yX12_orders 0 = true := by decide +kernel
set_option maxRecDepth 1000000 in
theorem zn_X12_orders : Cond.instanceMethod yX12_orders ∈ zt := zw_t7 (i := 227) rfl rfl
set_option maxRecDepth 1000000 in
theorem ze_X12_orders : Cond.selects RX12 yX12_orders yX12_orders ∈ zt := zw_t7 (i := 228) rfl rfl
set_option maxRecDepth 1000000 in
theorem zk_X12_draws : Cond.code yX12_draws cX12_draws 2 (some .int) ∈ zt := zw_t8 (i := 13) rfl rfl
noncomputable def zc_X12_draws : zq_Cd := [(0, .aload_n 0, 1), (1, .ldc2_w 454, 3), (4, .aload_n 0, 1), (5, .getfield 456, 3), (8, .i2l, 1), (9, .lmul, 1), (10, .ldc2_w 459, 3), (13, .ladd, 1), (14, .ldc2_w 461, 3), (17, .lrem, 1), (18, .l2i, 1), (19, .putfield 456, 3), (22, .aload_n 0, 1), (23, .getfield 456, 3), (26, .iload_n 1, 1), (27, .irem, 1), (28, .ireturn, 1)]
theorem zd_X12_draws : zq_ckC cX12_draws zc_X12_draws = true := by decide +kernel
theorem zp_X12_draws : zq_pn yX12_draws 1 = true := by decide +kernel
set_option maxRecDepth 1000000 in
theorem zn_X12_draws : Cond.instanceMethod yX12_draws ∈ zt := zw_t8 (i := 12) rfl rfl
theorem ze_X12_draws : Cond.selects RX12 yX12_draws yX12_draws ∈ zt := zq_hw_ok (i := 106) (by decide +kernel)
set_option maxRecDepth 1000000 in
theorem zk_X12_years : Cond.code yX12_years cX12_years 7 (some .int) ∈ zt := zw_t8 (i := 9) rfl rfl
noncomputable def zc_X12_years : zq_Cd := [(0, .iload_n 1, 1), (1, .iconst 0, 1), (2, .ldc 180, 2), (4, .invokestatic 18, 3), (7, .ifCond .eq 13, 3), (10, .iload_n 2, 1), (11, .iconst 1, 1), (12, .bipush 60, 2), (14, .invokestatic 18, 3), (17, .ifCond .ne 9, 3), (20, .aload_n 0, 1), (21, .iconst (-1), 1), (22, .invokevirtual 109, 3), (25, .ireturn, 1), (26, .aload_n 0, 1), (27, .invokevirtual 115, 3), (30, .ifCond .eq 13, 3), (33, .aload_n 0, 1), (34, .getfield 28, 3), (37, .bipush 60, 2), (39, .iaload, 1), (40, .ifCond .ne 10, 3), (43, .aload_n 0, 1), (44, .bipush (-3), 2), (46, .invokevirtual 109, 3), (49, .ireturn, 1), (50, .aload_n 0, 1), (51, .iload_n 1, 1), (52, .putfield 456, 3), (55, .aload_n 0, 1), (56, .aload_n 0, 1), (57, .invokevirtual 115, 3), (60, .putfield 106, 3), (63, .aload_n 0, 1), (64, .iconst 0, 1), (65, .invokevirtual 351, 3), (68, .iconst 0, 1), (69, .istore_n 3, 1), (70, .iconst 0, 1), (71, .istore 4, 2), (73, .iload 4, 2), (75, .iload_n 2, 1), (76, .if_icmp .ge 82, 3), (79, .aload_n 0, 1), (80, .getfield 28, 3), (83, .bipush 10, 2), (85, .iaload, 1), (86, .sipush 999, 3), (89, .if_icmp .ge 69, 3), (92, .aload_n 0, 1), (93, .aload_n 0, 1), (94, .getfield 28, 3), (97, .bipush 60, 2), (99, .iaload, 1), (100, .invokevirtual 463, 3), (103, .istore 5, 2), (105, .aload_n 0, 1), (106, .aload_n 0, 1), (107, .invokevirtual 115, 3), (110, .invokevirtual 463, 3), (113, .istore 6, 2), (115, .iload_n 3, 1), (116, .aload_n 0, 1), (117, .iload 5, 2), (119, .iload 6, 2), (121, .aload_n 0, 1), (122, .iconst 4, 1), (123, .invokevirtual 463, 3), (126, .invokevirtual 354, 3), (129, .bipush 6, 2), (131, .if_icmp .ne 7, 3), (134, .iconst 1, 1), (135, .goto 4, 3), (138, .iconst 0, 1), (139, .iadd, 1), (140, .istore_n 3, 1), (141, .aload_n 0, 1), (142, .getfield 28, 3), (145, .bipush 10, 2), (147, .dup2, 1), (148, .iaload, 1), (149, .iconst 1, 1), (150, .iadd, 1), (151, .iastore, 1), (152, .iinc 4 1, 3), (155, .goto (-82), 3), (158, .iconst 0, 1), (159, .istore 4, 2), (161, .iload 4, 2), (163, .bipush 11, 2), (165, .if_icmp .ge 23, 3), (168, .aload_n 0, 1), (169, .getfield 103, 3), (172, .iload 4, 2), (174, .aload_n 0, 1), (175, .getfield 28, 3), (178, .iload 4, 2), (180, .iaload, 1), (181, .iastore, 1), (182, .iinc 4 1, 3), (185, .goto (-24), 3), (188, .aload_n 0, 1), (189, .iconst 0, 1), (190, .invokevirtual 357, 3), (193, .aload_n 0, 1), (194, .iload_n 3, 1), (195, .invokevirtual 14, 3), (198, .ireturn, 1)]
theorem zd_X12_years : zq_ckC cX12_years zc_X12_years = true := by decide +kernel
theorem zp_X12_years : zq_pn yX12_years 2 = true := by decide +kernel
set_option maxRecDepth 1000000 in
theorem zn_X12_years : Cond.instanceMethod yX12_years ∈ zt := zw_t8 (i := 7) rfl rfl
set_option maxRecDepth 1000000 in
theorem ze_X12_years : Cond.selects RX12 yX12_years yX12_years ∈ zt := zw_t8 (i := 8) rfl rfl
set_option maxRecDepth 1000000 in
theorem zk_X12_drawn : Cond.code yX12_drawn cX12_drawn 2 (some .int) ∈ zt := zw_t8 (i := 20) rfl rfl
noncomputable def zc_X12_drawn : zq_Cd := [(0, .iload_n 1, 1), (1, .iconst 0, 1), (2, .aload_n 0, 1), (3, .getfield 106, 3), (6, .iconst 1, 1), (7, .isub, 1), (8, .invokestatic 18, 3), (11, .ifCond .eq 14, 3), (14, .aload_n 0, 1), (15, .getfield 103, 3), (18, .iconst 0, 1), (19, .iload_n 1, 1), (20, .iadd, 1), (21, .iaload, 1), (22, .goto 6, 3), (25, .sipush (-10000), 3), (28, .ireturn, 1)]
theorem zd_X12_drawn : zq_ckC cX12_drawn zc_X12_drawn = true := by decide +kernel
theorem zp_X12_drawn : zq_pn yX12_drawn 1 = true := by decide +kernel
set_option maxRecDepth 1000000 in
theorem zn_X12_drawn : Cond.instanceMethod yX12_drawn ∈ zt := zw_t8 (i := 18) rfl rfl
set_option maxRecDepth 1000000 in
theorem ze_X12_drawn : Cond.selects RX12 yX12_drawn yX12_drawn ∈ zt := zw_t8 (i := 19) rfl rfl
set_option maxRecDepth 1000000 in
theorem zk_X12_count : Cond.code yX12_count cX12_count 2 (some .int) ∈ zt := zw_t8 (i := 24) rfl rfl
noncomputable def zc_X12_count : zq_Cd := [(0, .iload_n 1, 1), (1, .tableswitch 169 0 15 #[79, 84, 89, 97, 105, 113, 118, 123, 123, 123, 133, 140, 148, 156, 156, 156], 79), (80, .aload_n 0, 1), (81, .invokevirtual 115, 3), (84, .ireturn, 1), (85, .aload_n 0, 1), (86, .invokevirtual 315, 3), (89, .ireturn, 1), (90, .aload_n 0, 1), (91, .getfield 28, 3), (94, .bipush 60, 2), (96, .iaload, 1), (97, .ireturn, 1), (98, .aload_n 0, 1), (99, .getfield 28, 3), (102, .bipush 61, 2), (104, .iaload, 1), (105, .ireturn, 1), (106, .aload_n 0, 1), (107, .getfield 28, 3), (110, .bipush 62, 2), (112, .iaload, 1), (113, .ireturn, 1), (114, .aload_n 0, 1), (115, .getfield 11, 3), (118, .ireturn, 1), (119, .aload_n 0, 1), (120, .getfield 161, 3), (123, .ireturn, 1), (124, .aload_n 0, 1), (125, .getfield 7, 3), (128, .iload_n 1, 1), (129, .bipush 6, 2), (131, .isub, 1), (132, .iaload, 1), (133, .ireturn, 1), (134, .aload_n 0, 1), (135, .getfield 7, 3), (138, .iconst 5, 1), (139, .iaload, 1), (140, .ireturn, 1), (141, .aload_n 0, 1), (142, .getfield 7, 3), (145, .bipush 6, 2), (147, .iaload, 1), (148, .ireturn, 1), (149, .aload_n 0, 1), (150, .getfield 28, 3), (153, .bipush 63, 2), (155, .iaload, 1), (156, .ireturn, 1), (157, .aload_n 0, 1), (158, .getfield 28, 3), (161, .iload_n 1, 1), (162, .bipush 13, 2), (164, .isub, 1), (165, .invokestatic 158, 3), (168, .iaload, 1), (169, .ireturn, 1), (170, .iconst (-1), 1), (171, .ireturn, 1)]
theorem zd_X12_count : zq_ckC cX12_count zc_X12_count = true := by decide +kernel
theorem zp_X12_count : zq_pn yX12_count 1 = true := by decide +kernel
set_option maxRecDepth 1000000 in
theorem zn_X12_count : Cond.instanceMethod yX12_count ∈ zt := zw_t8 (i := 22) rfl rfl
set_option maxRecDepth 1000000 in
theorem ze_X12_count : Cond.selects RX12 yX12_count yX12_count ∈ zt := zw_t8 (i := 23) rfl rfl
set_option maxRecDepth 1000000 in
theorem zk_X12_status : Cond.code yX12_status cX12_status 1 (some .int) ∈ zt := zw_t8 (i := 28) rfl rfl
noncomputable def zc_X12_status : zq_Cd := [(0, .aload_n 0, 1), (1, .getfield 3, 3), (4, .ireturn, 1)]
theorem zd_X12_status : zq_ckC cX12_status zc_X12_status = true := by decide +kernel
theorem zp_X12_status : zq_pn yX12_status 0 = true := by decide +kernel
set_option maxRecDepth 1000000 in
theorem zn_X12_status : Cond.instanceMethod yX12_status ∈ zt := zw_t8 (i := 26) rfl rfl
set_option maxRecDepth 1000000 in
theorem ze_X12_status : Cond.selects RX12 yX12_status yX12_status ∈ zt := zw_t8 (i := 27) rfl rfl
set_option maxRecDepth 1000000 in
theorem zi_oi : Cond.instanceMethod Lib.objectInit ∈ zt := zw_t1 (i := 27) rfl rfl
set_option maxRecDepth 1000000 in
theorem zi_oc : Cond.code Lib.objectInit ⟨#[0xb1]⟩ 1 none ∈ zt := zw_t1 (i := 28) rfl rfl
