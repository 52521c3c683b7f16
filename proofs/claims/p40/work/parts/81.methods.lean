/-! METHODS in use: their words, their code -/
def zi_ld12 : zq_LD := []
theorem zi_ldk12 : zq_okD RX12 zt zi_ld12 := zq_ckD_ok (own := RX12) (l := []) (by decide +kernel)
def zi_fl12 : zq_FL := [(3, 12, 0), (7, 12, 1), (11, 12, 31), (28, 12, 2), (66, 12, 29)]
theorem zi_flk12 : zq_okFL RX12 zt vwCl zi_fl12 := zq_ckFL_ok (own := RX12) zi_u (l := [((3, 12, 0), 1158), ((7, 12, 1), 1159), ((11, 12, 31), 1189), ((28, 12, 2), 1160), ((66, 12, 29), 1187)]) (by decide +kernel)
def zi_cl12 : zq_CLt := []
theorem zi_clk12 : zq_okCL RX12 zt vwCl zi_FT zi_cl12 := fun _ h => absurd h List.not_mem_nil
theorem zi_pl12 : plainName RX12 = true := by decide
theorem zi_l12_109 : Cond.methodLink RX12 109 yX12_refuses ∈ zt := zq_hw_ok (i := 1316) (by decide +kernel)
theorem zi_l12_14 : Cond.methodLink RX12 14 yX12_good ∈ zt := zq_hw_ok (i := 1320) (by decide +kernel)
theorem zi_l12_115 : Cond.methodLink RX12 115 yX12_many ∈ zt := zq_hw_ok (i := 1336) (by decide +kernel)
theorem zi_l12_18 : Cond.methodLink RX12 18 yX12_lies ∈ zt := zq_hw_ok (i := 1313) (by decide +kernel)
theorem zi_l12_123 : Cond.methodLink RX12 123 yX12_isPerson ∈ zt := zq_hw_ok (i := 1344) (by decide +kernel)
theorem zi_l12_126 : Cond.methodLink RX12 126 yX12_isPlace ∈ zt := zq_hw_ok (i := 1371) (by decide +kernel)
theorem zi_l12_137 : Cond.methodLink RX12 137 yX12_isIn ∈ zt := zq_hw_ok (i := 1378) (by decide +kernel)
theorem zi_l12_140 : Cond.methodLink RX12 140 yX12_laysRoad ∈ zt := zq_hw_ok (i := 1381) (by decide +kernel)
theorem zk_X12_refuses : Cond.code yX12_refuses cX12_refuses 2 (some .int) ∈ zt := zq_hw_ok (i := 1319) (by decide +kernel)
def zc_X12_refuses : zq_Cd := [(0, .aload_n 0, 1), (1, .iload_n 1, 1), (2, .putfield 3, 3), (5, .aload_n 0, 1), (6, .getfield 7, 3), (9, .iload_n 1, 1), (10, .ineg, 1), (11, .dup2, 1), (12, .iaload, 1), (13, .iconst 1, 1), (14, .iadd, 1), (15, .iastore, 1), (16, .iload_n 1, 1), (17, .ireturn, 1)]
theorem zd_X12_refuses : zq_ckC cX12_refuses zc_X12_refuses = true := by decide +kernel
theorem zp_X12_refuses : zq_pn yX12_refuses 1 = true := by decide +kernel
theorem zn_X12_refuses : Cond.instanceMethod yX12_refuses ∈ zt := zq_hw_ok (i := 1318) (by decide +kernel)
theorem ze_X12_refuses : Cond.selects RX12 yX12_refuses yX12_refuses ∈ zt := zq_hw_ok (i := 36) (by decide +kernel)
theorem zk_X12_good : Cond.code yX12_good cX12_good 2 (some .int) ∈ zt := zq_hw_ok (i := 1323) (by decide +kernel)
def zc_X12_good : zq_Cd := [(0, .aload_n 0, 1), (1, .iconst 0, 1), (2, .putfield 3, 3), (5, .iload_n 1, 1), (6, .ireturn, 1)]
theorem zd_X12_good : zq_ckC cX12_good zc_X12_good = true := by decide +kernel
theorem zp_X12_good : zq_pn yX12_good 1 = true := by decide +kernel
theorem zn_X12_good : Cond.instanceMethod yX12_good ∈ zt := zq_hw_ok (i := 1322) (by decide +kernel)
theorem ze_X12_good : Cond.selects RX12 yX12_good yX12_good ∈ zt := zq_hw_ok (i := 37) (by decide +kernel)
theorem zk_X12_undo : Cond.code yX12_undo cX12_undo 3 (some .int) ∈ zt := zq_hw_ok (i := 1600) (by decide +kernel)
def zc_X12_undo : zq_Cd := [(0, .aload_n 0, 1), (1, .getfield 11, 3), (4, .ifCond .ne 10, 3), (7, .aload_n 0, 1), (8, .bipush (-3), 2), (10, .invokevirtual 109, 3), (13, .ireturn, 1), (14, .aload_n 0, 1), (15, .dup, 1), (16, .getfield 11, 3), (19, .iconst 1, 1), (20, .isub, 1), (21, .putfield 11, 3), (24, .bipush 12, 2), (26, .aload_n 0, 1), (27, .getfield 11, 3), (30, .imul, 1), (31, .istore_n 1, 1), (32, .iconst 0, 1), (33, .istore_n 2, 1), (34, .iload_n 2, 1), (35, .bipush 11, 2), (37, .if_icmp .ge 23, 3), (40, .aload_n 0, 1), (41, .getfield 28, 3), (44, .iload_n 2, 1), (45, .aload_n 0, 1), (46, .getfield 66, 3), (49, .iload_n 1, 1), (50, .iload_n 2, 1), (51, .iadd, 1), (52, .iaload, 1), (53, .iastore, 1), (54, .iinc 2 1, 3), (57, .goto (-23), 3), (60, .aload_n 0, 1), (61, .aload_n 0, 1), (62, .getfield 66, 3), (65, .iload_n 1, 1), (66, .bipush 11, 2), (68, .iadd, 1), (69, .iaload, 1), (70, .invokevirtual 14, 3), (73, .ireturn, 1)]
theorem zd_X12_undo : zq_ckC cX12_undo zc_X12_undo = true := by decide +kernel
theorem zp_X12_undo : zq_pn yX12_undo 0 = true := by decide +kernel
theorem zn_X12_undo : Cond.instanceMethod yX12_undo ∈ zt := zq_hw_ok (i := 1598) (by decide +kernel)
theorem ze_X12_undo : Cond.selects RX12 yX12_undo yX12_undo ∈ zt := zq_hw_ok (i := 1599) (by decide +kernel)
theorem zk_X12_many : Cond.code yX12_many cX12_many 1 (some .int) ∈ zt := zq_hw_ok (i := 1339) (by decide +kernel)
def zc_X12_many : zq_Cd := [(0, .aload_n 0, 1), (1, .getfield 28, 3), (4, .bipush 59, 2), (6, .iaload, 1), (7, .ireturn, 1)]
theorem zd_X12_many : zq_ckC cX12_many zc_X12_many = true := by decide +kernel
theorem zp_X12_many : zq_pn yX12_many 0 = true := by decide +kernel
theorem zn_X12_many : Cond.instanceMethod yX12_many ∈ zt := zq_hw_ok (i := 1338) (by decide +kernel)
theorem ze_X12_many : Cond.selects RX12 yX12_many yX12_many ∈ zt := zq_hw_ok (i := 39) (by decide +kernel)
theorem zk_X12_lies : Cond.code yX12_lies cX12_lies 3 (some .boolean) ∈ zt := zq_hw_ok (i := 1315) (by decide +kernel)
def zc_X12_lies : zq_Cd := [(0, .iload_n 0, 1), (1, .iload_n 1, 1), (2, .if_icmp .lt 12, 3), (5, .iload_n 0, 1), (6, .iload_n 2, 1), (7, .if_icmp .gt 7, 3), (10, .iconst 1, 1), (11, .goto 4, 3), (14, .iconst 0, 1), (15, .ireturn, 1)]
theorem zd_X12_lies : zq_ckC cX12_lies zc_X12_lies = true := by decide +kernel
theorem zp_X12_lies : zq_pn yX12_lies 3 = true := by decide +kernel
theorem zs_X12_lies : Cond.static yX12_lies ∈ zt := zq_hw_ok (i := 1314) (by decide +kernel)
theorem zk_X12_isPerson : Cond.code yX12_isPerson cX12_isPerson 2 (some .boolean) ∈ zt := zq_hw_ok (i := 1347) (by decide +kernel)
def zc_X12_isPerson : zq_Cd := [(0, .iload_n 1, 1), (1, .iconst 0, 1), (2, .aload_n 0, 1), (3, .invokevirtual 115, 3), (6, .iconst 1, 1), (7, .isub, 1), (8, .invokestatic 18, 3), (11, .ireturn, 1)]
theorem zd_X12_isPerson : zq_ckC cX12_isPerson zc_X12_isPerson = true := by decide +kernel
theorem zp_X12_isPerson : zq_pn yX12_isPerson 1 = true := by decide +kernel
theorem zn_X12_isPerson : Cond.instanceMethod yX12_isPerson ∈ zt := zq_hw_ok (i := 1346) (by decide +kernel)
theorem ze_X12_isPerson : Cond.selects RX12 yX12_isPerson yX12_isPerson ∈ zt := zq_hw_ok (i := 40) (by decide +kernel)
theorem zk_X12_of : Cond.code yX12_of cX12_of 3 (some .int) ∈ zt := zq_hw_ok (i := 1343) (by decide +kernel)
def zc_X12_of : zq_Cd := [(0, .aload_n 0, 1), (1, .iload_n 1, 1), (2, .invokevirtual 123, 3), (5, .ifCond .ne 7, 3), (8, .sipush (-10000), 3), (11, .ireturn, 1), (12, .iload_n 2, 1), (13, .lookupswitch 46 #[(0, 27), (1, 37)], 27), (40, .aload_n 0, 1), (41, .getfield 28, 3), (44, .bipush 11, 2), (46, .iload_n 1, 1), (47, .iadd, 1), (48, .iaload, 1), (49, .ireturn, 1), (50, .aload_n 0, 1), (51, .getfield 28, 3), (54, .iconst 0, 1), (55, .iload_n 1, 1), (56, .iadd, 1), (57, .iaload, 1), (58, .ireturn, 1), (59, .sipush (-10000), 3), (62, .ireturn, 1)]
theorem zd_X12_of : zq_ckC cX12_of zc_X12_of = true := by decide +kernel
theorem zp_X12_of : zq_pn yX12_of 2 = true := by decide +kernel
theorem zn_X12_of : Cond.instanceMethod yX12_of ∈ zt := zq_hw_ok (i := 1341) (by decide +kernel)
theorem ze_X12_of : Cond.selects RX12 yX12_of yX12_of ∈ zt := zq_hw_ok (i := 1342) (by decide +kernel)
theorem zk_X12_isPlace : Cond.code yX12_isPlace cX12_isPlace 1 (some .boolean) ∈ zt := zq_hw_ok (i := 1373) (by decide +kernel)
def zc_X12_isPlace : zq_Cd := [(0, .iload_n 0, 1), (1, .iconst 0, 1), (2, .iconst 3, 1), (3, .invokestatic 18, 3), (6, .ireturn, 1)]
theorem zd_X12_isPlace : zq_ckC cX12_isPlace zc_X12_isPlace = true := by decide +kernel
theorem zp_X12_isPlace : zq_pn yX12_isPlace 1 = true := by decide +kernel
theorem zs_X12_isPlace : Cond.static yX12_isPlace ∈ zt := zq_hw_ok (i := 1372) (by decide +kernel)
theorem zk_X12_isIn : Cond.code yX12_isIn cX12_isIn 2 (some .boolean) ∈ zt := zq_hw_ok (i := 1380) (by decide +kernel)
def zc_X12_isIn : zq_Cd := [(0, .iload_n 0, 1), (1, .iload_n 1, 1), (2, .ishr, 1), (3, .iconst 1, 1), (4, .iand, 1), (5, .iconst 1, 1), (6, .if_icmp .ne 7, 3), (9, .iconst 1, 1), (10, .goto 4, 3), (13, .iconst 0, 1), (14, .ireturn, 1)]
theorem zd_X12_isIn : zq_ckC cX12_isIn zc_X12_isIn = true := by decide +kernel
theorem zp_X12_isIn : zq_pn yX12_isIn 2 = true := by decide +kernel
theorem zs_X12_isIn : Cond.static yX12_isIn ∈ zt := zq_hw_ok (i := 1379) (by decide +kernel)
theorem zk_X12_laysRoad : Cond.code yX12_laysRoad cX12_laysRoad 4 none ∈ zt := zq_hw_ok (i := 1384) (by decide +kernel)
def zc_X12_laysRoad : zq_Cd := [(0, .aload_n 0, 1), (1, .getfield 28, 3), (4, .bipush 17, 2), (6, .iload_n 1, 1), (7, .iadd, 1), (8, .aload_n 0, 1), (9, .getfield 28, 3), (12, .bipush 17, 2), (14, .iload_n 1, 1), (15, .iadd, 1), (16, .iaload, 1), (17, .iconst 1, 1), (18, .iload_n 2, 1), (19, .ishl, 1), (20, .iconst (-1), 1), (21, .ixor, 1), (22, .iand, 1), (23, .iload_n 3, 1), (24, .iload_n 2, 1), (25, .ishl, 1), (26, .ior, 1), (27, .iastore, 1), (28, .return_, 1)]
theorem zd_X12_laysRoad : zq_ckC cX12_laysRoad zc_X12_laysRoad = true := by decide +kernel
theorem zp_X12_laysRoad : zq_pn yX12_laysRoad 3 = true := by decide +kernel
theorem zn_X12_laysRoad : Cond.instanceMethod yX12_laysRoad ∈ zt := zq_hw_ok (i := 1383) (by decide +kernel)
theorem ze_X12_laysRoad : Cond.selects RX12 yX12_laysRoad yX12_laysRoad ∈ zt := zq_hw_ok (i := 43) (by decide +kernel)
theorem zk_X12_road : Cond.code yX12_road cX12_road 5 (some .int) ∈ zt := zq_hw_ok (i := 1377) (by decide +kernel)
def zc_X12_road : zq_Cd := [(0, .iload_n 1, 1), (1, .invokestatic 126, 3), (4, .ifCond .eq 24, 3), (7, .iload_n 2, 1), (8, .invokestatic 126, 3), (11, .ifCond .eq 17, 3), (14, .iload_n 1, 1), (15, .iload_n 2, 1), (16, .if_icmp .eq 12, 3), (19, .iload_n 3, 1), (20, .iconst 0, 1), (21, .iconst 1, 1), (22, .invokestatic 18, 3), (25, .ifCond .ne 9, 3), (28, .aload_n 0, 1), (29, .iconst (-1), 1), (30, .invokevirtual 109, 3), (33, .ireturn, 1), (34, .aload_n 0, 1), (35, .getfield 28, 3), (38, .bipush 17, 2), (40, .iload_n 1, 1), (41, .iadd, 1), (42, .iaload, 1), (43, .iload_n 2, 1), (44, .invokestatic 137, 3), (47, .ifCond .eq 7, 3), (50, .iconst 1, 1), (51, .goto 4, 3), (54, .iconst 0, 1), (55, .istore 4, 2), (57, .aload_n 0, 1), (58, .iload_n 1, 1), (59, .iload_n 2, 1), (60, .iload_n 3, 1), (61, .invokevirtual 140, 3), (64, .aload_n 0, 1), (65, .iload_n 2, 1), (66, .iload_n 1, 1), (67, .iload_n 3, 1), (68, .invokevirtual 140, 3), (71, .aload_n 0, 1), (72, .iload 4, 2), (74, .invokevirtual 14, 3), (77, .ireturn, 1)]
theorem zd_X12_road : zq_ckC cX12_road zc_X12_road = true := by decide +kernel
theorem zp_X12_road : zq_pn yX12_road 3 = true := by decide +kernel
theorem zn_X12_road : Cond.instanceMethod yX12_road ∈ zt := zq_hw_ok (i := 1375) (by decide +kernel)
theorem ze_X12_road : Cond.selects RX12 yX12_road yX12_road ∈ zt := zq_hw_ok (i := 1376) (by decide +kernel)
