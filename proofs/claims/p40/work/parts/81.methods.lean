/-! METHODS in use: their words, their code -/
def zi_ld12 : zq_LD := [(279, 1, 1000000000), (281, 1, -1000000000), (330, 1, -4000000000), (340, 1, 99)]
theorem zi_ldk12 : zq_okD RX12 zt zi_ld12 := zq_ckD_ok (own := RX12) (l := [((279, 1, 1000000000), 1441), ((281, 1, -1000000000), 1442), ((330, 1, -4000000000), 1405), ((340, 1, 99), 1459)]) (by decide +kernel)
def zi_fl12 : zq_FL := [(28, 12, 2), (63, 12, 26), (270, 12, 23), (273, 12, 22), (283, 12, 24), (303, 12, 25), (309, 12, 27), (312, 12, 28)]
theorem zi_flk12 : zq_okFL RX12 zt vwCl zi_fl12 := zq_ckFL_ok (own := RX12) zi_u (l := [((28, 12, 2), 1160), ((63, 12, 26), 1184), ((270, 12, 23), 1181), ((273, 12, 22), 1180), ((283, 12, 24), 1182), ((303, 12, 25), 1183), ((309, 12, 27), 1185), ((312, 12, 28), 1186)]) (by decide +kernel)
def zi_cl12 : zq_CLt := []
theorem zi_clk12 : zq_okCL RX12 zt vwCl zi_FT zi_cl12 := fun _ h => absurd h List.not_mem_nil
theorem zi_pl12 : plainName RX12 = true := by decide
theorem zi_l12_18 : Cond.methodLink RX12 18 yX12_lies ∈ zt := zq_hw_ok (i := 1313) (by decide +kernel)
theorem zi_l12_115 : Cond.methodLink RX12 115 yX12_many ∈ zt := zq_hw_ok (i := 1336) (by decide +kernel)
theorem zi_l12_119 : Cond.methodLink RX12 119 yX12_isDeed ∈ zt := zq_hw_ok (i := 1363) (by decide +kernel)
theorem zi_l12_123 : Cond.methodLink RX12 123 yX12_isPerson ∈ zt := zq_hw_ok (i := 1344) (by decide +kernel)
theorem zi_l12_126 : Cond.methodLink RX12 126 yX12_isPlace ∈ zt := zq_hw_ok (i := 1371) (by decide +kernel)
theorem zi_l12_276 : Cond.methodLink RX12 276 yX12_codeAt ∈ zt := zq_hw_ok (i := 1406) (by decide +kernel)
theorem zi_l12_315 : Cond.methodLink RX12 315 yX12_evenMany ∈ zt := zq_hw_ok (i := 1433) (by decide +kernel)
theorem zi_l12_232 : Cond.methodLink RX12 232 yX12_sign ∈ zt := zq_hw_ok (i := 1422) (by decide +kernel)
theorem zi_l12_297 : Cond.methodLink RX12 297 yX12_passes0 ∈ zt := zq_hw_ok (i := 1425) (by decide +kernel)
theorem zi_l12_300 : Cond.methodLink RX12 300 yX12_sumOf ∈ zt := zq_hw_ok (i := 1410) (by decide +kernel)
theorem zi_l12_306 : Cond.methodLink RX12 306 yX12_orderValue ∈ zt := zq_hw_ok (i := 1429) (by decide +kernel)
theorem zi_l12_294 : Cond.methodLink RX12 294 yX12_partOf ∈ zt := zq_hw_ok (i := 1418) (by decide +kernel)
theorem zi_l12_290 : Cond.methodLink RX12 290 yX12_bounded ∈ zt := zq_hw_ok (i := 1437) (by decide +kernel)
theorem zi_l12_286 : Cond.methodLink RX12 286 yX12_termOf ∈ zt := zq_hw_ok (i := 1414) (by decide +kernel)
theorem zi_l12_327 : Cond.methodLink RX12 327 yX12_testOf ∈ zt := zq_hw_ok (i := 1443) (by decide +kernel)
theorem zi_l12_324 : Cond.methodLink RX12 324 yX12_positiveOf ∈ zt := zq_hw_ok (i := 1455) (by decide +kernel)
theorem zi_l12_321 : Cond.methodLink RX12 321 yX12_plainOf ∈ zt := zq_hw_ok (i := 1451) (by decide +kernel)
theorem zi_l12_318 : Cond.methodLink RX12 318 yX12_bothOf ∈ zt := zq_hw_ok (i := 1447) (by decide +kernel)
theorem zi_l12_332 : Cond.methodLink RX12 332 yX12_setsAsked ∈ zt := zq_hw_ok (i := 1397) (by decide +kernel)
theorem zi_l12_336 : Cond.methodLink RX12 336 yX12_tells ∈ zt := zq_hw_ok (i := 1401) (by decide +kernel)
theorem zi_l12_144 : Cond.methodLink RX12 144 yX12_isDoing ∈ zt := zq_hw_ok (i := 1389) (by decide +kernel)
theorem zi_l12_147 : Cond.methodLink RX12 147 yX12_owesFor ∈ zt := zq_hw_ok (i := 1393) (by decide +kernel)
theorem zi_l12_151 : Cond.methodLink RX12 151 yX12_whoOn ∈ zt := zq_hw_ok (i := 1460) (by decide +kernel)
theorem zk_X12_lies : Cond.code yX12_lies cX12_lies 3 (some .boolean) ∈ zt := zq_hw_ok (i := 1315) (by decide +kernel)
def zc_X12_lies : zq_Cd := [(0, .iload_n 0, 1), (1, .iload_n 1, 1), (2, .if_icmp .lt 12, 3), (5, .iload_n 0, 1), (6, .iload_n 2, 1), (7, .if_icmp .gt 7, 3), (10, .iconst 1, 1), (11, .goto 4, 3), (14, .iconst 0, 1), (15, .ireturn, 1)]
theorem zd_X12_lies : zq_ckC cX12_lies zc_X12_lies = true := by decide +kernel
theorem zp_X12_lies : zq_pn yX12_lies 3 = true := by decide +kernel
theorem zs_X12_lies : Cond.static yX12_lies ∈ zt := zq_hw_ok (i := 1314) (by decide +kernel)
theorem zk_X12_isDeed : Cond.code yX12_isDeed cX12_isDeed 2 (some .boolean) ∈ zt := zq_hw_ok (i := 1366) (by decide +kernel)
def zc_X12_isDeed : zq_Cd := [(0, .iload_n 1, 1), (1, .iconst 0, 1), (2, .aload_n 0, 1), (3, .getfield 28, 3), (6, .bipush 60, 2), (8, .iaload, 1), (9, .iconst 1, 1), (10, .isub, 1), (11, .invokestatic 18, 3), (14, .ireturn, 1)]
theorem zd_X12_isDeed : zq_ckC cX12_isDeed zc_X12_isDeed = true := by decide +kernel
theorem zp_X12_isDeed : zq_pn yX12_isDeed 1 = true := by decide +kernel
theorem zn_X12_isDeed : Cond.instanceMethod yX12_isDeed ∈ zt := zq_hw_ok (i := 1365) (by decide +kernel)
theorem ze_X12_isDeed : Cond.selects RX12 yX12_isDeed yX12_isDeed ∈ zt := zq_hw_ok (i := 42) (by decide +kernel)
theorem zk_X12_many : Cond.code yX12_many cX12_many 1 (some .int) ∈ zt := zq_hw_ok (i := 1339) (by decide +kernel)
def zc_X12_many : zq_Cd := [(0, .aload_n 0, 1), (1, .getfield 28, 3), (4, .bipush 59, 2), (6, .iaload, 1), (7, .ireturn, 1)]
theorem zd_X12_many : zq_ckC cX12_many zc_X12_many = true := by decide +kernel
theorem zp_X12_many : zq_pn yX12_many 0 = true := by decide +kernel
theorem zn_X12_many : Cond.instanceMethod yX12_many ∈ zt := zq_hw_ok (i := 1338) (by decide +kernel)
theorem ze_X12_many : Cond.selects RX12 yX12_many yX12_many ∈ zt := zq_hw_ok (i := 39) (by decide +kernel)
theorem zk_X12_isPerson : Cond.code yX12_isPerson cX12_isPerson 2 (some .boolean) ∈ zt := zq_hw_ok (i := 1347) (by decide +kernel)
def zc_X12_isPerson : zq_Cd := [(0, .iload_n 1, 1), (1, .iconst 0, 1), (2, .aload_n 0, 1), (3, .invokevirtual 115, 3), (6, .iconst 1, 1), (7, .isub, 1), (8, .invokestatic 18, 3), (11, .ireturn, 1)]
theorem zd_X12_isPerson : zq_ckC cX12_isPerson zc_X12_isPerson = true := by decide +kernel
theorem zp_X12_isPerson : zq_pn yX12_isPerson 1 = true := by decide +kernel
theorem zn_X12_isPerson : Cond.instanceMethod yX12_isPerson ∈ zt := zq_hw_ok (i := 1346) (by decide +kernel)
theorem ze_X12_isPerson : Cond.selects RX12 yX12_isPerson yX12_isPerson ∈ zt := zq_hw_ok (i := 40) (by decide +kernel)
theorem zk_X12_isPlace : Cond.code yX12_isPlace cX12_isPlace 1 (some .boolean) ∈ zt := zq_hw_ok (i := 1373) (by decide +kernel)
def zc_X12_isPlace : zq_Cd := [(0, .iload_n 0, 1), (1, .iconst 0, 1), (2, .iconst 3, 1), (3, .invokestatic 18, 3), (6, .ireturn, 1)]
theorem zd_X12_isPlace : zq_ckC cX12_isPlace zc_X12_isPlace = true := by decide +kernel
theorem zp_X12_isPlace : zq_pn yX12_isPlace 1 = true := by decide +kernel
theorem zs_X12_isPlace : Cond.static yX12_isPlace ∈ zt := zq_hw_ok (i := 1372) (by decide +kernel)
theorem zk_X12_isDoing : Cond.code yX12_isDoing cX12_isDoing 4 (some .boolean) ∈ zt := zq_hw_ok (i := 1392) (by decide +kernel)
def zc_X12_isDoing : zq_Cd := [(0, .aload_n 0, 1), (1, .iload_n 1, 1), (2, .invokevirtual 119, 3), (5, .ifCond .eq 22, 3), (8, .aload_n 0, 1), (9, .iload_n 2, 1), (10, .invokevirtual 123, 3), (13, .ifCond .eq 14, 3), (16, .iload_n 3, 1), (17, .invokestatic 126, 3), (20, .ifCond .eq 7, 3), (23, .iconst 1, 1), (24, .goto 4, 3), (27, .iconst 0, 1), (28, .ireturn, 1)]
theorem zd_X12_isDoing : zq_ckC cX12_isDoing zc_X12_isDoing = true := by decide +kernel
theorem zp_X12_isDoing : zq_pn yX12_isDoing 3 = true := by decide +kernel
theorem zn_X12_isDoing : Cond.instanceMethod yX12_isDoing ∈ zt := zq_hw_ok (i := 1391) (by decide +kernel)
theorem ze_X12_isDoing : Cond.selects RX12 yX12_isDoing yX12_isDoing ∈ zt := zq_hw_ok (i := 44) (by decide +kernel)
theorem zk_X12_setsAsked : Cond.code yX12_setsAsked cX12_setsAsked 5 none ∈ zt := zq_hw_ok (i := 1400) (by decide +kernel)
def zc_X12_setsAsked : zq_Cd := [(0, .aload_n 0, 1), (1, .getfield 63, 3), (4, .iconst 0, 1), (5, .iload_n 2, 1), (6, .iastore, 1), (7, .aload_n 0, 1), (8, .getfield 63, 3), (11, .iconst 1, 1), (12, .aload_n 0, 1), (13, .getfield 28, 3), (16, .bipush 11, 2), (18, .iload_n 2, 1), (19, .iadd, 1), (20, .iaload, 1), (21, .iastore, 1), (22, .aload_n 0, 1), (23, .getfield 63, 3), (26, .iconst 2, 1), (27, .aload_n 0, 1), (28, .getfield 28, 3), (31, .bipush 21, 2), (33, .iload_n 1, 1), (34, .iadd, 1), (35, .iaload, 1), (36, .iastore, 1), (37, .aload_n 0, 1), (38, .getfield 63, 3), (41, .iconst 3, 1), (42, .aload_n 0, 1), (43, .getfield 28, 3), (46, .bipush 27, 2), (48, .iload_n 1, 1), (49, .iadd, 1), (50, .iaload, 1), (51, .iastore, 1), (52, .aload_n 0, 1), (53, .getfield 63, 3), (56, .iconst 4, 1), (57, .iload_n 3, 1), (58, .iastore, 1), (59, .aload_n 0, 1), (60, .getfield 63, 3), (63, .iconst 5, 1), (64, .iload 4, 2), (66, .aload_n 0, 1), (67, .getfield 28, 3), (70, .bipush 6, 2), (72, .iload_n 3, 1), (73, .iadd, 1), (74, .iaload, 1), (75, .iadd, 1), (76, .iastore, 1), (77, .aload_n 0, 1), (78, .getfield 63, 3), (81, .bipush 6, 2), (83, .aload_n 0, 1), (84, .getfield 63, 3), (87, .iconst 5, 1), (88, .iaload, 1), (89, .bipush 7, 2), (91, .irem, 1), (92, .iastore, 1), (93, .aload_n 0, 1), (94, .getfield 63, 3), (97, .bipush 7, 2), (99, .aload_n 0, 1), (100, .getfield 28, 3), (103, .bipush 58, 2), (105, .iaload, 1), (106, .iastore, 1), (107, .return_, 1)]
theorem zd_X12_setsAsked : zq_ckC cX12_setsAsked zc_X12_setsAsked = true := by decide +kernel
theorem zp_X12_setsAsked : zq_pn yX12_setsAsked 4 = true := by decide +kernel
theorem zn_X12_setsAsked : Cond.instanceMethod yX12_setsAsked ∈ zt := zq_hw_ok (i := 1399) (by decide +kernel)
theorem ze_X12_setsAsked : Cond.selects RX12 yX12_setsAsked yX12_setsAsked ∈ zt := zq_hw_ok (i := 46) (by decide +kernel)
theorem zk_X12_codeAt : Cond.code yX12_codeAt cX12_codeAt 2 (some .int) ∈ zt := zq_hw_ok (i := 1409) (by decide +kernel)
def zc_X12_codeAt : zq_Cd := [(0, .iload_n 1, 1), (1, .aload_n 0, 1), (2, .getfield 270, 3), (5, .if_icmp .ge 15, 3), (8, .aload_n 0, 1), (9, .getfield 28, 3), (12, .bipush 71, 2), (14, .iload_n 1, 1), (15, .iadd, 1), (16, .iaload, 1), (17, .goto 4, 3), (20, .iconst 0, 1), (21, .ireturn, 1)]
theorem zd_X12_codeAt : zq_ckC cX12_codeAt zc_X12_codeAt = true := by decide +kernel
theorem zp_X12_codeAt : zq_pn yX12_codeAt 1 = true := by decide +kernel
theorem zn_X12_codeAt : Cond.instanceMethod yX12_codeAt ∈ zt := zq_hw_ok (i := 1408) (by decide +kernel)
theorem ze_X12_codeAt : Cond.selects RX12 yX12_codeAt yX12_codeAt ∈ zt := zq_hw_ok (i := 48) (by decide +kernel)
theorem zk_X12_sign : Cond.code yX12_sign cX12_sign 1 (some .int) ∈ zt := zq_hw_ok (i := 1424) (by decide +kernel)
def zc_X12_sign : zq_Cd := [(0, .bipush 100, 2), (2, .iload_n 0, 1), (3, .iadd, 1), (4, .ireturn, 1)]
theorem zd_X12_sign : zq_ckC cX12_sign zc_X12_sign = true := by decide +kernel
theorem zp_X12_sign : zq_pn yX12_sign 1 = true := by decide +kernel
theorem zs_X12_sign : Cond.static yX12_sign ∈ zt := zq_hw_ok (i := 1423) (by decide +kernel)
theorem zk_X12_passes0 : Cond.code yX12_passes0 cX12_passes0 3 (some .boolean) ∈ zt := zq_hw_ok (i := 1428) (by decide +kernel)
def zc_X12_passes0 : zq_Cd := [(0, .aload_n 0, 1), (1, .aload_n 0, 1), (2, .getfield 273, 3), (5, .invokevirtual 276, 3), (8, .iload_n 1, 1), (9, .if_icmp .ne 7, 3), (12, .iconst 1, 1), (13, .goto 4, 3), (16, .iconst 0, 1), (17, .istore_n 2, 1), (18, .iload_n 2, 1), (19, .ifCond .eq 13, 3), (22, .aload_n 0, 1), (23, .dup, 1), (24, .getfield 273, 3), (27, .iconst 1, 1), (28, .iadd, 1), (29, .putfield 273, 3), (32, .iload_n 2, 1), (33, .ireturn, 1)]
theorem zd_X12_passes0 : zq_ckC cX12_passes0 zc_X12_passes0 = true := by decide +kernel
theorem zp_X12_passes0 : zq_pn yX12_passes0 1 = true := by decide +kernel
theorem zn_X12_passes0 : Cond.instanceMethod yX12_passes0 ∈ zt := zq_hw_ok (i := 1427) (by decide +kernel)
theorem ze_X12_passes0 : Cond.selects RX12 yX12_passes0 yX12_passes0 ∈ zt := zq_hw_ok (i := 52) (by decide +kernel)
theorem zk_X12_evenMany : Cond.code yX12_evenMany cX12_evenMany 3 (some .int) ∈ zt := zq_hw_ok (i := 1436) (by decide +kernel)
def zc_X12_evenMany : zq_Cd := [(0, .iconst 0, 1), (1, .istore_n 1, 1), (2, .iconst 0, 1), (3, .istore_n 2, 1), (4, .iload_n 2, 1), (5, .aload_n 0, 1), (6, .invokevirtual 115, 3), (9, .if_icmp .ge 28, 3), (12, .iload_n 1, 1), (13, .aload_n 0, 1), (14, .getfield 28, 3), (17, .iconst 0, 1), (18, .iload_n 2, 1), (19, .iadd, 1), (20, .iaload, 1), (21, .ifCond .ne 7, 3), (24, .iconst 1, 1), (25, .goto 4, 3), (28, .iconst 0, 1), (29, .iadd, 1), (30, .istore_n 1, 1), (31, .iinc 2 1, 3), (34, .goto (-30), 3), (37, .iload_n 1, 1), (38, .ireturn, 1)]
theorem zd_X12_evenMany : zq_ckC cX12_evenMany zc_X12_evenMany = true := by decide +kernel
theorem zp_X12_evenMany : zq_pn yX12_evenMany 0 = true := by decide +kernel
theorem zn_X12_evenMany : Cond.instanceMethod yX12_evenMany ∈ zt := zq_hw_ok (i := 1435) (by decide +kernel)
theorem ze_X12_evenMany : Cond.selects RX12 yX12_evenMany yX12_evenMany ∈ zt := zq_hw_ok (i := 54) (by decide +kernel)
theorem zk_X12_orderValue : Cond.code yX12_orderValue cX12_orderValue 3 (some .int) ∈ zt := zq_hw_ok (i := 1432) (by decide +kernel)
def zc_X12_orderValue : zq_Cd := [(0, .iload_n 1, 1), (1, .tableswitch 88 16 21 #[70, 78, 83, 88, 39, 60], 39), (40, .aload_n 0, 1), (41, .iload_n 2, 1), (42, .invokevirtual 123, 3), (45, .ifCond .eq 14, 3), (48, .aload_n 0, 1), (49, .getfield 28, 3), (52, .iconst 0, 1), (53, .iload_n 2, 1), (54, .iadd, 1), (55, .iaload, 1), (56, .goto 4, 3), (59, .iconst (-1), 1), (60, .ireturn, 1), (61, .aload_n 0, 1), (62, .getfield 28, 3), (65, .bipush 6, 2), (67, .iload_n 2, 1), (68, .iadd, 1), (69, .iaload, 1), (70, .ireturn, 1), (71, .aload_n 0, 1), (72, .getfield 28, 3), (75, .bipush 10, 2), (77, .iaload, 1), (78, .ireturn, 1), (79, .aload_n 0, 1), (80, .getfield 309, 3), (83, .ireturn, 1), (84, .aload_n 0, 1), (85, .getfield 312, 3), (88, .ireturn, 1), (89, .aload_n 0, 1), (90, .invokevirtual 315, 3), (93, .ireturn, 1)]
theorem zd_X12_orderValue : zq_ckC cX12_orderValue zc_X12_orderValue = true := by decide +kernel
theorem zp_X12_orderValue : zq_pn yX12_orderValue 2 = true := by decide +kernel
theorem zn_X12_orderValue : Cond.instanceMethod yX12_orderValue ∈ zt := zq_hw_ok (i := 1431) (by decide +kernel)
theorem ze_X12_orderValue : Cond.selects RX12 yX12_orderValue yX12_orderValue ∈ zt := zq_hw_ok (i := 53) (by decide +kernel)
theorem zk_X12_partOf : Cond.code yX12_partOf cX12_partOf 4 (some .long) ∈ zt := zq_hw_ok (i := 1421) (by decide +kernel)
def zc_X12_partOf : zq_Cd := [(0, .aload_n 0, 1), (1, .bipush 91, 2), (3, .invokestatic 232, 3), (6, .invokevirtual 297, 3), (9, .ifCond .eq 21, 3), (12, .aload_n 0, 1), (13, .iload_n 1, 1), (14, .invokevirtual 300, 3), (17, .lstore_n 2, 1), (18, .aload_n 0, 1), (19, .dup, 1), (20, .getfield 273, 3), (23, .iconst 1, 1), (24, .iadd, 1), (25, .putfield 273, 3), (28, .lload_n 2, 1), (29, .lreturn, 1), (30, .aload_n 0, 1), (31, .aload_n 0, 1), (32, .getfield 273, 3), (35, .invokevirtual 276, 3), (38, .istore_n 2, 1), (39, .iconst 0, 1), (40, .istore_n 3, 1), (41, .aload_n 0, 1), (42, .dup, 1), (43, .getfield 273, 3), (46, .iconst 1, 1), (47, .iadd, 1), (48, .putfield 273, 3), (51, .iload_n 2, 1), (52, .bipush 20, 2), (54, .if_icmp .eq 9, 3), (57, .iload_n 2, 1), (58, .bipush 21, 2), (60, .if_icmp .ne 27, 3), (63, .aload_n 0, 1), (64, .getfield 28, 3), (67, .sipush 2871, 3), (70, .aload_n 0, 1), (71, .getfield 273, 3), (74, .iadd, 1), (75, .iaload, 1), (76, .istore_n 3, 1), (77, .aload_n 0, 1), (78, .dup, 1), (79, .getfield 273, 3), (82, .iconst 1, 1), (83, .iadd, 1), (84, .putfield 273, 3), (87, .iload_n 1, 1), (88, .ifCond .eq 10, 3), (91, .aload_n 0, 1), (92, .getfield 283, 3), (95, .ifCond .eq 5, 3), (98, .lconst 0, 1), (99, .lreturn, 1), (100, .iload_n 2, 1), (101, .bipush 50, 2), (103, .if_icmp .ne 20, 3), (106, .aload_n 0, 1), (107, .getfield 28, 3), (110, .sipush 2871, 3), (113, .aload_n 0, 1), (114, .getfield 273, 3), (117, .iadd, 1), (118, .iconst 1, 1), (119, .isub, 1), (120, .iaload, 1), (121, .i2l, 1), (122, .lreturn, 1), (123, .aload_n 0, 1), (124, .getfield 303, 3), (127, .ifCond .eq 13, 3), (130, .aload_n 0, 1), (131, .iload_n 2, 1), (132, .iload_n 3, 1), (133, .invokevirtual 306, 3), (136, .i2l, 1), (137, .goto 13, 3), (140, .aload_n 0, 1), (141, .getfield 63, 3), (144, .iload_n 2, 1), (145, .bipush 8, 2), (147, .isub, 1), (148, .iaload, 1), (149, .i2l, 1), (150, .lreturn, 1)]
theorem zd_X12_partOf : zq_ckC cX12_partOf zc_X12_partOf = true := by decide +kernel
theorem zp_X12_partOf : zq_pn yX12_partOf 1 = true := by decide +kernel
theorem zn_X12_partOf : Cond.instanceMethod yX12_partOf ∈ zt := zq_hw_ok (i := 1420) (by decide +kernel)
theorem ze_X12_partOf : Cond.selects RX12 yX12_partOf yX12_partOf ∈ zt := zq_hw_ok (i := 51) (by decide +kernel)
theorem zk_X12_bounded : Cond.code yX12_bounded cX12_bounded 4 (some .long) ∈ zt := zq_hw_ok (i := 1440) (by decide +kernel)
def zc_X12_bounded : zq_Cd := [(0, .iload_n 3, 1), (1, .ifCond .eq 24, 3), (4, .lload_n 1, 1), (5, .ldc2_w 279, 3), (8, .lcmp, 1), (9, .ifCond .gt 11, 3), (12, .lload_n 1, 1), (13, .ldc2_w 281, 3), (16, .lcmp, 1), (17, .ifCond .ge 8, 3), (20, .aload_n 0, 1), (21, .iconst 1, 1), (22, .putfield 283, 3), (25, .aload_n 0, 1), (26, .getfield 283, 3), (29, .ifCond .eq 7, 3), (32, .lconst 0, 1), (33, .goto 4, 3), (36, .lload_n 1, 1), (37, .lreturn, 1)]
theorem zd_X12_bounded : zq_ckC cX12_bounded zc_X12_bounded = true := by decide +kernel
theorem zp_X12_bounded : zq_pn yX12_bounded 2 = true := by decide +kernel
theorem zn_X12_bounded : Cond.instanceMethod yX12_bounded ∈ zt := zq_hw_ok (i := 1439) (by decide +kernel)
theorem ze_X12_bounded : Cond.selects RX12 yX12_bounded yX12_bounded ∈ zt := zq_hw_ok (i := 55) (by decide +kernel)
theorem zk_X12_termOf : Cond.code yX12_termOf cX12_termOf 7 (some .long) ∈ zt := zq_hw_ok (i := 1417) (by decide +kernel)
def zc_X12_termOf : zq_Cd := [(0, .aload_n 0, 1), (1, .iload_n 1, 1), (2, .invokevirtual 294, 3), (5, .lstore_n 2, 1), (6, .aload_n 0, 1), (7, .aload_n 0, 1), (8, .getfield 273, 3), (11, .invokevirtual 276, 3), (14, .bipush 42, 2), (16, .invokestatic 232, 3), (19, .if_icmp .eq 35, 3), (22, .aload_n 0, 1), (23, .aload_n 0, 1), (24, .getfield 273, 3), (27, .invokevirtual 276, 3), (30, .bipush 47, 2), (32, .invokestatic 232, 3), (35, .if_icmp .eq 19, 3), (38, .aload_n 0, 1), (39, .aload_n 0, 1), (40, .getfield 273, 3), (43, .invokevirtual 276, 3), (46, .bipush 37, 2), (48, .invokestatic 232, 3), (51, .if_icmp .ne 117, 3), (54, .aload_n 0, 1), (55, .aload_n 0, 1), (56, .getfield 273, 3), (59, .invokevirtual 276, 3), (62, .istore 4, 2), (64, .aload_n 0, 1), (65, .dup, 1), (66, .getfield 273, 3), (69, .iconst 1, 1), (70, .iadd, 1), (71, .putfield 273, 3), (74, .aload_n 0, 1), (75, .iload_n 1, 1), (76, .invokevirtual 294, 3), (79, .lstore 5, 2), (81, .iload 4, 2), (83, .bipush 42, 2), (85, .invokestatic 232, 3), (88, .if_icmp .eq 33, 3), (91, .lload 5, 2), (93, .lconst 0, 1), (94, .lcmp, 1), (95, .ifCond .ne 26, 3), (98, .aload_n 0, 1), (99, .aload_n 0, 1), (100, .getfield 283, 3), (103, .ifCond .ne 7, 3), (106, .iload_n 1, 1), (107, .ifCond .eq 7, 3), (110, .iconst 1, 1), (111, .goto 4, 3), (114, .iconst 0, 1), (115, .putfield 283, 3), (118, .lconst 1, 1), (119, .lstore 5, 2), (121, .aload_n 0, 1), (122, .iload 4, 2), (124, .bipush 42, 2), (126, .invokestatic 232, 3), (129, .if_icmp .ne 10, 3), (132, .lload_n 2, 1), (133, .lload 5, 2), (135, .lmul, 1), (136, .goto 24, 3), (139, .iload 4, 2), (141, .bipush 47, 2), (143, .invokestatic 232, 3), (146, .if_icmp .ne 10, 3), (149, .lload_n 2, 1), (150, .lload 5, 2), (152, .ldiv, 1), (153, .goto 7, 3), (156, .lload_n 2, 1), (157, .lload 5, 2), (159, .lrem, 1), (160, .iload_n 1, 1), (161, .invokevirtual 290, 3), (164, .lstore_n 2, 1), (165, .goto (-159), 3), (168, .lload_n 2, 1), (169, .lreturn, 1)]
theorem zd_X12_termOf : zq_ckC cX12_termOf zc_X12_termOf = true := by decide +kernel
theorem zp_X12_termOf : zq_pn yX12_termOf 1 = true := by decide +kernel
theorem zn_X12_termOf : Cond.instanceMethod yX12_termOf ∈ zt := zq_hw_ok (i := 1416) (by decide +kernel)
theorem ze_X12_termOf : Cond.selects RX12 yX12_termOf yX12_termOf ∈ zt := zq_hw_ok (i := 50) (by decide +kernel)
theorem zk_X12_sumOf : Cond.code yX12_sumOf cX12_sumOf 7 (some .long) ∈ zt := zq_hw_ok (i := 1413) (by decide +kernel)
def zc_X12_sumOf : zq_Cd := [(0, .aload_n 0, 1), (1, .iload_n 1, 1), (2, .invokevirtual 286, 3), (5, .lstore_n 2, 1), (6, .aload_n 0, 1), (7, .aload_n 0, 1), (8, .getfield 273, 3), (11, .invokevirtual 276, 3), (14, .bipush 43, 2), (16, .invokestatic 232, 3), (19, .if_icmp .eq 19, 3), (22, .aload_n 0, 1), (23, .aload_n 0, 1), (24, .getfield 273, 3), (27, .invokevirtual 276, 3), (30, .bipush 45, 2), (32, .invokestatic 232, 3), (35, .if_icmp .ne 68, 3), (38, .aload_n 0, 1), (39, .aload_n 0, 1), (40, .getfield 273, 3), (43, .invokevirtual 276, 3), (46, .bipush 43, 2), (48, .invokestatic 232, 3), (51, .if_icmp .ne 7, 3), (54, .iconst 1, 1), (55, .goto 4, 3), (58, .iconst 0, 1), (59, .istore 4, 2), (61, .aload_n 0, 1), (62, .dup, 1), (63, .getfield 273, 3), (66, .iconst 1, 1), (67, .iadd, 1), (68, .putfield 273, 3), (71, .aload_n 0, 1), (72, .iload_n 1, 1), (73, .invokevirtual 286, 3), (76, .lstore 5, 2), (78, .aload_n 0, 1), (79, .iload 4, 2), (81, .ifCond .eq 10, 3), (84, .lload_n 2, 1), (85, .lload 5, 2), (87, .ladd, 1), (88, .goto 7, 3), (91, .lload_n 2, 1), (92, .lload 5, 2), (94, .lsub, 1), (95, .iload_n 1, 1), (96, .invokevirtual 290, 3), (99, .lstore_n 2, 1), (100, .goto (-94), 3), (103, .lload_n 2, 1), (104, .lreturn, 1)]
theorem zd_X12_sumOf : zq_ckC cX12_sumOf zc_X12_sumOf = true := by decide +kernel
theorem zp_X12_sumOf : zq_pn yX12_sumOf 1 = true := by decide +kernel
theorem zn_X12_sumOf : Cond.instanceMethod yX12_sumOf ∈ zt := zq_hw_ok (i := 1412) (by decide +kernel)
theorem ze_X12_sumOf : Cond.selects RX12 yX12_sumOf yX12_sumOf ∈ zt := zq_hw_ok (i := 49) (by decide +kernel)
theorem zk_X12_positiveOf : Cond.code yX12_positiveOf cX12_positiveOf 7 (some .boolean) ∈ zt := zq_hw_ok (i := 1458) (by decide +kernel)
def zc_X12_positiveOf : zq_Cd := [(0, .aload_n 0, 1), (1, .bipush 40, 2), (3, .invokestatic 232, 3), (6, .invokevirtual 297, 3), (9, .ifCond .eq 21, 3), (12, .aload_n 0, 1), (13, .iload_n 1, 1), (14, .invokevirtual 327, 3), (17, .istore_n 2, 1), (18, .aload_n 0, 1), (19, .dup, 1), (20, .getfield 273, 3), (23, .iconst 1, 1), (24, .iadd, 1), (25, .putfield 273, 3), (28, .iload_n 2, 1), (29, .ireturn, 1), (30, .aload_n 0, 1), (31, .iload_n 1, 1), (32, .invokevirtual 300, 3), (35, .lstore_n 2, 1), (36, .aload_n 0, 1), (37, .aload_n 0, 1), (38, .getfield 273, 3), (41, .invokevirtual 276, 3), (44, .istore 4, 2), (46, .aload_n 0, 1), (47, .dup, 1), (48, .getfield 273, 3), (51, .iconst 1, 1), (52, .iadd, 1), (53, .putfield 273, 3), (56, .aload_n 0, 1), (57, .iload_n 1, 1), (58, .invokevirtual 300, 3), (61, .lstore 5, 2), (63, .iload_n 1, 1), (64, .ifCond .eq 61, 3), (67, .aload_n 0, 1), (68, .getfield 283, 3), (71, .ifCond .ne 54, 3), (74, .iload 4, 2), (76, .bipush 60, 2), (78, .invokestatic 232, 3), (81, .if_icmp .ne 13, 3), (84, .lload_n 2, 1), (85, .lload 5, 2), (87, .lcmp, 1), (88, .ifCond .ge 37, 3), (91, .goto 30, 3), (94, .iload 4, 2), (96, .bipush 62, 2), (98, .invokestatic 232, 3), (101, .if_icmp .ne 13, 3), (104, .lload_n 2, 1), (105, .lload 5, 2), (107, .lcmp, 1), (108, .ifCond .le 17, 3), (111, .goto 10, 3), (114, .lload_n 2, 1), (115, .lload 5, 2), (117, .lcmp, 1), (118, .ifCond .ne 7, 3), (121, .iconst 1, 1), (122, .goto 4, 3), (125, .iconst 0, 1), (126, .ireturn, 1)]
theorem zd_X12_positiveOf : zq_ckC cX12_positiveOf zc_X12_positiveOf = true := by decide +kernel
theorem zp_X12_positiveOf : zq_pn yX12_positiveOf 1 = true := by decide +kernel
theorem zn_X12_positiveOf : Cond.instanceMethod yX12_positiveOf ∈ zt := zq_hw_ok (i := 1457) (by decide +kernel)
theorem ze_X12_positiveOf : Cond.selects RX12 yX12_positiveOf yX12_positiveOf ∈ zt := zq_hw_ok (i := 59) (by decide +kernel)
theorem zk_X12_plainOf : Cond.code yX12_plainOf cX12_plainOf 3 (some .boolean) ∈ zt := zq_hw_ok (i := 1454) (by decide +kernel)
def zc_X12_plainOf : zq_Cd := [(0, .iconst 0, 1), (1, .istore_n 2, 1), (2, .aload_n 0, 1), (3, .bipush 7, 2), (5, .invokevirtual 297, 3), (8, .ifCond .eq 16, 3), (11, .iload_n 2, 1), (12, .ifCond .ne 7, 3), (15, .iconst 1, 1), (16, .goto 4, 3), (19, .iconst 0, 1), (20, .istore_n 2, 1), (21, .goto (-19), 3), (24, .aload_n 0, 1), (25, .iload_n 1, 1), (26, .invokevirtual 324, 3), (29, .iload_n 2, 1), (30, .if_icmp .eq 7, 3), (33, .iconst 1, 1), (34, .goto 4, 3), (37, .iconst 0, 1), (38, .ireturn, 1)]
theorem zd_X12_plainOf : zq_ckC cX12_plainOf zc_X12_plainOf = true := by decide +kernel
theorem zp_X12_plainOf : zq_pn yX12_plainOf 1 = true := by decide +kernel
theorem zn_X12_plainOf : Cond.instanceMethod yX12_plainOf ∈ zt := zq_hw_ok (i := 1453) (by decide +kernel)
theorem ze_X12_plainOf : Cond.selects RX12 yX12_plainOf yX12_plainOf ∈ zt := zq_hw_ok (i := 58) (by decide +kernel)
theorem zk_X12_bothOf : Cond.code yX12_bothOf cX12_bothOf 4 (some .boolean) ∈ zt := zq_hw_ok (i := 1450) (by decide +kernel)
def zc_X12_bothOf : zq_Cd := [(0, .aload_n 0, 1), (1, .iload_n 1, 1), (2, .invokevirtual 321, 3), (5, .istore_n 2, 1), (6, .aload_n 0, 1), (7, .bipush 6, 2), (9, .invokevirtual 297, 3), (12, .ifCond .eq 38, 3), (15, .aload_n 0, 1), (16, .iload_n 1, 1), (17, .ifCond .eq 11, 3), (20, .iload_n 2, 1), (21, .ifCond .eq 7, 3), (24, .iconst 1, 1), (25, .goto 4, 3), (28, .iconst 0, 1), (29, .invokevirtual 321, 3), (32, .istore_n 3, 1), (33, .iload_n 2, 1), (34, .ifCond .eq 11, 3), (37, .iload_n 3, 1), (38, .ifCond .eq 7, 3), (41, .iconst 1, 1), (42, .goto 4, 3), (45, .iconst 0, 1), (46, .istore_n 2, 1), (47, .goto (-41), 3), (50, .iload_n 2, 1), (51, .ireturn, 1)]
theorem zd_X12_bothOf : zq_ckC cX12_bothOf zc_X12_bothOf = true := by decide +kernel
theorem zp_X12_bothOf : zq_pn yX12_bothOf 1 = true := by decide +kernel
theorem zn_X12_bothOf : Cond.instanceMethod yX12_bothOf ∈ zt := zq_hw_ok (i := 1449) (by decide +kernel)
theorem ze_X12_bothOf : Cond.selects RX12 yX12_bothOf yX12_bothOf ∈ zt := zq_hw_ok (i := 57) (by decide +kernel)
theorem zk_X12_testOf : Cond.code yX12_testOf cX12_testOf 4 (some .boolean) ∈ zt := zq_hw_ok (i := 1446) (by decide +kernel)
def zc_X12_testOf : zq_Cd := [(0, .aload_n 0, 1), (1, .iload_n 1, 1), (2, .invokevirtual 318, 3), (5, .istore_n 2, 1), (6, .aload_n 0, 1), (7, .iconst 5, 1), (8, .invokevirtual 297, 3), (11, .ifCond .eq 38, 3), (14, .aload_n 0, 1), (15, .iload_n 1, 1), (16, .ifCond .eq 11, 3), (19, .iload_n 2, 1), (20, .ifCond .ne 7, 3), (23, .iconst 1, 1), (24, .goto 4, 3), (27, .iconst 0, 1), (28, .invokevirtual 318, 3), (31, .istore_n 3, 1), (32, .iload_n 2, 1), (33, .ifCond .ne 7, 3), (36, .iload_n 3, 1), (37, .ifCond .eq 7, 3), (40, .iconst 1, 1), (41, .goto 4, 3), (44, .iconst 0, 1), (45, .istore_n 2, 1), (46, .goto (-40), 3), (49, .iload_n 2, 1), (50, .ireturn, 1)]
theorem zd_X12_testOf : zq_ckC cX12_testOf zc_X12_testOf = true := by decide +kernel
theorem zp_X12_testOf : zq_pn yX12_testOf 1 = true := by decide +kernel
theorem zn_X12_testOf : Cond.instanceMethod yX12_testOf ∈ zt := zq_hw_ok (i := 1445) (by decide +kernel)
theorem ze_X12_testOf : Cond.selects RX12 yX12_testOf yX12_testOf ∈ zt := zq_hw_ok (i := 56) (by decide +kernel)
theorem zk_X12_tells : Cond.code yX12_tells cX12_tells 9 (some .long) ∈ zt := zq_hw_ok (i := 1404) (by decide +kernel)
def zc_X12_tells : zq_Cd := [(0, .aload_n 0, 1), (1, .getfield 28, 3), (4, .bipush 63, 2), (6, .iaload, 1), (7, .iconst (-1), 1), (8, .if_icmp .ne 7, 3), (11, .ldc2_w 330, 3), (14, .lreturn, 1), (15, .aload_n 0, 1), (16, .iconst 0, 1), (17, .putfield 303, 3), (20, .ldc2_w 330, 3), (23, .lstore_n 2, 1), (24, .aload_n 0, 1), (25, .sipush 400, 3), (28, .aload_n 0, 1), (29, .getfield 28, 3), (32, .bipush 63, 2), (34, .iaload, 1), (35, .imul, 1), (36, .putfield 273, 3), (39, .aload_n 0, 1), (40, .aload_n 0, 1), (41, .getfield 273, 3), (44, .aload_n 0, 1), (45, .getfield 28, 3), (48, .bipush 64, 2), (50, .aload_n 0, 1), (51, .getfield 28, 3), (54, .bipush 63, 2), (56, .iaload, 1), (57, .iadd, 1), (58, .iaload, 1), (59, .iadd, 1), (60, .putfield 270, 3), (63, .aload_n 0, 1), (64, .getfield 273, 3), (67, .aload_n 0, 1), (68, .getfield 270, 3), (71, .if_icmp .ge 118, 3), (74, .aload_n 0, 1), (75, .aload_n 0, 1), (76, .getfield 273, 3), (79, .invokevirtual 276, 3), (82, .istore 4, 2), (84, .aload_n 0, 1), (85, .iconst 0, 1), (86, .putfield 283, 3), (89, .aload_n 0, 1), (90, .dup, 1), (91, .getfield 273, 3), (94, .iconst 1, 1), (95, .iadd, 1), (96, .putfield 273, 3), (99, .iload 4, 2), (101, .iconst 3, 1), (102, .if_icmp .ne 7, 3), (105, .lconst 1, 1), (106, .goto 8, 3), (109, .aload_n 0, 1), (110, .iconst 1, 1), (111, .invokevirtual 300, 3), (114, .lstore 5, 2), (116, .aload_n 0, 1), (117, .getfield 283, 3), (120, .istore 7, 2), (122, .aload_n 0, 1), (123, .iconst 0, 1), (124, .putfield 283, 3), (127, .aload_n 0, 1), (128, .iconst 4, 1), (129, .invokevirtual 297, 3), (132, .ifCond .eq 11, 3), (135, .aload_n 0, 1), (136, .iconst 1, 1), (137, .invokevirtual 327, 3), (140, .ifCond .eq 7, 3), (143, .iconst 1, 1), (144, .goto 4, 3), (147, .iconst 0, 1), (148, .istore 8, 2), (150, .iload 4, 2), (152, .iload_n 1, 1), (153, .if_icmp .ne 23, 3), (156, .iload 8, 2), (158, .ifCond .eq 18, 3), (161, .aload_n 0, 1), (162, .getfield 283, 3), (165, .ifCond .ne 11, 3), (168, .iload 7, 2), (170, .ifCond .ne 6, 3), (173, .lload 5, 2), (175, .lstore_n 2, 1), (176, .aload_n 0, 1), (177, .dup, 1), (178, .getfield 273, 3), (181, .iconst 1, 1), (182, .iadd, 1), (183, .putfield 273, 3), (186, .goto (-123), 3), (189, .lload_n 2, 1), (190, .lreturn, 1)]
theorem zd_X12_tells : zq_ckC cX12_tells zc_X12_tells = true := by decide +kernel
theorem zp_X12_tells : zq_pn yX12_tells 1 = true := by decide +kernel
theorem zn_X12_tells : Cond.instanceMethod yX12_tells ∈ zt := zq_hw_ok (i := 1403) (by decide +kernel)
theorem ze_X12_tells : Cond.selects RX12 yX12_tells yX12_tells ∈ zt := zq_hw_ok (i := 47) (by decide +kernel)
theorem zk_X12_owesFor : Cond.code yX12_owesFor cX12_owesFor 6 (some .int) ∈ zt := zq_hw_ok (i := 1396) (by decide +kernel)
def zc_X12_owesFor : zq_Cd := [(0, .aload_n 0, 1), (1, .iload_n 1, 1), (2, .iload_n 2, 1), (3, .iload_n 3, 1), (4, .aload_n 0, 1), (5, .getfield 28, 3), (8, .bipush 10, 2), (10, .iaload, 1), (11, .invokevirtual 332, 3), (14, .aload_n 0, 1), (15, .iconst 2, 1), (16, .invokevirtual 336, 3), (19, .lstore 4, 2), (21, .lload 4, 2), (23, .ldc2_w 330, 3), (26, .lcmp, 1), (27, .ifCond .ne 13, 3), (30, .aload_n 0, 1), (31, .getfield 28, 3), (34, .bipush 27, 2), (36, .iload_n 1, 1), (37, .iadd, 1), (38, .iaload, 1), (39, .ireturn, 1), (40, .lload 4, 2), (42, .lconst 0, 1), (43, .lcmp, 1), (44, .ifCond .ge 7, 3), (47, .iconst 0, 1), (48, .goto 20, 3), (51, .lload 4, 2), (53, .ldc2_w 340, 3), (56, .lcmp, 1), (57, .ifCond .le 8, 3), (60, .bipush 99, 2), (62, .goto 6, 3), (65, .lload 4, 2), (67, .l2i, 1), (68, .ireturn, 1)]
theorem zd_X12_owesFor : zq_ckC cX12_owesFor zc_X12_owesFor = true := by decide +kernel
theorem zp_X12_owesFor : zq_pn yX12_owesFor 3 = true := by decide +kernel
theorem zn_X12_owesFor : Cond.instanceMethod yX12_owesFor ∈ zt := zq_hw_ok (i := 1395) (by decide +kernel)
theorem ze_X12_owesFor : Cond.selects RX12 yX12_owesFor yX12_owesFor ∈ zt := zq_hw_ok (i := 45) (by decide +kernel)
theorem zk_X12_whoOn : Cond.code yX12_whoOn cX12_whoOn 7 (some .int) ∈ zt := zq_hw_ok (i := 1463) (by decide +kernel)
def zc_X12_whoOn : zq_Cd := [(0, .aload_n 0, 1), (1, .iload_n 1, 1), (2, .iload_n 2, 1), (3, .iload_n 3, 1), (4, .iload 4, 2), (6, .invokevirtual 332, 3), (9, .aload_n 0, 1), (10, .iconst 3, 1), (11, .invokevirtual 336, 3), (14, .ldc2_w 330, 3), (17, .lcmp, 1), (18, .ifCond .eq 6, 3), (21, .bipush 7, 2), (23, .ireturn, 1), (24, .aload_n 0, 1), (25, .iconst 1, 1), (26, .invokevirtual 336, 3), (29, .lstore 5, 2), (31, .lload 5, 2), (33, .ldc2_w 330, 3), (36, .lcmp, 1), (37, .ifCond .ne 5, 3), (40, .iload_n 2, 1), (41, .ireturn, 1), (42, .lload 5, 2), (44, .lconst 0, 1), (45, .lcmp, 1), (46, .ifCond .lt 14, 3), (49, .lload 5, 2), (51, .aload_n 0, 1), (52, .invokevirtual 115, 3), (55, .i2l, 1), (56, .lcmp, 1), (57, .ifCond .lt 8, 3), (60, .bipush 6, 2), (62, .goto 6, 3), (65, .lload 5, 2), (67, .l2i, 1), (68, .ireturn, 1)]
theorem zd_X12_whoOn : zq_ckC cX12_whoOn zc_X12_whoOn = true := by decide +kernel
theorem zp_X12_whoOn : zq_pn yX12_whoOn 4 = true := by decide +kernel
theorem zn_X12_whoOn : Cond.instanceMethod yX12_whoOn ∈ zt := zq_hw_ok (i := 1462) (by decide +kernel)
theorem ze_X12_whoOn : Cond.selects RX12 yX12_whoOn yX12_whoOn ∈ zt := zq_hw_ok (i := 60) (by decide +kernel)
theorem zk_X12_asks : Cond.code yX12_asks cX12_asks 5 (some .int) ∈ zt := zq_hw_ok (i := 1388) (by decide +kernel)
def zc_X12_asks : zq_Cd := [(0, .aload_n 0, 1), (1, .iload_n 1, 1), (2, .iload_n 2, 1), (3, .iload_n 3, 1), (4, .invokevirtual 144, 3), (7, .ifCond .ne 5, 3), (10, .iconst (-1), 1), (11, .ireturn, 1), (12, .iload 4, 2), (14, .lookupswitch 59 #[(0, 26), (1, 34)], 26), (40, .aload_n 0, 1), (41, .iload_n 1, 1), (42, .iload_n 2, 1), (43, .iload_n 3, 1), (44, .invokevirtual 147, 3), (47, .ireturn, 1), (48, .aload_n 0, 1), (49, .iload_n 1, 1), (50, .iload_n 2, 1), (51, .iload_n 3, 1), (52, .aload_n 0, 1), (53, .getfield 28, 3), (56, .bipush 10, 2), (58, .iaload, 1), (59, .invokevirtual 151, 3), (62, .bipush 7, 2), (64, .if_icmp .ne 7, 3), (67, .iconst 1, 1), (68, .goto 4, 3), (71, .iconst 0, 1), (72, .ireturn, 1), (73, .iconst (-1), 1), (74, .ireturn, 1)]
theorem zd_X12_asks : zq_ckC cX12_asks zc_X12_asks = true := by decide +kernel
theorem zp_X12_asks : zq_pn yX12_asks 4 = true := by decide +kernel
theorem zn_X12_asks : Cond.instanceMethod yX12_asks ∈ zt := zq_hw_ok (i := 1386) (by decide +kernel)
theorem ze_X12_asks : Cond.selects RX12 yX12_asks yX12_asks ∈ zt := zq_hw_ok (i := 1387) (by decide +kernel)
