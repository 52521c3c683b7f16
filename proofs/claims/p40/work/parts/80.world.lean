def zX : Nat → List Int → zq_Ty → zq_H → Prop := fun _ _ _ _ => True
/-! THE WORLD of this program -/
def zi_KT : List zq_K := [(1, 0, 0, [(7, 0, -2147483648, 2147483647, 0)], [(-7, [(0, 1)]), (7, [(0, -1)])], 0), (1, 0, 0, [(6, 0, -9999, 9999, 0), (10, 0, 0, 6, 0), (11, 0, 0, 999, 0), (17, 0, 0, 9, 0), (21, 0, 0, 15, 0), (27, 0, 0, 3, 0), (33, 0, 0, 9, 0), (34, 0, 0, 999, 0), (35, 0, 0, 5, 0), (36, 0, 0, 3, 0), (37, 0, 0, 6, 0), (38, 0, 0, 999, 0), (39, 0, 0, 5, 0), (40, 0, 0, 3, 0), (41, 0, 0, 6, 0), (42, 0, 0, 999, 0), (43, 0, 0, 5, 0), (44, 0, 0, 3, 0), (45, 0, 0, 6, 0), (46, 0, 0, 999, 0), (47, 0, 0, 5, 0), (48, 0, 0, 3, 0), (49, 0, 0, 6, 0), (50, 0, 0, 999, 0), (51, 0, 0, 5, 0), (52, 0, 0, 3, 0), (53, 0, 0, 6, 0), (54, 0, 0, 999, 0), (55, 0, 0, 5, 0), (56, 0, 0, 3, 0), (57, 0, 0, 6, 0), (58, 0, 0, 10, 0), (59, 0, 0, 9, 0), (60, 0, 0, 6, 0), (61, 0, 0, 6, 0), (62, 0, 0, 6, 0), (63, 0, 0, 6, 0), (64, 0, -1, 5, 0), (71, 0, 0, 400, 0), (2871, 0, 0, 355, 0), (5671, 0, -2147483648, 2147483647, 0)], [(-5671, [(0, 1)]), (5671, [(0, -1)])], 0), (1, 0, 5671, [(6, 0, -9999, 9999, 0), (10, 0, 0, 6, 0), (11, 0, 0, 999, 0), (17, 0, 0, 9, 0), (21, 0, 0, 15, 0), (27, 0, 0, 3, 0), (33, 0, 0, 9, 0), (34, 0, 0, 999, 0), (35, 0, 0, 5, 0), (36, 0, 0, 3, 0), (37, 0, 0, 6, 0), (38, 0, 0, 999, 0), (39, 0, 0, 5, 0), (40, 0, 0, 3, 0), (41, 0, 0, 6, 0), (42, 0, 0, 999, 0), (43, 0, 0, 5, 0), (44, 0, 0, 3, 0), (45, 0, 0, 6, 0), (46, 0, 0, 999, 0), (47, 0, 0, 5, 0), (48, 0, 0, 3, 0), (49, 0, 0, 6, 0), (50, 0, 0, 999, 0), (51, 0, 0, 5, 0), (52, 0, 0, 3, 0), (53, 0, 0, 6, 0), (54, 0, 0, 999, 0), (55, 0, 0, 5, 0), (56, 0, 0, 3, 0), (57, 0, 0, 6, 0), (58, 0, 0, 10, 0), (59, 0, 0, 9, 0), (60, 0, 0, 6, 0), (61, 0, 0, 6, 0), (62, 0, 0, 6, 0), (63, 0, 0, 6, 0), (64, 0, -1, 5, 0), (71, 0, 0, 400, 0), (2871, 0, 0, 355, 0), (5671, 0, -2147483648, 2147483647, 0)], [(-11342, [(0, 1)]), (11342, [(0, -1)])], 0), (1, 3, 0, [(2, 0, 0, 1, 0)], [(-2, [(0, 1)]), (2, [(0, -1)])], 0), (1, 0, 11, [(6, 0, -9999, 9999, 0), (10, 0, 0, 6, 0), (11, 0, 0, 999, 0)], [(-22, [(0, 1)]), (22, [(0, -1)])], 0), (1, 2, 0, [(149, 0, 32, 122, 0), (150, 0, 32, 32, 0)], [(-150, [(0, 1)]), (150, [(0, -1)])], 0), (1, 2, 0, [(400, 0, -128, 127, 0)], [(-400, [(0, 1)]), (400, [(0, -1)])], 0), (1, 0, 0, [(5, 0, -2147483648, 2147483647, 0)], [(-5, [(0, 1)]), (5, [(0, -1)])], 0), (1, 0, 0, [(401, 0, 0, 355, 0)], [(-401, [(0, 1)]), (401, [(0, -1)])], 0), (1, 0, 0, [(401, 0, -2147483648, 2147483647, 0)], [(-401, [(0, 1)]), (401, [(0, -1)])], 0), (1, 0, 0, [(401, 0, 0, 400, 0)], [(-401, [(0, 1)]), (401, [(0, -1)])], 0), (1, 0, 0, [(1, 0, 0, 5, 0), (2, 0, 0, 9, 0), (3, 0, 0, 3, 0), (4, 0, 0, 9, 0), (5, 0, 0, 3, 0), (6, 0, 0, 1200, 0), (7, 0, 0, 6, 0), (8, 0, 0, 9, 0)], [(-8, [(0, 1)]), (8, [(0, -1)])], 0), (1, 0, 12, [(6, 0, -9999, 9999, 0), (10, 0, 0, 6, 0), (11, 0, 0, 999, 0), (12, 0, 0, 3, 0)], [(-192, [(0, 1)]), (192, [(0, -1)])], 0), (1, 0, 12, [(6, 0, -9999, 9999, 0), (10, 0, 0, 6, 0), (11, 0, 0, 999, 0), (12, 0, 0, 3, 0)], [(-192, [(0, 1)]), (192, [(0, -1)])], 0), (1, 0, 0, [(120, 0, 0, 7, 0)], [(-120, [(0, 1)]), (120, [(0, -1)])], 0), (1, 3, 0, [(60, 0, 0, 1, 0)], [(-60, [(0, 1)]), (60, [(0, -1)])], 0), (1, 0, 0, [(6, 0, 0, 9, 0)], [(-6, [(0, 1)]), (6, [(0, -1)])], 0), (1, 0, 0, [(84, 0, -2147483648, 2147483647, 0)], [(-84, [(0, 1)]), (84, [(0, -1)])], 0), (1, 0, 0, [(64, 0, -2147483648, 2147483647, 0)], [(-64, [(0, 1)]), (64, [(0, -1)])], 0), (1, 0, 0, [(8, 0, -2147483648, 2147483647, 0)], [(-8, [(0, 1)]), (8, [(0, -1)])], 0), (1, 0, 0, [(6, 0, -2147483648, 2147483647, 0)], [(-6, [(0, 1)]), (6, [(0, -1)])], 0), (1, 1, 0, [(21, 1, -9223372036854775808, 9223372036854775807, 0)], [(-21, [(0, 1)]), (21, [(0, -1)])], 1), (1, 1, 0, [(3, 1, -2000000000, 2000000000, 0)], [(-3, [(0, 1)]), (3, [(0, -1)])], 1), (1, 0, 0, [(6, 0, -9999, 9999, 0), (10, 0, 0, 6, 0), (11, 0, 0, 999, 0)], [(-11, [(0, 1)]), (11, [(0, -1)])], 0), (0, 12, 0, [(1, 0, -6, 0, 0), (2, 2, 0, 0, 0), (3, 2, 0, 0, 1), (4, 2, 0, 0, 2), (5, 2, 0, 0, 3), (6, 2, 0, 0, 4), (7, 0, -2147483648, 2147483647, 0), (8, 2, 0, 0, 5), (9, 0, 0, 16, 0), (10, 0, 0, 21, 0), (11, 0, 0, 1, 0), (12, 2, 0, 0, 6), (13, 2, 0, 0, 7), (14, 0, 0, 400, 0), (15, 0, -1, 400, 0), (16, 2, 0, 0, 8), (17, 2, 0, 0, 9), (18, 2, 0, 0, 10), (19, 0, 0, 400, 0), (20, 0, 0, 400, 0), (21, 0, -2147483648, 2147483647, 0), (22, 0, -1, 400, 0), (23, 0, 0, 3200, 0), (24, 0, 0, 2800, 0), (25, 0, 0, 1, 0), (26, 0, 0, 1, 0), (27, 2, 0, 0, 11), (28, 0, -2147483648, 2147483647, 0), (29, 0, -1, 10000, 0), (30, 2, 0, 0, 12), (31, 2, 0, 0, 13), (32, 0, 0, 16, 0), (33, 2, 0, 0, 14), (34, 2, 0, 0, 15), (35, 2, 0, 0, 16), (36, 2, 0, 0, 17), (37, 2, 0, 0, 18), (38, 2, 0, 0, 19), (39, 2, 0, 0, 20), (40, 2, 0, 0, 21), (41, 0, -2147483648, 2147483647, 0), (42, 0, 0, 2800, 0), (43, 0, -2147483648, 2147483647, 0), (44, 0, 0, 355, 0), (45, 0, 0, 1, 0), (46, 0, 0, 1, 0), (47, 2, 0, 0, 22), (48, 2, 0, 0, 23), (49, 0, -1, 6, 0), (50, 0, 0, 1000003, 0)], [], 0)]
def zi_TY : List FieldType := [.int, .long, .byte, .boolean, .object "AnswerDays$Text", .object "AnswerDays$Land"]
def zi_FT : List (List Nat) := [[2, 2, 2, 0, 0, 0], [2, 2, 2, 2, 0], [2, 2, 2, 2, 0], [2, 0], [2, 2, 2, 2, 2, 2, 2, 2, 2, 2, 0, 0, 0, 0, 0], [2, 2, 4, 0, 0], [2, 2, 4], [2, 2, 2, 2], [2, 2, 2, 2, 2, 0], [2, 2, 2, 2, 0, 0], [2, 2, 2, 2, 2, 2, 2], [2, 2, 2, 2, 2, 2, 2, 2, 2, 2, 2, 2, 0, 0, 0, 0, 0], [0, 2, 2, 2, 2, 2, 0, 2, 0, 0, 4, 2, 2, 0, 0, 2, 2, 2, 0, 0, 0, 0, 0, 0, 4, 4, 2, 0, 0, 2, 2, 0, 2, 2, 2, 2, 2, 2, 2, 2, 0, 0, 0, 0, 4, 4, 2, 2, 0, 0]]
def zi_FN : List (List Bool) := [[true, true, true, false, false, false], [true, true, true, true, false], [true, true, true, true, false], [true, false], [true, true, true, true, true, true, true, true, true, true, false, false, false, false, false], [true, true, false, false, false], [true, true, false], [true, true, true, true], [true, true, true, true, true, false], [true, true, true, true, false, false], [true, true, true, true, true, true, true], [true, true, true, true, true, true, true, true, true, true, true, true, false, false, false, false, false], [false, true, true, true, true, true, false, true, false, false, false, true, true, false, false, true, true, true, false, false, false, false, false, false, false, false, true, false, false, true, true, false, true, true, true, true, true, true, true, true, false, false, false, false, false, false, true, true, false, false]]
def zi_AC : List Nat := [0, 0, 0, 0, 9, 4]
def zi_FX : zq_FX := []
def zi_GL : zq_GLt := [zq_glS]
def zi_AO : List String := ["AnswerDays$Text", "AnswerDays$Land"]
def zi_NW : List Cond := [.methodLinkNest "AnswerDays" 9 ⟨"AnswerDays$Reckoner", "<init>", "()V"⟩ "AnswerDays", .methodLinkNest "AnswerDays" 17 ⟨"AnswerDays$Tape", "<init>", "()V"⟩ "AnswerDays", .methodLinkNest "AnswerDays" 62 ⟨"AnswerDays$Sums", "<init>", "()V"⟩ "AnswerDays", .methodLinkNest "AnswerDays$Land" 44 ⟨"AnswerDays$Journal", "<init>", "()V"⟩ "AnswerDays", .methodLinkNest "AnswerDays$Reckoner" 36 ⟨"AnswerDays", "isWithin", "(III)Z"⟩ "AnswerDays", .methodLinkNest "AnswerDays$Reader" 115 ⟨"AnswerDays", "isWithin", "(III)Z"⟩ "AnswerDays", .methodLinkNest "AnswerDays$Text" 40 ⟨"AnswerDays", "isWithin", "(III)Z"⟩ "AnswerDays", .methodLinkNest "AnswerDays$Acts" 23 ⟨"AnswerDays", "isPlace", "(I)Z"⟩ "AnswerDays", .methodLinkNest "AnswerDays$Acts" 74 ⟨"AnswerDays", "isWithin", "(III)Z"⟩ "AnswerDays", .fieldLinkNest "AnswerDays$Acts" 86 "AnswerDays" "MOST_OF_TERM" "[I" "AnswerDays"]
theorem zi_NWok : zi_NW.all zq_nwk = true := by decide
theorem zi_u0 : ∀ w ∈ u_ws RX0 TX0 6, w ∈ zt := zq_ckU_ok (is := [274, 276, 278, 280, 282, 284]) (by decide +kernel)
theorem zi_u1 : ∀ w ∈ u_ws RX1 TX1 5, w ∈ zt := zq_ckU_ok (is := [300, 302, 304, 306, 308]) (by decide +kernel)
theorem zi_u2 : ∀ w ∈ u_ws RX2 TX2 5, w ∈ zt := zq_ckU_ok (is := [386, 388, 390, 392, 394]) (by decide +kernel)
theorem zi_u3 : ∀ w ∈ u_ws RX3 TX3 2, w ∈ zt := zq_ckU_ok (is := [167, 169]) (by decide +kernel)
theorem zi_u4 : ∀ w ∈ u_ws RX4 TX4 15, w ∈ zt := zq_ckU_ok (is := [446, 448, 450, 452, 454, 456, 458, 460, 462, 464, 466, 468, 470, 472, 474]) (by decide +kernel)
theorem zi_u5 : ∀ w ∈ u_ws RX5 TX5 5, w ∈ zt := zq_ckU_ok (is := [250, 252, 254, 256, 258]) (by decide +kernel)
theorem zi_u6 : ∀ w ∈ u_ws RX6 TX6 3, w ∈ zt := zq_ckU_ok (is := [149, 151, 153]) (by decide +kernel)
theorem zi_u7 : ∀ w ∈ u_ws RX7 TX7 4, w ∈ zt := zq_ckU_ok (is := [351, 353, 355, 357]) (by decide +kernel)
theorem zi_u8 : ∀ w ∈ u_ws RX8 TX8 6, w ∈ zt := zq_ckU_ok (is := [189, 191, 193, 195, 197, 199]) (by decide +kernel)
theorem zi_u9 : ∀ w ∈ u_ws RX9 TX9 6, w ∈ zt := zq_ckU_ok (is := [231, 233, 235, 237, 239, 241]) (by decide +kernel)
theorem zi_u10 : ∀ w ∈ u_ws RX10 TX10 7, w ∈ zt := zq_ckU_ok (is := [326, 328, 330, 332, 334, 336, 338]) (by decide +kernel)
theorem zi_u11 : ∀ w ∈ u_ws RX11 TX11 17, w ∈ zt := zq_ckU_ok (is := [495, 497, 499, 501, 503, 505, 507, 509, 511, 513, 515, 517, 519, 521, 523, 525, 527]) (by decide +kernel)
theorem zi_u12 : ∀ w ∈ u_ws RX12 TX12 50, w ∈ zt := zq_ckU_ok (is := [1208, 1210, 1212, 1214, 1216, 1218, 1220, 1222, 1224, 1226, 1228, 1230, 1232, 1234, 1236, 1238, 1240, 1242, 1244, 1246, 1248, 1250, 1252, 1254, 1256, 1258, 1260, 1262, 1264, 1266, 1268, 1270, 1272, 1274, 1276, 1278, 1280, 1282, 1284, 1286, 1288, 1290, 1292, 1294, 1296, 1298, 1300, 1302, 1304, 1306]) (by decide +kernel)
theorem zi_u : ∀ rc ∈ vwCl, ∀ w ∈ u_ws rc.1 rc.2.1 rc.2.2, w ∈ zt := List.forall_mem_cons.mpr ⟨zi_u0, List.forall_mem_cons.mpr ⟨zi_u1, List.forall_mem_cons.mpr ⟨zi_u2, List.forall_mem_cons.mpr ⟨zi_u3, List.forall_mem_cons.mpr ⟨zi_u4, List.forall_mem_cons.mpr ⟨zi_u5, List.forall_mem_cons.mpr ⟨zi_u6, List.forall_mem_cons.mpr ⟨zi_u7, List.forall_mem_cons.mpr ⟨zi_u8, List.forall_mem_cons.mpr ⟨zi_u9, List.forall_mem_cons.mpr ⟨zi_u10, List.forall_mem_cons.mpr ⟨zi_u11, List.forall_mem_cons.mpr ⟨zi_u12, fun _ h => absurd h List.not_mem_nil⟩⟩⟩⟩⟩⟩⟩⟩⟩⟩⟩⟩⟩
theorem zi_CI : zq_okCI zt vwCl zi_FT zi_FN := by
  intro ci rc h
  match ci, h with
  | 0, h => cases h; exact ⟨zi_u0, nmX0, tyX0, _, tyX0_ok, rfl, rfl, by decide +kernel, by decide +kernel⟩
  | 1, h => cases h; exact ⟨zi_u1, nmX1, tyX1, _, tyX1_ok, rfl, rfl, by decide +kernel, by decide +kernel⟩
  | 2, h => cases h; exact ⟨zi_u2, nmX2, tyX2, _, tyX2_ok, rfl, rfl, by decide +kernel, by decide +kernel⟩
  | 3, h => cases h; exact ⟨zi_u3, nmX3, tyX3, _, tyX3_ok, rfl, rfl, by decide +kernel, by decide +kernel⟩
  | 4, h => cases h; exact ⟨zi_u4, nmX4, tyX4, _, tyX4_ok, rfl, rfl, by decide +kernel, by decide +kernel⟩
  | 5, h => cases h; exact ⟨zi_u5, nmX5, tyX5, _, tyX5_ok, rfl, rfl, by decide +kernel, by decide +kernel⟩
  | 6, h => cases h; exact ⟨zi_u6, nmX6, tyX6, _, tyX6_ok, rfl, rfl, by decide +kernel, by decide +kernel⟩
  | 7, h => cases h; exact ⟨zi_u7, nmX7, tyX7, _, tyX7_ok, rfl, rfl, by decide +kernel, by decide +kernel⟩
  | 8, h => cases h; exact ⟨zi_u8, nmX8, tyX8, _, tyX8_ok, rfl, rfl, by decide +kernel, by decide +kernel⟩
  | 9, h => cases h; exact ⟨zi_u9, nmX9, tyX9, _, tyX9_ok, rfl, rfl, by decide +kernel, by decide +kernel⟩
  | 10, h => cases h; exact ⟨zi_u10, nmX10, tyX10, _, tyX10_ok, rfl, rfl, by decide +kernel, by decide +kernel⟩
  | 11, h => cases h; exact ⟨zi_u11, nmX11, tyX11, _, tyX11_ok, rfl, rfl, by decide +kernel, by decide +kernel⟩
  | 12, h => cases h; exact ⟨zi_u12, nmX12, tyX12, _, tyX12_ok, rfl, rfl, by decide +kernel, by decide +kernel⟩
  | k + 13, h => cases h
theorem zi_ACok : zq_okAC vwCl zi_TY zi_AC := by
  intro j C ci h1 h2
  match j, h1, h2 with
  | 0, h1, _ => cases h1
  | 1, h1, _ => cases h1
  | 2, h1, _ => cases h1
  | 3, h1, _ => cases h1
  | 4, h1, h2 => cases h1; cases h2; exact ⟨_, _, rfl⟩
  | 5, h1, h2 => cases h1; cases h2; exact ⟨_, _, rfl⟩
  | k + 6, h1, _ => cases h1
theorem zi_AKok : zq_okAK zt zi_TY := List.forall_mem_cons.mpr ⟨fun _ => zq_hw_ok (i := 156) (by decide +kernel), List.forall_mem_cons.mpr ⟨fun _ => zq_hw_ok (i := 360) (by decide +kernel), List.forall_mem_cons.mpr ⟨fun _ => zq_hw_ok (i := 831) (by decide +kernel), List.forall_mem_cons.mpr ⟨fun _ => zq_hw_ok (i := 530) (by decide +kernel), List.forall_mem_cons.mpr ⟨fun h => absurd rfl h, List.forall_mem_cons.mpr ⟨fun h => absurd rfl h, fun _ h => absurd h List.not_mem_nil⟩⟩⟩⟩⟩⟩
def zi_w (D : va_G) (tys : List (ClassId × FieldType)) : zq_Wd := (D, vwCl, tys, zi_KT, zX)
theorem zi_Kok {D : va_G} {tys : List (ClassId × FieldType)} : zq_okK (zi_w D tys) := zq_ckK_ok (show zq_ckK vwCl zi_KT = true by decide +kernel)
theorem zi_GLok {D : va_G} {tys : List (ClassId × FieldType)} : zq_okGL (zi_w D tys) zi_GL := List.forall_mem_cons.mpr ⟨zq_glS_ok1, fun _ h => absurd h List.not_mem_nil⟩
theorem zi_FXok {D : va_G} {tys : List (ClassId × FieldType)} : zq_okFX (zi_w D tys) zi_FX := fun x hx => by cases hx
theorem zi_wok {D : va_G} {tys : List (ClassId × FieldType)} (h : tys.map Prod.snd = zi_TY) : zq_Wok (zi_w D tys) zi_TY zi_FT zi_FN zi_AC zi_FX zi_GL := ⟨zi_CI, zi_ACok, zi_AKok, zi_FXok, zi_Kok, zi_GLok, h⟩
theorem zi_in0 : Cond.initialized "AnswerDays$Acts" ∈ zt := zq_hw_ok (i := 114) (by decide +kernel)
theorem zi_in1 : Cond.initialized "AnswerDays$Asker" ∈ zt := zq_hw_ok (i := 115) (by decide +kernel)
theorem zi_in2 : Cond.initialized "AnswerDays$Journal" ∈ zt := zq_hw_ok (i := 119) (by decide +kernel)
theorem zi_in3 : Cond.initialized "AnswerDays$Judge" ∈ zt := zq_hw_ok (i := 110) (by decide +kernel)
theorem zi_in4 : Cond.initialized "AnswerDays$Land" ∈ zt := zq_hw_ok (i := 118) (by decide +kernel)
theorem zi_in5 : Cond.initialized "AnswerDays$Reader" ∈ zt := zq_hw_ok (i := 112) (by decide +kernel)
theorem zi_in6 : Cond.initialized "AnswerDays$Reckoner" ∈ zt := zq_hw_ok (i := 109) (by decide +kernel)
theorem zi_in7 : Cond.initialized "AnswerDays$Sums" ∈ zt := zq_hw_ok (i := 117) (by decide +kernel)
theorem zi_in8 : Cond.initialized "AnswerDays$Tape" ∈ zt := zq_hw_ok (i := 111) (by decide +kernel)
theorem zi_in9 : Cond.initialized "AnswerDays$Text" ∈ zt := zq_hw_ok (i := 113) (by decide +kernel)
theorem zi_in10 : Cond.initialized "AnswerDays$Ways" ∈ zt := zq_hw_ok (i := 116) (by decide +kernel)
theorem zi_in11 : Cond.initialized "AnswerDays" ∈ zt := zq_hw_ok (i := 108) (by decide +kernel)
theorem zi_in12 : Cond.initialized "AnswerDaysModel" ∈ zt := zq_hw_ok (i := 120) (by decide +kernel)
theorem zi_in13 : Cond.initialized "AnswerDaysLaw" ∈ zt := zq_hw_ok (i := 107) (by decide +kernel)
