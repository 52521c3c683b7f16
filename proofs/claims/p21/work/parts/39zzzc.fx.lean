/-! what the tokens of the full state look at -/
noncomputable def ze_FX0 : zq_FX := [(220, []), (221, []), (222, []), (223, []), (224, []), (225, []), (226, [(1, 71, 5670)]), (227, [(11, 0, 7)]), (230, []), (231, []), (232, [(1, 64, 5670)]), (233, []), (234, []), (235, []), (236, []), (237, []), (238, []), (239, []), (240, [(33, 0, 447)]), (241, []), (242, [(33, 0, 447)]), (243, []), (244, []), (245, []), (246, []), (247, []), (248, []), (249, []), (250, []), (251, []), (252, []), (253, []), (254, []), (255, []), (256, []), (257, []), (258, []), (259, []), (260, [(30, 0, 11), (31, 0, 11), (32, 0, 47)]), (261, [(30, 0, 11), (31, 0, 11), (32, 0, 47), (33, 0, 447)])]
theorem ze_FX0ok {w : zq_Wd} {A0 : Nat → Nat} (hX : w.2.2.2.2 = zX A0) : zq_okFX w ze_FX0 := by
  intro x hx as P P' h h' hP hh ht
  rw [hX] at ht ⊢
  have g : ∀ (k : Nat) (lo hi : Int), (k, lo, hi) ∈ x.2 → ∀ a j, P a = some k → lo ≤ j → j ≤ hi → h' a j = h a j := fun k lo hi hm a j hp h1 h2 => hh a k j hp ⟨_, hm, rfl, h1, h2⟩
  rcases List.mem_cons.mp hx with rfl | hx
  · exact ht
  rcases List.mem_cons.mp hx with rfl | hx
  · exact ht
  rcases List.mem_cons.mp hx with rfl | hx
  · exact ht
  rcases List.mem_cons.mp hx with rfl | hx
  · exact ht
  rcases List.mem_cons.mp hx with rfl | hx
  · exact ht
  rcases List.mem_cons.mp hx with rfl | hx
  · exact ht
  rcases List.mem_cons.mp hx with rfl | hx
  · have t : ze_TX (zq_en as 0) (zq_en as 1) (zq_en as 2) (zq_en as 3) (zq_en as 4) P h := ht
    exact ze_TX_fx hP (fun j x y z => g 1 71 5670 (by decide) _ _ z (by omega) (by omega)) t
  rcases List.mem_cons.mp hx with rfl | hx
  · have t : ze_AW 11 (zq_en as 0) (zq_en as 1) P h := ht
    exact ze_AW_fx hP (fun j x y z => g 11 0 7 (by decide) _ _ z (by omega) (by omega)) t
  rcases List.mem_cons.mp hx with rfl | hx
  · exact ht
  rcases List.mem_cons.mp hx with rfl | hx
  · exact ht
  rcases List.mem_cons.mp hx with rfl | hx
  · have t : zl_KT (zq_en as 0) (zq_en as 1) (zq_en as 2) P h := ht
    exact zl_KT_fx hP (fun j x y n z => g 1 64 5670 (by decide) _ _ z (by omega) (by omega)) (fun j x y n z => g 1 64 5670 (by decide) _ _ z (by omega) (by omega)) (fun j x y n z => g 1 64 5670 (by decide) _ _ z (by omega) (by omega)) t
  rcases List.mem_cons.mp hx with rfl | hx
  · exact ht
  rcases List.mem_cons.mp hx with rfl | hx
  · exact ht
  rcases List.mem_cons.mp hx with rfl | hx
  · exact ht
  rcases List.mem_cons.mp hx with rfl | hx
  · exact ht
  rcases List.mem_cons.mp hx with rfl | hx
  · exact ht
  rcases List.mem_cons.mp hx with rfl | hx
  · exact ht
  rcases List.mem_cons.mp hx with rfl | hx
  · exact ht
  rcases List.mem_cons.mp hx with rfl | hx
  · have t : zc_CA (zq_en as 0) (zq_en as 1) (zq_en as 2) P h := ht
    have b0 := t.2.1
    exact zc_CA_fx hP (fun j x y z => g 33 0 447 (by decide) _ _ z (by omega) (by omega)) t
  rcases List.mem_cons.mp hx with rfl | hx
  · exact ht
  rcases List.mem_cons.mp hx with rfl | hx
  · have t : zc_CH (zq_en as 0) (zq_en as 1) (zq_en as 2) (zq_en as 3) P h := ht
    have b0 := t.2.1
    have b1 := t.2.2.1
    exact zc_CH_fx hP (fun j x y w z => g 33 0 447 (by decide) _ _ z (by omega) (by omega)) t
  rcases List.mem_cons.mp hx with rfl | hx
  · exact ht
  rcases List.mem_cons.mp hx with rfl | hx
  · exact ht
  rcases List.mem_cons.mp hx with rfl | hx
  · exact ht
  rcases List.mem_cons.mp hx with rfl | hx
  · exact ht
  rcases List.mem_cons.mp hx with rfl | hx
  · exact ht
  rcases List.mem_cons.mp hx with rfl | hx
  · exact ht
  rcases List.mem_cons.mp hx with rfl | hx
  · exact ht
  rcases List.mem_cons.mp hx with rfl | hx
  · exact ht
  rcases List.mem_cons.mp hx with rfl | hx
  · exact ht
  rcases List.mem_cons.mp hx with rfl | hx
  · exact ht
  rcases List.mem_cons.mp hx with rfl | hx
  · exact ht
  rcases List.mem_cons.mp hx with rfl | hx
  · exact ht
  rcases List.mem_cons.mp hx with rfl | hx
  · exact ht
  rcases List.mem_cons.mp hx with rfl | hx
  · exact ht
  rcases List.mem_cons.mp hx with rfl | hx
  · exact ht
  rcases List.mem_cons.mp hx with rfl | hx
  · exact ht
  rcases List.mem_cons.mp hx with rfl | hx
  · exact ht
  rcases List.mem_cons.mp hx with rfl | hx
  · have t : zd_DC (zq_en as 0) (zq_en as 1) (zq_en as 2) (zq_en as 3) (zq_en as 4) (zq_en as 5) (zq_en as 6) (zq_en as 7) (zq_en as 8) (zq_en as 9) P h := ht
    have b0 := t.2.2.2.1
    have b1 := t.2.2.2.2.1
    exact zd_DC_fx hP (fun j x y z => g 30 0 11 (by decide) _ _ z (by omega) (by omega)) (fun j x y z => g 31 0 11 (by decide) _ _ z (by omega) (by omega)) (fun j x y z => g 32 0 47 (by decide) _ _ z (by omega) (by omega)) t
  rcases List.mem_cons.mp hx with rfl | hx
  · have t : zd_TX 30 31 32 33 (zq_en as 0) (zq_en as 1) (zq_en as 2) (zq_en as 3) (zq_en as 4) (zq_en as 5) (zq_en as 6) (zq_en as 7) (zq_en as 8) P h := ht
    have b0 := t.2.2.2.2.2.1
    have b1 := t.2.2.2.2.2.2.2.1
    exact zd_TX_fx hP (fun j x y z => g 30 0 11 (by decide) _ _ z (by omega) (by omega)) (fun j x y z => g 31 0 11 (by decide) _ _ z (by omega) (by omega)) (fun j x y z => g 32 0 47 (by decide) _ _ z (by omega) (by omega)) (fun j x y z => g 33 0 447 (by decide) _ _ z (by omega) (by omega)) t
  · cases hx
noncomputable def ze_FX1 : zq_FX := [(262, [(25, 0, 11), (26, 0, 11), (27, 0, 47), (28, 0, 447)]), (263, [(103, 0, 31), (102, 0, 21)]), (264, [(103, 0, 30), (102, 0, 21)]), (265, [(103, 0, 29), (102, 0, 21)]), (266, [(102, 0, 21)]), (267, []), (270, [(28, 0, 447)]), (271, [(33, 0, 447)]), (272, []), (273, [(25, 0, 11), (26, 0, 11), (27, 0, 47), (28, 0, 447)]), (274, [(30, 0, 11), (31, 0, 11), (32, 0, 47), (33, 0, 447)]), (275, []), (276, []), (277, []), (278, [(102, 0, 7)]), (279, [(102, 8, 21)]), (280, [(36, 0, 5), (39, 0, 3), (42, 0, 0)]), (281, [(51, 0, 5), (54, 0, 3), (57, 0, 0)]), (282, [(66, 0, 5), (69, 0, 3), (72, 0, 0)]), (283, [(81, 0, 5), (84, 0, 3), (87, 0, 0)]), (284, [(36, 0, 5), (39, 0, 3), (42, 0, 0)]), (285, [(51, 0, 5), (54, 0, 3), (57, 0, 0)]), (286, [(1, 0, 10)]), (287, [(2, 0, 10)]), (288, [(2, 5671, 5681)]), (289, [(1, 0, 10)]), (290, []), (291, []), (292, []), (293, [(44, 0, 15), (45, 0, 15), (46, 0, 15), (47, 0, 15)]), (294, [(59, 0, 15), (60, 0, 15), (61, 0, 15), (62, 0, 15)]), (295, [(44, 0, 15), (45, 0, 15), (46, 0, 15), (47, 0, 15)]), (296, [(59, 0, 15), (60, 0, 15), (61, 0, 15), (62, 0, 15)]), (297, [(12, 0, 191)]), (298, [(13, 0, 191)]), (299, [(12, 0, 191)]), (300, [(12, 0, 191)]), (301, []), (302, []), (303, [])]
theorem ze_FX1ok {w : zq_Wd} {A0 : Nat → Nat} (hX : w.2.2.2.2 = zX A0) : zq_okFX w ze_FX1 := by
  intro x hx as P P' h h' hP hh ht
  rw [hX] at ht ⊢
  have g : ∀ (k : Nat) (lo hi : Int), (k, lo, hi) ∈ x.2 → ∀ a j, P a = some k → lo ≤ j → j ≤ hi → h' a j = h a j := fun k lo hi hm a j hp h1 h2 => hh a k j hp ⟨_, hm, rfl, h1, h2⟩
  rcases List.mem_cons.mp hx with rfl | hx
  · have t : zd_TX 25 26 27 28 (zq_en as 0) (zq_en as 1) (zq_en as 2) (zq_en as 3) (zq_en as 4) (zq_en as 5) (zq_en as 6) (zq_en as 7) (zq_en as 8) P h := ht
    have b0 := t.2.2.2.2.2.1
    have b1 := t.2.2.2.2.2.2.2.1
    exact zd_TX_fx hP (fun j x y z => g 25 0 11 (by decide) _ _ z (by omega) (by omega)) (fun j x y z => g 26 0 11 (by decide) _ _ z (by omega) (by omega)) (fun j x y z => g 27 0 47 (by decide) _ _ z (by omega) (by omega)) (fun j x y z => g 28 0 447 (by decide) _ _ z (by omega) (by omega)) t
  rcases List.mem_cons.mp hx with rfl | hx
  · have t : zr_KS (zq_en as 0) (zq_en as 1) (zq_en as 2) (zq_en as 3) (zq_en as 4) (zq_en as 5) (zq_en as 6) (zq_en as 7) P h := ht
    have b0 := t.2.1
    have b1 := t.2.2.1
    exact zr_KS_fx hP (fun j x y z => g 103 0 31 (by decide) _ _ z (by omega) (by omega)) (fun j x y z => g 102 0 21 (by decide) _ _ z (by omega) (by omega)) t
  rcases List.mem_cons.mp hx with rfl | hx
  · have t : zr_KH (zq_en as 0) (zq_en as 1) (zq_en as 2) (zq_en as 3) (zq_en as 4) (zq_en as 5) (zq_en as 6) (zq_en as 7) (zq_en as 8) P h := ht
    have b0 := t.2.1
    have b1 := t.2.2.1
    exact zr_KH_fx hP (fun j x y z => g 103 0 30 (by decide) _ _ z (by omega) (by omega)) (fun j x y z => g 102 0 21 (by decide) _ _ z (by omega) (by omega)) t
  rcases List.mem_cons.mp hx with rfl | hx
  · have t : zr_KG (zq_en as 0) (zq_en as 1) (zq_en as 2) (zq_en as 3) (zq_en as 4) (zq_en as 5) (zq_en as 6) (zq_en as 7) (zq_en as 8) (zq_en as 9) P h := ht
    have b0 := t.2.1
    have b1 := t.2.2.1
    exact zr_KG_fx hP (fun j x y z => g 103 0 29 (by decide) _ _ z (by omega) (by omega)) (fun j x y z => g 102 0 21 (by decide) _ _ z (by omega) (by omega)) t
  rcases List.mem_cons.mp hx with rfl | hx
  · have t : zr_RK (zq_en as 0) (zq_en as 1) (zq_en as 2) (zq_en as 3) (zq_en as 4) (zq_en as 5) P h := ht
    exact zr_RK_fx hP (fun j x y z => g 102 0 21 (by decide) _ _ z (by omega) (by omega)) t
  rcases List.mem_cons.mp hx with rfl | hx
  · exact ht
  rcases List.mem_cons.mp hx with rfl | hx
  · have t : zr_CO 28 (zq_en as 0) (zq_en as 1) (zq_en as 2) P h := ht
    have b0 := t.2.1
    exact zr_CO_fx hP (fun j x y z => g 28 0 447 (by decide) _ _ z (by omega) (by omega)) t
  rcases List.mem_cons.mp hx with rfl | hx
  · have t : zr_CO 33 (zq_en as 0) (zq_en as 1) (zq_en as 2) P h := ht
    have b0 := t.2.1
    exact zr_CO_fx hP (fun j x y z => g 33 0 447 (by decide) _ _ z (by omega) (by omega)) t
  rcases List.mem_cons.mp hx with rfl | hx
  · exact ht
  rcases List.mem_cons.mp hx with rfl | hx
  · have t : zr_XP 25 26 27 28 (zq_en as 0) (zq_en as 1) (zq_en as 2) (zq_en as 3) (zq_en as 4) (zq_en as 5) (zq_en as 6) (zq_en as 7) (zq_en as 8) (zq_en as 9) (zq_en as 10) (zq_en as 11) P h := ht
    have b0 := t.2.2.2.2.2.2.1
    have b1 := t.2.2.2.2.2.2.2.2.1
    exact zr_XP_fx hP (fun j x y z => g 25 0 11 (by decide) _ _ z (by omega) (by omega)) (fun j x y z => g 26 0 11 (by decide) _ _ z (by omega) (by omega)) (fun j x y z => g 27 0 47 (by decide) _ _ z (by omega) (by omega)) (fun j x y z => g 28 0 447 (by decide) _ _ z (by omega) (by omega)) t
  rcases List.mem_cons.mp hx with rfl | hx
  · have t : zr_XP 30 31 32 33 (zq_en as 0) (zq_en as 1) (zq_en as 2) (zq_en as 3) (zq_en as 4) (zq_en as 5) (zq_en as 6) (zq_en as 7) (zq_en as 8) (zq_en as 9) (zq_en as 10) (zq_en as 11) P h := ht
    have b0 := t.2.2.2.2.2.2.1
    have b1 := t.2.2.2.2.2.2.2.2.1
    exact zr_XP_fx hP (fun j x y z => g 30 0 11 (by decide) _ _ z (by omega) (by omega)) (fun j x y z => g 31 0 11 (by decide) _ _ z (by omega) (by omega)) (fun j x y z => g 32 0 47 (by decide) _ _ z (by omega) (by omega)) (fun j x y z => g 33 0 447 (by decide) _ _ z (by omega) (by omega)) t
  rcases List.mem_cons.mp hx with rfl | hx
  · exact ht
  rcases List.mem_cons.mp hx with rfl | hx
  · exact ht
  rcases List.mem_cons.mp hx with rfl | hx
  · exact ht
  rcases List.mem_cons.mp hx with rfl | hx
  · have t : ze_AW 102 (zq_en as 0) (zq_en as 1) P h := ht
    exact ze_AW_fx hP (fun j x y z => g 102 0 7 (by decide) _ _ z (by omega) (by omega)) t
  rcases List.mem_cons.mp hx with rfl | hx
  · have t : zo_OW 102 (zq_en as 0) (zq_en as 1) P h := ht
    exact zo_OW_fx hP (fun j x y z => g 102 8 21 (by decide) _ _ z (by omega) (by omega)) t
  rcases List.mem_cons.mp hx with rfl | hx
  · have t : zm_MC 35 (zq_en as 0) (zq_en as 1) (zq_en as 2) (zq_en as 3) P h := ht
    exact zm_MC_fx hP (fun j x y z => g 36 0 5 (by decide) _ _ z (by omega) (by omega)) (fun j x y z => g 39 0 3 (by decide) _ _ z (by omega) (by omega)) (fun j x y z => g 42 0 0 (by decide) _ _ z (by omega) (by omega)) t
  rcases List.mem_cons.mp hx with rfl | hx
  · have t : zm_MC 50 (zq_en as 0) (zq_en as 1) (zq_en as 2) (zq_en as 3) P h := ht
    exact zm_MC_fx hP (fun j x y z => g 51 0 5 (by decide) _ _ z (by omega) (by omega)) (fun j x y z => g 54 0 3 (by decide) _ _ z (by omega) (by omega)) (fun j x y z => g 57 0 0 (by decide) _ _ z (by omega) (by omega)) t
  rcases List.mem_cons.mp hx with rfl | hx
  · have t : zm_MC 65 (zq_en as 0) (zq_en as 1) (zq_en as 2) (zq_en as 3) P h := ht
    exact zm_MC_fx hP (fun j x y z => g 66 0 5 (by decide) _ _ z (by omega) (by omega)) (fun j x y z => g 69 0 3 (by decide) _ _ z (by omega) (by omega)) (fun j x y z => g 72 0 0 (by decide) _ _ z (by omega) (by omega)) t
  rcases List.mem_cons.mp hx with rfl | hx
  · have t : zm_MC 80 (zq_en as 0) (zq_en as 1) (zq_en as 2) (zq_en as 3) P h := ht
    exact zm_MC_fx hP (fun j x y z => g 81 0 5 (by decide) _ _ z (by omega) (by omega)) (fun j x y z => g 84 0 3 (by decide) _ _ z (by omega) (by omega)) (fun j x y z => g 87 0 0 (by decide) _ _ z (by omega) (by omega)) t
  rcases List.mem_cons.mp hx with rfl | hx
  · have t : zm_MH 35 (zq_en as 0) (zq_en as 1) (zq_en as 2) (zq_en as 3) (zq_en as 4) P h := ht
    have b0 := t.2.2.2.1
    have b1 := t.2.2.2.2.1
    exact zm_MH_fx hP (fun j x y w z => g 36 0 5 (by decide) _ _ z (by omega) (by omega)) (fun j x y w z => g 39 0 3 (by decide) _ _ z (by omega) (by omega)) (fun j x y w z => g 42 0 0 (by decide) _ _ z (by omega) (by omega)) t
  rcases List.mem_cons.mp hx with rfl | hx
  · have t : zm_MH 50 (zq_en as 0) (zq_en as 1) (zq_en as 2) (zq_en as 3) (zq_en as 4) P h := ht
    have b0 := t.2.2.2.1
    have b1 := t.2.2.2.2.1
    exact zm_MH_fx hP (fun j x y w z => g 51 0 5 (by decide) _ _ z (by omega) (by omega)) (fun j x y w z => g 54 0 3 (by decide) _ _ z (by omega) (by omega)) (fun j x y w z => g 57 0 0 (by decide) _ _ z (by omega) (by omega)) t
  rcases List.mem_cons.mp hx with rfl | hx
  · have t : zm_MK 1 0 (zq_en as 0) (zq_en as 1) P h := ht
    exact zm_MK_fx hP (fun j x y z => g 1 0 10 (by decide) _ _ z (by omega) (by omega)) t
  rcases List.mem_cons.mp hx with rfl | hx
  · have t : zm_MK 2 0 (zq_en as 0) (zq_en as 1) P h := ht
    exact zm_MK_fx hP (fun j x y z => g 2 0 10 (by decide) _ _ z (by omega) (by omega)) t
  rcases List.mem_cons.mp hx with rfl | hx
  · have t : zm_MK 2 5671 (zq_en as 0) (zq_en as 1) P h := ht
    exact zm_MK_fx hP (fun j x y z => g 2 5671 5681 (by decide) _ _ z (by omega) (by omega)) t
  rcases List.mem_cons.mp hx with rfl | hx
  · have t : zm_KH (zq_en as 0) (zq_en as 1) (zq_en as 2) P h := ht
    exact zm_KH_fx hP (fun j x y w z => g 1 0 10 (by decide) _ _ z (by omega) (by omega)) t
  rcases List.mem_cons.mp hx with rfl | hx
  · exact ht
  rcases List.mem_cons.mp hx with rfl | hx
  · exact ht
  rcases List.mem_cons.mp hx with rfl | hx
  · exact ht
  rcases List.mem_cons.mp hx with rfl | hx
  · have t : zk_ZC 35 (zq_en as 0) (zq_en as 1) (zq_en as 2) (zq_en as 3) (zq_en as 4) (zq_en as 5) (zq_en as 6) P h := ht
    have b0 := t.2.2.2.2.2.1
    exact zk_ZC_fx hP (fun j x y z => g 44 0 15 (by decide) _ _ z (by omega) (by omega)) (fun j x y z => g 45 0 15 (by decide) _ _ z (by omega) (by omega)) (fun j x y z => g 46 0 15 (by decide) _ _ z (by omega) (by omega)) (fun j x y z => g 47 0 15 (by decide) _ _ z (by omega) (by omega)) t
  rcases List.mem_cons.mp hx with rfl | hx
  · have t : zk_ZC 50 (zq_en as 0) (zq_en as 1) (zq_en as 2) (zq_en as 3) (zq_en as 4) (zq_en as 5) (zq_en as 6) P h := ht
    have b0 := t.2.2.2.2.2.1
    exact zk_ZC_fx hP (fun j x y z => g 59 0 15 (by decide) _ _ z (by omega) (by omega)) (fun j x y z => g 60 0 15 (by decide) _ _ z (by omega) (by omega)) (fun j x y z => g 61 0 15 (by decide) _ _ z (by omega) (by omega)) (fun j x y z => g 62 0 15 (by decide) _ _ z (by omega) (by omega)) t
  rcases List.mem_cons.mp hx with rfl | hx
  · have t : zk_SH 35 (zq_en as 0) (zq_en as 1) (zq_en as 2) (zq_en as 3) (zq_en as 4) (zq_en as 5) (zq_en as 6) (zq_en as 7) P h := ht
    exact zk_SH_fx hP (fun j x y w z => g 44 0 15 (by decide) _ _ z (by omega) (by omega)) (fun j x y w z => g 45 0 15 (by decide) _ _ z (by omega) (by omega)) (fun j x y w z => g 46 0 15 (by decide) _ _ z (by omega) (by omega)) (fun j x y w z => g 47 0 15 (by decide) _ _ z (by omega) (by omega)) t
  rcases List.mem_cons.mp hx with rfl | hx
  · have t : zk_SH 50 (zq_en as 0) (zq_en as 1) (zq_en as 2) (zq_en as 3) (zq_en as 4) (zq_en as 5) (zq_en as 6) (zq_en as 7) P h := ht
    exact zk_SH_fx hP (fun j x y w z => g 59 0 15 (by decide) _ _ z (by omega) (by omega)) (fun j x y w z => g 60 0 15 (by decide) _ _ z (by omega) (by omega)) (fun j x y w z => g 61 0 15 (by decide) _ _ z (by omega) (by omega)) (fun j x y w z => g 62 0 15 (by decide) _ _ z (by omega) (by omega)) t
  rcases List.mem_cons.mp hx with rfl | hx
  · have t : zk_ZR 12 (zq_en as 0) (zq_en as 1) (zq_en as 2) P h := ht
    exact zk_ZR_fx hP (fun j x y n z => g 12 0 191 (by decide) _ _ z (by omega) (by omega)) t
  rcases List.mem_cons.mp hx with rfl | hx
  · have t : zk_ZR 13 (zq_en as 0) (zq_en as 1) (zq_en as 2) P h := ht
    exact zk_ZR_fx hP (fun j x y n z => g 13 0 191 (by decide) _ _ z (by omega) (by omega)) t
  rcases List.mem_cons.mp hx with rfl | hx
  · have t : zk_RS (zq_en as 0) (zq_en as 1) (zq_en as 2) (zq_en as 3) P h := ht
    exact zk_RS_fx hP (fun j x y w z => g 12 0 191 (by decide) _ _ z (by omega) (by omega)) t
  rcases List.mem_cons.mp hx with rfl | hx
  · have t : zk_RF (zq_en as 0) (zq_en as 1) (zq_en as 2) (zq_en as 3) (zq_en as 4) P h := ht
    exact zk_RF_fx hP (fun j x y w z => g 12 0 191 (by decide) _ _ z (by omega) (by omega)) t
  rcases List.mem_cons.mp hx with rfl | hx
  · exact ht
  rcases List.mem_cons.mp hx with rfl | hx
  · exact ht
  rcases List.mem_cons.mp hx with rfl | hx
  · exact ht
  · cases hx
noncomputable def ze_FX2 : zq_FX := [(304, []), (305, []), (306, [(29, 0, 5), (25, 0, 11), (26, 0, 11), (27, 0, 47), (28, 0, 447)]), (307, [(43, 0, 5), (29, 0, 5), (25, 0, 11), (26, 0, 11), (27, 0, 47), (28, 0, 447)]), (308, [(58, 0, 5), (29, 0, 5), (25, 0, 11), (26, 0, 11), (27, 0, 47), (28, 0, 447)]), (309, [(73, 0, 5), (29, 0, 5), (25, 0, 11), (26, 0, 11), (27, 0, 47), (28, 0, 447)]), (310, [(88, 0, 5), (29, 0, 5), (25, 0, 11), (26, 0, 11), (27, 0, 47), (28, 0, 447)]), (311, []), (312, []), (313, []), (314, []), (315, [(1, 0, 10)]), (316, [(4, 0, 21)]), (317, []), (318, []), (319, []), (320, []), (321, []), (322, [(102, 12, 17)]), (323, [(102, 18, 21)]), (324, []), (325, []), (326, []), (327, []), (329, []), (330, []), (331, []), (332, []), (333, []), (334, []), (335, []), (336, []), (337, []), (338, []), (339, [(13, 0, 191), (12, 0, 191)]), (340, [(12, 0, 191), (13, 0, 191)]), (341, [(4, 11, 21)]), (342, []), (343, []), (344, [])]
theorem ze_FX2ok {w : zq_Wd} {A0 : Nat → Nat} (hX : w.2.2.2.2 = zX A0) : zq_okFX w ze_FX2 := by
  intro x hx as P P' h h' hP hh ht
  rw [hX] at ht ⊢
  have g : ∀ (k : Nat) (lo hi : Int), (k, lo, hi) ∈ x.2 → ∀ a j, P a = some k → lo ≤ j → j ≤ hi → h' a j = h a j := fun k lo hi hm a j hp h1 h2 => hh a k j hp ⟨_, hm, rfl, h1, h2⟩
  rcases List.mem_cons.mp hx with rfl | hx
  · exact ht
  rcases List.mem_cons.mp hx with rfl | hx
  · exact ht
  rcases List.mem_cons.mp hx with rfl | hx
  · have t : zt_LO (zq_en as 0) (zq_en as 1) (zq_en as 2) P h := ht
    exact zt_LO_fr hP (fun j x y z => g 29 0 5 (by decide) _ _ z (by omega) (by omega)) (fun b j x y z => g 25 0 11 (by decide) _ _ z (by omega) (by omega)) (fun b j x y z => g 26 0 11 (by decide) _ _ z (by omega) (by omega)) (fun b j x y z => g 27 0 47 (by decide) _ _ z (by omega) (by omega)) (fun b j x y z => g 28 0 447 (by decide) _ _ z (by omega) (by omega)) t
  rcases List.mem_cons.mp hx with rfl | hx
  · have t : zt_LT 35 (zq_en as 0) (zq_en as 1) (zq_en as 2) P h := ht
    exact zt_LT_fr hP (fun j x y n z => g 43 0 5 (by decide) _ _ z (by omega) (by omega)) (fun b j x y z => g 29 0 5 (by decide) _ _ z (by omega) (by omega)) (fun b j x y z => g 25 0 11 (by decide) _ _ z (by omega) (by omega)) (fun b j x y z => g 26 0 11 (by decide) _ _ z (by omega) (by omega)) (fun b j x y z => g 27 0 47 (by decide) _ _ z (by omega) (by omega)) (fun b j x y z => g 28 0 447 (by decide) _ _ z (by omega) (by omega)) t
  rcases List.mem_cons.mp hx with rfl | hx
  · have t : zt_LT 50 (zq_en as 0) (zq_en as 1) (zq_en as 2) P h := ht
    exact zt_LT_fr hP (fun j x y n z => g 58 0 5 (by decide) _ _ z (by omega) (by omega)) (fun b j x y z => g 29 0 5 (by decide) _ _ z (by omega) (by omega)) (fun b j x y z => g 25 0 11 (by decide) _ _ z (by omega) (by omega)) (fun b j x y z => g 26 0 11 (by decide) _ _ z (by omega) (by omega)) (fun b j x y z => g 27 0 47 (by decide) _ _ z (by omega) (by omega)) (fun b j x y z => g 28 0 447 (by decide) _ _ z (by omega) (by omega)) t
  rcases List.mem_cons.mp hx with rfl | hx
  · have t : zt_LT 65 (zq_en as 0) (zq_en as 1) (zq_en as 2) P h := ht
    exact zt_LT_fr hP (fun j x y n z => g 73 0 5 (by decide) _ _ z (by omega) (by omega)) (fun b j x y z => g 29 0 5 (by decide) _ _ z (by omega) (by omega)) (fun b j x y z => g 25 0 11 (by decide) _ _ z (by omega) (by omega)) (fun b j x y z => g 26 0 11 (by decide) _ _ z (by omega) (by omega)) (fun b j x y z => g 27 0 47 (by decide) _ _ z (by omega) (by omega)) (fun b j x y z => g 28 0 447 (by decide) _ _ z (by omega) (by omega)) t
  rcases List.mem_cons.mp hx with rfl | hx
  · have t : zt_LT 80 (zq_en as 0) (zq_en as 1) (zq_en as 2) P h := ht
    exact zt_LT_fr hP (fun j x y n z => g 88 0 5 (by decide) _ _ z (by omega) (by omega)) (fun b j x y z => g 29 0 5 (by decide) _ _ z (by omega) (by omega)) (fun b j x y z => g 25 0 11 (by decide) _ _ z (by omega) (by omega)) (fun b j x y z => g 26 0 11 (by decide) _ _ z (by omega) (by omega)) (fun b j x y z => g 27 0 47 (by decide) _ _ z (by omega) (by omega)) (fun b j x y z => g 28 0 447 (by decide) _ _ z (by omega) (by omega)) t
  rcases List.mem_cons.mp hx with rfl | hx
  · exact ht
  rcases List.mem_cons.mp hx with rfl | hx
  · exact ht
  rcases List.mem_cons.mp hx with rfl | hx
  · exact ht
  rcases List.mem_cons.mp hx with rfl | hx
  · exact ht
  rcases List.mem_cons.mp hx with rfl | hx
  · have t : zk_KF (zq_en as 0) (zq_en as 1) (zq_en as 2) P h := ht
    have b0 := t.2.1
    exact zk_KF_fx hP (fun j x y z => g 1 0 10 (by decide) _ _ z (by omega) (by omega)) t
  rcases List.mem_cons.mp hx with rfl | hx
  · have t : zk_AS (zq_en as 0) (zq_en as 1) (zq_en as 2) (zq_en as 3) P h := ht
    have b0 := t.2.1
    have b1 := t.2.2.1
    have b2 := t.2.2.2.1
    exact zk_AS_fx hP (fun j x y z => g 4 0 21 (by decide) _ _ z (by omega) (by omega)) t
  rcases List.mem_cons.mp hx with rfl | hx
  · exact ht
  rcases List.mem_cons.mp hx with rfl | hx
  · exact ht
  rcases List.mem_cons.mp hx with rfl | hx
  · exact ht
  rcases List.mem_cons.mp hx with rfl | hx
  · exact ht
  rcases List.mem_cons.mp hx with rfl | hx
  · exact ht
  rcases List.mem_cons.mp hx with rfl | hx
  · have t : zo_WB (zq_en as 0) (zq_en as 1) (zq_en as 2) (zq_en as 3) P h := ht
    have b0 := t.2.1
    exact zo_WB_fx hP (fun j x y z => g 102 12 17 (by decide) _ _ z (by omega) (by omega)) t
  rcases List.mem_cons.mp hx with rfl | hx
  · have t : zo_WC (zq_en as 0) (zq_en as 1) (zq_en as 2) P h := ht
    have b0 := t.2.1
    exact zo_WC_fx hP (fun j x y z => g 102 18 21 (by decide) _ _ z (by omega) (by omega)) t
  rcases List.mem_cons.mp hx with rfl | hx
  · exact ht
  rcases List.mem_cons.mp hx with rfl | hx
  · exact ht
  rcases List.mem_cons.mp hx with rfl | hx
  · exact ht
  rcases List.mem_cons.mp hx with rfl | hx
  · exact ht
  rcases List.mem_cons.mp hx with rfl | hx
  · exact ht
  rcases List.mem_cons.mp hx with rfl | hx
  · exact ht
  rcases List.mem_cons.mp hx with rfl | hx
  · exact ht
  rcases List.mem_cons.mp hx with rfl | hx
  · exact ht
  rcases List.mem_cons.mp hx with rfl | hx
  · exact ht
  rcases List.mem_cons.mp hx with rfl | hx
  · exact ht
  rcases List.mem_cons.mp hx with rfl | hx
  · exact ht
  rcases List.mem_cons.mp hx with rfl | hx
  · exact ht
  rcases List.mem_cons.mp hx with rfl | hx
  · exact ht
  rcases List.mem_cons.mp hx with rfl | hx
  · exact ht
  rcases List.mem_cons.mp hx with rfl | hx
  · have t : zo_CB 192 13 12 (zq_en as 0) (zq_en as 1) (zq_en as 2) P h := ht
    have b0 := t.2.2.1
    exact zo_CB_fx hP (fun j x y z => g 13 0 191 (by decide) _ _ z (by omega) (by omega)) (fun j x y z => g 12 0 191 (by decide) _ _ z (by omega) (by omega)) t
  rcases List.mem_cons.mp hx with rfl | hx
  · have t : zo_CB 192 12 13 (zq_en as 0) (zq_en as 1) (zq_en as 2) P h := ht
    have b0 := t.2.2.1
    exact zo_CB_fx hP (fun j x y z => g 12 0 191 (by decide) _ _ z (by omega) (by omega)) (fun j x y z => g 13 0 191 (by decide) _ _ z (by omega) (by omega)) t
  rcases List.mem_cons.mp hx with rfl | hx
  · have t : zo_AS1 (zq_en as 0) (zq_en as 1) P h := ht
    exact zo_AS1_fx hP (fun j x y z => g 4 11 21 (by decide) _ _ z (by omega) (by omega)) t
  rcases List.mem_cons.mp hx with rfl | hx
  · exact ht
  rcases List.mem_cons.mp hx with rfl | hx
  · exact ht
  rcases List.mem_cons.mp hx with rfl | hx
  · exact ht
  · cases hx
noncomputable def ze_FX3 : zq_FX := [(348, [(2, 64, 5670)]), (349, [(2, 5735, 11341)]), (350, [(39, 0, 3), (54, 0, 3)]), (351, [(54, 0, 3), (39, 0, 3)]), (352, [(69, 0, 3), (39, 0, 3)]), (353, [(84, 0, 3), (39, 0, 3)]), (354, [(39, 0, 3), (69, 0, 3)]), (355, [(39, 0, 3), (84, 0, 3)]), (356, [(43, 0, 5), (58, 0, 5)]), (357, [(58, 0, 5), (43, 0, 5)]), (358, [(73, 0, 5), (43, 0, 5)]), (359, [(88, 0, 5), (43, 0, 5)]), (360, [(43, 0, 5), (73, 0, 5)]), (361, [(43, 0, 5), (88, 0, 5)]), (362, []), (363, []), (364, [(43, 0, 5), (29, 0, 5), (25, 0, 11), (26, 0, 11), (27, 0, 47), (28, 0, 447)]), (365, [(58, 0, 5), (29, 0, 5), (25, 0, 11), (26, 0, 11), (27, 0, 47), (28, 0, 447)]), (366, [(73, 0, 5), (29, 0, 5), (25, 0, 11), (26, 0, 11), (27, 0, 47), (28, 0, 447)]), (367, [(88, 0, 5), (29, 0, 5), (25, 0, 11), (26, 0, 11), (27, 0, 47), (28, 0, 447)]), (368, [(25, 0, 447), (30, 0, 447)]), (369, [(26, 0, 447), (31, 0, 447)]), (370, [(27, 0, 447), (32, 0, 447)]), (371, [(28, 0, 447), (33, 0, 447)]), (372, []), (374, []), (375, []), (376, []), (377, []), (378, [(108, 0, 119)]), (379, [(14, 0, 119)]), (380, []), (381, []), (382, []), (383, []), (384, []), (385, []), (386, []), (387, [])]
theorem ze_FX3ok {w : zq_Wd} {A0 : Nat → Nat} (hX : w.2.2.2.2 = zX A0) : zq_okFX w ze_FX3 := by
  intro x hx as P P' h h' hP hh ht
  rw [hX] at ht ⊢
  have g : ∀ (k : Nat) (lo hi : Int), (k, lo, hi) ∈ x.2 → ∀ a j, P a = some k → lo ≤ j → j ≤ hi → h' a j = h a j := fun k lo hi hm a j hp h1 h2 => hh a k j hp ⟨_, hm, rfl, h1, h2⟩
  rcases List.mem_cons.mp hx with rfl | hx
  · have t : zl_KI 0 (zq_en as 0) (zq_en as 1) (zq_en as 2) P h := ht
    exact zl_KI_fx hP (fun j x y z => g 2 64 5670 (by decide) _ _ z (by omega) (by omega)) t
  rcases List.mem_cons.mp hx with rfl | hx
  · have t : zl_KI 5671 (zq_en as 0) (zq_en as 1) (zq_en as 2) P h := ht
    exact zl_KI_fx hP (fun j x y z => g 2 5735 11341 (by decide) _ _ z (by omega) (by omega)) t
  rcases List.mem_cons.mp hx with rfl | hx
  · have t : zm_E 4 39 54 (zq_en as 0) (zq_en as 1) P h := ht
    exact zm_E_fx hP (fun j x y z => g 39 0 3 (by decide) _ _ z (by omega) (by have y : j < 4 := y; omega)) (fun j x y z => g 54 0 3 (by decide) _ _ z (by omega) (by have y : j < 4 := y; omega)) t
  rcases List.mem_cons.mp hx with rfl | hx
  · have t : zm_E 4 54 39 (zq_en as 0) (zq_en as 1) P h := ht
    exact zm_E_fx hP (fun j x y z => g 54 0 3 (by decide) _ _ z (by omega) (by have y : j < 4 := y; omega)) (fun j x y z => g 39 0 3 (by decide) _ _ z (by omega) (by have y : j < 4 := y; omega)) t
  rcases List.mem_cons.mp hx with rfl | hx
  · have t : zm_E 4 69 39 (zq_en as 0) (zq_en as 1) P h := ht
    exact zm_E_fx hP (fun j x y z => g 69 0 3 (by decide) _ _ z (by omega) (by have y : j < 4 := y; omega)) (fun j x y z => g 39 0 3 (by decide) _ _ z (by omega) (by have y : j < 4 := y; omega)) t
  rcases List.mem_cons.mp hx with rfl | hx
  · have t : zm_E 4 84 39 (zq_en as 0) (zq_en as 1) P h := ht
    exact zm_E_fx hP (fun j x y z => g 84 0 3 (by decide) _ _ z (by omega) (by have y : j < 4 := y; omega)) (fun j x y z => g 39 0 3 (by decide) _ _ z (by omega) (by have y : j < 4 := y; omega)) t
  rcases List.mem_cons.mp hx with rfl | hx
  · have t : zm_E 4 39 69 (zq_en as 0) (zq_en as 1) P h := ht
    exact zm_E_fx hP (fun j x y z => g 39 0 3 (by decide) _ _ z (by omega) (by have y : j < 4 := y; omega)) (fun j x y z => g 69 0 3 (by decide) _ _ z (by omega) (by have y : j < 4 := y; omega)) t
  rcases List.mem_cons.mp hx with rfl | hx
  · have t : zm_E 4 39 84 (zq_en as 0) (zq_en as 1) P h := ht
    exact zm_E_fx hP (fun j x y z => g 39 0 3 (by decide) _ _ z (by omega) (by have y : j < 4 := y; omega)) (fun j x y z => g 84 0 3 (by decide) _ _ z (by omega) (by have y : j < 4 := y; omega)) t
  rcases List.mem_cons.mp hx with rfl | hx
  · have t : zo_CB 6 43 58 (zq_en as 0) (zq_en as 1) (zq_en as 2) P h := ht
    have b0 := t.2.2.1
    exact zo_CB_fx hP (fun j x y z => g 43 0 5 (by decide) _ _ z (by omega) (by omega)) (fun j x y z => g 58 0 5 (by decide) _ _ z (by omega) (by omega)) t
  rcases List.mem_cons.mp hx with rfl | hx
  · have t : zo_CB 6 58 43 (zq_en as 0) (zq_en as 1) (zq_en as 2) P h := ht
    have b0 := t.2.2.1
    exact zo_CB_fx hP (fun j x y z => g 58 0 5 (by decide) _ _ z (by omega) (by omega)) (fun j x y z => g 43 0 5 (by decide) _ _ z (by omega) (by omega)) t
  rcases List.mem_cons.mp hx with rfl | hx
  · have t : zo_CB 6 73 43 (zq_en as 0) (zq_en as 1) (zq_en as 2) P h := ht
    have b0 := t.2.2.1
    exact zo_CB_fx hP (fun j x y z => g 73 0 5 (by decide) _ _ z (by omega) (by omega)) (fun j x y z => g 43 0 5 (by decide) _ _ z (by omega) (by omega)) t
  rcases List.mem_cons.mp hx with rfl | hx
  · have t : zo_CB 6 88 43 (zq_en as 0) (zq_en as 1) (zq_en as 2) P h := ht
    have b0 := t.2.2.1
    exact zo_CB_fx hP (fun j x y z => g 88 0 5 (by decide) _ _ z (by omega) (by omega)) (fun j x y z => g 43 0 5 (by decide) _ _ z (by omega) (by omega)) t
  rcases List.mem_cons.mp hx with rfl | hx
  · have t : zo_CB 6 43 73 (zq_en as 0) (zq_en as 1) (zq_en as 2) P h := ht
    have b0 := t.2.2.1
    exact zo_CB_fx hP (fun j x y z => g 43 0 5 (by decide) _ _ z (by omega) (by omega)) (fun j x y z => g 73 0 5 (by decide) _ _ z (by omega) (by omega)) t
  rcases List.mem_cons.mp hx with rfl | hx
  · have t : zo_CB 6 43 88 (zq_en as 0) (zq_en as 1) (zq_en as 2) P h := ht
    have b0 := t.2.2.1
    exact zo_CB_fx hP (fun j x y z => g 43 0 5 (by decide) _ _ z (by omega) (by omega)) (fun j x y z => g 88 0 5 (by decide) _ _ z (by omega) (by omega)) t
  rcases List.mem_cons.mp hx with rfl | hx
  · have t : zt_LB (zq_en as 0) P h := ht
    exact zt_LB_fx (h := h) (h' := h') hP t
  rcases List.mem_cons.mp hx with rfl | hx
  · exact ht
  rcases List.mem_cons.mp hx with rfl | hx
  · have t : zt_LTB 35 (zq_en as 0) (zq_en as 1) (zq_en as 2) (zq_en as 3) P h := ht
    exact zt_LTB_fr hP (fun j x y n z => g 43 0 5 (by decide) _ _ z (by omega) (by omega)) (fun b j x y z => g 29 0 5 (by decide) _ _ z (by omega) (by omega)) (fun b j x y z => g 25 0 11 (by decide) _ _ z (by omega) (by omega)) (fun b j x y z => g 26 0 11 (by decide) _ _ z (by omega) (by omega)) (fun b j x y z => g 27 0 47 (by decide) _ _ z (by omega) (by omega)) (fun b j x y z => g 28 0 447 (by decide) _ _ z (by omega) (by omega)) t
  rcases List.mem_cons.mp hx with rfl | hx
  · have t : zt_LTB 50 (zq_en as 0) (zq_en as 1) (zq_en as 2) (zq_en as 3) P h := ht
    exact zt_LTB_fr hP (fun j x y n z => g 58 0 5 (by decide) _ _ z (by omega) (by omega)) (fun b j x y z => g 29 0 5 (by decide) _ _ z (by omega) (by omega)) (fun b j x y z => g 25 0 11 (by decide) _ _ z (by omega) (by omega)) (fun b j x y z => g 26 0 11 (by decide) _ _ z (by omega) (by omega)) (fun b j x y z => g 27 0 47 (by decide) _ _ z (by omega) (by omega)) (fun b j x y z => g 28 0 447 (by decide) _ _ z (by omega) (by omega)) t
  rcases List.mem_cons.mp hx with rfl | hx
  · have t : zt_LTB 65 (zq_en as 0) (zq_en as 1) (zq_en as 2) (zq_en as 3) P h := ht
    exact zt_LTB_fr hP (fun j x y n z => g 73 0 5 (by decide) _ _ z (by omega) (by omega)) (fun b j x y z => g 29 0 5 (by decide) _ _ z (by omega) (by omega)) (fun b j x y z => g 25 0 11 (by decide) _ _ z (by omega) (by omega)) (fun b j x y z => g 26 0 11 (by decide) _ _ z (by omega) (by omega)) (fun b j x y z => g 27 0 47 (by decide) _ _ z (by omega) (by omega)) (fun b j x y z => g 28 0 447 (by decide) _ _ z (by omega) (by omega)) t
  rcases List.mem_cons.mp hx with rfl | hx
  · have t : zt_LTB 80 (zq_en as 0) (zq_en as 1) (zq_en as 2) (zq_en as 3) P h := ht
    exact zt_LTB_fr hP (fun j x y n z => g 88 0 5 (by decide) _ _ z (by omega) (by omega)) (fun b j x y z => g 29 0 5 (by decide) _ _ z (by omega) (by omega)) (fun b j x y z => g 25 0 11 (by decide) _ _ z (by omega) (by omega)) (fun b j x y z => g 26 0 11 (by decide) _ _ z (by omega) (by omega)) (fun b j x y z => g 27 0 47 (by decide) _ _ z (by omega) (by omega)) (fun b j x y z => g 28 0 447 (by decide) _ _ z (by omega) (by omega)) t
  rcases List.mem_cons.mp hx with rfl | hx
  · have t : zo_CB 12 25 30 (zq_en as 0) (zq_en as 1) (zq_en as 2) P h := ht
    have b0 := t.2.2.1
    exact zo_CB_fx hP (fun j x y z => g 25 0 447 (by decide) _ _ z (by omega) (by omega)) (fun j x y z => g 30 0 447 (by decide) _ _ z (by omega) (by omega)) t
  rcases List.mem_cons.mp hx with rfl | hx
  · have t : zo_CB 12 26 31 (zq_en as 0) (zq_en as 1) (zq_en as 2) P h := ht
    have b0 := t.2.2.1
    exact zo_CB_fx hP (fun j x y z => g 26 0 447 (by decide) _ _ z (by omega) (by omega)) (fun j x y z => g 31 0 447 (by decide) _ _ z (by omega) (by omega)) t
  rcases List.mem_cons.mp hx with rfl | hx
  · have t : zo_CB 48 27 32 (zq_en as 0) (zq_en as 1) (zq_en as 2) P h := ht
    have b0 := t.2.2.1
    exact zo_CB_fx hP (fun j x y z => g 27 0 447 (by decide) _ _ z (by omega) (by omega)) (fun j x y z => g 32 0 447 (by decide) _ _ z (by omega) (by omega)) t
  rcases List.mem_cons.mp hx with rfl | hx
  · have t : zo_CB 448 28 33 (zq_en as 0) (zq_en as 1) (zq_en as 2) P h := ht
    have b0 := t.2.2.1
    exact zo_CB_fx hP (fun j x y z => g 28 0 447 (by decide) _ _ z (by omega) (by omega)) (fun j x y z => g 33 0 447 (by decide) _ _ z (by omega) (by omega)) t
  rcases List.mem_cons.mp hx with rfl | hx
  · exact ht
  rcases List.mem_cons.mp hx with rfl | hx
  · exact ht
  rcases List.mem_cons.mp hx with rfl | hx
  · exact ht
  rcases List.mem_cons.mp hx with rfl | hx
  · exact ht
  rcases List.mem_cons.mp hx with rfl | hx
  · exact ht
  rcases List.mem_cons.mp hx with rfl | hx
  · have t : zw_PA 108 (zq_en as 0) (zq_en as 1) (zq_en as 2) (zq_en as 3) (zq_en as 4) (zq_en as 5) (zq_en as 6) (zq_en as 7) (zq_en as 8) (zq_en as 9) (zq_en as 10) P h := ht
    have b0 := t.2.1
    exact zw_PA_fx hP (fun j x y z => g 108 0 119 (by decide) _ _ z (by omega) (by omega)) t
  rcases List.mem_cons.mp hx with rfl | hx
  · have t : zw_PA 14 (zq_en as 0) (zq_en as 1) (zq_en as 2) (zq_en as 3) (zq_en as 4) (zq_en as 5) (zq_en as 6) (zq_en as 7) (zq_en as 8) (zq_en as 9) (zq_en as 10) P h := ht
    have b0 := t.2.1
    exact zw_PA_fx hP (fun j x y z => g 14 0 119 (by decide) _ _ z (by omega) (by omega)) t
  rcases List.mem_cons.mp hx with rfl | hx
  · exact ht
  rcases List.mem_cons.mp hx with rfl | hx
  · exact ht
  rcases List.mem_cons.mp hx with rfl | hx
  · exact ht
  rcases List.mem_cons.mp hx with rfl | hx
  · exact ht
  rcases List.mem_cons.mp hx with rfl | hx
  · exact ht
  rcases List.mem_cons.mp hx with rfl | hx
  · exact ht
  rcases List.mem_cons.mp hx with rfl | hx
  · exact ht
  rcases List.mem_cons.mp hx with rfl | hx
  · exact ht
  · cases hx
noncomputable def ze_DX0 : zq_DXt := [(232, [(1, (64, []), (63, [(2, 1)])), (1, (71, []), (70, [(2, 400)])), (1, (2871, []), (2870, [(2, 400)]))]), (240, [(33, (0, []), (-1, [(1, 1)]))]), (242, [(33, (0, []), (-1, [(3, 1)])), (33, (1, [(3, 1)]), (-1, [(1, 1)]))]), (260, [(30, (0, []), (-1, [(8, 1)])), (31, (0, []), (-1, [(8, 1)])), (32, (0, []), (-1, [(8, 4)]))]), (263, [(103, (0, []), (-1, [(7, 1)])), (102, (0, []), (21, []))]), (264, [(103, (0, []), (-1, [(7, 1)])), (102, (0, []), (21, []))]), (265, [(103, (0, []), (-1, [(7, 1)])), (102, (0, []), (21, []))]), (280, [(36, (0, []), (5, [])), (39, (0, []), (3, [])), (42, (0, []), (0, []))]), (281, [(51, (0, []), (5, [])), (54, (0, []), (3, [])), (57, (0, []), (0, []))]), (282, [(66, (0, []), (5, [])), (69, (0, []), (3, [])), (72, (0, []), (0, []))]), (283, [(81, (0, []), (5, [])), (84, (0, []), (3, [])), (87, (0, []), (0, []))]), (284, [(36, (0, []), (-1, [(4, 1)])), (36, (1, [(4, 1)]), (5, [])), (39, (0, []), (-7, [(4, 1)])), (39, (-5, [(4, 1)]), (3, [])), (42, (0, []), (9, [(4, -1)]))]), (285, [(51, (0, []), (-1, [(4, 1)])), (51, (1, [(4, 1)]), (5, [])), (54, (0, []), (-7, [(4, 1)])), (54, (-5, [(4, 1)]), (3, [])), (57, (0, []), (9, [(4, -1)]))]), (286, [(1, (0, []), (10, []))]), (287, [(2, (0, []), (10, []))]), (288, [(2, (5671, []), (5681, []))]), (289, [(1, (0, []), (-1, [(2, 1)])), (1, (1, [(2, 1)]), (10, []))]), (293, [(44, (0, []), (-1, [(4, 1)])), (45, (0, []), (-1, [(4, 1)])), (46, (0, []), (-1, [(4, 1)])), (47, (0, []), (-1, [(4, 1)]))]), (294, [(59, (0, []), (-1, [(4, 1)])), (60, (0, []), (-1, [(4, 1)])), (61, (0, []), (-1, [(4, 1)])), (62, (0, []), (-1, [(4, 1)]))]), (295, [(44, (0, []), (-1, [(6, 1)])), (44, (0, [(7, 1)]), (15, [])), (45, (0, []), (-1, [(6, 1)])), (45, (0, [(7, 1)]), (15, [])), (46, (0, []), (-1, [(6, 1)])), (46, (0, [(7, 1)]), (15, [])), (47, (0, []), (-1, [(6, 1)])), (47, (0, [(7, 1)]), (15, []))]), (296, [(59, (0, []), (-1, [(6, 1)])), (59, (0, [(7, 1)]), (15, [])), (60, (0, []), (-1, [(6, 1)])), (60, (0, [(7, 1)]), (15, [])), (61, (0, []), (-1, [(6, 1)])), (61, (0, [(7, 1)]), (15, [])), (62, (0, []), (-1, [(6, 1)])), (62, (0, [(7, 1)]), (15, []))]), (297, [(12, (0, []), (-1, [(1, 12)]))]), (298, [(13, (0, []), (-1, [(1, 12)]))]), (299, [(12, (0, []), (-1, [(2, 1)])), (12, (0, [(3, 1)]), (191, []))]), (300, [(12, (0, []), (-1, [(1, 12), (4, 1)]))]), (307, [(43, (0, []), (-1, [(1, 1)])), (29, (0, []), (5, [])), (25, (0, []), (11, [])), (26, (0, []), (11, [])), (27, (0, []), (47, [])), (28, (0, []), (447, []))]), (308, [(58, (0, []), (-1, [(1, 1)])), (29, (0, []), (5, [])), (25, (0, []), (11, [])), (26, (0, []), (11, [])), (27, (0, []), (47, [])), (28, (0, []), (447, []))]), (309, [(73, (0, []), (-1, [(1, 1)])), (29, (0, []), (5, [])), (25, (0, []), (11, [])), (26, (0, []), (11, [])), (27, (0, []), (47, [])), (28, (0, []), (447, []))]), (310, [(88, (0, []), (-1, [(1, 1)])), (29, (0, []), (5, [])), (25, (0, []), (11, [])), (26, (0, []), (11, [])), (27, (0, []), (47, [])), (28, (0, []), (447, []))]), (315, [(1, (0, []), (-1, [(2, 1)]))]), (316, [(4, (0, [(1, 11)]), (-1, [(1, 11), (3, 1)]))]), (322, [(102, (12, []), (11, [(3, 1)]))]), (323, [(102, (18, []), (17, [(2, 1)]))]), (339, [(12, (0, []), (-1, [(2, 1)])), (13, (0, []), (-1, [(2, 1)]))]), (340, [(12, (0, []), (-1, [(2, 1)])), (13, (0, []), (-1, [(2, 1)]))]), (356, [(43, (0, []), (-1, [(2, 1)])), (58, (0, []), (-1, [(2, 1)]))]), (357, [(58, (0, []), (-1, [(2, 1)])), (43, (0, []), (-1, [(2, 1)]))]), (358, [(73, (0, []), (-1, [(2, 1)])), (43, (0, []), (-1, [(2, 1)]))]), (359, [(88, (0, []), (-1, [(2, 1)])), (43, (0, []), (-1, [(2, 1)]))]), (360, [(43, (0, []), (-1, [(2, 1)])), (73, (0, []), (-1, [(2, 1)]))])]
theorem ze_DX0ok {w : zq_Wd} {A0 : Nat → Nat} (hX : w.2.2.2.2 = zX A0) : zq_okDX w ze_DX0 := by
  intro x hx as P h a k j0 v hP hh ht
  rw [hX] at ht ⊢
  have g : ∀ (kk : Nat) (lo hi : zq_L), (kk, lo, hi) ∈ x.2 → ∀ b i, P b = some kk → zq_ev (zq_en as) lo ≤ i → i ≤ zq_ev (zq_en as) hi → zq_wr h a j0 v b i = h b i := by
    intro kk lo hi hm b i hb h1 h2
    refine zq_wr_ne ?_
    rintro ⟨rfl, rfl⟩
    have e : k = kk := Option.some.inj (hP.symm.trans hb)
    have := hh _ hm e.symm
    simp only at this
    omega
  rcases List.mem_cons.mp hx with rfl | hx
  · have t : zl_KT (zq_en as 0) (zq_en as 1) (zq_en as 2) P h := ht
    exact zl_KT_fx (fun _ _ z => z) (fun j x y n z => g 1 (64, []) (63, [(2, 1)]) (by decide) _ _ z (by simp only [zq_ev, zq_ts] <;> omega) (by simp only [zq_ev, zq_ts] <;> omega)) (fun j x y n z => g 1 (71, []) (70, [(2, 400)]) (by decide) _ _ z (by simp only [zq_ev, zq_ts] <;> omega) (by simp only [zq_ev, zq_ts] <;> omega)) (fun j x y n z => g 1 (2871, []) (2870, [(2, 400)]) (by decide) _ _ z (by simp only [zq_ev, zq_ts] <;> omega) (by simp only [zq_ev, zq_ts] <;> omega)) t
  rcases List.mem_cons.mp hx with rfl | hx
  · have t : zc_CA (zq_en as 0) (zq_en as 1) (zq_en as 2) P h := ht
    have b0 := t.2.1
    exact zc_CA_fx (fun _ _ z => z) (fun j x y z => g 33 (0, []) (-1, [(1, 1)]) (by decide) _ _ z (by simp only [zq_ev, zq_ts] <;> omega) (by simp only [zq_ev, zq_ts] <;> omega)) t
  rcases List.mem_cons.mp hx with rfl | hx
  · have t : zc_CH (zq_en as 0) (zq_en as 1) (zq_en as 2) (zq_en as 3) P h := ht
    have b0 := t.2.1
    have b1 := t.2.2.1
    exact zc_CH_fx (fun _ _ z => z) (fun j x y w z => by by_cases c : j < (zq_en as 3); exact g 33 (0, []) (-1, [(3, 1)]) (by decide) _ _ z (by simp only [zq_ev, zq_ts] <;> omega) (by simp only [zq_ev, zq_ts] <;> omega); exact g 33 (1, [(3, 1)]) (-1, [(1, 1)]) (by decide) _ _ z (by simp only [zq_ev, zq_ts] <;> omega) (by simp only [zq_ev, zq_ts] <;> omega)) t
  rcases List.mem_cons.mp hx with rfl | hx
  · have t : zd_DC (zq_en as 0) (zq_en as 1) (zq_en as 2) (zq_en as 3) (zq_en as 4) (zq_en as 5) (zq_en as 6) (zq_en as 7) (zq_en as 8) (zq_en as 9) P h := ht
    have b0 := t.2.2.2.1
    have b1 := t.2.2.2.2.1
    exact zd_DC_fx (fun _ _ z => z) (fun j x y z => g 30 (0, []) (-1, [(8, 1)]) (by decide) _ _ z (by simp only [zq_ev, zq_ts] <;> omega) (by simp only [zq_ev, zq_ts] <;> omega)) (fun j x y z => g 31 (0, []) (-1, [(8, 1)]) (by decide) _ _ z (by simp only [zq_ev, zq_ts] <;> omega) (by simp only [zq_ev, zq_ts] <;> omega)) (fun j x y z => g 32 (0, []) (-1, [(8, 4)]) (by decide) _ _ z (by simp only [zq_ev, zq_ts] <;> omega) (by simp only [zq_ev, zq_ts] <;> omega)) t
  rcases List.mem_cons.mp hx with rfl | hx
  · have t : zr_KS (zq_en as 0) (zq_en as 1) (zq_en as 2) (zq_en as 3) (zq_en as 4) (zq_en as 5) (zq_en as 6) (zq_en as 7) P h := ht
    have b0 := t.2.1
    have b1 := t.2.2.1
    exact zr_KS_fx (fun _ _ z => z) (fun j x y z => g 103 (0, []) (-1, [(7, 1)]) (by decide) _ _ z (by simp only [zq_ev, zq_ts] <;> omega) (by simp only [zq_ev, zq_ts] <;> omega)) (fun j x y z => g 102 (0, []) (21, []) (by decide) _ _ z (by simp only [zq_ev, zq_ts] <;> omega) (by simp only [zq_ev, zq_ts] <;> omega)) t
  rcases List.mem_cons.mp hx with rfl | hx
  · have t : zr_KH (zq_en as 0) (zq_en as 1) (zq_en as 2) (zq_en as 3) (zq_en as 4) (zq_en as 5) (zq_en as 6) (zq_en as 7) (zq_en as 8) P h := ht
    have b0 := t.2.1
    have b1 := t.2.2.1
    exact zr_KH_fx (fun _ _ z => z) (fun j x y z => g 103 (0, []) (-1, [(7, 1)]) (by decide) _ _ z (by simp only [zq_ev, zq_ts] <;> omega) (by simp only [zq_ev, zq_ts] <;> omega)) (fun j x y z => g 102 (0, []) (21, []) (by decide) _ _ z (by simp only [zq_ev, zq_ts] <;> omega) (by simp only [zq_ev, zq_ts] <;> omega)) t
  rcases List.mem_cons.mp hx with rfl | hx
  · have t : zr_KG (zq_en as 0) (zq_en as 1) (zq_en as 2) (zq_en as 3) (zq_en as 4) (zq_en as 5) (zq_en as 6) (zq_en as 7) (zq_en as 8) (zq_en as 9) P h := ht
    have b0 := t.2.1
    have b1 := t.2.2.1
    exact zr_KG_fx (fun _ _ z => z) (fun j x y z => g 103 (0, []) (-1, [(7, 1)]) (by decide) _ _ z (by simp only [zq_ev, zq_ts] <;> omega) (by simp only [zq_ev, zq_ts] <;> omega)) (fun j x y z => g 102 (0, []) (21, []) (by decide) _ _ z (by simp only [zq_ev, zq_ts] <;> omega) (by simp only [zq_ev, zq_ts] <;> omega)) t
  rcases List.mem_cons.mp hx with rfl | hx
  · have t : zm_MC 35 (zq_en as 0) (zq_en as 1) (zq_en as 2) (zq_en as 3) P h := ht
    exact zm_MC_fx (fun _ _ z => z) (fun j x y z => g 36 (0, []) (5, []) (by decide) _ _ z (by simp only [zq_ev, zq_ts] <;> omega) (by simp only [zq_ev, zq_ts] <;> omega)) (fun j x y z => g 39 (0, []) (3, []) (by decide) _ _ z (by simp only [zq_ev, zq_ts] <;> omega) (by simp only [zq_ev, zq_ts] <;> omega)) (fun j x y z => g 42 (0, []) (0, []) (by decide) _ _ z (by simp only [zq_ev, zq_ts] <;> omega) (by simp only [zq_ev, zq_ts] <;> omega)) t
  rcases List.mem_cons.mp hx with rfl | hx
  · have t : zm_MC 50 (zq_en as 0) (zq_en as 1) (zq_en as 2) (zq_en as 3) P h := ht
    exact zm_MC_fx (fun _ _ z => z) (fun j x y z => g 51 (0, []) (5, []) (by decide) _ _ z (by simp only [zq_ev, zq_ts] <;> omega) (by simp only [zq_ev, zq_ts] <;> omega)) (fun j x y z => g 54 (0, []) (3, []) (by decide) _ _ z (by simp only [zq_ev, zq_ts] <;> omega) (by simp only [zq_ev, zq_ts] <;> omega)) (fun j x y z => g 57 (0, []) (0, []) (by decide) _ _ z (by simp only [zq_ev, zq_ts] <;> omega) (by simp only [zq_ev, zq_ts] <;> omega)) t
  rcases List.mem_cons.mp hx with rfl | hx
  · have t : zm_MC 65 (zq_en as 0) (zq_en as 1) (zq_en as 2) (zq_en as 3) P h := ht
    exact zm_MC_fx (fun _ _ z => z) (fun j x y z => g 66 (0, []) (5, []) (by decide) _ _ z (by simp only [zq_ev, zq_ts] <;> omega) (by simp only [zq_ev, zq_ts] <;> omega)) (fun j x y z => g 69 (0, []) (3, []) (by decide) _ _ z (by simp only [zq_ev, zq_ts] <;> omega) (by simp only [zq_ev, zq_ts] <;> omega)) (fun j x y z => g 72 (0, []) (0, []) (by decide) _ _ z (by simp only [zq_ev, zq_ts] <;> omega) (by simp only [zq_ev, zq_ts] <;> omega)) t
  rcases List.mem_cons.mp hx with rfl | hx
  · have t : zm_MC 80 (zq_en as 0) (zq_en as 1) (zq_en as 2) (zq_en as 3) P h := ht
    exact zm_MC_fx (fun _ _ z => z) (fun j x y z => g 81 (0, []) (5, []) (by decide) _ _ z (by simp only [zq_ev, zq_ts] <;> omega) (by simp only [zq_ev, zq_ts] <;> omega)) (fun j x y z => g 84 (0, []) (3, []) (by decide) _ _ z (by simp only [zq_ev, zq_ts] <;> omega) (by simp only [zq_ev, zq_ts] <;> omega)) (fun j x y z => g 87 (0, []) (0, []) (by decide) _ _ z (by simp only [zq_ev, zq_ts] <;> omega) (by simp only [zq_ev, zq_ts] <;> omega)) t
  rcases List.mem_cons.mp hx with rfl | hx
  · have t : zm_MH 35 (zq_en as 0) (zq_en as 1) (zq_en as 2) (zq_en as 3) (zq_en as 4) P h := ht
    have b0 := t.2.2.2.1
    have b1 := t.2.2.2.2.1
    exact zm_MH_fx (fun _ _ z => z) (fun j x y w z => by by_cases c : j < ((zq_en as 4)); exact g 36 (0, []) (-1, [(4, 1)]) (by decide) _ _ z (by simp only [zq_ev, zq_ts] <;> omega) (by simp only [zq_ev, zq_ts] <;> omega); exact g 36 (1, [(4, 1)]) (5, []) (by decide) _ _ z (by simp only [zq_ev, zq_ts] <;> omega) (by simp only [zq_ev, zq_ts] <;> omega)) (fun j x y w z => by by_cases c : j < ((zq_en as 4) + (-6)); exact g 39 (0, []) (-7, [(4, 1)]) (by decide) _ _ z (by simp only [zq_ev, zq_ts] <;> omega) (by simp only [zq_ev, zq_ts] <;> omega); exact g 39 (-5, [(4, 1)]) (3, []) (by decide) _ _ z (by simp only [zq_ev, zq_ts] <;> omega) (by simp only [zq_ev, zq_ts] <;> omega)) (fun j x y w z => g 42 (0, []) (9, [(4, -1)]) (by decide) _ _ z (by simp only [zq_ev, zq_ts] <;> omega) (by simp only [zq_ev, zq_ts] <;> omega)) t
  rcases List.mem_cons.mp hx with rfl | hx
  · have t : zm_MH 50 (zq_en as 0) (zq_en as 1) (zq_en as 2) (zq_en as 3) (zq_en as 4) P h := ht
    have b0 := t.2.2.2.1
    have b1 := t.2.2.2.2.1
    exact zm_MH_fx (fun _ _ z => z) (fun j x y w z => by by_cases c : j < ((zq_en as 4)); exact g 51 (0, []) (-1, [(4, 1)]) (by decide) _ _ z (by simp only [zq_ev, zq_ts] <;> omega) (by simp only [zq_ev, zq_ts] <;> omega); exact g 51 (1, [(4, 1)]) (5, []) (by decide) _ _ z (by simp only [zq_ev, zq_ts] <;> omega) (by simp only [zq_ev, zq_ts] <;> omega)) (fun j x y w z => by by_cases c : j < ((zq_en as 4) + (-6)); exact g 54 (0, []) (-7, [(4, 1)]) (by decide) _ _ z (by simp only [zq_ev, zq_ts] <;> omega) (by simp only [zq_ev, zq_ts] <;> omega); exact g 54 (-5, [(4, 1)]) (3, []) (by decide) _ _ z (by simp only [zq_ev, zq_ts] <;> omega) (by simp only [zq_ev, zq_ts] <;> omega)) (fun j x y w z => g 57 (0, []) (9, [(4, -1)]) (by decide) _ _ z (by simp only [zq_ev, zq_ts] <;> omega) (by simp only [zq_ev, zq_ts] <;> omega)) t
  rcases List.mem_cons.mp hx with rfl | hx
  · have t : zm_MK 1 0 (zq_en as 0) (zq_en as 1) P h := ht
    exact zm_MK_fx (fun _ _ z => z) (fun j x y z => g 1 (0, []) (10, []) (by decide) _ _ z (by simp only [zq_ev, zq_ts] <;> omega) (by simp only [zq_ev, zq_ts] <;> omega)) t
  rcases List.mem_cons.mp hx with rfl | hx
  · have t : zm_MK 2 0 (zq_en as 0) (zq_en as 1) P h := ht
    exact zm_MK_fx (fun _ _ z => z) (fun j x y z => g 2 (0, []) (10, []) (by decide) _ _ z (by simp only [zq_ev, zq_ts] <;> omega) (by simp only [zq_ev, zq_ts] <;> omega)) t
  rcases List.mem_cons.mp hx with rfl | hx
  · have t : zm_MK 2 5671 (zq_en as 0) (zq_en as 1) P h := ht
    exact zm_MK_fx (fun _ _ z => z) (fun j x y z => g 2 (5671, []) (5681, []) (by decide) _ _ z (by simp only [zq_ev, zq_ts] <;> omega) (by simp only [zq_ev, zq_ts] <;> omega)) t
  rcases List.mem_cons.mp hx with rfl | hx
  · have t : zm_KH (zq_en as 0) (zq_en as 1) (zq_en as 2) P h := ht
    exact zm_KH_fx (fun _ _ z => z) (fun j x y w z => by by_cases c : j < (zq_en as 2); exact g 1 (0, []) (-1, [(2, 1)]) (by decide) _ _ z (by simp only [zq_ev, zq_ts] <;> omega) (by simp only [zq_ev, zq_ts] <;> omega); exact g 1 (1, [(2, 1)]) (10, []) (by decide) _ _ z (by simp only [zq_ev, zq_ts] <;> omega) (by simp only [zq_ev, zq_ts] <;> omega)) t
  rcases List.mem_cons.mp hx with rfl | hx
  · have t : zk_ZC 35 (zq_en as 0) (zq_en as 1) (zq_en as 2) (zq_en as 3) (zq_en as 4) (zq_en as 5) (zq_en as 6) P h := ht
    have b0 := t.2.2.2.2.2.1
    exact zk_ZC_fx (fun _ _ z => z) (fun j x y z => g 44 (0, []) (-1, [(4, 1)]) (by decide) _ _ z (by simp only [zq_ev, zq_ts] <;> omega) (by simp only [zq_ev, zq_ts] <;> omega)) (fun j x y z => g 45 (0, []) (-1, [(4, 1)]) (by decide) _ _ z (by simp only [zq_ev, zq_ts] <;> omega) (by simp only [zq_ev, zq_ts] <;> omega)) (fun j x y z => g 46 (0, []) (-1, [(4, 1)]) (by decide) _ _ z (by simp only [zq_ev, zq_ts] <;> omega) (by simp only [zq_ev, zq_ts] <;> omega)) (fun j x y z => g 47 (0, []) (-1, [(4, 1)]) (by decide) _ _ z (by simp only [zq_ev, zq_ts] <;> omega) (by simp only [zq_ev, zq_ts] <;> omega)) t
  rcases List.mem_cons.mp hx with rfl | hx
  · have t : zk_ZC 50 (zq_en as 0) (zq_en as 1) (zq_en as 2) (zq_en as 3) (zq_en as 4) (zq_en as 5) (zq_en as 6) P h := ht
    have b0 := t.2.2.2.2.2.1
    exact zk_ZC_fx (fun _ _ z => z) (fun j x y z => g 59 (0, []) (-1, [(4, 1)]) (by decide) _ _ z (by simp only [zq_ev, zq_ts] <;> omega) (by simp only [zq_ev, zq_ts] <;> omega)) (fun j x y z => g 60 (0, []) (-1, [(4, 1)]) (by decide) _ _ z (by simp only [zq_ev, zq_ts] <;> omega) (by simp only [zq_ev, zq_ts] <;> omega)) (fun j x y z => g 61 (0, []) (-1, [(4, 1)]) (by decide) _ _ z (by simp only [zq_ev, zq_ts] <;> omega) (by simp only [zq_ev, zq_ts] <;> omega)) (fun j x y z => g 62 (0, []) (-1, [(4, 1)]) (by decide) _ _ z (by simp only [zq_ev, zq_ts] <;> omega) (by simp only [zq_ev, zq_ts] <;> omega)) t
  rcases List.mem_cons.mp hx with rfl | hx
  · have t : zk_SH 35 (zq_en as 0) (zq_en as 1) (zq_en as 2) (zq_en as 3) (zq_en as 4) (zq_en as 5) (zq_en as 6) (zq_en as 7) P h := ht
    exact zk_SH_fx (fun _ _ z => z) (fun j x y w z => by rcases w with w | w; exact g 44 (0, []) (-1, [(6, 1)]) (by decide) _ _ z (by simp only [zq_ev, zq_ts] <;> omega) (by simp only [zq_ev, zq_ts] <;> omega); exact g 44 (0, [(7, 1)]) (15, []) (by decide) _ _ z (by simp only [zq_ev, zq_ts] <;> omega) (by simp only [zq_ev, zq_ts] <;> omega)) (fun j x y w z => by rcases w with w | w; exact g 45 (0, []) (-1, [(6, 1)]) (by decide) _ _ z (by simp only [zq_ev, zq_ts] <;> omega) (by simp only [zq_ev, zq_ts] <;> omega); exact g 45 (0, [(7, 1)]) (15, []) (by decide) _ _ z (by simp only [zq_ev, zq_ts] <;> omega) (by simp only [zq_ev, zq_ts] <;> omega)) (fun j x y w z => by rcases w with w | w; exact g 46 (0, []) (-1, [(6, 1)]) (by decide) _ _ z (by simp only [zq_ev, zq_ts] <;> omega) (by simp only [zq_ev, zq_ts] <;> omega); exact g 46 (0, [(7, 1)]) (15, []) (by decide) _ _ z (by simp only [zq_ev, zq_ts] <;> omega) (by simp only [zq_ev, zq_ts] <;> omega)) (fun j x y w z => by rcases w with w | w; exact g 47 (0, []) (-1, [(6, 1)]) (by decide) _ _ z (by simp only [zq_ev, zq_ts] <;> omega) (by simp only [zq_ev, zq_ts] <;> omega); exact g 47 (0, [(7, 1)]) (15, []) (by decide) _ _ z (by simp only [zq_ev, zq_ts] <;> omega) (by simp only [zq_ev, zq_ts] <;> omega)) t
  rcases List.mem_cons.mp hx with rfl | hx
  · have t : zk_SH 50 (zq_en as 0) (zq_en as 1) (zq_en as 2) (zq_en as 3) (zq_en as 4) (zq_en as 5) (zq_en as 6) (zq_en as 7) P h := ht
    exact zk_SH_fx (fun _ _ z => z) (fun j x y w z => by rcases w with w | w; exact g 59 (0, []) (-1, [(6, 1)]) (by decide) _ _ z (by simp only [zq_ev, zq_ts] <;> omega) (by simp only [zq_ev, zq_ts] <;> omega); exact g 59 (0, [(7, 1)]) (15, []) (by decide) _ _ z (by simp only [zq_ev, zq_ts] <;> omega) (by simp only [zq_ev, zq_ts] <;> omega)) (fun j x y w z => by rcases w with w | w; exact g 60 (0, []) (-1, [(6, 1)]) (by decide) _ _ z (by simp only [zq_ev, zq_ts] <;> omega) (by simp only [zq_ev, zq_ts] <;> omega); exact g 60 (0, [(7, 1)]) (15, []) (by decide) _ _ z (by simp only [zq_ev, zq_ts] <;> omega) (by simp only [zq_ev, zq_ts] <;> omega)) (fun j x y w z => by rcases w with w | w; exact g 61 (0, []) (-1, [(6, 1)]) (by decide) _ _ z (by simp only [zq_ev, zq_ts] <;> omega) (by simp only [zq_ev, zq_ts] <;> omega); exact g 61 (0, [(7, 1)]) (15, []) (by decide) _ _ z (by simp only [zq_ev, zq_ts] <;> omega) (by simp only [zq_ev, zq_ts] <;> omega)) (fun j x y w z => by rcases w with w | w; exact g 62 (0, []) (-1, [(6, 1)]) (by decide) _ _ z (by simp only [zq_ev, zq_ts] <;> omega) (by simp only [zq_ev, zq_ts] <;> omega); exact g 62 (0, [(7, 1)]) (15, []) (by decide) _ _ z (by simp only [zq_ev, zq_ts] <;> omega) (by simp only [zq_ev, zq_ts] <;> omega)) t
  rcases List.mem_cons.mp hx with rfl | hx
  · have t : zk_ZR 12 (zq_en as 0) (zq_en as 1) (zq_en as 2) P h := ht
    exact zk_ZR_fx (fun _ _ z => z) (fun j x y n z => g 12 (0, []) (-1, [(1, 12)]) (by decide) _ _ z (by simp only [zq_ev, zq_ts] <;> omega) (by simp only [zq_ev, zq_ts] <;> omega)) t
  rcases List.mem_cons.mp hx with rfl | hx
  · have t : zk_ZR 13 (zq_en as 0) (zq_en as 1) (zq_en as 2) P h := ht
    exact zk_ZR_fx (fun _ _ z => z) (fun j x y n z => g 13 (0, []) (-1, [(1, 12)]) (by decide) _ _ z (by simp only [zq_ev, zq_ts] <;> omega) (by simp only [zq_ev, zq_ts] <;> omega)) t
  rcases List.mem_cons.mp hx with rfl | hx
  · have t : zk_RS (zq_en as 0) (zq_en as 1) (zq_en as 2) (zq_en as 3) P h := ht
    exact zk_RS_fx (fun _ _ z => z) (fun j x y w z => by rcases w with w | w; exact g 12 (0, []) (-1, [(2, 1)]) (by decide) _ _ z (by simp only [zq_ev, zq_ts] <;> omega) (by simp only [zq_ev, zq_ts] <;> omega); exact g 12 (0, [(3, 1)]) (191, []) (by decide) _ _ z (by simp only [zq_ev, zq_ts] <;> omega) (by simp only [zq_ev, zq_ts] <;> omega)) t
  rcases List.mem_cons.mp hx with rfl | hx
  · have t : zk_RF (zq_en as 0) (zq_en as 1) (zq_en as 2) (zq_en as 3) (zq_en as 4) P h := ht
    exact zk_RF_fx (fun _ _ z => z) (fun j x y w z => g 12 (0, []) (-1, [(1, 12), (4, 1)]) (by decide) _ _ z (by simp only [zq_ev, zq_ts] <;> omega) (by simp only [zq_ev, zq_ts] <;> omega)) t
  rcases List.mem_cons.mp hx with rfl | hx
  · have t : zt_LT 35 (zq_en as 0) (zq_en as 1) (zq_en as 2) P h := ht
    exact zt_LT_fr (fun _ _ z => z) (fun j x y n z => g 43 (0, []) (-1, [(1, 1)]) (by decide) _ _ z (by simp only [zq_ev, zq_ts] <;> omega) (by simp only [zq_ev, zq_ts] <;> omega)) (fun b j x y z => g 29 (0, []) (5, []) (by decide) _ _ z (by simp only [zq_ev, zq_ts] <;> omega) (by simp only [zq_ev, zq_ts] <;> omega)) (fun b j x y z => g 25 (0, []) (11, []) (by decide) _ _ z (by simp only [zq_ev, zq_ts] <;> omega) (by simp only [zq_ev, zq_ts] <;> omega)) (fun b j x y z => g 26 (0, []) (11, []) (by decide) _ _ z (by simp only [zq_ev, zq_ts] <;> omega) (by simp only [zq_ev, zq_ts] <;> omega)) (fun b j x y z => g 27 (0, []) (47, []) (by decide) _ _ z (by simp only [zq_ev, zq_ts] <;> omega) (by simp only [zq_ev, zq_ts] <;> omega)) (fun b j x y z => g 28 (0, []) (447, []) (by decide) _ _ z (by simp only [zq_ev, zq_ts] <;> omega) (by simp only [zq_ev, zq_ts] <;> omega)) t
  rcases List.mem_cons.mp hx with rfl | hx
  · have t : zt_LT 50 (zq_en as 0) (zq_en as 1) (zq_en as 2) P h := ht
    exact zt_LT_fr (fun _ _ z => z) (fun j x y n z => g 58 (0, []) (-1, [(1, 1)]) (by decide) _ _ z (by simp only [zq_ev, zq_ts] <;> omega) (by simp only [zq_ev, zq_ts] <;> omega)) (fun b j x y z => g 29 (0, []) (5, []) (by decide) _ _ z (by simp only [zq_ev, zq_ts] <;> omega) (by simp only [zq_ev, zq_ts] <;> omega)) (fun b j x y z => g 25 (0, []) (11, []) (by decide) _ _ z (by simp only [zq_ev, zq_ts] <;> omega) (by simp only [zq_ev, zq_ts] <;> omega)) (fun b j x y z => g 26 (0, []) (11, []) (by decide) _ _ z (by simp only [zq_ev, zq_ts] <;> omega) (by simp only [zq_ev, zq_ts] <;> omega)) (fun b j x y z => g 27 (0, []) (47, []) (by decide) _ _ z (by simp only [zq_ev, zq_ts] <;> omega) (by simp only [zq_ev, zq_ts] <;> omega)) (fun b j x y z => g 28 (0, []) (447, []) (by decide) _ _ z (by simp only [zq_ev, zq_ts] <;> omega) (by simp only [zq_ev, zq_ts] <;> omega)) t
  rcases List.mem_cons.mp hx with rfl | hx
  · have t : zt_LT 65 (zq_en as 0) (zq_en as 1) (zq_en as 2) P h := ht
    exact zt_LT_fr (fun _ _ z => z) (fun j x y n z => g 73 (0, []) (-1, [(1, 1)]) (by decide) _ _ z (by simp only [zq_ev, zq_ts] <;> omega) (by simp only [zq_ev, zq_ts] <;> omega)) (fun b j x y z => g 29 (0, []) (5, []) (by decide) _ _ z (by simp only [zq_ev, zq_ts] <;> omega) (by simp only [zq_ev, zq_ts] <;> omega)) (fun b j x y z => g 25 (0, []) (11, []) (by decide) _ _ z (by simp only [zq_ev, zq_ts] <;> omega) (by simp only [zq_ev, zq_ts] <;> omega)) (fun b j x y z => g 26 (0, []) (11, []) (by decide) _ _ z (by simp only [zq_ev, zq_ts] <;> omega) (by simp only [zq_ev, zq_ts] <;> omega)) (fun b j x y z => g 27 (0, []) (47, []) (by decide) _ _ z (by simp only [zq_ev, zq_ts] <;> omega) (by simp only [zq_ev, zq_ts] <;> omega)) (fun b j x y z => g 28 (0, []) (447, []) (by decide) _ _ z (by simp only [zq_ev, zq_ts] <;> omega) (by simp only [zq_ev, zq_ts] <;> omega)) t
  rcases List.mem_cons.mp hx with rfl | hx
  · have t : zt_LT 80 (zq_en as 0) (zq_en as 1) (zq_en as 2) P h := ht
    exact zt_LT_fr (fun _ _ z => z) (fun j x y n z => g 88 (0, []) (-1, [(1, 1)]) (by decide) _ _ z (by simp only [zq_ev, zq_ts] <;> omega) (by simp only [zq_ev, zq_ts] <;> omega)) (fun b j x y z => g 29 (0, []) (5, []) (by decide) _ _ z (by simp only [zq_ev, zq_ts] <;> omega) (by simp only [zq_ev, zq_ts] <;> omega)) (fun b j x y z => g 25 (0, []) (11, []) (by decide) _ _ z (by simp only [zq_ev, zq_ts] <;> omega) (by simp only [zq_ev, zq_ts] <;> omega)) (fun b j x y z => g 26 (0, []) (11, []) (by decide) _ _ z (by simp only [zq_ev, zq_ts] <;> omega) (by simp only [zq_ev, zq_ts] <;> omega)) (fun b j x y z => g 27 (0, []) (47, []) (by decide) _ _ z (by simp only [zq_ev, zq_ts] <;> omega) (by simp only [zq_ev, zq_ts] <;> omega)) (fun b j x y z => g 28 (0, []) (447, []) (by decide) _ _ z (by simp only [zq_ev, zq_ts] <;> omega) (by simp only [zq_ev, zq_ts] <;> omega)) t
  rcases List.mem_cons.mp hx with rfl | hx
  · have t : zk_KF (zq_en as 0) (zq_en as 1) (zq_en as 2) P h := ht
    have b0 := t.2.1
    exact zk_KF_fx (fun _ _ z => z) (fun j x y z => g 1 (0, []) (-1, [(2, 1)]) (by decide) _ _ z (by simp only [zq_ev, zq_ts] <;> omega) (by simp only [zq_ev, zq_ts] <;> omega)) t
  rcases List.mem_cons.mp hx with rfl | hx
  · have t : zk_AS (zq_en as 0) (zq_en as 1) (zq_en as 2) (zq_en as 3) P h := ht
    have b0 := t.2.1
    have b1 := t.2.2.1
    have b2 := t.2.2.2.1
    exact zk_AS_fx (fun _ _ z => z) (fun j x y z => g 4 (0, [(1, 11)]) (-1, [(1, 11), (3, 1)]) (by decide) _ _ z (by simp only [zq_ev, zq_ts] <;> omega) (by simp only [zq_ev, zq_ts] <;> omega)) t
  rcases List.mem_cons.mp hx with rfl | hx
  · have t : zo_WB (zq_en as 0) (zq_en as 1) (zq_en as 2) (zq_en as 3) P h := ht
    have b0 := t.2.1
    exact zo_WB_fx (fun _ _ z => z) (fun j x y z => g 102 (12, []) (11, [(3, 1)]) (by decide) _ _ z (by simp only [zq_ev, zq_ts] <;> omega) (by simp only [zq_ev, zq_ts] <;> omega)) t
  rcases List.mem_cons.mp hx with rfl | hx
  · have t : zo_WC (zq_en as 0) (zq_en as 1) (zq_en as 2) P h := ht
    have b0 := t.2.1
    exact zo_WC_fx (fun _ _ z => z) (fun j x y z => g 102 (18, []) (17, [(2, 1)]) (by decide) _ _ z (by simp only [zq_ev, zq_ts] <;> omega) (by simp only [zq_ev, zq_ts] <;> omega)) t
  rcases List.mem_cons.mp hx with rfl | hx
  · have t : zo_CB 192 13 12 (zq_en as 0) (zq_en as 1) (zq_en as 2) P h := ht
    have b0 := t.2.2.1
    exact zo_CB_fx (fun _ _ z => z) (fun j x y z => g 13 (0, []) (-1, [(2, 1)]) (by decide) _ _ z (by simp only [zq_ev, zq_ts] <;> omega) (by simp only [zq_ev, zq_ts] <;> omega)) (fun j x y z => g 12 (0, []) (-1, [(2, 1)]) (by decide) _ _ z (by simp only [zq_ev, zq_ts] <;> omega) (by simp only [zq_ev, zq_ts] <;> omega)) t
  rcases List.mem_cons.mp hx with rfl | hx
  · have t : zo_CB 192 12 13 (zq_en as 0) (zq_en as 1) (zq_en as 2) P h := ht
    have b0 := t.2.2.1
    exact zo_CB_fx (fun _ _ z => z) (fun j x y z => g 12 (0, []) (-1, [(2, 1)]) (by decide) _ _ z (by simp only [zq_ev, zq_ts] <;> omega) (by simp only [zq_ev, zq_ts] <;> omega)) (fun j x y z => g 13 (0, []) (-1, [(2, 1)]) (by decide) _ _ z (by simp only [zq_ev, zq_ts] <;> omega) (by simp only [zq_ev, zq_ts] <;> omega)) t
  rcases List.mem_cons.mp hx with rfl | hx
  · have t : zo_CB 6 43 58 (zq_en as 0) (zq_en as 1) (zq_en as 2) P h := ht
    have b0 := t.2.2.1
    exact zo_CB_fx (fun _ _ z => z) (fun j x y z => g 43 (0, []) (-1, [(2, 1)]) (by decide) _ _ z (by simp only [zq_ev, zq_ts] <;> omega) (by simp only [zq_ev, zq_ts] <;> omega)) (fun j x y z => g 58 (0, []) (-1, [(2, 1)]) (by decide) _ _ z (by simp only [zq_ev, zq_ts] <;> omega) (by simp only [zq_ev, zq_ts] <;> omega)) t
  rcases List.mem_cons.mp hx with rfl | hx
  · have t : zo_CB 6 58 43 (zq_en as 0) (zq_en as 1) (zq_en as 2) P h := ht
    have b0 := t.2.2.1
    exact zo_CB_fx (fun _ _ z => z) (fun j x y z => g 58 (0, []) (-1, [(2, 1)]) (by decide) _ _ z (by simp only [zq_ev, zq_ts] <;> omega) (by simp only [zq_ev, zq_ts] <;> omega)) (fun j x y z => g 43 (0, []) (-1, [(2, 1)]) (by decide) _ _ z (by simp only [zq_ev, zq_ts] <;> omega) (by simp only [zq_ev, zq_ts] <;> omega)) t
  rcases List.mem_cons.mp hx with rfl | hx
  · have t : zo_CB 6 73 43 (zq_en as 0) (zq_en as 1) (zq_en as 2) P h := ht
    have b0 := t.2.2.1
    exact zo_CB_fx (fun _ _ z => z) (fun j x y z => g 73 (0, []) (-1, [(2, 1)]) (by decide) _ _ z (by simp only [zq_ev, zq_ts] <;> omega) (by simp only [zq_ev, zq_ts] <;> omega)) (fun j x y z => g 43 (0, []) (-1, [(2, 1)]) (by decide) _ _ z (by simp only [zq_ev, zq_ts] <;> omega) (by simp only [zq_ev, zq_ts] <;> omega)) t
  rcases List.mem_cons.mp hx with rfl | hx
  · have t : zo_CB 6 88 43 (zq_en as 0) (zq_en as 1) (zq_en as 2) P h := ht
    have b0 := t.2.2.1
    exact zo_CB_fx (fun _ _ z => z) (fun j x y z => g 88 (0, []) (-1, [(2, 1)]) (by decide) _ _ z (by simp only [zq_ev, zq_ts] <;> omega) (by simp only [zq_ev, zq_ts] <;> omega)) (fun j x y z => g 43 (0, []) (-1, [(2, 1)]) (by decide) _ _ z (by simp only [zq_ev, zq_ts] <;> omega) (by simp only [zq_ev, zq_ts] <;> omega)) t
  rcases List.mem_cons.mp hx with rfl | hx
  · have t : zo_CB 6 43 73 (zq_en as 0) (zq_en as 1) (zq_en as 2) P h := ht
    have b0 := t.2.2.1
    exact zo_CB_fx (fun _ _ z => z) (fun j x y z => g 43 (0, []) (-1, [(2, 1)]) (by decide) _ _ z (by simp only [zq_ev, zq_ts] <;> omega) (by simp only [zq_ev, zq_ts] <;> omega)) (fun j x y z => g 73 (0, []) (-1, [(2, 1)]) (by decide) _ _ z (by simp only [zq_ev, zq_ts] <;> omega) (by simp only [zq_ev, zq_ts] <;> omega)) t
  · cases hx
noncomputable def ze_DX1 : zq_DXt := [(361, [(43, (0, []), (-1, [(2, 1)])), (88, (0, []), (-1, [(2, 1)]))]), (364, [(43, (0, []), (-1, [(1, 1)])), (29, (0, []), (5, [])), (25, (0, []), (11, [])), (26, (0, []), (11, [])), (27, (0, []), (47, [])), (28, (0, []), (447, []))]), (365, [(58, (0, []), (-1, [(1, 1)])), (29, (0, []), (5, [])), (25, (0, []), (11, [])), (26, (0, []), (11, [])), (27, (0, []), (47, [])), (28, (0, []), (447, []))]), (366, [(73, (0, []), (-1, [(1, 1)])), (29, (0, []), (5, [])), (25, (0, []), (11, [])), (26, (0, []), (11, [])), (27, (0, []), (47, [])), (28, (0, []), (447, []))]), (367, [(88, (0, []), (-1, [(1, 1)])), (29, (0, []), (5, [])), (25, (0, []), (11, [])), (26, (0, []), (11, [])), (27, (0, []), (47, [])), (28, (0, []), (447, []))]), (378, [(108, (0, []), (-1, [(10, 1)]))]), (379, [(14, (0, []), (-1, [(10, 1)]))])]
theorem ze_DX1ok {w : zq_Wd} {A0 : Nat → Nat} (hX : w.2.2.2.2 = zX A0) : zq_okDX w ze_DX1 := by
  intro x hx as P h a k j0 v hP hh ht
  rw [hX] at ht ⊢
  have g : ∀ (kk : Nat) (lo hi : zq_L), (kk, lo, hi) ∈ x.2 → ∀ b i, P b = some kk → zq_ev (zq_en as) lo ≤ i → i ≤ zq_ev (zq_en as) hi → zq_wr h a j0 v b i = h b i := by
    intro kk lo hi hm b i hb h1 h2
    refine zq_wr_ne ?_
    rintro ⟨rfl, rfl⟩
    have e : k = kk := Option.some.inj (hP.symm.trans hb)
    have := hh _ hm e.symm
    simp only at this
    omega
  rcases List.mem_cons.mp hx with rfl | hx
  · have t : zo_CB 6 43 88 (zq_en as 0) (zq_en as 1) (zq_en as 2) P h := ht
    have b0 := t.2.2.1
    exact zo_CB_fx (fun _ _ z => z) (fun j x y z => g 43 (0, []) (-1, [(2, 1)]) (by decide) _ _ z (by simp only [zq_ev, zq_ts] <;> omega) (by simp only [zq_ev, zq_ts] <;> omega)) (fun j x y z => g 88 (0, []) (-1, [(2, 1)]) (by decide) _ _ z (by simp only [zq_ev, zq_ts] <;> omega) (by simp only [zq_ev, zq_ts] <;> omega)) t
  rcases List.mem_cons.mp hx with rfl | hx
  · have t : zt_LTB 35 (zq_en as 0) (zq_en as 1) (zq_en as 2) (zq_en as 3) P h := ht
    exact zt_LTB_fr (fun _ _ z => z) (fun j x y n z => g 43 (0, []) (-1, [(1, 1)]) (by decide) _ _ z (by simp only [zq_ev, zq_ts] <;> omega) (by simp only [zq_ev, zq_ts] <;> omega)) (fun b j x y z => g 29 (0, []) (5, []) (by decide) _ _ z (by simp only [zq_ev, zq_ts] <;> omega) (by simp only [zq_ev, zq_ts] <;> omega)) (fun b j x y z => g 25 (0, []) (11, []) (by decide) _ _ z (by simp only [zq_ev, zq_ts] <;> omega) (by simp only [zq_ev, zq_ts] <;> omega)) (fun b j x y z => g 26 (0, []) (11, []) (by decide) _ _ z (by simp only [zq_ev, zq_ts] <;> omega) (by simp only [zq_ev, zq_ts] <;> omega)) (fun b j x y z => g 27 (0, []) (47, []) (by decide) _ _ z (by simp only [zq_ev, zq_ts] <;> omega) (by simp only [zq_ev, zq_ts] <;> omega)) (fun b j x y z => g 28 (0, []) (447, []) (by decide) _ _ z (by simp only [zq_ev, zq_ts] <;> omega) (by simp only [zq_ev, zq_ts] <;> omega)) t
  rcases List.mem_cons.mp hx with rfl | hx
  · have t : zt_LTB 50 (zq_en as 0) (zq_en as 1) (zq_en as 2) (zq_en as 3) P h := ht
    exact zt_LTB_fr (fun _ _ z => z) (fun j x y n z => g 58 (0, []) (-1, [(1, 1)]) (by decide) _ _ z (by simp only [zq_ev, zq_ts] <;> omega) (by simp only [zq_ev, zq_ts] <;> omega)) (fun b j x y z => g 29 (0, []) (5, []) (by decide) _ _ z (by simp only [zq_ev, zq_ts] <;> omega) (by simp only [zq_ev, zq_ts] <;> omega)) (fun b j x y z => g 25 (0, []) (11, []) (by decide) _ _ z (by simp only [zq_ev, zq_ts] <;> omega) (by simp only [zq_ev, zq_ts] <;> omega)) (fun b j x y z => g 26 (0, []) (11, []) (by decide) _ _ z (by simp only [zq_ev, zq_ts] <;> omega) (by simp only [zq_ev, zq_ts] <;> omega)) (fun b j x y z => g 27 (0, []) (47, []) (by decide) _ _ z (by simp only [zq_ev, zq_ts] <;> omega) (by simp only [zq_ev, zq_ts] <;> omega)) (fun b j x y z => g 28 (0, []) (447, []) (by decide) _ _ z (by simp only [zq_ev, zq_ts] <;> omega) (by simp only [zq_ev, zq_ts] <;> omega)) t
  rcases List.mem_cons.mp hx with rfl | hx
  · have t : zt_LTB 65 (zq_en as 0) (zq_en as 1) (zq_en as 2) (zq_en as 3) P h := ht
    exact zt_LTB_fr (fun _ _ z => z) (fun j x y n z => g 73 (0, []) (-1, [(1, 1)]) (by decide) _ _ z (by simp only [zq_ev, zq_ts] <;> omega) (by simp only [zq_ev, zq_ts] <;> omega)) (fun b j x y z => g 29 (0, []) (5, []) (by decide) _ _ z (by simp only [zq_ev, zq_ts] <;> omega) (by simp only [zq_ev, zq_ts] <;> omega)) (fun b j x y z => g 25 (0, []) (11, []) (by decide) _ _ z (by simp only [zq_ev, zq_ts] <;> omega) (by simp only [zq_ev, zq_ts] <;> omega)) (fun b j x y z => g 26 (0, []) (11, []) (by decide) _ _ z (by simp only [zq_ev, zq_ts] <;> omega) (by simp only [zq_ev, zq_ts] <;> omega)) (fun b j x y z => g 27 (0, []) (47, []) (by decide) _ _ z (by simp only [zq_ev, zq_ts] <;> omega) (by simp only [zq_ev, zq_ts] <;> omega)) (fun b j x y z => g 28 (0, []) (447, []) (by decide) _ _ z (by simp only [zq_ev, zq_ts] <;> omega) (by simp only [zq_ev, zq_ts] <;> omega)) t
  rcases List.mem_cons.mp hx with rfl | hx
  · have t : zt_LTB 80 (zq_en as 0) (zq_en as 1) (zq_en as 2) (zq_en as 3) P h := ht
    exact zt_LTB_fr (fun _ _ z => z) (fun j x y n z => g 88 (0, []) (-1, [(1, 1)]) (by decide) _ _ z (by simp only [zq_ev, zq_ts] <;> omega) (by simp only [zq_ev, zq_ts] <;> omega)) (fun b j x y z => g 29 (0, []) (5, []) (by decide) _ _ z (by simp only [zq_ev, zq_ts] <;> omega) (by simp only [zq_ev, zq_ts] <;> omega)) (fun b j x y z => g 25 (0, []) (11, []) (by decide) _ _ z (by simp only [zq_ev, zq_ts] <;> omega) (by simp only [zq_ev, zq_ts] <;> omega)) (fun b j x y z => g 26 (0, []) (11, []) (by decide) _ _ z (by simp only [zq_ev, zq_ts] <;> omega) (by simp only [zq_ev, zq_ts] <;> omega)) (fun b j x y z => g 27 (0, []) (47, []) (by decide) _ _ z (by simp only [zq_ev, zq_ts] <;> omega) (by simp only [zq_ev, zq_ts] <;> omega)) (fun b j x y z => g 28 (0, []) (447, []) (by decide) _ _ z (by simp only [zq_ev, zq_ts] <;> omega) (by simp only [zq_ev, zq_ts] <;> omega)) t
  rcases List.mem_cons.mp hx with rfl | hx
  · have t : zw_PA 108 (zq_en as 0) (zq_en as 1) (zq_en as 2) (zq_en as 3) (zq_en as 4) (zq_en as 5) (zq_en as 6) (zq_en as 7) (zq_en as 8) (zq_en as 9) (zq_en as 10) P h := ht
    have b0 := t.2.1
    exact zw_PA_fx (fun _ _ z => z) (fun j x y z => g 108 (0, []) (-1, [(10, 1)]) (by decide) _ _ z (by simp only [zq_ev, zq_ts] <;> omega) (by simp only [zq_ev, zq_ts] <;> omega)) t
  rcases List.mem_cons.mp hx with rfl | hx
  · have t : zw_PA 14 (zq_en as 0) (zq_en as 1) (zq_en as 2) (zq_en as 3) (zq_en as 4) (zq_en as 5) (zq_en as 6) (zq_en as 7) (zq_en as 8) (zq_en as 9) (zq_en as 10) P h := ht
    have b0 := t.2.1
    exact zw_PA_fx (fun _ _ z => z) (fun j x y z => g 14 (0, []) (-1, [(10, 1)]) (by decide) _ _ z (by simp only [zq_ev, zq_ts] <;> omega) (by simp only [zq_ev, zq_ts] <;> omega)) t
  · cases hx
noncomputable def ze_FX : zq_FX := ze_FX0 ++ ze_FX1 ++ ze_FX2 ++ ze_FX3
theorem ze_FXok {w : zq_Wd} {A0 : Nat → Nat} (hX : w.2.2.2.2 = zX A0) : zq_okFX w ze_FX := ((((ze_FX0ok hX).app (ze_FX1ok hX)).app (ze_FX2ok hX)).app (ze_FX3ok hX))
noncomputable def ze_DX : zq_DXt := ze_DX0 ++ ze_DX1
theorem ze_DXok {w : zq_Wd} {A0 : Nat → Nat} (hX : w.2.2.2.2 = zX A0) : zq_okDX w ze_DX := ((ze_DX0ok hX).app (ze_DX1ok hX))
