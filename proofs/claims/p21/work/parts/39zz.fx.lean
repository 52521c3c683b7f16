/-! what the tokens of lands look at -/
noncomputable def zm_FX : zq_FX := [(131, []), (132, []), (133, []), (134, []), (140, [(35, 0, 5), (37, 0, 5), (38, 0, 5), (41, 0, 23)]), (141, [(50, 0, 5), (52, 0, 5), (53, 0, 5), (56, 0, 23)]), (142, [(65, 0, 5), (67, 0, 5), (68, 0, 5), (71, 0, 23)]), (143, [(80, 0, 5), (82, 0, 5), (83, 0, 5), (86, 0, 23)]), (148, [(1, 11, 16), (1, 21, 26), (1, 27, 32), (1, 33, 56)]), (150, [(2, 11, 16), (2, 21, 26), (2, 27, 32), (2, 33, 56)]), (151, [(2, 5682, 5687), (2, 5692, 5697), (2, 5698, 5703), (2, 5704, 5727)]), (152, [(95, 0, 399)]), (154, [(95, 0, 399)]), (153, [(6, 0, 399)]), (155, [(6, 0, 399)]), (160, [(35, 0, 5), (50, 0, 5)]), (161, [(37, 0, 5), (52, 0, 5)]), (162, [(38, 0, 5), (53, 0, 5)]), (163, [(41, 0, 23), (56, 0, 23)]), (164, [(50, 0, 5), (35, 0, 5)]), (165, [(52, 0, 5), (37, 0, 5)]), (166, [(53, 0, 5), (38, 0, 5)]), (167, [(56, 0, 23), (41, 0, 23)]), (168, [(65, 0, 5), (35, 0, 5)]), (169, [(67, 0, 5), (37, 0, 5)]), (170, [(68, 0, 5), (38, 0, 5)]), (171, [(71, 0, 23), (41, 0, 23)]), (172, [(80, 0, 5), (35, 0, 5)]), (173, [(82, 0, 5), (37, 0, 5)]), (174, [(83, 0, 5), (38, 0, 5)]), (175, [(86, 0, 23), (41, 0, 23)]), (176, [(35, 0, 5), (65, 0, 5)]), (177, [(37, 0, 5), (67, 0, 5)]), (178, [(38, 0, 5), (68, 0, 5)]), (179, [(41, 0, 23), (71, 0, 23)]), (180, [(35, 0, 5), (80, 0, 5)]), (181, [(37, 0, 5), (82, 0, 5)]), (182, [(38, 0, 5), (83, 0, 5)]), (183, [(41, 0, 23), (86, 0, 23)])]
theorem zm_FXok {w : zq_Wd} {A0 : Nat → Nat} (hX : w.2.2.2.2 = zX A0) : zq_okFX w zm_FX := by
  intro x hx as P P' h h' hP hh ht
  rw [hX] at ht ⊢
  have g : ∀ (k : Nat) (lo hi : Int), (k, lo, hi) ∈ x.2 → ∀ a j, P a = some k → lo ≤ j → j ≤ hi → h' a j = h a j := fun k lo hi hm a j hp h1 h2 => hh a k j hp ⟨_, hm, rfl, h1, h2⟩
  rcases List.mem_cons.mp hx with rfl | hx
  · exact ht
  rcases List.mem_cons.mp hx with rfl | hx
  · exact ht
  rcases List.mem_cons.mp hx with rfl | hx
  · exact ht
  rcases List.mem_cons.mp hx with rfl | hx
  · exact ht
  rcases List.mem_cons.mp hx with rfl | hx
  · have b := zn_LA_b ht
    exact zn_LA_fx hP (fun j x y z => g 35 0 5 (by decide) _ _ z (by omega) (by omega)) (fun j x y z => g 37 0 5 (by decide) _ _ z (by omega) (by omega)) (fun j x y z => g 38 0 5 (by decide) _ _ z (by omega) (by omega)) (fun j x y z => g 41 0 23 (by decide) _ _ z (by omega) (by omega)) ht
  rcases List.mem_cons.mp hx with rfl | hx
  · have b := zn_LA_b ht
    exact zn_LA_fx hP (fun j x y z => g 50 0 5 (by decide) _ _ z (by omega) (by omega)) (fun j x y z => g 52 0 5 (by decide) _ _ z (by omega) (by omega)) (fun j x y z => g 53 0 5 (by decide) _ _ z (by omega) (by omega)) (fun j x y z => g 56 0 23 (by decide) _ _ z (by omega) (by omega)) ht
  rcases List.mem_cons.mp hx with rfl | hx
  · have b := zn_LA_b ht
    exact zn_LA_fx hP (fun j x y z => g 65 0 5 (by decide) _ _ z (by omega) (by omega)) (fun j x y z => g 67 0 5 (by decide) _ _ z (by omega) (by omega)) (fun j x y z => g 68 0 5 (by decide) _ _ z (by omega) (by omega)) (fun j x y z => g 71 0 23 (by decide) _ _ z (by omega) (by omega)) ht
  rcases List.mem_cons.mp hx with rfl | hx
  · have b := zn_LA_b ht
    exact zn_LA_fx hP (fun j x y z => g 80 0 5 (by decide) _ _ z (by omega) (by omega)) (fun j x y z => g 82 0 5 (by decide) _ _ z (by omega) (by omega)) (fun j x y z => g 83 0 5 (by decide) _ _ z (by omega) (by omega)) (fun j x y z => g 86 0 23 (by decide) _ _ z (by omega) (by omega)) ht
  rcases List.mem_cons.mp hx with rfl | hx
  · have b := zn_KA_b ht
    exact zn_KA_fx hP (fun j x y z => g 1 11 16 (by decide) _ _ z (by omega) (by omega)) (fun j x y z => g 1 21 26 (by decide) _ _ z (by omega) (by omega)) (fun j x y z => g 1 27 32 (by decide) _ _ z (by omega) (by omega)) (fun j x y z => g 1 33 56 (by decide) _ _ z (by omega) (by omega)) ht
  rcases List.mem_cons.mp hx with rfl | hx
  · have b := zn_KA_b ht
    exact zn_KA_fx hP (fun j x y z => g 2 11 16 (by decide) _ _ z (by omega) (by omega)) (fun j x y z => g 2 21 26 (by decide) _ _ z (by omega) (by omega)) (fun j x y z => g 2 27 32 (by decide) _ _ z (by omega) (by omega)) (fun j x y z => g 2 33 56 (by decide) _ _ z (by omega) (by omega)) ht
  rcases List.mem_cons.mp hx with rfl | hx
  · have b := zn_KA_b ht
    exact zn_KA_fx hP (fun j x y z => g 2 5682 5687 (by decide) _ _ z (by omega) (by omega)) (fun j x y z => g 2 5692 5697 (by decide) _ _ z (by omega) (by omega)) (fun j x y z => g 2 5698 5703 (by decide) _ _ z (by omega) (by omega)) (fun j x y z => g 2 5704 5727 (by decide) _ _ z (by omega) (by omega)) ht
  rcases List.mem_cons.mp hx with rfl | hx
  · have b := ht.2.2.2.1
    exact zn_RS_fx hP (fun j x y z => g 95 0 399 (by decide) _ _ z (by omega) (by omega)) ht
  rcases List.mem_cons.mp hx with rfl | hx
  · have b := ht.2.2.2.1
    exact zn_RT_fx hP (fun j x y z => g 95 0 399 (by decide) _ _ z (by omega) (by omega)) ht
  rcases List.mem_cons.mp hx with rfl | hx
  · have b := ht.2.2.2.1
    exact zn_RS_fx hP (fun j x y z => g 6 0 399 (by decide) _ _ z (by omega) (by omega)) ht
  rcases List.mem_cons.mp hx with rfl | hx
  · have b := ht.2.2.2.1
    exact zn_RT_fx hP (fun j x y z => g 6 0 399 (by decide) _ _ z (by omega) (by omega)) ht
  rcases List.mem_cons.mp hx with rfl | hx
  · exact zj_EN_fx hP (fun j x y z => g 35 0 5 (by decide) _ _ z x (by have y : j < 6 := y; omega)) (fun j x y z => g 50 0 5 (by decide) _ _ z x (by have y : j < 6 := y; omega)) ht
  rcases List.mem_cons.mp hx with rfl | hx
  · exact zj_EN_fx hP (fun j x y z => g 37 0 5 (by decide) _ _ z x (by have y : j < 6 := y; omega)) (fun j x y z => g 52 0 5 (by decide) _ _ z x (by have y : j < 6 := y; omega)) ht
  rcases List.mem_cons.mp hx with rfl | hx
  · exact zj_EN_fx hP (fun j x y z => g 38 0 5 (by decide) _ _ z x (by have y : j < 6 := y; omega)) (fun j x y z => g 53 0 5 (by decide) _ _ z x (by have y : j < 6 := y; omega)) ht
  rcases List.mem_cons.mp hx with rfl | hx
  · exact zj_EN_fx hP (fun j x y z => g 41 0 23 (by decide) _ _ z x (by have y : j < 24 := y; omega)) (fun j x y z => g 56 0 23 (by decide) _ _ z x (by have y : j < 24 := y; omega)) ht
  rcases List.mem_cons.mp hx with rfl | hx
  · exact zj_EN_fx hP (fun j x y z => g 50 0 5 (by decide) _ _ z x (by have y : j < 6 := y; omega)) (fun j x y z => g 35 0 5 (by decide) _ _ z x (by have y : j < 6 := y; omega)) ht
  rcases List.mem_cons.mp hx with rfl | hx
  · exact zj_EN_fx hP (fun j x y z => g 52 0 5 (by decide) _ _ z x (by have y : j < 6 := y; omega)) (fun j x y z => g 37 0 5 (by decide) _ _ z x (by have y : j < 6 := y; omega)) ht
  rcases List.mem_cons.mp hx with rfl | hx
  · exact zj_EN_fx hP (fun j x y z => g 53 0 5 (by decide) _ _ z x (by have y : j < 6 := y; omega)) (fun j x y z => g 38 0 5 (by decide) _ _ z x (by have y : j < 6 := y; omega)) ht
  rcases List.mem_cons.mp hx with rfl | hx
  · exact zj_EN_fx hP (fun j x y z => g 56 0 23 (by decide) _ _ z x (by have y : j < 24 := y; omega)) (fun j x y z => g 41 0 23 (by decide) _ _ z x (by have y : j < 24 := y; omega)) ht
  rcases List.mem_cons.mp hx with rfl | hx
  · exact zj_EN_fx hP (fun j x y z => g 65 0 5 (by decide) _ _ z x (by have y : j < 6 := y; omega)) (fun j x y z => g 35 0 5 (by decide) _ _ z x (by have y : j < 6 := y; omega)) ht
  rcases List.mem_cons.mp hx with rfl | hx
  · exact zj_EN_fx hP (fun j x y z => g 67 0 5 (by decide) _ _ z x (by have y : j < 6 := y; omega)) (fun j x y z => g 37 0 5 (by decide) _ _ z x (by have y : j < 6 := y; omega)) ht
  rcases List.mem_cons.mp hx with rfl | hx
  · exact zj_EN_fx hP (fun j x y z => g 68 0 5 (by decide) _ _ z x (by have y : j < 6 := y; omega)) (fun j x y z => g 38 0 5 (by decide) _ _ z x (by have y : j < 6 := y; omega)) ht
  rcases List.mem_cons.mp hx with rfl | hx
  · exact zj_EN_fx hP (fun j x y z => g 71 0 23 (by decide) _ _ z x (by have y : j < 24 := y; omega)) (fun j x y z => g 41 0 23 (by decide) _ _ z x (by have y : j < 24 := y; omega)) ht
  rcases List.mem_cons.mp hx with rfl | hx
  · exact zj_EN_fx hP (fun j x y z => g 80 0 5 (by decide) _ _ z x (by have y : j < 6 := y; omega)) (fun j x y z => g 35 0 5 (by decide) _ _ z x (by have y : j < 6 := y; omega)) ht
  rcases List.mem_cons.mp hx with rfl | hx
  · exact zj_EN_fx hP (fun j x y z => g 82 0 5 (by decide) _ _ z x (by have y : j < 6 := y; omega)) (fun j x y z => g 37 0 5 (by decide) _ _ z x (by have y : j < 6 := y; omega)) ht
  rcases List.mem_cons.mp hx with rfl | hx
  · exact zj_EN_fx hP (fun j x y z => g 83 0 5 (by decide) _ _ z x (by have y : j < 6 := y; omega)) (fun j x y z => g 38 0 5 (by decide) _ _ z x (by have y : j < 6 := y; omega)) ht
  rcases List.mem_cons.mp hx with rfl | hx
  · exact zj_EN_fx hP (fun j x y z => g 86 0 23 (by decide) _ _ z x (by have y : j < 24 := y; omega)) (fun j x y z => g 41 0 23 (by decide) _ _ z x (by have y : j < 24 := y; omega)) ht
  rcases List.mem_cons.mp hx with rfl | hx
  · exact zj_EN_fx hP (fun j x y z => g 35 0 5 (by decide) _ _ z x (by have y : j < 6 := y; omega)) (fun j x y z => g 65 0 5 (by decide) _ _ z x (by have y : j < 6 := y; omega)) ht
  rcases List.mem_cons.mp hx with rfl | hx
  · exact zj_EN_fx hP (fun j x y z => g 37 0 5 (by decide) _ _ z x (by have y : j < 6 := y; omega)) (fun j x y z => g 67 0 5 (by decide) _ _ z x (by have y : j < 6 := y; omega)) ht
  rcases List.mem_cons.mp hx with rfl | hx
  · exact zj_EN_fx hP (fun j x y z => g 38 0 5 (by decide) _ _ z x (by have y : j < 6 := y; omega)) (fun j x y z => g 68 0 5 (by decide) _ _ z x (by have y : j < 6 := y; omega)) ht
  rcases List.mem_cons.mp hx with rfl | hx
  · exact zj_EN_fx hP (fun j x y z => g 41 0 23 (by decide) _ _ z x (by have y : j < 24 := y; omega)) (fun j x y z => g 71 0 23 (by decide) _ _ z x (by have y : j < 24 := y; omega)) ht
  rcases List.mem_cons.mp hx with rfl | hx
  · exact zj_EN_fx hP (fun j x y z => g 35 0 5 (by decide) _ _ z x (by have y : j < 6 := y; omega)) (fun j x y z => g 80 0 5 (by decide) _ _ z x (by have y : j < 6 := y; omega)) ht
  rcases List.mem_cons.mp hx with rfl | hx
  · exact zj_EN_fx hP (fun j x y z => g 37 0 5 (by decide) _ _ z x (by have y : j < 6 := y; omega)) (fun j x y z => g 82 0 5 (by decide) _ _ z x (by have y : j < 6 := y; omega)) ht
  rcases List.mem_cons.mp hx with rfl | hx
  · exact zj_EN_fx hP (fun j x y z => g 38 0 5 (by decide) _ _ z x (by have y : j < 6 := y; omega)) (fun j x y z => g 83 0 5 (by decide) _ _ z x (by have y : j < 6 := y; omega)) ht
  rcases List.mem_cons.mp hx with rfl | hx
  · exact zj_EN_fx hP (fun j x y z => g 41 0 23 (by decide) _ _ z x (by have y : j < 24 := y; omega)) (fun j x y z => g 86 0 23 (by decide) _ _ z x (by have y : j < 24 := y; omega)) ht
  · cases hx
noncomputable def zm_DX : zq_DXt := [(140, [(35, (0, []), (-1, [(4, 1)])), (37, (0, []), (-1, [(5, 1)])), (38, (0, []), (-1, [(5, 1)])), (41, (0, []), (-1, [(6, 4)]))]), (141, [(50, (0, []), (-1, [(4, 1)])), (52, (0, []), (-1, [(5, 1)])), (53, (0, []), (-1, [(5, 1)])), (56, (0, []), (-1, [(6, 4)]))]), (142, [(65, (0, []), (-1, [(4, 1)])), (67, (0, []), (-1, [(5, 1)])), (68, (0, []), (-1, [(5, 1)])), (71, (0, []), (-1, [(6, 4)]))]), (143, [(80, (0, []), (-1, [(4, 1)])), (82, (0, []), (-1, [(5, 1)])), (83, (0, []), (-1, [(5, 1)])), (86, (0, []), (-1, [(6, 4)]))]), (148, [(1, (11, []), (10, [(1, 1)])), (1, (21, []), (20, [(2, 1)])), (1, (27, []), (26, [(2, 1)])), (1, (33, []), (32, [(3, 4)]))]), (150, [(2, (11, []), (10, [(1, 1)])), (2, (21, []), (20, [(2, 1)])), (2, (27, []), (26, [(2, 1)])), (2, (33, []), (32, [(3, 4)]))]), (151, [(2, (5682, []), (5681, [(1, 1)])), (2, (5692, []), (5691, [(2, 1)])), (2, (5698, []), (5697, [(2, 1)])), (2, (5704, []), (5703, [(3, 4)]))])]
theorem zm_DXok {w : zq_Wd} {A0 : Nat → Nat} (hX : w.2.2.2.2 = zX A0) : zq_okDX w zm_DX := by
  intro x hx as P h a k j v hP hh ht
  rw [hX] at ht ⊢
  have g : ∀ (kk : Nat) (lo hi : zq_L), (kk, lo, hi) ∈ x.2 → ∀ b i, P b = some kk → zq_ev (zq_en as) lo ≤ i → i ≤ zq_ev (zq_en as) hi → zq_wr h a j v b i = h b i := by
    intro kk lo hi hm b i hb h1 h2
    refine zq_wr_ne ?_
    rintro ⟨rfl, rfl⟩
    have e : k = kk := Option.some.inj (hP.symm.trans hb)
    have := hh _ hm e.symm
    simp only at this
    omega
  rcases List.mem_cons.mp hx with rfl | hx
  · exact zn_LA_fx (fun _ _ z => z) (fun j x y z => g 35 (0, []) (-1, [(4, 1)]) (by decide) _ _ z (by simp only [zq_ev, zq_ts] <;> omega) (by simp only [zq_ev, zq_ts] <;> omega)) (fun j x y z => g 37 (0, []) (-1, [(5, 1)]) (by decide) _ _ z (by simp only [zq_ev, zq_ts] <;> omega) (by simp only [zq_ev, zq_ts] <;> omega)) (fun j x y z => g 38 (0, []) (-1, [(5, 1)]) (by decide) _ _ z (by simp only [zq_ev, zq_ts] <;> omega) (by simp only [zq_ev, zq_ts] <;> omega)) (fun j x y z => g 41 (0, []) (-1, [(6, 4)]) (by decide) _ _ z (by simp only [zq_ev, zq_ts] <;> omega) (by simp only [zq_ev, zq_ts] <;> omega)) ht
  rcases List.mem_cons.mp hx with rfl | hx
  · exact zn_LA_fx (fun _ _ z => z) (fun j x y z => g 50 (0, []) (-1, [(4, 1)]) (by decide) _ _ z (by simp only [zq_ev, zq_ts] <;> omega) (by simp only [zq_ev, zq_ts] <;> omega)) (fun j x y z => g 52 (0, []) (-1, [(5, 1)]) (by decide) _ _ z (by simp only [zq_ev, zq_ts] <;> omega) (by simp only [zq_ev, zq_ts] <;> omega)) (fun j x y z => g 53 (0, []) (-1, [(5, 1)]) (by decide) _ _ z (by simp only [zq_ev, zq_ts] <;> omega) (by simp only [zq_ev, zq_ts] <;> omega)) (fun j x y z => g 56 (0, []) (-1, [(6, 4)]) (by decide) _ _ z (by simp only [zq_ev, zq_ts] <;> omega) (by simp only [zq_ev, zq_ts] <;> omega)) ht
  rcases List.mem_cons.mp hx with rfl | hx
  · exact zn_LA_fx (fun _ _ z => z) (fun j x y z => g 65 (0, []) (-1, [(4, 1)]) (by decide) _ _ z (by simp only [zq_ev, zq_ts] <;> omega) (by simp only [zq_ev, zq_ts] <;> omega)) (fun j x y z => g 67 (0, []) (-1, [(5, 1)]) (by decide) _ _ z (by simp only [zq_ev, zq_ts] <;> omega) (by simp only [zq_ev, zq_ts] <;> omega)) (fun j x y z => g 68 (0, []) (-1, [(5, 1)]) (by decide) _ _ z (by simp only [zq_ev, zq_ts] <;> omega) (by simp only [zq_ev, zq_ts] <;> omega)) (fun j x y z => g 71 (0, []) (-1, [(6, 4)]) (by decide) _ _ z (by simp only [zq_ev, zq_ts] <;> omega) (by simp only [zq_ev, zq_ts] <;> omega)) ht
  rcases List.mem_cons.mp hx with rfl | hx
  · exact zn_LA_fx (fun _ _ z => z) (fun j x y z => g 80 (0, []) (-1, [(4, 1)]) (by decide) _ _ z (by simp only [zq_ev, zq_ts] <;> omega) (by simp only [zq_ev, zq_ts] <;> omega)) (fun j x y z => g 82 (0, []) (-1, [(5, 1)]) (by decide) _ _ z (by simp only [zq_ev, zq_ts] <;> omega) (by simp only [zq_ev, zq_ts] <;> omega)) (fun j x y z => g 83 (0, []) (-1, [(5, 1)]) (by decide) _ _ z (by simp only [zq_ev, zq_ts] <;> omega) (by simp only [zq_ev, zq_ts] <;> omega)) (fun j x y z => g 86 (0, []) (-1, [(6, 4)]) (by decide) _ _ z (by simp only [zq_ev, zq_ts] <;> omega) (by simp only [zq_ev, zq_ts] <;> omega)) ht
  rcases List.mem_cons.mp hx with rfl | hx
  · exact zn_KA_fx (fun _ _ z => z) (fun j x y z => g 1 (11, []) (10, [(1, 1)]) (by decide) _ _ z (by simp only [zq_ev, zq_ts] <;> omega) (by simp only [zq_ev, zq_ts] <;> omega)) (fun j x y z => g 1 (21, []) (20, [(2, 1)]) (by decide) _ _ z (by simp only [zq_ev, zq_ts] <;> omega) (by simp only [zq_ev, zq_ts] <;> omega)) (fun j x y z => g 1 (27, []) (26, [(2, 1)]) (by decide) _ _ z (by simp only [zq_ev, zq_ts] <;> omega) (by simp only [zq_ev, zq_ts] <;> omega)) (fun j x y z => g 1 (33, []) (32, [(3, 4)]) (by decide) _ _ z (by simp only [zq_ev, zq_ts] <;> omega) (by simp only [zq_ev, zq_ts] <;> omega)) ht
  rcases List.mem_cons.mp hx with rfl | hx
  · exact zn_KA_fx (fun _ _ z => z) (fun j x y z => g 2 (11, []) (10, [(1, 1)]) (by decide) _ _ z (by simp only [zq_ev, zq_ts] <;> omega) (by simp only [zq_ev, zq_ts] <;> omega)) (fun j x y z => g 2 (21, []) (20, [(2, 1)]) (by decide) _ _ z (by simp only [zq_ev, zq_ts] <;> omega) (by simp only [zq_ev, zq_ts] <;> omega)) (fun j x y z => g 2 (27, []) (26, [(2, 1)]) (by decide) _ _ z (by simp only [zq_ev, zq_ts] <;> omega) (by simp only [zq_ev, zq_ts] <;> omega)) (fun j x y z => g 2 (33, []) (32, [(3, 4)]) (by decide) _ _ z (by simp only [zq_ev, zq_ts] <;> omega) (by simp only [zq_ev, zq_ts] <;> omega)) ht
  rcases List.mem_cons.mp hx with rfl | hx
  · exact zn_KA_fx (fun _ _ z => z) (fun j x y z => g 2 (5682, []) (5681, [(1, 1)]) (by decide) _ _ z (by simp only [zq_ev, zq_ts] <;> omega) (by simp only [zq_ev, zq_ts] <;> omega)) (fun j x y z => g 2 (5692, []) (5691, [(2, 1)]) (by decide) _ _ z (by simp only [zq_ev, zq_ts] <;> omega) (by simp only [zq_ev, zq_ts] <;> omega)) (fun j x y z => g 2 (5698, []) (5697, [(2, 1)]) (by decide) _ _ z (by simp only [zq_ev, zq_ts] <;> omega) (by simp only [zq_ev, zq_ts] <;> omega)) (fun j x y z => g 2 (5704, []) (5703, [(3, 4)]) (by decide) _ _ z (by simp only [zq_ev, zq_ts] <;> omega) (by simp only [zq_ev, zq_ts] <;> omega)) ht
  · cases hx
