/-! what the tokens of the class look at -/
noncomputable def zy_FX : zq_FX := [(20, [(97, 0, 400)]), (30, [(44, 0, 16), (45, 0, 16), (46, 0, 16), (47, 0, 16), (36, 0, 5)]), (31, [(59, 0, 16), (60, 0, 16), (61, 0, 16), (62, 0, 16), (51, 0, 5)]), (32, [(74, 0, 16), (75, 0, 16), (76, 0, 16), (77, 0, 16), (66, 0, 5)]), (33, [(89, 0, 16), (90, 0, 16), (91, 0, 16), (92, 0, 16), (81, 0, 5)]), (40, [(44, 0, 15), (59, 0, 15)]), (41, [(45, 0, 15), (60, 0, 15)]), (42, [(46, 0, 15), (61, 0, 15)]), (43, [(47, 0, 15), (62, 0, 15)]), (44, [(36, 0, 5), (51, 0, 5)]), (45, [(42, 0, 2), (57, 0, 2)]), (46, [(59, 0, 15), (44, 0, 15)]), (47, [(60, 0, 15), (45, 0, 15)]), (48, [(61, 0, 15), (46, 0, 15)]), (49, [(62, 0, 15), (47, 0, 15)]), (50, [(51, 0, 5), (36, 0, 5)]), (51, [(57, 0, 2), (42, 0, 2)]), (52, [(74, 0, 15), (44, 0, 15)]), (53, [(75, 0, 15), (45, 0, 15)]), (54, [(76, 0, 15), (46, 0, 15)]), (55, [(77, 0, 15), (47, 0, 15)]), (56, [(66, 0, 5), (36, 0, 5)]), (57, [(72, 0, 2), (42, 0, 2)]), (58, [(89, 0, 15), (44, 0, 15)]), (59, [(90, 0, 15), (45, 0, 15)]), (60, [(91, 0, 15), (46, 0, 15)]), (61, [(92, 0, 15), (47, 0, 15)]), (62, [(81, 0, 5), (36, 0, 5)]), (63, [(87, 0, 2), (42, 0, 2)]), (64, [(44, 0, 15), (74, 0, 15)]), (65, [(45, 0, 15), (75, 0, 15)]), (66, [(46, 0, 15), (76, 0, 15)]), (67, [(47, 0, 15), (77, 0, 15)]), (68, [(36, 0, 5), (66, 0, 5)]), (69, [(42, 0, 2), (72, 0, 2)]), (70, [(44, 0, 15), (89, 0, 15)]), (71, [(45, 0, 15), (90, 0, 15)]), (72, [(46, 0, 15), (91, 0, 15)]), (73, [(47, 0, 15), (92, 0, 15)]), (74, [(36, 0, 5), (81, 0, 5)]), (75, [(42, 0, 2), (87, 0, 2)])]
theorem zy_FXok {w : zq_Wd} {A0 : Nat → Nat} (hX : w.2.2.2.2 = zX A0) : zq_okFX w zy_FX := by
  intro x hx as P P' h h' hP hh ht
  rw [hX] at ht ⊢
  have g : ∀ (k : Nat) (lo hi : Int), (k, lo, hi) ∈ x.2 → ∀ a j, P a = some k → lo ≤ j → j ≤ hi → h' a j = h a j := fun k lo hi hm a j hp h1 h2 => hh a k j hp ⟨_, hm, rfl, h1, h2⟩
  rcases List.mem_cons.mp hx with rfl | hx
  · exact zj_ST_fx hP (fun j x y z => g 97 0 400 (by decide) _ _ z x (by have := ht.2.2.2.1; omega)) ht
  rcases List.mem_cons.mp hx with rfl | hx
  · exact zg_J_fx hP (fun j x y _ z => g 44 0 16 (by decide) _ _ z x (by have := ht.2.2.2.2.2.2.1; omega)) (fun j x y _ z => g 45 0 16 (by decide) _ _ z x (by have := ht.2.2.2.2.2.2.1; omega)) (fun j x y _ z => g 46 0 16 (by decide) _ _ z x (by have := ht.2.2.2.2.2.2.1; omega)) (fun j x y _ z => g 47 0 16 (by decide) _ _ z x (by have := ht.2.2.2.2.2.2.1; omega)) (fun j x y _ _ z => g 36 0 5 (by decide) _ _ z x y) ht
  rcases List.mem_cons.mp hx with rfl | hx
  · exact zg_J_fx hP (fun j x y _ z => g 59 0 16 (by decide) _ _ z x (by have := ht.2.2.2.2.2.2.1; omega)) (fun j x y _ z => g 60 0 16 (by decide) _ _ z x (by have := ht.2.2.2.2.2.2.1; omega)) (fun j x y _ z => g 61 0 16 (by decide) _ _ z x (by have := ht.2.2.2.2.2.2.1; omega)) (fun j x y _ z => g 62 0 16 (by decide) _ _ z x (by have := ht.2.2.2.2.2.2.1; omega)) (fun j x y _ _ z => g 51 0 5 (by decide) _ _ z x y) ht
  rcases List.mem_cons.mp hx with rfl | hx
  · exact zg_J_fx hP (fun j x y _ z => g 74 0 16 (by decide) _ _ z x (by have := ht.2.2.2.2.2.2.1; omega)) (fun j x y _ z => g 75 0 16 (by decide) _ _ z x (by have := ht.2.2.2.2.2.2.1; omega)) (fun j x y _ z => g 76 0 16 (by decide) _ _ z x (by have := ht.2.2.2.2.2.2.1; omega)) (fun j x y _ z => g 77 0 16 (by decide) _ _ z x (by have := ht.2.2.2.2.2.2.1; omega)) (fun j x y _ _ z => g 66 0 5 (by decide) _ _ z x y) ht
  rcases List.mem_cons.mp hx with rfl | hx
  · exact zg_J_fx hP (fun j x y _ z => g 89 0 16 (by decide) _ _ z x (by have := ht.2.2.2.2.2.2.1; omega)) (fun j x y _ z => g 90 0 16 (by decide) _ _ z x (by have := ht.2.2.2.2.2.2.1; omega)) (fun j x y _ z => g 91 0 16 (by decide) _ _ z x (by have := ht.2.2.2.2.2.2.1; omega)) (fun j x y _ z => g 92 0 16 (by decide) _ _ z x (by have := ht.2.2.2.2.2.2.1; omega)) (fun j x y _ _ z => g 81 0 5 (by decide) _ _ z x y) ht
  rcases List.mem_cons.mp hx with rfl | hx
  · exact zj_EN_fx hP (fun j x y z => g 44 0 15 (by decide) _ _ z x (by omega)) (fun j x y z => g 59 0 15 (by decide) _ _ z x (by omega)) ht
  rcases List.mem_cons.mp hx with rfl | hx
  · exact zj_EN_fx hP (fun j x y z => g 45 0 15 (by decide) _ _ z x (by omega)) (fun j x y z => g 60 0 15 (by decide) _ _ z x (by omega)) ht
  rcases List.mem_cons.mp hx with rfl | hx
  · exact zj_EN_fx hP (fun j x y z => g 46 0 15 (by decide) _ _ z x (by omega)) (fun j x y z => g 61 0 15 (by decide) _ _ z x (by omega)) ht
  rcases List.mem_cons.mp hx with rfl | hx
  · exact zj_EN_fx hP (fun j x y z => g 47 0 15 (by decide) _ _ z x (by omega)) (fun j x y z => g 62 0 15 (by decide) _ _ z x (by omega)) ht
  rcases List.mem_cons.mp hx with rfl | hx
  · exact zj_EN_fx hP (fun j x y z => g 36 0 5 (by decide) _ _ z x (by omega)) (fun j x y z => g 51 0 5 (by decide) _ _ z x (by omega)) ht
  rcases List.mem_cons.mp hx with rfl | hx
  · exact zj_EN_fx hP (fun j x y z => g 42 0 2 (by decide) _ _ z x (by omega)) (fun j x y z => g 57 0 2 (by decide) _ _ z x (by omega)) ht
  rcases List.mem_cons.mp hx with rfl | hx
  · exact zj_EN_fx hP (fun j x y z => g 59 0 15 (by decide) _ _ z x (by omega)) (fun j x y z => g 44 0 15 (by decide) _ _ z x (by omega)) ht
  rcases List.mem_cons.mp hx with rfl | hx
  · exact zj_EN_fx hP (fun j x y z => g 60 0 15 (by decide) _ _ z x (by omega)) (fun j x y z => g 45 0 15 (by decide) _ _ z x (by omega)) ht
  rcases List.mem_cons.mp hx with rfl | hx
  · exact zj_EN_fx hP (fun j x y z => g 61 0 15 (by decide) _ _ z x (by omega)) (fun j x y z => g 46 0 15 (by decide) _ _ z x (by omega)) ht
  rcases List.mem_cons.mp hx with rfl | hx
  · exact zj_EN_fx hP (fun j x y z => g 62 0 15 (by decide) _ _ z x (by omega)) (fun j x y z => g 47 0 15 (by decide) _ _ z x (by omega)) ht
  rcases List.mem_cons.mp hx with rfl | hx
  · exact zj_EN_fx hP (fun j x y z => g 51 0 5 (by decide) _ _ z x (by omega)) (fun j x y z => g 36 0 5 (by decide) _ _ z x (by omega)) ht
  rcases List.mem_cons.mp hx with rfl | hx
  · exact zj_EN_fx hP (fun j x y z => g 57 0 2 (by decide) _ _ z x (by omega)) (fun j x y z => g 42 0 2 (by decide) _ _ z x (by omega)) ht
  rcases List.mem_cons.mp hx with rfl | hx
  · exact zj_EN_fx hP (fun j x y z => g 74 0 15 (by decide) _ _ z x (by omega)) (fun j x y z => g 44 0 15 (by decide) _ _ z x (by omega)) ht
  rcases List.mem_cons.mp hx with rfl | hx
  · exact zj_EN_fx hP (fun j x y z => g 75 0 15 (by decide) _ _ z x (by omega)) (fun j x y z => g 45 0 15 (by decide) _ _ z x (by omega)) ht
  rcases List.mem_cons.mp hx with rfl | hx
  · exact zj_EN_fx hP (fun j x y z => g 76 0 15 (by decide) _ _ z x (by omega)) (fun j x y z => g 46 0 15 (by decide) _ _ z x (by omega)) ht
  rcases List.mem_cons.mp hx with rfl | hx
  · exact zj_EN_fx hP (fun j x y z => g 77 0 15 (by decide) _ _ z x (by omega)) (fun j x y z => g 47 0 15 (by decide) _ _ z x (by omega)) ht
  rcases List.mem_cons.mp hx with rfl | hx
  · exact zj_EN_fx hP (fun j x y z => g 66 0 5 (by decide) _ _ z x (by omega)) (fun j x y z => g 36 0 5 (by decide) _ _ z x (by omega)) ht
  rcases List.mem_cons.mp hx with rfl | hx
  · exact zj_EN_fx hP (fun j x y z => g 72 0 2 (by decide) _ _ z x (by omega)) (fun j x y z => g 42 0 2 (by decide) _ _ z x (by omega)) ht
  rcases List.mem_cons.mp hx with rfl | hx
  · exact zj_EN_fx hP (fun j x y z => g 89 0 15 (by decide) _ _ z x (by omega)) (fun j x y z => g 44 0 15 (by decide) _ _ z x (by omega)) ht
  rcases List.mem_cons.mp hx with rfl | hx
  · exact zj_EN_fx hP (fun j x y z => g 90 0 15 (by decide) _ _ z x (by omega)) (fun j x y z => g 45 0 15 (by decide) _ _ z x (by omega)) ht
  rcases List.mem_cons.mp hx with rfl | hx
  · exact zj_EN_fx hP (fun j x y z => g 91 0 15 (by decide) _ _ z x (by omega)) (fun j x y z => g 46 0 15 (by decide) _ _ z x (by omega)) ht
  rcases List.mem_cons.mp hx with rfl | hx
  · exact zj_EN_fx hP (fun j x y z => g 92 0 15 (by decide) _ _ z x (by omega)) (fun j x y z => g 47 0 15 (by decide) _ _ z x (by omega)) ht
  rcases List.mem_cons.mp hx with rfl | hx
  · exact zj_EN_fx hP (fun j x y z => g 81 0 5 (by decide) _ _ z x (by omega)) (fun j x y z => g 36 0 5 (by decide) _ _ z x (by omega)) ht
  rcases List.mem_cons.mp hx with rfl | hx
  · exact zj_EN_fx hP (fun j x y z => g 87 0 2 (by decide) _ _ z x (by omega)) (fun j x y z => g 42 0 2 (by decide) _ _ z x (by omega)) ht
  rcases List.mem_cons.mp hx with rfl | hx
  · exact zj_EN_fx hP (fun j x y z => g 44 0 15 (by decide) _ _ z x (by omega)) (fun j x y z => g 74 0 15 (by decide) _ _ z x (by omega)) ht
  rcases List.mem_cons.mp hx with rfl | hx
  · exact zj_EN_fx hP (fun j x y z => g 45 0 15 (by decide) _ _ z x (by omega)) (fun j x y z => g 75 0 15 (by decide) _ _ z x (by omega)) ht
  rcases List.mem_cons.mp hx with rfl | hx
  · exact zj_EN_fx hP (fun j x y z => g 46 0 15 (by decide) _ _ z x (by omega)) (fun j x y z => g 76 0 15 (by decide) _ _ z x (by omega)) ht
  rcases List.mem_cons.mp hx with rfl | hx
  · exact zj_EN_fx hP (fun j x y z => g 47 0 15 (by decide) _ _ z x (by omega)) (fun j x y z => g 77 0 15 (by decide) _ _ z x (by omega)) ht
  rcases List.mem_cons.mp hx with rfl | hx
  · exact zj_EN_fx hP (fun j x y z => g 36 0 5 (by decide) _ _ z x (by omega)) (fun j x y z => g 66 0 5 (by decide) _ _ z x (by omega)) ht
  rcases List.mem_cons.mp hx with rfl | hx
  · exact zj_EN_fx hP (fun j x y z => g 42 0 2 (by decide) _ _ z x (by omega)) (fun j x y z => g 72 0 2 (by decide) _ _ z x (by omega)) ht
  rcases List.mem_cons.mp hx with rfl | hx
  · exact zj_EN_fx hP (fun j x y z => g 44 0 15 (by decide) _ _ z x (by omega)) (fun j x y z => g 89 0 15 (by decide) _ _ z x (by omega)) ht
  rcases List.mem_cons.mp hx with rfl | hx
  · exact zj_EN_fx hP (fun j x y z => g 45 0 15 (by decide) _ _ z x (by omega)) (fun j x y z => g 90 0 15 (by decide) _ _ z x (by omega)) ht
  rcases List.mem_cons.mp hx with rfl | hx
  · exact zj_EN_fx hP (fun j x y z => g 46 0 15 (by decide) _ _ z x (by omega)) (fun j x y z => g 91 0 15 (by decide) _ _ z x (by omega)) ht
  rcases List.mem_cons.mp hx with rfl | hx
  · exact zj_EN_fx hP (fun j x y z => g 47 0 15 (by decide) _ _ z x (by omega)) (fun j x y z => g 92 0 15 (by decide) _ _ z x (by omega)) ht
  rcases List.mem_cons.mp hx with rfl | hx
  · exact zj_EN_fx hP (fun j x y z => g 36 0 5 (by decide) _ _ z x (by omega)) (fun j x y z => g 81 0 5 (by decide) _ _ z x (by omega)) ht
  rcases List.mem_cons.mp hx with rfl | hx
  · exact zj_EN_fx hP (fun j x y z => g 42 0 2 (by decide) _ _ z x (by omega)) (fun j x y z => g 87 0 2 (by decide) _ _ z x (by omega)) ht
  · cases hx
noncomputable def zy_DX : zq_DXt := [(20, [(97, (0, []), (-1, [(1, 1)]))]), (30, [(44, (0, []), (-1, [(6, 1)])), (44, (1, [(6, 1)]), (0, [(5, 1)])), (45, (0, []), (-1, [(6, 1)])), (45, (1, [(6, 1)]), (0, [(5, 1)])), (46, (0, []), (-1, [(6, 1)])), (46, (1, [(6, 1)]), (0, [(5, 1)])), (47, (0, []), (-1, [(6, 1)])), (47, (1, [(6, 1)]), (0, [(5, 1)])), (36, (0, []), (-1, [(8, 1)])), (36, (1, [(8, 1)]), (-1, [(10, 1)])), (36, (1, [(10, 1)]), (5, []))]), (31, [(59, (0, []), (-1, [(6, 1)])), (59, (1, [(6, 1)]), (0, [(5, 1)])), (60, (0, []), (-1, [(6, 1)])), (60, (1, [(6, 1)]), (0, [(5, 1)])), (61, (0, []), (-1, [(6, 1)])), (61, (1, [(6, 1)]), (0, [(5, 1)])), (62, (0, []), (-1, [(6, 1)])), (62, (1, [(6, 1)]), (0, [(5, 1)])), (51, (0, []), (-1, [(8, 1)])), (51, (1, [(8, 1)]), (-1, [(10, 1)])), (51, (1, [(10, 1)]), (5, []))]), (32, [(74, (0, []), (-1, [(6, 1)])), (74, (1, [(6, 1)]), (0, [(5, 1)])), (75, (0, []), (-1, [(6, 1)])), (75, (1, [(6, 1)]), (0, [(5, 1)])), (76, (0, []), (-1, [(6, 1)])), (76, (1, [(6, 1)]), (0, [(5, 1)])), (77, (0, []), (-1, [(6, 1)])), (77, (1, [(6, 1)]), (0, [(5, 1)])), (66, (0, []), (-1, [(8, 1)])), (66, (1, [(8, 1)]), (-1, [(10, 1)])), (66, (1, [(10, 1)]), (5, []))]), (33, [(89, (0, []), (-1, [(6, 1)])), (89, (1, [(6, 1)]), (0, [(5, 1)])), (90, (0, []), (-1, [(6, 1)])), (90, (1, [(6, 1)]), (0, [(5, 1)])), (91, (0, []), (-1, [(6, 1)])), (91, (1, [(6, 1)]), (0, [(5, 1)])), (92, (0, []), (-1, [(6, 1)])), (92, (1, [(6, 1)]), (0, [(5, 1)])), (81, (0, []), (-1, [(8, 1)])), (81, (1, [(8, 1)]), (-1, [(10, 1)])), (81, (1, [(10, 1)]), (5, []))])]
theorem zy_DXok {w : zq_Wd} {A0 : Nat → Nat} (hX : w.2.2.2.2 = zX A0) : zq_okDX w zy_DX := by
  intro x hx as P h a k j v hP hh ht
  rw [hX] at ht ⊢
  have g : ∀ (kk : Nat) (lo hi : zq_L), (kk, lo, hi) ∈ x.2 → ∀ b i, P b = some kk → zq_ev (zq_en as) lo ≤ i → i ≤ zq_ev (zq_en as) hi → zq_wr h a j v b i = h b i := by
    intro kk lo hi hm b i hb h1 h2
    refine zq_wr_ne ?_
    rintro ⟨rfl, rfl⟩
    have e : k = kk := Option.some.inj (hP.symm.trans hb)
    have := hh _ hm e.symm
    simp only at this
    omega
  rcases List.mem_cons.mp hx with rfl | hx
  · exact zj_ST_fx (fun _ _ z => z) (fun j x y z => g 97 (0, []) (-1, [(1, 1)]) (by decide) _ _ z (by simp [zq_ev, zq_ts]; omega) (by simp [zq_ev, zq_ts]; omega)) ht
  rcases List.mem_cons.mp hx with rfl | hx
  · exact zg_J_fx (fun _ _ z => z) (fun j x y n z => by
      rcases Int.lt_or_gt_of_ne n with c | c
      · exact g 44 (0, []) (-1, [(6, 1)]) (by decide) _ _ z (by simp [zq_ev, zq_ts]; omega) (by simp [zq_ev, zq_ts]; omega)
      · exact g 44 (1, [(6, 1)]) (0, [(5, 1)]) (by decide) _ _ z (by simp [zq_ev, zq_ts]; omega) (by simp [zq_ev, zq_ts]; omega)) (fun j x y n z => by
      rcases Int.lt_or_gt_of_ne n with c | c
      · exact g 45 (0, []) (-1, [(6, 1)]) (by decide) _ _ z (by simp [zq_ev, zq_ts]; omega) (by simp [zq_ev, zq_ts]; omega)
      · exact g 45 (1, [(6, 1)]) (0, [(5, 1)]) (by decide) _ _ z (by simp [zq_ev, zq_ts]; omega) (by simp [zq_ev, zq_ts]; omega)) (fun j x y n z => by
      rcases Int.lt_or_gt_of_ne n with c | c
      · exact g 46 (0, []) (-1, [(6, 1)]) (by decide) _ _ z (by simp [zq_ev, zq_ts]; omega) (by simp [zq_ev, zq_ts]; omega)
      · exact g 46 (1, [(6, 1)]) (0, [(5, 1)]) (by decide) _ _ z (by simp [zq_ev, zq_ts]; omega) (by simp [zq_ev, zq_ts]; omega)) (fun j x y n z => by
      rcases Int.lt_or_gt_of_ne n with c | c
      · exact g 47 (0, []) (-1, [(6, 1)]) (by decide) _ _ z (by simp [zq_ev, zq_ts]; omega) (by simp [zq_ev, zq_ts]; omega)
      · exact g 47 (1, [(6, 1)]) (0, [(5, 1)]) (by decide) _ _ z (by simp [zq_ev, zq_ts]; omega) (by simp [zq_ev, zq_ts]; omega)) (fun j x y n n2 z => by
      have lt := ht.2.2.2.2.2.2.2.2.2.1
      rcases Int.lt_or_gt_of_ne n with c | c
      · exact g 36 (0, []) (-1, [(8, 1)]) (by decide) _ _ z (by simp [zq_ev, zq_ts]; omega) (by simp [zq_ev, zq_ts]; omega)
      · rcases Int.lt_or_gt_of_ne n2 with c2 | c2
        · exact g 36 (1, [(8, 1)]) (-1, [(10, 1)]) (by decide) _ _ z (by simp [zq_ev, zq_ts]; omega) (by simp [zq_ev, zq_ts]; omega)
        · exact g 36 (1, [(10, 1)]) (5, []) (by decide) _ _ z (by simp [zq_ev, zq_ts]; omega) (by simp [zq_ev, zq_ts]; omega)) ht
  rcases List.mem_cons.mp hx with rfl | hx
  · exact zg_J_fx (fun _ _ z => z) (fun j x y n z => by
      rcases Int.lt_or_gt_of_ne n with c | c
      · exact g 59 (0, []) (-1, [(6, 1)]) (by decide) _ _ z (by simp [zq_ev, zq_ts]; omega) (by simp [zq_ev, zq_ts]; omega)
      · exact g 59 (1, [(6, 1)]) (0, [(5, 1)]) (by decide) _ _ z (by simp [zq_ev, zq_ts]; omega) (by simp [zq_ev, zq_ts]; omega)) (fun j x y n z => by
      rcases Int.lt_or_gt_of_ne n with c | c
      · exact g 60 (0, []) (-1, [(6, 1)]) (by decide) _ _ z (by simp [zq_ev, zq_ts]; omega) (by simp [zq_ev, zq_ts]; omega)
      · exact g 60 (1, [(6, 1)]) (0, [(5, 1)]) (by decide) _ _ z (by simp [zq_ev, zq_ts]; omega) (by simp [zq_ev, zq_ts]; omega)) (fun j x y n z => by
      rcases Int.lt_or_gt_of_ne n with c | c
      · exact g 61 (0, []) (-1, [(6, 1)]) (by decide) _ _ z (by simp [zq_ev, zq_ts]; omega) (by simp [zq_ev, zq_ts]; omega)
      · exact g 61 (1, [(6, 1)]) (0, [(5, 1)]) (by decide) _ _ z (by simp [zq_ev, zq_ts]; omega) (by simp [zq_ev, zq_ts]; omega)) (fun j x y n z => by
      rcases Int.lt_or_gt_of_ne n with c | c
      · exact g 62 (0, []) (-1, [(6, 1)]) (by decide) _ _ z (by simp [zq_ev, zq_ts]; omega) (by simp [zq_ev, zq_ts]; omega)
      · exact g 62 (1, [(6, 1)]) (0, [(5, 1)]) (by decide) _ _ z (by simp [zq_ev, zq_ts]; omega) (by simp [zq_ev, zq_ts]; omega)) (fun j x y n n2 z => by
      have lt := ht.2.2.2.2.2.2.2.2.2.1
      rcases Int.lt_or_gt_of_ne n with c | c
      · exact g 51 (0, []) (-1, [(8, 1)]) (by decide) _ _ z (by simp [zq_ev, zq_ts]; omega) (by simp [zq_ev, zq_ts]; omega)
      · rcases Int.lt_or_gt_of_ne n2 with c2 | c2
        · exact g 51 (1, [(8, 1)]) (-1, [(10, 1)]) (by decide) _ _ z (by simp [zq_ev, zq_ts]; omega) (by simp [zq_ev, zq_ts]; omega)
        · exact g 51 (1, [(10, 1)]) (5, []) (by decide) _ _ z (by simp [zq_ev, zq_ts]; omega) (by simp [zq_ev, zq_ts]; omega)) ht
  rcases List.mem_cons.mp hx with rfl | hx
  · exact zg_J_fx (fun _ _ z => z) (fun j x y n z => by
      rcases Int.lt_or_gt_of_ne n with c | c
      · exact g 74 (0, []) (-1, [(6, 1)]) (by decide) _ _ z (by simp [zq_ev, zq_ts]; omega) (by simp [zq_ev, zq_ts]; omega)
      · exact g 74 (1, [(6, 1)]) (0, [(5, 1)]) (by decide) _ _ z (by simp [zq_ev, zq_ts]; omega) (by simp [zq_ev, zq_ts]; omega)) (fun j x y n z => by
      rcases Int.lt_or_gt_of_ne n with c | c
      · exact g 75 (0, []) (-1, [(6, 1)]) (by decide) _ _ z (by simp [zq_ev, zq_ts]; omega) (by simp [zq_ev, zq_ts]; omega)
      · exact g 75 (1, [(6, 1)]) (0, [(5, 1)]) (by decide) _ _ z (by simp [zq_ev, zq_ts]; omega) (by simp [zq_ev, zq_ts]; omega)) (fun j x y n z => by
      rcases Int.lt_or_gt_of_ne n with c | c
      · exact g 76 (0, []) (-1, [(6, 1)]) (by decide) _ _ z (by simp [zq_ev, zq_ts]; omega) (by simp [zq_ev, zq_ts]; omega)
      · exact g 76 (1, [(6, 1)]) (0, [(5, 1)]) (by decide) _ _ z (by simp [zq_ev, zq_ts]; omega) (by simp [zq_ev, zq_ts]; omega)) (fun j x y n z => by
      rcases Int.lt_or_gt_of_ne n with c | c
      · exact g 77 (0, []) (-1, [(6, 1)]) (by decide) _ _ z (by simp [zq_ev, zq_ts]; omega) (by simp [zq_ev, zq_ts]; omega)
      · exact g 77 (1, [(6, 1)]) (0, [(5, 1)]) (by decide) _ _ z (by simp [zq_ev, zq_ts]; omega) (by simp [zq_ev, zq_ts]; omega)) (fun j x y n n2 z => by
      have lt := ht.2.2.2.2.2.2.2.2.2.1
      rcases Int.lt_or_gt_of_ne n with c | c
      · exact g 66 (0, []) (-1, [(8, 1)]) (by decide) _ _ z (by simp [zq_ev, zq_ts]; omega) (by simp [zq_ev, zq_ts]; omega)
      · rcases Int.lt_or_gt_of_ne n2 with c2 | c2
        · exact g 66 (1, [(8, 1)]) (-1, [(10, 1)]) (by decide) _ _ z (by simp [zq_ev, zq_ts]; omega) (by simp [zq_ev, zq_ts]; omega)
        · exact g 66 (1, [(10, 1)]) (5, []) (by decide) _ _ z (by simp [zq_ev, zq_ts]; omega) (by simp [zq_ev, zq_ts]; omega)) ht
  rcases List.mem_cons.mp hx with rfl | hx
  · exact zg_J_fx (fun _ _ z => z) (fun j x y n z => by
      rcases Int.lt_or_gt_of_ne n with c | c
      · exact g 89 (0, []) (-1, [(6, 1)]) (by decide) _ _ z (by simp [zq_ev, zq_ts]; omega) (by simp [zq_ev, zq_ts]; omega)
      · exact g 89 (1, [(6, 1)]) (0, [(5, 1)]) (by decide) _ _ z (by simp [zq_ev, zq_ts]; omega) (by simp [zq_ev, zq_ts]; omega)) (fun j x y n z => by
      rcases Int.lt_or_gt_of_ne n with c | c
      · exact g 90 (0, []) (-1, [(6, 1)]) (by decide) _ _ z (by simp [zq_ev, zq_ts]; omega) (by simp [zq_ev, zq_ts]; omega)
      · exact g 90 (1, [(6, 1)]) (0, [(5, 1)]) (by decide) _ _ z (by simp [zq_ev, zq_ts]; omega) (by simp [zq_ev, zq_ts]; omega)) (fun j x y n z => by
      rcases Int.lt_or_gt_of_ne n with c | c
      · exact g 91 (0, []) (-1, [(6, 1)]) (by decide) _ _ z (by simp [zq_ev, zq_ts]; omega) (by simp [zq_ev, zq_ts]; omega)
      · exact g 91 (1, [(6, 1)]) (0, [(5, 1)]) (by decide) _ _ z (by simp [zq_ev, zq_ts]; omega) (by simp [zq_ev, zq_ts]; omega)) (fun j x y n z => by
      rcases Int.lt_or_gt_of_ne n with c | c
      · exact g 92 (0, []) (-1, [(6, 1)]) (by decide) _ _ z (by simp [zq_ev, zq_ts]; omega) (by simp [zq_ev, zq_ts]; omega)
      · exact g 92 (1, [(6, 1)]) (0, [(5, 1)]) (by decide) _ _ z (by simp [zq_ev, zq_ts]; omega) (by simp [zq_ev, zq_ts]; omega)) (fun j x y n n2 z => by
      have lt := ht.2.2.2.2.2.2.2.2.2.1
      rcases Int.lt_or_gt_of_ne n with c | c
      · exact g 81 (0, []) (-1, [(8, 1)]) (by decide) _ _ z (by simp [zq_ev, zq_ts]; omega) (by simp [zq_ev, zq_ts]; omega)
      · rcases Int.lt_or_gt_of_ne n2 with c2 | c2
        · exact g 81 (1, [(8, 1)]) (-1, [(10, 1)]) (by decide) _ _ z (by simp [zq_ev, zq_ts]; omega) (by simp [zq_ev, zq_ts]; omega)
        · exact g 81 (1, [(10, 1)]) (5, []) (by decide) _ _ z (by simp [zq_ev, zq_ts]; omega) (by simp [zq_ev, zq_ts]; omega)) ht
  · cases hx
theorem zq_okFX.app {w : zq_Wd} {A B : zq_FX} (h1 : zq_okFX w A) (h2 : zq_okFX w B) : zq_okFX w (A ++ B) := fun x hx => (List.mem_append.mp hx).elim (h1 x) (h2 x)
theorem zq_okDX.app {w : zq_Wd} {A B : zq_DXt} (h1 : zq_okDX w A) (h2 : zq_okDX w B) : zq_okDX w (A ++ B) := fun x hx => (List.mem_append.mp hx).elim (h1 x) (h2 x)
