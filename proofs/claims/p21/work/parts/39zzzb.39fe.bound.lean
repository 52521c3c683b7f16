/-! LAWS KEPT behind a bound: facts -/
noncomputable def zt_b3 : zq_S × List zq_S := (([], [], [], [], [], [], [(307, [(0, [(0, 1)]), (0, [(1, 1)]), (0, [(2, 1)])]), (309, [(0, [(3, 1)]), (0, [(4, 1)]), (0, [(5, 1)])]), (310, [(0, [(6, 1)]), (0, [(7, 1)]), (0, [(8, 1)])])], 9), [([], [], [], [], [], [], [(362, [(0, [(9, 1)])]), (364, [(0, [(0, 1)]), (0, [(1, 1)]), (0, [(2, 1)]), (0, [(9, 1)])]), (366, [(0, [(3, 1)]), (0, [(4, 1)]), (0, [(5, 1)]), (0, [(9, 1)])]), (367, [(0, [(6, 1)]), (0, [(7, 1)]), (0, [(8, 1)]), (0, [(9, 1)])])], 10)])
theorem zt_b3_l {P : zq_Ty} {h : zq_H} {a N T c L U d K V : Int} (k1 : zt_LT 35 a N T P h) (k2 : zt_LT 65 c L U P h) (k3 : zt_LT 80 d K V P h) : (∃ b : Int, zt_LB b P h ∧ zt_LTB 35 a N T b P h ∧ zt_LTB 65 c L U b P h ∧ zt_LTB 80 d K V b P h) := by
  exact zt_LTB_3 k1 k2 k3
theorem zt_b3_ok {w : zq_Wd} (x_LT0 : zj_is w 307 (fun q => zt_LT 35 (q 0) (q 1) (q 2))) (x_LT2 : zj_is w 309 (fun q => zt_LT 65 (q 0) (q 1) (q 2))) (x_LT3 : zj_is w 310 (fun q => zt_LT 80 (q 0) (q 1) (q 2))) (x_LB : zj_is w 362 (fun q => zt_LB (q 0))) (x_LTB0 : zj_is w 364 (fun q => zt_LTB 35 (q 0) (q 1) (q 2) (q 3))) (x_LTB2 : zj_is w 366 (fun q => zt_LTB 65 (q 0) (q 1) (q 2) (q 3))) (x_LTB3 : zj_is w 367 (fun q => zt_LTB 80 (q 0) (q 1) (q 2) (q 3))) : zq_okG1 w zt_b3 := by
  refine ⟨rfl, rfl, zu_fac ⟨rfl, by decide⟩ zq_fan, ?_⟩
  intro r P h H hM
  have q0 : zq_ev r (0, [(0, 1)]) = r 0 := zu_e1 _ _
  have q1 : zq_ev r (0, [(1, 1)]) = r 1 := zu_e1 _ _
  have q2 : zq_ev r (0, [(2, 1)]) = r 2 := zu_e1 _ _
  have q3 : zq_ev r (0, [(3, 1)]) = r 3 := zu_e1 _ _
  have q4 : zq_ev r (0, [(4, 1)]) = r 4 := zu_e1 _ _
  have q5 : zq_ev r (0, [(5, 1)]) = r 5 := zu_e1 _ _
  have q6 : zq_ev r (0, [(6, 1)]) = r 6 := zu_e1 _ _
  have q7 : zq_ev r (0, [(7, 1)]) = r 7 := zu_e1 _ _
  have q8 : zq_ev r (0, [(8, 1)]) = r 8 := zu_e1 _ _
  obtain ⟨hT, hC, hF, hS, -, hK⟩ := hM
  have c := hC.1
  have k1 := zj_use x_LT0 (hK)
  have k1 : zt_LT 35 (zq_ev r (0, [(0, 1)])) (zq_ev r (0, [(1, 1)])) (zq_ev r (0, [(2, 1)])) P h := k1
  simp only [q0, q1, q2] at k1
  have k2 := zj_use x_LT2 (zq_okX_t (hK))
  have k2 : zt_LT 65 (zq_ev r (0, [(3, 1)])) (zq_ev r (0, [(4, 1)])) (zq_ev r (0, [(5, 1)])) P h := k2
  simp only [q3, q4, q5] at k2
  have k3 := zj_use x_LT3 (zq_okX_t (zq_okX_t (hK)))
  have k3 : zt_LT 80 (zq_ev r (0, [(6, 1)])) (zq_ev r (0, [(7, 1)])) (zq_ev r (0, [(8, 1)])) P h := k3
  simp only [q6, q7, q8] at k3
  obtain ⟨y_0, t1, t2, t3, t4⟩ := zt_b3_l (P := P) (h := h) (a := r 0) (N := r 1) (T := r 2) (c := r 3) (L := r 4) (U := r 5) (d := r 6) (K := r 7) (V := r 8) k1 k2 k3
  obtain ⟨rq, hr, w9⟩ : ∃ rq : Nat → Int, (∀ i, i < 9 → rq i = r i) ∧ rq 9 = y_0 := ⟨zq_up r 9 y_0, fun i hi => by rw [zu_up_ne (by omega)], rfl⟩
  have v0 : rq 0 = r 0 := hr 0 (by decide)
  have v1 : rq 1 = r 1 := hr 1 (by decide)
  have v2 : rq 2 = r 2 := hr 2 (by decide)
  have v3 : rq 3 = r 3 := hr 3 (by decide)
  have v4 : rq 4 = r 4 := hr 4 (by decide)
  have v5 : rq 5 = r 5 := hr 5 (by decide)
  have v6 : rq 6 = r 6 := hr 6 (by decide)
  have v7 : rq 7 = r 7 := hr 7 (by decide)
  have v8 : rq 8 = r 8 := hr 8 (by decide)
  have g0 : zq_ev rq (0, [(6, 1)]) = r 6 := zu_f1 v6
  have g1 : zq_ev rq (0, [(7, 1)]) = r 7 := zu_f1 v7
  have g2 : zq_ev rq (0, [(8, 1)]) = r 8 := zu_f1 v8
  have g3 : zq_ev rq (0, [(9, 1)]) = y_0 := zu_f1 w9
  have g4 : zq_ev rq (0, [(3, 1)]) = r 3 := zu_f1 v3
  have g5 : zq_ev rq (0, [(4, 1)]) = r 4 := zu_f1 v4
  have g6 : zq_ev rq (0, [(5, 1)]) = r 5 := zu_f1 v5
  have g7 : zq_ev rq (0, [(0, 1)]) = r 0 := zu_f1 v0
  have g8 : zq_ev rq (0, [(1, 1)]) = r 1 := zu_f1 v1
  have g9 : zq_ev rq (0, [(2, 1)]) = r 2 := zu_f1 v2
  exact ⟨_, List.mem_cons_self .., rq, hr, zq_MeS_mk rfl hT (zq_all_nil) zq_fan (zq_fan) rfl (zu_fac ((x_LB _ _ _).mpr (by show zt_LB (zq_ev rq (0, [(9, 1)])) P h; simp only [g3]; exact t1)) (zu_fac ((x_LTB0 _ _ _).mpr (by show zt_LTB 35 (zq_ev rq (0, [(0, 1)])) (zq_ev rq (0, [(1, 1)])) (zq_ev rq (0, [(2, 1)])) (zq_ev rq (0, [(9, 1)])) P h; simp only [g3, g7, g8, g9]; exact t2)) (zu_fac ((x_LTB2 _ _ _).mpr (by show zt_LTB 65 (zq_ev rq (0, [(3, 1)])) (zq_ev rq (0, [(4, 1)])) (zq_ev rq (0, [(5, 1)])) (zq_ev rq (0, [(9, 1)])) P h; simp only [g3, g4, g5, g6]; exact t3)) (zu_fac ((x_LTB3 _ _ _).mpr (by show zt_LTB 80 (zq_ev rq (0, [(6, 1)])) (zq_ev rq (0, [(7, 1)])) (zq_ev rq (0, [(8, 1)])) (zq_ev rq (0, [(9, 1)])) P h; simp only [g0, g1, g2, g3]; exact t4)) zq_fan))))⟩
noncomputable def zt_b90 : zq_S × List zq_S := (([], [], [], [], [], [], [(364, [(0, [(0, 1)]), (0, [(1, 1)]), (0, [(2, 1)]), (0, [(3, 1)])])], 4), [([], [], [], [], [], [], [(307, [(0, [(0, 1)]), (0, [(1, 1)]), (0, [(2, 1)])])], 4)])
theorem zt_b90_l {P : zq_Ty} {h : zq_H} {a N T b : Int} (k1 : zt_LTB 35 a N T b P h) : (zt_LT 35 a N T P h) := by
  exact k1.1
theorem zt_b90_ok {w : zq_Wd} (x_LTB0 : zj_is w 364 (fun q => zt_LTB 35 (q 0) (q 1) (q 2) (q 3))) (x_LT0 : zj_is w 307 (fun q => zt_LT 35 (q 0) (q 1) (q 2))) : zq_okG1 w zt_b90 := by
  refine ⟨rfl, rfl, zu_fac ⟨rfl, by decide⟩ zq_fan, ?_⟩
  intro r P h H hM
  have q0 : zq_ev r (0, [(0, 1)]) = r 0 := zu_e1 _ _
  have q1 : zq_ev r (0, [(1, 1)]) = r 1 := zu_e1 _ _
  have q2 : zq_ev r (0, [(2, 1)]) = r 2 := zu_e1 _ _
  have q3 : zq_ev r (0, [(3, 1)]) = r 3 := zu_e1 _ _
  obtain ⟨hT, hC, hF, hS, -, hK⟩ := hM
  have c := hC.1
  have k1 := zj_use x_LTB0 (hK)
  have k1 : zt_LTB 35 (zq_ev r (0, [(0, 1)])) (zq_ev r (0, [(1, 1)])) (zq_ev r (0, [(2, 1)])) (zq_ev r (0, [(3, 1)])) P h := k1
  simp only [q0, q1, q2, q3] at k1
  obtain t1 := zt_b90_l (P := P) (h := h) (a := r 0) (N := r 1) (T := r 2) (b := r 3) k1
  obtain ⟨rq, hr⟩ : ∃ rq : Nat → Int, (∀ i, i < 4 → rq i = r i) := ⟨r, fun i hi => rfl⟩
  have v0 : rq 0 = r 0 := hr 0 (by decide)
  have v1 : rq 1 = r 1 := hr 1 (by decide)
  have v2 : rq 2 = r 2 := hr 2 (by decide)
  have g0 : zq_ev rq (0, [(0, 1)]) = r 0 := zu_f1 v0
  have g1 : zq_ev rq (0, [(1, 1)]) = r 1 := zu_f1 v1
  have g2 : zq_ev rq (0, [(2, 1)]) = r 2 := zu_f1 v2
  exact ⟨_, List.mem_cons_self .., rq, hr, zq_MeS_mk rfl hT (zq_all_nil) zq_fan (zq_fan) rfl (zu_fac ((x_LT0 _ _ _).mpr (by show zt_LT 35 (zq_ev rq (0, [(0, 1)])) (zq_ev rq (0, [(1, 1)])) (zq_ev rq (0, [(2, 1)])) P h; simp only [g0, g1, g2]; exact t1)) zq_fan)⟩
noncomputable def zt_b92 : zq_S × List zq_S := (([], [], [], [], [], [], [(366, [(0, [(0, 1)]), (0, [(1, 1)]), (0, [(2, 1)]), (0, [(3, 1)])])], 4), [([], [], [], [], [], [], [(309, [(0, [(0, 1)]), (0, [(1, 1)]), (0, [(2, 1)])])], 4)])
theorem zt_b92_l {P : zq_Ty} {h : zq_H} {a N T b : Int} (k1 : zt_LTB 65 a N T b P h) : (zt_LT 65 a N T P h) := by
  exact k1.1
theorem zt_b92_ok {w : zq_Wd} (x_LTB2 : zj_is w 366 (fun q => zt_LTB 65 (q 0) (q 1) (q 2) (q 3))) (x_LT2 : zj_is w 309 (fun q => zt_LT 65 (q 0) (q 1) (q 2))) : zq_okG1 w zt_b92 := by
  refine ⟨rfl, rfl, zu_fac ⟨rfl, by decide⟩ zq_fan, ?_⟩
  intro r P h H hM
  have q0 : zq_ev r (0, [(0, 1)]) = r 0 := zu_e1 _ _
  have q1 : zq_ev r (0, [(1, 1)]) = r 1 := zu_e1 _ _
  have q2 : zq_ev r (0, [(2, 1)]) = r 2 := zu_e1 _ _
  have q3 : zq_ev r (0, [(3, 1)]) = r 3 := zu_e1 _ _
  obtain ⟨hT, hC, hF, hS, -, hK⟩ := hM
  have c := hC.1
  have k1 := zj_use x_LTB2 (hK)
  have k1 : zt_LTB 65 (zq_ev r (0, [(0, 1)])) (zq_ev r (0, [(1, 1)])) (zq_ev r (0, [(2, 1)])) (zq_ev r (0, [(3, 1)])) P h := k1
  simp only [q0, q1, q2, q3] at k1
  obtain t1 := zt_b92_l (P := P) (h := h) (a := r 0) (N := r 1) (T := r 2) (b := r 3) k1
  obtain ⟨rq, hr⟩ : ∃ rq : Nat → Int, (∀ i, i < 4 → rq i = r i) := ⟨r, fun i hi => rfl⟩
  have v0 : rq 0 = r 0 := hr 0 (by decide)
  have v1 : rq 1 = r 1 := hr 1 (by decide)
  have v2 : rq 2 = r 2 := hr 2 (by decide)
  have g0 : zq_ev rq (0, [(0, 1)]) = r 0 := zu_f1 v0
  have g1 : zq_ev rq (0, [(1, 1)]) = r 1 := zu_f1 v1
  have g2 : zq_ev rq (0, [(2, 1)]) = r 2 := zu_f1 v2
  exact ⟨_, List.mem_cons_self .., rq, hr, zq_MeS_mk rfl hT (zq_all_nil) zq_fan (zq_fan) rfl (zu_fac ((x_LT2 _ _ _).mpr (by show zt_LT 65 (zq_ev rq (0, [(0, 1)])) (zq_ev rq (0, [(1, 1)])) (zq_ev rq (0, [(2, 1)])) P h; simp only [g0, g1, g2]; exact t1)) zq_fan)⟩
noncomputable def zt_b93 : zq_S × List zq_S := (([], [], [], [], [], [], [(367, [(0, [(0, 1)]), (0, [(1, 1)]), (0, [(2, 1)]), (0, [(3, 1)])])], 4), [([], [], [], [], [], [], [(310, [(0, [(0, 1)]), (0, [(1, 1)]), (0, [(2, 1)])])], 4)])
theorem zt_b93_l {P : zq_Ty} {h : zq_H} {a N T b : Int} (k1 : zt_LTB 80 a N T b P h) : (zt_LT 80 a N T P h) := by
  exact k1.1
theorem zt_b93_ok {w : zq_Wd} (x_LTB3 : zj_is w 367 (fun q => zt_LTB 80 (q 0) (q 1) (q 2) (q 3))) (x_LT3 : zj_is w 310 (fun q => zt_LT 80 (q 0) (q 1) (q 2))) : zq_okG1 w zt_b93 := by
  refine ⟨rfl, rfl, zu_fac ⟨rfl, by decide⟩ zq_fan, ?_⟩
  intro r P h H hM
  have q0 : zq_ev r (0, [(0, 1)]) = r 0 := zu_e1 _ _
  have q1 : zq_ev r (0, [(1, 1)]) = r 1 := zu_e1 _ _
  have q2 : zq_ev r (0, [(2, 1)]) = r 2 := zu_e1 _ _
  have q3 : zq_ev r (0, [(3, 1)]) = r 3 := zu_e1 _ _
  obtain ⟨hT, hC, hF, hS, -, hK⟩ := hM
  have c := hC.1
  have k1 := zj_use x_LTB3 (hK)
  have k1 : zt_LTB 80 (zq_ev r (0, [(0, 1)])) (zq_ev r (0, [(1, 1)])) (zq_ev r (0, [(2, 1)])) (zq_ev r (0, [(3, 1)])) P h := k1
  simp only [q0, q1, q2, q3] at k1
  obtain t1 := zt_b93_l (P := P) (h := h) (a := r 0) (N := r 1) (T := r 2) (b := r 3) k1
  obtain ⟨rq, hr⟩ : ∃ rq : Nat → Int, (∀ i, i < 4 → rq i = r i) := ⟨r, fun i hi => rfl⟩
  have v0 : rq 0 = r 0 := hr 0 (by decide)
  have v1 : rq 1 = r 1 := hr 1 (by decide)
  have v2 : rq 2 = r 2 := hr 2 (by decide)
  have g0 : zq_ev rq (0, [(0, 1)]) = r 0 := zu_f1 v0
  have g1 : zq_ev rq (0, [(1, 1)]) = r 1 := zu_f1 v1
  have g2 : zq_ev rq (0, [(2, 1)]) = r 2 := zu_f1 v2
  exact ⟨_, List.mem_cons_self .., rq, hr, zq_MeS_mk rfl hT (zq_all_nil) zq_fan (zq_fan) rfl (zu_fac ((x_LT3 _ _ _).mpr (by show zt_LT 80 (zq_ev rq (0, [(0, 1)])) (zq_ev rq (0, [(1, 1)])) (zq_ev rq (0, [(2, 1)])) P h; simp only [g0, g1, g2]; exact t1)) zq_fan)⟩
noncomputable def zt_gbc : zq_S × List zq_S := (([], [], [], [], [], [], [(21, [(0, [(0, 1)]), (0, [(1, 1)]), (0, [(2, 1)])])], 3), [([], [], [], [], [], [], [(363, [(0, [(2, 1)]), (0, [(1, 1)])])], 3)])
theorem zt_gbc_l {P : zq_Ty} {h : zq_H} {a n g : Int} (k1 : zu_TCc a n g P h) : (zt_GB g n P h) := by
  exact zt_GB_of (k := 95) (a := a) (P := P) (h := h) k1
theorem zt_gbc_ok {w : zq_Wd} (x_TCc : zj_is w 21 (fun q => zu_TCc (q 0) (q 1) (q 2))) (x_GB : zj_is w 363 (fun q => zt_GB (q 0) (q 1))) : zq_okG1 w zt_gbc := by
  refine ⟨rfl, rfl, zu_fac ⟨rfl, by decide⟩ zq_fan, ?_⟩
  intro r P h H hM
  have q0 : zq_ev r (0, [(0, 1)]) = r 0 := zu_e1 _ _
  have q1 : zq_ev r (0, [(1, 1)]) = r 1 := zu_e1 _ _
  have q2 : zq_ev r (0, [(2, 1)]) = r 2 := zu_e1 _ _
  obtain ⟨hT, hC, hF, hS, -, hK⟩ := hM
  have c := hC.1
  have k1 := zj_use x_TCc (hK)
  have k1 : zu_TCc (zq_ev r (0, [(0, 1)])) (zq_ev r (0, [(1, 1)])) (zq_ev r (0, [(2, 1)])) P h := k1
  simp only [q0, q1, q2] at k1
  obtain t1 := zt_gbc_l (P := P) (h := h) (a := r 0) (n := r 1) (g := r 2) k1
  obtain ⟨rq, hr⟩ : ∃ rq : Nat → Int, (∀ i, i < 3 → rq i = r i) := ⟨r, fun i hi => rfl⟩
  have v1 : rq 1 = r 1 := hr 1 (by decide)
  have v2 : rq 2 = r 2 := hr 2 (by decide)
  have g0 : zq_ev rq (0, [(2, 1)]) = r 2 := zu_f1 v2
  have g1 : zq_ev rq (0, [(1, 1)]) = r 1 := zu_f1 v1
  exact ⟨_, List.mem_cons_self .., rq, hr, zq_MeS_mk rfl hT (zq_all_nil) zq_fan (zq_fan) rfl (zu_fac ((x_GB _ _ _).mpr (by show zt_GB (zq_ev rq (0, [(2, 1)])) (zq_ev rq (0, [(1, 1)])) P h; simp only [g0, g1]; exact t1)) zq_fan)⟩
noncomputable def zt_gbr : zq_S × List zq_S := (([], [], [], [], [], [], [(22, [(0, [(0, 1)]), (0, [(1, 1)]), (0, [(2, 1)])])], 3), [([], [], [], [], [], [], [(363, [(0, [(2, 1)]), (0, [(1, 1)])])], 3)])
theorem zt_gbr_l {P : zq_Ty} {h : zq_H} {a n g : Int} (k1 : zu_TCr a n g P h) : (zt_GB g n P h) := by
  exact zt_GB_of (k := 6) (a := a) (P := P) (h := h) k1
theorem zt_gbr_ok {w : zq_Wd} (x_TCr : zj_is w 22 (fun q => zu_TCr (q 0) (q 1) (q 2))) (x_GB : zj_is w 363 (fun q => zt_GB (q 0) (q 1))) : zq_okG1 w zt_gbr := by
  refine ⟨rfl, rfl, zu_fac ⟨rfl, by decide⟩ zq_fan, ?_⟩
  intro r P h H hM
  have q0 : zq_ev r (0, [(0, 1)]) = r 0 := zu_e1 _ _
  have q1 : zq_ev r (0, [(1, 1)]) = r 1 := zu_e1 _ _
  have q2 : zq_ev r (0, [(2, 1)]) = r 2 := zu_e1 _ _
  obtain ⟨hT, hC, hF, hS, -, hK⟩ := hM
  have c := hC.1
  have k1 := zj_use x_TCr (hK)
  have k1 : zu_TCr (zq_ev r (0, [(0, 1)])) (zq_ev r (0, [(1, 1)])) (zq_ev r (0, [(2, 1)])) P h := k1
  simp only [q0, q1, q2] at k1
  obtain t1 := zt_gbr_l (P := P) (h := h) (a := r 0) (n := r 1) (g := r 2) k1
  obtain ⟨rq, hr⟩ : ∃ rq : Nat → Int, (∀ i, i < 3 → rq i = r i) := ⟨r, fun i hi => rfl⟩
  have v1 : rq 1 = r 1 := hr 1 (by decide)
  have v2 : rq 2 = r 2 := hr 2 (by decide)
  have g0 : zq_ev rq (0, [(2, 1)]) = r 2 := zu_f1 v2
  have g1 : zq_ev rq (0, [(1, 1)]) = r 1 := zu_f1 v1
  exact ⟨_, List.mem_cons_self .., rq, hr, zq_MeS_mk rfl hT (zq_all_nil) zq_fan (zq_fan) rfl (zu_fac ((x_GB _ _ _).mpr (by show zt_GB (zq_ev rq (0, [(2, 1)])) (zq_ev rq (0, [(1, 1)])) P h; simp only [g0, g1]; exact t1)) zq_fan)⟩
noncomputable def zt_lo : zq_S × List zq_S := (([], [], [(0, [(0, 1)])], [((0, [(0, 1)]), 29)], [((0, [(0, 1)]), (0, []), (0, [(7, 1)])), ((0, [(0, 1)]), (1, []), (0, [(8, 1)])), ((0, [(0, 1)]), (2, []), (0, [(9, 1)])), ((0, [(0, 1)]), (3, []), (0, [(10, 1)])), ((0, [(0, 1)]), (4, []), (0, [(11, 1)])), ((0, [(0, 1)]), (5, []), (0, [(12, 1)]))], [], [(261, [(0, [(3, 1)]), (0, [(4, 1)]), (0, [(5, 1)]), (0, [(6, 1)]), (0, []), (0, [(1, 1)]), (0, [(2, 1)]), (0, [(11, 1)]), (0, [(12, 1)])]), (368, [(0, [(7, 1)]), (0, [(3, 1)]), (0, [(11, 1)])]), (369, [(0, [(8, 1)]), (0, [(4, 1)]), (0, [(11, 1)])]), (370, [(0, [(9, 1)]), (0, [(5, 1)]), (0, [(11, 4)])]), (371, [(0, [(10, 1)]), (0, [(6, 1)]), (0, [(12, 1)])])], 13), [([], [], [], [], [], [], [(306, [(0, [(0, 1)]), (0, [(1, 1)]), (0, [(2, 1)])])], 13)])
theorem zt_lo_l {P : zq_Ty} {h : zq_H} {a g n p q r s k t u c m z : Int} (a1 : 0 ≤ a) (b1 : 0 ≤ a → P (a).toNat = some 29) (s1 : 0 ≤ a ∧ P (a).toNat ≠ none ∧ h (a).toNat 0 = k) (s2 : 0 ≤ a ∧ P (a).toNat ≠ none ∧ h (a).toNat 1 = t) (s3 : 0 ≤ a ∧ P (a).toNat ≠ none ∧ h (a).toNat 2 = u) (s4 : 0 ≤ a ∧ P (a).toNat ≠ none ∧ h (a).toNat 3 = c) (s5 : 0 ≤ a ∧ P (a).toNat ≠ none ∧ h (a).toNat 4 = m) (s6 : 0 ≤ a ∧ P (a).toNat ≠ none ∧ h (a).toNat 5 = z) (k1 : zd_TX 30 31 32 33 p q r s 0 g n m z P h) (k2 : zo_CB 12 25 30 k p m P h) (k3 : zo_CB 12 26 31 t q m P h) (k4 : zo_CB 48 27 32 u r (4 * m) P h) (k5 : zo_CB 448 28 33 c s z P h) : (zt_LO a g n P h) := by
  exact zt_LO_of ⟨a1, b1 a1⟩ k1 s1.2.2 s2.2.2 s3.2.2 s4.2.2 s5.2.2 s6.2.2 (zo_CB_CP k2) (zo_CB_CP k3) (zo_CB_CP k4) (zo_CB_CP k5)
theorem zt_lo_ok {w : zq_Wd} (x_XD : zj_is w 261 (fun q => zd_TX 30 31 32 33 (q 0) (q 1) (q 2) (q 3) (q 4) (q 5) (q 6) (q 7) (q 8))) (x_CV0 : zj_is w 368 (fun q => zo_CB 12 25 30 (q 0) (q 1) (q 2))) (x_CV1 : zj_is w 369 (fun q => zo_CB 12 26 31 (q 0) (q 1) (q 2))) (x_CV2 : zj_is w 370 (fun q => zo_CB 48 27 32 (q 0) (q 1) (q 2))) (x_CV3 : zj_is w 371 (fun q => zo_CB 448 28 33 (q 0) (q 1) (q 2))) (x_LO : zj_is w 306 (fun q => zt_LO (q 0) (q 1) (q 2))) : zq_okG1 w zt_lo := by
  refine ⟨rfl, rfl, zu_fac ⟨rfl, by decide⟩ zq_fan, ?_⟩
  intro r P h H hM
  have q0 : zq_ev r (0, [(0, 1)]) = r 0 := zu_e1 _ _
  have q1 : zq_ev r (0, []) = 0 := zu_e0 _ _
  have q2 : zq_ev r (0, [(7, 1)]) = r 7 := zu_e1 _ _
  have q3 : zq_ev r (1, []) = 1 := zu_e0 _ _
  have q4 : zq_ev r (0, [(8, 1)]) = r 8 := zu_e1 _ _
  have q5 : zq_ev r (2, []) = 2 := zu_e0 _ _
  have q6 : zq_ev r (0, [(9, 1)]) = r 9 := zu_e1 _ _
  have q7 : zq_ev r (3, []) = 3 := zu_e0 _ _
  have q8 : zq_ev r (0, [(10, 1)]) = r 10 := zu_e1 _ _
  have q9 : zq_ev r (4, []) = 4 := zu_e0 _ _
  have q10 : zq_ev r (0, [(11, 1)]) = r 11 := zu_e1 _ _
  have q11 : zq_ev r (5, []) = 5 := zu_e0 _ _
  have q12 : zq_ev r (0, [(12, 1)]) = r 12 := zu_e1 _ _
  have q13 : zq_ev r (0, [(3, 1)]) = r 3 := zu_e1 _ _
  have q14 : zq_ev r (0, [(4, 1)]) = r 4 := zu_e1 _ _
  have q15 : zq_ev r (0, [(5, 1)]) = r 5 := zu_e1 _ _
  have q16 : zq_ev r (0, [(6, 1)]) = r 6 := zu_e1 _ _
  have q17 : zq_ev r (0, [(1, 1)]) = r 1 := zu_e1 _ _
  have q18 : zq_ev r (0, [(2, 1)]) = r 2 := zu_e1 _ _
  have q19 : zq_ev r (0, [(11, 4)]) = 4 * r 11 := by simp only [zq_ev, zq_ts] <;> omega
  obtain ⟨hT, hC, hF, hS, -, hK⟩ := hM
  have c := hC.1
  have a1 := zq_all_1 c
  rw [q0] at a1
  have b1 : 0 ≤ r 0 → P (r 0).toNat = some 29 := fun z => by
    have z1 : 0 ≤ zq_ev r (0, [(0, 1)]) := by rw [q0]; exact z
    have z2 := zq_okF_1 (hF) z1
    simp only [q0] at z2
    exact z2
  have s1 := zq_okS_1 (hS)
  simp only [q0, q1, q2] at s1
  have s2 := zq_okS_1 (zq_okS_t (hS))
  simp only [q0, q3, q4] at s2
  have s3 := zq_okS_1 (zq_okS_t (zq_okS_t (hS)))
  simp only [q0, q5, q6] at s3
  have s4 := zq_okS_1 (zq_okS_t (zq_okS_t (zq_okS_t (hS))))
  simp only [q0, q7, q8] at s4
  have s5 := zq_okS_1 (zq_okS_t (zq_okS_t (zq_okS_t (zq_okS_t (hS)))))
  simp only [q0, q10, q9] at s5
  have s6 := zq_okS_1 (zq_okS_t (zq_okS_t (zq_okS_t (zq_okS_t (zq_okS_t (hS))))))
  simp only [q0, q11, q12] at s6
  have k1 := zj_use x_XD (hK)
  have k1 : zd_TX 30 31 32 33 (zq_ev r (0, [(3, 1)])) (zq_ev r (0, [(4, 1)])) (zq_ev r (0, [(5, 1)])) (zq_ev r (0, [(6, 1)])) (zq_ev r (0, [])) (zq_ev r (0, [(1, 1)])) (zq_ev r (0, [(2, 1)])) (zq_ev r (0, [(11, 1)])) (zq_ev r (0, [(12, 1)])) P h := k1
  simp only [q1, q10, q12, q13, q14, q15, q16, q17, q18] at k1
  have k2 := zj_use x_CV0 (zq_okX_t (hK))
  have k2 : zo_CB 12 25 30 (zq_ev r (0, [(7, 1)])) (zq_ev r (0, [(3, 1)])) (zq_ev r (0, [(11, 1)])) P h := k2
  simp only [q10, q13, q2] at k2
  have k3 := zj_use x_CV1 (zq_okX_t (zq_okX_t (hK)))
  have k3 : zo_CB 12 26 31 (zq_ev r (0, [(8, 1)])) (zq_ev r (0, [(4, 1)])) (zq_ev r (0, [(11, 1)])) P h := k3
  simp only [q10, q14, q4] at k3
  have k4 := zj_use x_CV2 (zq_okX_t (zq_okX_t (zq_okX_t (hK))))
  have k4 : zo_CB 48 27 32 (zq_ev r (0, [(9, 1)])) (zq_ev r (0, [(5, 1)])) (zq_ev r (0, [(11, 4)])) P h := k4
  simp only [q15, q19, q6] at k4
  have k5 := zj_use x_CV3 (zq_okX_t (zq_okX_t (zq_okX_t (zq_okX_t (hK)))))
  have k5 : zo_CB 448 28 33 (zq_ev r (0, [(10, 1)])) (zq_ev r (0, [(6, 1)])) (zq_ev r (0, [(12, 1)])) P h := k5
  simp only [q12, q16, q8] at k5
  obtain t1 := zt_lo_l (P := P) (h := h) (a := r 0) (g := r 1) (n := r 2) (p := r 3) (q := r 4) (r := r 5) (s := r 6) (k := r 7) (t := r 8) (u := r 9) (c := r 10) (m := r 11) (z := r 12) a1 b1 s1 s2 s3 s4 s5 s6 k1 k2 k3 k4 k5
  obtain ⟨rq, hr⟩ : ∃ rq : Nat → Int, (∀ i, i < 13 → rq i = r i) := ⟨r, fun i hi => rfl⟩
  have v0 : rq 0 = r 0 := hr 0 (by decide)
  have v1 : rq 1 = r 1 := hr 1 (by decide)
  have v2 : rq 2 = r 2 := hr 2 (by decide)
  have g0 : zq_ev rq (0, [(0, 1)]) = r 0 := zu_f1 v0
  have g1 : zq_ev rq (0, [(1, 1)]) = r 1 := zu_f1 v1
  have g2 : zq_ev rq (0, [(2, 1)]) = r 2 := zu_f1 v2
  exact ⟨_, List.mem_cons_self .., rq, hr, zq_MeS_mk rfl hT (zq_all_nil) zq_fan (zq_fan) rfl (zu_fac ((x_LO _ _ _).mpr (by show zt_LO (zq_ev rq (0, [(0, 1)])) (zq_ev rq (0, [(1, 1)])) (zq_ev rq (0, [(2, 1)])) P h; simp only [g0, g1, g2]; exact t1)) zq_fan)⟩
noncomputable def zt_up : zq_S × List zq_S := (([], [], [(5, [(1, -1)])], [], [((0, [(0, 1)]), (0, [(1, 1)]), (0, [(4, 1)]))], [], [(364, [(0, [(0, 1)]), (0, [(1, 1)]), (0, [(2, 1)]), (0, [(3, 1)])]), (306, [(0, [(4, 1)]), (0, [(5, 1)]), (0, [(6, 1)])]), (363, [(0, [(5, 1)]), (0, [(6, 1)])])], 7), [([], [], [], [], [], [], [(307, [(0, [(0, 1)]), (1, [(1, 1)]), (0, [(7, 1)])]), (311, [(0, [(2, 1)]), (0, [(1, 1)]), (0, [(5, 1)]), (0, [(6, 1)]), (0, [(7, 1)])])], 8)])
theorem zt_up_l {P : zq_Ty} {h : zq_H} {a N T b v g n : Int} (a1 : 0 ≤ -N + 5) (s1 : 0 ≤ a ∧ P (a).toNat ≠ none ∧ h (a).toNat N = v) (k1 : zt_LTB 35 a N T b P h) (k2 : zt_LO v g n P h) (k3 : zt_GB g n P h) : (∃ U : Int, zt_LT 35 a (N + 1) U P h ∧ zt_TU T N g n U P h) := by
  exact ⟨_, zt_LT_more k1 (by omega) s1.2.2 k2 k3, rfl⟩
theorem zt_up_ok {w : zq_Wd} (x_LTB0 : zj_is w 364 (fun q => zt_LTB 35 (q 0) (q 1) (q 2) (q 3))) (x_LO : zj_is w 306 (fun q => zt_LO (q 0) (q 1) (q 2))) (x_GB : zj_is w 363 (fun q => zt_GB (q 0) (q 1))) (x_LT0 : zj_is w 307 (fun q => zt_LT 35 (q 0) (q 1) (q 2))) (x_TU : zj_is w 311 (fun q => zt_TU (q 0) (q 1) (q 2) (q 3) (q 4))) : zq_okG1 w zt_up := by
  refine ⟨rfl, rfl, zu_fac ⟨rfl, by decide⟩ zq_fan, ?_⟩
  intro r P h H hM
  have q0 : zq_ev r (5, [(1, -1)]) = -r 1 + 5 := zu_e5 _ _ _
  have q1 : zq_ev r (0, [(0, 1)]) = r 0 := zu_e1 _ _
  have q2 : zq_ev r (0, [(1, 1)]) = r 1 := zu_e1 _ _
  have q3 : zq_ev r (0, [(4, 1)]) = r 4 := zu_e1 _ _
  have q4 : zq_ev r (0, [(2, 1)]) = r 2 := zu_e1 _ _
  have q5 : zq_ev r (0, [(3, 1)]) = r 3 := zu_e1 _ _
  have q6 : zq_ev r (0, [(5, 1)]) = r 5 := zu_e1 _ _
  have q7 : zq_ev r (0, [(6, 1)]) = r 6 := zu_e1 _ _
  obtain ⟨hT, hC, hF, hS, -, hK⟩ := hM
  have c := hC.1
  have a1 := zq_all_1 c
  rw [q0] at a1
  have s1 := zq_okS_1 (hS)
  simp only [q1, q2, q3] at s1
  have k1 := zj_use x_LTB0 (hK)
  have k1 : zt_LTB 35 (zq_ev r (0, [(0, 1)])) (zq_ev r (0, [(1, 1)])) (zq_ev r (0, [(2, 1)])) (zq_ev r (0, [(3, 1)])) P h := k1
  simp only [q1, q2, q4, q5] at k1
  have k2 := zj_use x_LO (zq_okX_t (hK))
  have k2 : zt_LO (zq_ev r (0, [(4, 1)])) (zq_ev r (0, [(5, 1)])) (zq_ev r (0, [(6, 1)])) P h := k2
  simp only [q3, q6, q7] at k2
  have k3 := zj_use x_GB (zq_okX_t (zq_okX_t (hK)))
  have k3 : zt_GB (zq_ev r (0, [(5, 1)])) (zq_ev r (0, [(6, 1)])) P h := k3
  simp only [q6, q7] at k3
  obtain ⟨y_0, t1, t2⟩ := zt_up_l (P := P) (h := h) (a := r 0) (N := r 1) (T := r 2) (b := r 3) (v := r 4) (g := r 5) (n := r 6) a1 s1 k1 k2 k3
  obtain ⟨rq, hr, w7⟩ : ∃ rq : Nat → Int, (∀ i, i < 7 → rq i = r i) ∧ rq 7 = y_0 := ⟨zq_up r 7 y_0, fun i hi => by rw [zu_up_ne (by omega)], rfl⟩
  have v0 : rq 0 = r 0 := hr 0 (by decide)
  have v1 : rq 1 = r 1 := hr 1 (by decide)
  have v2 : rq 2 = r 2 := hr 2 (by decide)
  have v5 : rq 5 = r 5 := hr 5 (by decide)
  have v6 : rq 6 = r 6 := hr 6 (by decide)
  have g0 : zq_ev rq (0, [(2, 1)]) = r 2 := zu_f1 v2
  have g1 : zq_ev rq (0, [(1, 1)]) = r 1 := zu_f1 v1
  have g2 : zq_ev rq (0, [(5, 1)]) = r 5 := zu_f1 v5
  have g3 : zq_ev rq (0, [(6, 1)]) = r 6 := zu_f1 v6
  have g4 : zq_ev rq (0, [(7, 1)]) = y_0 := zu_f1 w7
  have g5 : zq_ev rq (0, [(0, 1)]) = r 0 := zu_f1 v0
  have g6 : zq_ev rq (1, [(1, 1)]) = r 1 + 1 := zu_f2 v1 _
  exact ⟨_, List.mem_cons_self .., rq, hr, zq_MeS_mk rfl hT (zq_all_nil) zq_fan (zq_fan) rfl (zu_fac ((x_LT0 _ _ _).mpr (by show zt_LT 35 (zq_ev rq (0, [(0, 1)])) (zq_ev rq (1, [(1, 1)])) (zq_ev rq (0, [(7, 1)])) P h; simp only [g4, g5, g6]; exact t1)) (zu_fac ((x_TU _ _ _).mpr (by show zt_TU (zq_ev rq (0, [(2, 1)])) (zq_ev rq (0, [(1, 1)])) (zq_ev rq (0, [(5, 1)])) (zq_ev rq (0, [(6, 1)])) (zq_ev rq (0, [(7, 1)])) P h; simp only [g0, g1, g2, g3, g4]; exact t2)) zq_fan))⟩
noncomputable def zl_up : zq_S × List zq_S := (([], [], [(0, [(2, 1)]), (5, [(2, -1)])], [], [((0, [(0, 1)]), (64, [(2, 1)]), (0, [(5, 1)]))], [], [(232, [(0, [(0, 1)]), (0, [(1, 1)]), (0, [(2, 1)])]), (226, [(0, [(0, 1)]), (0, [(2, 400)]), (0, [(2, 400), (5, 1)]), (0, [(3, 1)]), (0, [(4, 1)])]), (363, [(0, [(3, 1)]), (0, [(4, 1)])])], 6), [([], [], [], [], [], [], [(232, [(0, [(0, 1)]), (0, [(6, 1)]), (1, [(2, 1)])]), (311, [(0, [(1, 1)]), (0, [(2, 1)]), (0, [(3, 1)]), (0, [(4, 1)]), (0, [(6, 1)])])], 7)])
theorem zl_up_l {P : zq_Ty} {h : zq_H} {a T N g n t : Int} (a1 : 0 ≤ N) (a2 : 0 ≤ -N + 5) (s1 : 0 ≤ a ∧ P (a).toNat ≠ none ∧ h (a).toNat (N + 64) = t) (k1 : zl_KT a T N P h) (k2 : ze_TX a (400 * N) (400 * N + t) g n P h) (k3 : zt_GB g n P h) : (∃ U : Int, zl_KT a U (N + 1) P h ∧ zt_TU T N g n U P h) := by
  exact ⟨_, zl_KT_more k1 (by omega) (by omega) (by rw [show 64 + N = N + 64 by omega]; exact s1.2.2) k2 k3, rfl⟩
theorem zl_up_ok {w : zq_Wd} (x_KT : zj_is w 232 (fun q => zl_KT (q 0) (q 1) (q 2))) (x_TX : zj_is w 226 (fun q => ze_TX (q 0) (q 1) (q 2) (q 3) (q 4))) (x_GB : zj_is w 363 (fun q => zt_GB (q 0) (q 1))) (x_TU : zj_is w 311 (fun q => zt_TU (q 0) (q 1) (q 2) (q 3) (q 4))) : zq_okG1 w zl_up := by
  refine ⟨rfl, rfl, zu_fac ⟨rfl, by decide⟩ zq_fan, ?_⟩
  intro r P h H hM
  have q0 : zq_ev r (0, [(2, 1)]) = r 2 := zu_e1 _ _
  have q1 : zq_ev r (5, [(2, -1)]) = -r 2 + 5 := zu_e5 _ _ _
  have q2 : zq_ev r (0, [(0, 1)]) = r 0 := zu_e1 _ _
  have q3 : zq_ev r (64, [(2, 1)]) = r 2 + 64 := zu_e2 _ _ _
  have q4 : zq_ev r (0, [(5, 1)]) = r 5 := zu_e1 _ _
  have q5 : zq_ev r (0, [(1, 1)]) = r 1 := zu_e1 _ _
  have q6 : zq_ev r (0, [(2, 400)]) = 400 * r 2 := by simp only [zq_ev, zq_ts] <;> omega
  have q7 : zq_ev r (0, [(2, 400), (5, 1)]) = 400 * r 2 + r 5 := by simp only [zq_ev, zq_ts] <;> omega
  have q8 : zq_ev r (0, [(3, 1)]) = r 3 := zu_e1 _ _
  have q9 : zq_ev r (0, [(4, 1)]) = r 4 := zu_e1 _ _
  obtain ⟨hT, hC, hF, hS, -, hK⟩ := hM
  have c := hC.1
  have a1 := zq_all_1 c
  rw [q0] at a1
  have c := zq_all_t c
  have a2 := zq_all_1 c
  rw [q1] at a2
  have s1 := zq_okS_1 (hS)
  simp only [q2, q3, q4] at s1
  have k1 := zj_use x_KT (hK)
  have k1 : zl_KT (zq_ev r (0, [(0, 1)])) (zq_ev r (0, [(1, 1)])) (zq_ev r (0, [(2, 1)])) P h := k1
  simp only [q0, q2, q5] at k1
  have k2 := zj_use x_TX (zq_okX_t (hK))
  have k2 : ze_TX (zq_ev r (0, [(0, 1)])) (zq_ev r (0, [(2, 400)])) (zq_ev r (0, [(2, 400), (5, 1)])) (zq_ev r (0, [(3, 1)])) (zq_ev r (0, [(4, 1)])) P h := k2
  simp only [q2, q6, q7, q8, q9] at k2
  have k3 := zj_use x_GB (zq_okX_t (zq_okX_t (hK)))
  have k3 : zt_GB (zq_ev r (0, [(3, 1)])) (zq_ev r (0, [(4, 1)])) P h := k3
  simp only [q8, q9] at k3
  obtain ⟨y_0, t1, t2⟩ := zl_up_l (P := P) (h := h) (a := r 0) (T := r 1) (N := r 2) (g := r 3) (n := r 4) (t := r 5) a1 a2 s1 k1 k2 k3
  obtain ⟨rq, hr, w6⟩ : ∃ rq : Nat → Int, (∀ i, i < 6 → rq i = r i) ∧ rq 6 = y_0 := ⟨zq_up r 6 y_0, fun i hi => by rw [zu_up_ne (by omega)], rfl⟩
  have v0 : rq 0 = r 0 := hr 0 (by decide)
  have v1 : rq 1 = r 1 := hr 1 (by decide)
  have v2 : rq 2 = r 2 := hr 2 (by decide)
  have v3 : rq 3 = r 3 := hr 3 (by decide)
  have v4 : rq 4 = r 4 := hr 4 (by decide)
  have g0 : zq_ev rq (0, [(1, 1)]) = r 1 := zu_f1 v1
  have g1 : zq_ev rq (0, [(2, 1)]) = r 2 := zu_f1 v2
  have g2 : zq_ev rq (0, [(3, 1)]) = r 3 := zu_f1 v3
  have g3 : zq_ev rq (0, [(4, 1)]) = r 4 := zu_f1 v4
  have g4 : zq_ev rq (0, [(6, 1)]) = y_0 := zu_f1 w6
  have g5 : zq_ev rq (0, [(0, 1)]) = r 0 := zu_f1 v0
  have g6 : zq_ev rq (1, [(2, 1)]) = r 2 + 1 := zu_f2 v2 _
  exact ⟨_, List.mem_cons_self .., rq, hr, zq_MeS_mk rfl hT (zq_all_nil) zq_fan (zq_fan) rfl (zu_fac ((x_KT _ _ _).mpr (by show zl_KT (zq_ev rq (0, [(0, 1)])) (zq_ev rq (0, [(6, 1)])) (zq_ev rq (1, [(2, 1)])) P h; simp only [g4, g5, g6]; exact t1)) (zu_fac ((x_TU _ _ _).mpr (by show zt_TU (zq_ev rq (0, [(1, 1)])) (zq_ev rq (0, [(2, 1)])) (zq_ev rq (0, [(3, 1)])) (zq_ev rq (0, [(4, 1)])) (zq_ev rq (0, [(6, 1)])) P h; simp only [g0, g1, g2, g3, g4]; exact t2)) zq_fan))⟩
noncomputable def zt_eT : zq_S × List zq_S := (([], [], [], [], [], [], [(311, [(0, [(0, 1)]), (0, [(1, 1)]), (0, [(2, 1)]), (0, [(3, 1)]), (0, [(4, 1)])]), (311, [(0, [(0, 1)]), (0, [(1, 1)]), (0, [(2, 1)]), (0, [(3, 1)]), (0, [(5, 1)])])], 6), [([], [], [(0, [(4, 1), (5, -1)]), (0, [(4, -1), (5, 1)])], [], [], [], [], 6)])
theorem zt_eT_l {P : zq_Ty} {h : zq_H} {T N g n U V : Int} (k1 : zt_TU T N g n U P h) (k2 : zt_TU T N g n V P h) : (0 ≤ U - V ∧ 0 ≤ -U + V) := by
  have a : U = zT_up T N g n := k1
  have b : V = zT_up T N g n := k2
  omega
theorem zt_eT_ok {w : zq_Wd} (x_TU : zj_is w 311 (fun q => zt_TU (q 0) (q 1) (q 2) (q 3) (q 4))) : zq_okG1 w zt_eT := by
  refine ⟨rfl, rfl, zu_fac ⟨rfl, by decide⟩ zq_fan, ?_⟩
  intro r P h H hM
  have q0 : zq_ev r (0, [(0, 1)]) = r 0 := zu_e1 _ _
  have q1 : zq_ev r (0, [(1, 1)]) = r 1 := zu_e1 _ _
  have q2 : zq_ev r (0, [(2, 1)]) = r 2 := zu_e1 _ _
  have q3 : zq_ev r (0, [(3, 1)]) = r 3 := zu_e1 _ _
  have q4 : zq_ev r (0, [(4, 1)]) = r 4 := zu_e1 _ _
  have q5 : zq_ev r (0, [(5, 1)]) = r 5 := zu_e1 _ _
  obtain ⟨hT, hC, hF, hS, -, hK⟩ := hM
  have c := hC.1
  have k1 := zj_use x_TU (hK)
  have k1 : zt_TU (zq_ev r (0, [(0, 1)])) (zq_ev r (0, [(1, 1)])) (zq_ev r (0, [(2, 1)])) (zq_ev r (0, [(3, 1)])) (zq_ev r (0, [(4, 1)])) P h := k1
  simp only [q0, q1, q2, q3, q4] at k1
  have k2 := zj_use x_TU (zq_okX_t (hK))
  have k2 : zt_TU (zq_ev r (0, [(0, 1)])) (zq_ev r (0, [(1, 1)])) (zq_ev r (0, [(2, 1)])) (zq_ev r (0, [(3, 1)])) (zq_ev r (0, [(5, 1)])) P h := k2
  simp only [q0, q1, q2, q3, q5] at k2
  obtain ⟨c1, c2⟩ := zt_eT_l (P := P) (h := h) (T := r 0) (N := r 1) (g := r 2) (n := r 3) (U := r 4) (V := r 5) k1 k2
  obtain ⟨rq, hr⟩ : ∃ rq : Nat → Int, (∀ i, i < 6 → rq i = r i) := ⟨r, fun i hi => rfl⟩
  have v4 : rq 4 = r 4 := hr 4 (by decide)
  have v5 : rq 5 = r 5 := hr 5 (by decide)
  have g0 : zq_ev rq (0, [(4, -1), (5, 1)]) = -r 4 + r 5 := by simp only [zq_ev, zq_ts, v4, v5] <;> omega
  have g1 : zq_ev rq (0, [(4, 1), (5, -1)]) = r 4 - r 5 := by simp only [zq_ev, zq_ts, v4, v5] <;> omega
  exact ⟨_, List.mem_cons_self .., rq, hr, zq_MeS_mk rfl hT (zq_all_cons (by rw [g1]; exact c1) (zq_all_cons (by rw [g0]; exact c2) (zq_all_nil))) zq_fan (zq_fan) rfl zq_fan⟩
