/-! WHAT IS CARRIED OVER: facts -/
noncomputable def zm_cp0 : zq_S × List zq_S := (([], [], [], [], [], [], [(281, [(0, [(3, 1)]), (0, [(4, 1)]), (0, [(5, 1)]), (0, [(6, 1)])]), (44, [(0, [(0, 1)]), (0, [(3, 1)])]), (350, [(0, [(1, 1)]), (0, [(4, 1)])]), (45, [(0, [(2, 1)]), (0, [(5, 1)])])], 7), [([], [], [], [], [], [], [(280, [(0, [(0, 1)]), (0, [(1, 1)]), (0, [(2, 1)]), (0, [(6, 1)])])], 7)])
theorem zm_cp0_l {P : zq_Ty} {h : zq_H} {a b c x y z M : Int} (k1 : zm_MC 50 x y z M P h) (k2 : zm_E 6 36 51 a x P h) (k3 : zm_E 4 39 54 b y P h) (k4 : zm_E 3 42 57 c z P h) : (zm_MC 35 a b c M P h) := by
  exact zm_MC_cp k1 k2 k3 k4
theorem zm_cp0_ok {w : zq_Wd} (x_MC1 : zj_is w 281 (fun q => zm_MC 50 (q 0) (q 1) (q 2) (q 3))) (x_EN0_4 : zj_is w 44 (fun q => zm_E 6 36 51 (q 0) (q 1))) (x_CK0 : zj_is w 350 (fun q => zm_E 4 39 54 (q 0) (q 1))) (x_EN0_5 : zj_is w 45 (fun q => zm_E 3 42 57 (q 0) (q 1))) (x_MC0 : zj_is w 280 (fun q => zm_MC 35 (q 0) (q 1) (q 2) (q 3))) : zq_okG1 w zm_cp0 := by
  refine ⟨rfl, rfl, zu_fac ⟨rfl, by decide⟩ zq_fan, ?_⟩
  intro r P h H hM
  have q0 : zq_ev r (0, [(3, 1)]) = r 3 := zu_e1 _ _
  have q1 : zq_ev r (0, [(4, 1)]) = r 4 := zu_e1 _ _
  have q2 : zq_ev r (0, [(5, 1)]) = r 5 := zu_e1 _ _
  have q3 : zq_ev r (0, [(6, 1)]) = r 6 := zu_e1 _ _
  have q4 : zq_ev r (0, [(0, 1)]) = r 0 := zu_e1 _ _
  have q5 : zq_ev r (0, [(1, 1)]) = r 1 := zu_e1 _ _
  have q6 : zq_ev r (0, [(2, 1)]) = r 2 := zu_e1 _ _
  obtain ⟨hT, hC, hF, hS, -, hK⟩ := hM
  have c := hC.1
  have k1 := zj_use x_MC1 (hK)
  have k1 : zm_MC 50 (zq_ev r (0, [(3, 1)])) (zq_ev r (0, [(4, 1)])) (zq_ev r (0, [(5, 1)])) (zq_ev r (0, [(6, 1)])) P h := k1
  simp only [q0, q1, q2, q3] at k1
  have k2 := zj_use x_EN0_4 (zq_okX_t (hK))
  have k2 : zm_E 6 36 51 (zq_ev r (0, [(0, 1)])) (zq_ev r (0, [(3, 1)])) P h := k2
  simp only [q0, q4] at k2
  have k3 := zj_use x_CK0 (zq_okX_t (zq_okX_t (hK)))
  have k3 : zm_E 4 39 54 (zq_ev r (0, [(1, 1)])) (zq_ev r (0, [(4, 1)])) P h := k3
  simp only [q1, q5] at k3
  have k4 := zj_use x_EN0_5 (zq_okX_t (zq_okX_t (zq_okX_t (hK))))
  have k4 : zm_E 3 42 57 (zq_ev r (0, [(2, 1)])) (zq_ev r (0, [(5, 1)])) P h := k4
  simp only [q2, q6] at k4
  obtain t1 := zm_cp0_l (P := P) (h := h) (a := r 0) (b := r 1) (c := r 2) (x := r 3) (y := r 4) (z := r 5) (M := r 6) k1 k2 k3 k4
  obtain ⟨rq, hr⟩ : ∃ rq : Nat → Int, (∀ i, i < 7 → rq i = r i) := ⟨r, fun i hi => rfl⟩
  have v0 : rq 0 = r 0 := hr 0 (by decide)
  have v1 : rq 1 = r 1 := hr 1 (by decide)
  have v2 : rq 2 = r 2 := hr 2 (by decide)
  have v6 : rq 6 = r 6 := hr 6 (by decide)
  have g0 : zq_ev rq (0, [(0, 1)]) = r 0 := zu_f1 v0
  have g1 : zq_ev rq (0, [(1, 1)]) = r 1 := zu_f1 v1
  have g2 : zq_ev rq (0, [(2, 1)]) = r 2 := zu_f1 v2
  have g3 : zq_ev rq (0, [(6, 1)]) = r 6 := zu_f1 v6
  exact ⟨_, List.mem_cons_self .., rq, hr, zq_MeS_mk rfl hT (zq_all_nil) zq_fan (zq_fan) rfl (zu_fac ((x_MC0 _ _ _).mpr (by show zm_MC 35 (zq_ev rq (0, [(0, 1)])) (zq_ev rq (0, [(1, 1)])) (zq_ev rq (0, [(2, 1)])) (zq_ev rq (0, [(6, 1)])) P h; simp only [g0, g1, g2, g3]; exact t1)) zq_fan)⟩
noncomputable def zk_cz0 : zq_S × List zq_S := (([], [], [], [], [], [], [(294, [(0, [(4, 1)]), (0, [(5, 1)]), (0, [(6, 1)]), (0, [(7, 1)]), (0, [(8, 1)]), (0, [(9, 1)]), (0, [(10, 1)])]), (40, [(0, [(0, 1)]), (0, [(4, 1)])]), (41, [(0, [(1, 1)]), (0, [(5, 1)])]), (42, [(0, [(2, 1)]), (0, [(6, 1)])]), (43, [(0, [(3, 1)]), (0, [(7, 1)])])], 11), [([], [], [], [], [], [], [(293, [(0, [(0, 1)]), (0, [(1, 1)]), (0, [(2, 1)]), (0, [(3, 1)]), (0, [(8, 1)]), (0, [(9, 1)]), (0, [(10, 1)])])], 11)])
theorem zk_cz0_l {P : zq_Ty} {h : zq_H} {a b c d x y z w n M Z : Int} (k1 : zk_ZC 50 x y z w n M Z P h) (k2 : zm_E 16 44 59 a x P h) (k3 : zm_E 16 45 60 b y P h) (k4 : zm_E 16 46 61 c z P h) (k5 : zm_E 16 47 62 d w P h) : (zk_ZC 35 a b c d n M Z P h) := by
  exact zk_ZC_cp k1 k2 k3 k4 k5
theorem zk_cz0_ok {w : zq_Wd} (x_ZC1 : zj_is w 294 (fun q => zk_ZC 50 (q 0) (q 1) (q 2) (q 3) (q 4) (q 5) (q 6))) (x_EN0_0 : zj_is w 40 (fun q => zm_E 16 44 59 (q 0) (q 1))) (x_EN0_1 : zj_is w 41 (fun q => zm_E 16 45 60 (q 0) (q 1))) (x_EN0_2 : zj_is w 42 (fun q => zm_E 16 46 61 (q 0) (q 1))) (x_EN0_3 : zj_is w 43 (fun q => zm_E 16 47 62 (q 0) (q 1))) (x_ZC0 : zj_is w 293 (fun q => zk_ZC 35 (q 0) (q 1) (q 2) (q 3) (q 4) (q 5) (q 6))) : zq_okG1 w zk_cz0 := by
  refine ⟨rfl, rfl, zu_fac ⟨rfl, by decide⟩ zq_fan, ?_⟩
  intro r P h H hM
  have q0 : zq_ev r (0, [(4, 1)]) = r 4 := zu_e1 _ _
  have q1 : zq_ev r (0, [(5, 1)]) = r 5 := zu_e1 _ _
  have q2 : zq_ev r (0, [(6, 1)]) = r 6 := zu_e1 _ _
  have q3 : zq_ev r (0, [(7, 1)]) = r 7 := zu_e1 _ _
  have q4 : zq_ev r (0, [(8, 1)]) = r 8 := zu_e1 _ _
  have q5 : zq_ev r (0, [(9, 1)]) = r 9 := zu_e1 _ _
  have q6 : zq_ev r (0, [(10, 1)]) = r 10 := zu_e1 _ _
  have q7 : zq_ev r (0, [(0, 1)]) = r 0 := zu_e1 _ _
  have q8 : zq_ev r (0, [(1, 1)]) = r 1 := zu_e1 _ _
  have q9 : zq_ev r (0, [(2, 1)]) = r 2 := zu_e1 _ _
  have q10 : zq_ev r (0, [(3, 1)]) = r 3 := zu_e1 _ _
  obtain ⟨hT, hC, hF, hS, -, hK⟩ := hM
  have c := hC.1
  have k1 := zj_use x_ZC1 (hK)
  have k1 : zk_ZC 50 (zq_ev r (0, [(4, 1)])) (zq_ev r (0, [(5, 1)])) (zq_ev r (0, [(6, 1)])) (zq_ev r (0, [(7, 1)])) (zq_ev r (0, [(8, 1)])) (zq_ev r (0, [(9, 1)])) (zq_ev r (0, [(10, 1)])) P h := k1
  simp only [q0, q1, q2, q3, q4, q5, q6] at k1
  have k2 := zj_use x_EN0_0 (zq_okX_t (hK))
  have k2 : zm_E 16 44 59 (zq_ev r (0, [(0, 1)])) (zq_ev r (0, [(4, 1)])) P h := k2
  simp only [q0, q7] at k2
  have k3 := zj_use x_EN0_1 (zq_okX_t (zq_okX_t (hK)))
  have k3 : zm_E 16 45 60 (zq_ev r (0, [(1, 1)])) (zq_ev r (0, [(5, 1)])) P h := k3
  simp only [q1, q8] at k3
  have k4 := zj_use x_EN0_2 (zq_okX_t (zq_okX_t (zq_okX_t (hK))))
  have k4 : zm_E 16 46 61 (zq_ev r (0, [(2, 1)])) (zq_ev r (0, [(6, 1)])) P h := k4
  simp only [q2, q9] at k4
  have k5 := zj_use x_EN0_3 (zq_okX_t (zq_okX_t (zq_okX_t (zq_okX_t (hK)))))
  have k5 : zm_E 16 47 62 (zq_ev r (0, [(3, 1)])) (zq_ev r (0, [(7, 1)])) P h := k5
  simp only [q10, q3] at k5
  obtain t1 := zk_cz0_l (P := P) (h := h) (a := r 0) (b := r 1) (c := r 2) (d := r 3) (x := r 4) (y := r 5) (z := r 6) (w := r 7) (n := r 8) (M := r 9) (Z := r 10) k1 k2 k3 k4 k5
  obtain ⟨rq, hr⟩ : ∃ rq : Nat → Int, (∀ i, i < 11 → rq i = r i) := ⟨r, fun i hi => rfl⟩
  have v0 : rq 0 = r 0 := hr 0 (by decide)
  have v1 : rq 1 = r 1 := hr 1 (by decide)
  have v2 : rq 2 = r 2 := hr 2 (by decide)
  have v3 : rq 3 = r 3 := hr 3 (by decide)
  have v8 : rq 8 = r 8 := hr 8 (by decide)
  have v9 : rq 9 = r 9 := hr 9 (by decide)
  have v10 : rq 10 = r 10 := hr 10 (by decide)
  have g0 : zq_ev rq (0, [(0, 1)]) = r 0 := zu_f1 v0
  have g1 : zq_ev rq (0, [(1, 1)]) = r 1 := zu_f1 v1
  have g2 : zq_ev rq (0, [(2, 1)]) = r 2 := zu_f1 v2
  have g3 : zq_ev rq (0, [(3, 1)]) = r 3 := zu_f1 v3
  have g4 : zq_ev rq (0, [(8, 1)]) = r 8 := zu_f1 v8
  have g5 : zq_ev rq (0, [(9, 1)]) = r 9 := zu_f1 v9
  have g6 : zq_ev rq (0, [(10, 1)]) = r 10 := zu_f1 v10
  exact ⟨_, List.mem_cons_self .., rq, hr, zq_MeS_mk rfl hT (zq_all_nil) zq_fan (zq_fan) rfl (zu_fac ((x_ZC0 _ _ _).mpr (by show zk_ZC 35 (zq_ev rq (0, [(0, 1)])) (zq_ev rq (0, [(1, 1)])) (zq_ev rq (0, [(2, 1)])) (zq_ev rq (0, [(3, 1)])) (zq_ev rq (0, [(8, 1)])) (zq_ev rq (0, [(9, 1)])) (zq_ev rq (0, [(10, 1)])) P h; simp only [g0, g1, g2, g3, g4, g5, g6]; exact t1)) zq_fan)⟩
noncomputable def zt_t00 : zq_S × List zq_S := (([], [], [(0, [(0, 1)]), (0, [(1, 1)])], [((0, [(0, 1)]), 43), ((0, [(1, 1)]), 58)], [], [], [], 2), [([], [], [], [], [], [], [(356, [(0, [(0, 1)]), (0, [(1, 1)]), (0, [])])], 2)])
theorem zt_t00_l {P : zq_Ty} {h : zq_H} {a b : Int} (a1 : 0 ≤ a) (a2 : 0 ≤ b) (b1 : 0 ≤ a → P (a).toNat = some 43) (b2 : 0 ≤ b → P (b).toNat = some 58) : (zo_CB 6 43 58 a b 0 P h) := by
  exact zo_CB_0 ⟨a1, b1 a1⟩ ⟨a2, b2 a2⟩
theorem zt_t00_ok {w : zq_Wd} (x_CT0 : zj_is w 356 (fun q => zo_CB 6 43 58 (q 0) (q 1) (q 2))) : zq_okG1 w zt_t00 := by
  refine ⟨rfl, rfl, zu_fac ⟨rfl, by decide⟩ zq_fan, ?_⟩
  intro r P h H hM
  have q0 : zq_ev r (0, [(0, 1)]) = r 0 := zu_e1 _ _
  have q1 : zq_ev r (0, [(1, 1)]) = r 1 := zu_e1 _ _
  obtain ⟨hT, hC, hF, hS, -, hK⟩ := hM
  have c := hC.1
  have a1 := zq_all_1 c
  rw [q0] at a1
  have c := zq_all_t c
  have a2 := zq_all_1 c
  rw [q1] at a2
  have b1 : 0 ≤ r 0 → P (r 0).toNat = some 43 := fun z => by
    have z1 : 0 ≤ zq_ev r (0, [(0, 1)]) := by rw [q0]; exact z
    have z2 := zq_okF_1 (hF) z1
    simp only [q0] at z2
    exact z2
  have b2 : 0 ≤ r 1 → P (r 1).toNat = some 58 := fun z => by
    have z1 : 0 ≤ zq_ev r (0, [(1, 1)]) := by rw [q1]; exact z
    have z2 := zq_okF_1 (zq_okF_t (hF)) z1
    simp only [q1] at z2
    exact z2
  obtain t1 := zt_t00_l (P := P) (h := h) (a := r 0) (b := r 1) a1 a2 b1 b2
  obtain ⟨rq, hr⟩ : ∃ rq : Nat → Int, (∀ i, i < 2 → rq i = r i) := ⟨r, fun i hi => rfl⟩
  have v0 : rq 0 = r 0 := hr 0 (by decide)
  have v1 : rq 1 = r 1 := hr 1 (by decide)
  have g0 : zq_ev rq (0, [(0, 1)]) = r 0 := zu_f1 v0
  have g1 : zq_ev rq (0, [(1, 1)]) = r 1 := zu_f1 v1
  have g2 : zq_ev rq (0, []) = 0 := zu_e0 _ _
  exact ⟨_, List.mem_cons_self .., rq, hr, zq_MeS_mk rfl hT (zq_all_nil) zq_fan (zq_fan) rfl (zu_fac ((x_CT0 _ _ _).mpr (by show zo_CB 6 43 58 (zq_ev rq (0, [(0, 1)])) (zq_ev rq (0, [(1, 1)])) (zq_ev rq (0, [])) P h; simp only [g0, g1, g2]; exact t1)) zq_fan)⟩
noncomputable def zt_t10 : zq_S × List zq_S := (([], [], [(5, [(2, -1)])], [], [((0, [(0, 1)]), (0, [(2, 1)]), (0, [(3, 1)])), ((0, [(1, 1)]), (0, [(2, 1)]), (0, [(3, 1)]))], [], [(356, [(0, [(0, 1)]), (0, [(1, 1)]), (0, [(2, 1)])])], 4), [([], [], [], [], [], [], [(356, [(0, [(0, 1)]), (0, [(1, 1)]), (1, [(2, 1)])])], 4)])
theorem zt_t10_l {P : zq_Ty} {h : zq_H} {a b l v : Int} (a1 : 0 ≤ -l + 5) (s1 : 0 ≤ a ∧ P (a).toNat ≠ none ∧ h (a).toNat l = v) (s2 : 0 ≤ b ∧ P (b).toNat ≠ none ∧ h (b).toNat l = v) (k1 : zo_CB 6 43 58 a b l P h) : (zo_CB 6 43 58 a b (l + 1) P h) := by
  exact zo_CB_1 (by omega) k1 s1.2.2 s2.2.2
theorem zt_t10_ok {w : zq_Wd} (x_CT0 : zj_is w 356 (fun q => zo_CB 6 43 58 (q 0) (q 1) (q 2))) : zq_okG1 w zt_t10 := by
  refine ⟨rfl, rfl, zu_fac ⟨rfl, by decide⟩ zq_fan, ?_⟩
  intro r P h H hM
  have q0 : zq_ev r (5, [(2, -1)]) = -r 2 + 5 := zu_e5 _ _ _
  have q1 : zq_ev r (0, [(0, 1)]) = r 0 := zu_e1 _ _
  have q2 : zq_ev r (0, [(2, 1)]) = r 2 := zu_e1 _ _
  have q3 : zq_ev r (0, [(3, 1)]) = r 3 := zu_e1 _ _
  have q4 : zq_ev r (0, [(1, 1)]) = r 1 := zu_e1 _ _
  obtain ⟨hT, hC, hF, hS, -, hK⟩ := hM
  have c := hC.1
  have a1 := zq_all_1 c
  rw [q0] at a1
  have s1 := zq_okS_1 (hS)
  simp only [q1, q2, q3] at s1
  have s2 := zq_okS_1 (zq_okS_t (hS))
  simp only [q2, q3, q4] at s2
  have k1 := zj_use x_CT0 (hK)
  have k1 : zo_CB 6 43 58 (zq_ev r (0, [(0, 1)])) (zq_ev r (0, [(1, 1)])) (zq_ev r (0, [(2, 1)])) P h := k1
  simp only [q1, q2, q4] at k1
  obtain t1 := zt_t10_l (P := P) (h := h) (a := r 0) (b := r 1) (l := r 2) (v := r 3) a1 s1 s2 k1
  obtain ⟨rq, hr⟩ : ∃ rq : Nat → Int, (∀ i, i < 4 → rq i = r i) := ⟨r, fun i hi => rfl⟩
  have v0 : rq 0 = r 0 := hr 0 (by decide)
  have v1 : rq 1 = r 1 := hr 1 (by decide)
  have v2 : rq 2 = r 2 := hr 2 (by decide)
  have g0 : zq_ev rq (0, [(0, 1)]) = r 0 := zu_f1 v0
  have g1 : zq_ev rq (0, [(1, 1)]) = r 1 := zu_f1 v1
  have g2 : zq_ev rq (1, [(2, 1)]) = r 2 + 1 := zu_f2 v2 _
  exact ⟨_, List.mem_cons_self .., rq, hr, zq_MeS_mk rfl hT (zq_all_nil) zq_fan (zq_fan) rfl (zu_fac ((x_CT0 _ _ _).mpr (by show zo_CB 6 43 58 (zq_ev rq (0, [(0, 1)])) (zq_ev rq (0, [(1, 1)])) (zq_ev rq (1, [(2, 1)])) P h; simp only [g0, g1, g2]; exact t1)) zq_fan)⟩
noncomputable def zt_t20 : zq_S × List zq_S := (([], [], [(-6, [(2, 1)])], [], [], [], [(356, [(0, [(0, 1)]), (0, [(1, 1)]), (0, [(2, 1)])]), (308, [(0, [(1, 1)]), (0, [(3, 1)]), (0, [(4, 1)])])], 5), [([], [], [], [], [], [], [(307, [(0, [(0, 1)]), (0, [(3, 1)]), (0, [(4, 1)])])], 5)])
theorem zt_t20_l {P : zq_Ty} {h : zq_H} {a b l N T : Int} (a1 : 0 ≤ l - 6) (k1 : zo_CB 6 43 58 a b l P h) (k2 : zt_LT 50 b N T P h) : (zt_LT 35 a N T P h) := by
  exact zt_LT_cp (by omega) (zo_CB_CP k1) k2
theorem zt_t20_ok {w : zq_Wd} (x_CT0 : zj_is w 356 (fun q => zo_CB 6 43 58 (q 0) (q 1) (q 2))) (x_LT1 : zj_is w 308 (fun q => zt_LT 50 (q 0) (q 1) (q 2))) (x_LT0 : zj_is w 307 (fun q => zt_LT 35 (q 0) (q 1) (q 2))) : zq_okG1 w zt_t20 := by
  refine ⟨rfl, rfl, zu_fac ⟨rfl, by decide⟩ zq_fan, ?_⟩
  intro r P h H hM
  have q0 : zq_ev r (-6, [(2, 1)]) = r 2 - 6 := zu_e3 _ _ _
  have q1 : zq_ev r (0, [(0, 1)]) = r 0 := zu_e1 _ _
  have q2 : zq_ev r (0, [(1, 1)]) = r 1 := zu_e1 _ _
  have q3 : zq_ev r (0, [(2, 1)]) = r 2 := zu_e1 _ _
  have q4 : zq_ev r (0, [(3, 1)]) = r 3 := zu_e1 _ _
  have q5 : zq_ev r (0, [(4, 1)]) = r 4 := zu_e1 _ _
  obtain ⟨hT, hC, hF, hS, -, hK⟩ := hM
  have c := hC.1
  have a1 := zq_all_1 c
  rw [q0] at a1
  have k1 := zj_use x_CT0 (hK)
  have k1 : zo_CB 6 43 58 (zq_ev r (0, [(0, 1)])) (zq_ev r (0, [(1, 1)])) (zq_ev r (0, [(2, 1)])) P h := k1
  simp only [q1, q2, q3] at k1
  have k2 := zj_use x_LT1 (zq_okX_t (hK))
  have k2 : zt_LT 50 (zq_ev r (0, [(1, 1)])) (zq_ev r (0, [(3, 1)])) (zq_ev r (0, [(4, 1)])) P h := k2
  simp only [q2, q4, q5] at k2
  obtain t1 := zt_t20_l (P := P) (h := h) (a := r 0) (b := r 1) (l := r 2) (N := r 3) (T := r 4) a1 k1 k2
  obtain ⟨rq, hr⟩ : ∃ rq : Nat → Int, (∀ i, i < 5 → rq i = r i) := ⟨r, fun i hi => rfl⟩
  have v0 : rq 0 = r 0 := hr 0 (by decide)
  have v3 : rq 3 = r 3 := hr 3 (by decide)
  have v4 : rq 4 = r 4 := hr 4 (by decide)
  have g0 : zq_ev rq (0, [(0, 1)]) = r 0 := zu_f1 v0
  have g1 : zq_ev rq (0, [(3, 1)]) = r 3 := zu_f1 v3
  have g2 : zq_ev rq (0, [(4, 1)]) = r 4 := zu_f1 v4
  exact ⟨_, List.mem_cons_self .., rq, hr, zq_MeS_mk rfl hT (zq_all_nil) zq_fan (zq_fan) rfl (zu_fac ((x_LT0 _ _ _).mpr (by show zt_LT 35 (zq_ev rq (0, [(0, 1)])) (zq_ev rq (0, [(3, 1)])) (zq_ev rq (0, [(4, 1)])) P h; simp only [g0, g1, g2]; exact t1)) zq_fan)⟩
noncomputable def zm_cp1 : zq_S × List zq_S := (([], [], [], [], [], [], [(280, [(0, [(3, 1)]), (0, [(4, 1)]), (0, [(5, 1)]), (0, [(6, 1)])]), (50, [(0, [(0, 1)]), (0, [(3, 1)])]), (351, [(0, [(1, 1)]), (0, [(4, 1)])]), (51, [(0, [(2, 1)]), (0, [(5, 1)])])], 7), [([], [], [], [], [], [], [(281, [(0, [(0, 1)]), (0, [(1, 1)]), (0, [(2, 1)]), (0, [(6, 1)])])], 7)])
theorem zm_cp1_l {P : zq_Ty} {h : zq_H} {a b c x y z M : Int} (k1 : zm_MC 35 x y z M P h) (k2 : zm_E 6 51 36 a x P h) (k3 : zm_E 4 54 39 b y P h) (k4 : zm_E 3 57 42 c z P h) : (zm_MC 50 a b c M P h) := by
  exact zm_MC_cp k1 k2 k3 k4
theorem zm_cp1_ok {w : zq_Wd} (x_MC0 : zj_is w 280 (fun q => zm_MC 35 (q 0) (q 1) (q 2) (q 3))) (x_EN1_4 : zj_is w 50 (fun q => zm_E 6 51 36 (q 0) (q 1))) (x_CK1 : zj_is w 351 (fun q => zm_E 4 54 39 (q 0) (q 1))) (x_EN1_5 : zj_is w 51 (fun q => zm_E 3 57 42 (q 0) (q 1))) (x_MC1 : zj_is w 281 (fun q => zm_MC 50 (q 0) (q 1) (q 2) (q 3))) : zq_okG1 w zm_cp1 := by
  refine ⟨rfl, rfl, zu_fac ⟨rfl, by decide⟩ zq_fan, ?_⟩
  intro r P h H hM
  have q0 : zq_ev r (0, [(3, 1)]) = r 3 := zu_e1 _ _
  have q1 : zq_ev r (0, [(4, 1)]) = r 4 := zu_e1 _ _
  have q2 : zq_ev r (0, [(5, 1)]) = r 5 := zu_e1 _ _
  have q3 : zq_ev r (0, [(6, 1)]) = r 6 := zu_e1 _ _
  have q4 : zq_ev r (0, [(0, 1)]) = r 0 := zu_e1 _ _
  have q5 : zq_ev r (0, [(1, 1)]) = r 1 := zu_e1 _ _
  have q6 : zq_ev r (0, [(2, 1)]) = r 2 := zu_e1 _ _
  obtain ⟨hT, hC, hF, hS, -, hK⟩ := hM
  have c := hC.1
  have k1 := zj_use x_MC0 (hK)
  have k1 : zm_MC 35 (zq_ev r (0, [(3, 1)])) (zq_ev r (0, [(4, 1)])) (zq_ev r (0, [(5, 1)])) (zq_ev r (0, [(6, 1)])) P h := k1
  simp only [q0, q1, q2, q3] at k1
  have k2 := zj_use x_EN1_4 (zq_okX_t (hK))
  have k2 : zm_E 6 51 36 (zq_ev r (0, [(0, 1)])) (zq_ev r (0, [(3, 1)])) P h := k2
  simp only [q0, q4] at k2
  have k3 := zj_use x_CK1 (zq_okX_t (zq_okX_t (hK)))
  have k3 : zm_E 4 54 39 (zq_ev r (0, [(1, 1)])) (zq_ev r (0, [(4, 1)])) P h := k3
  simp only [q1, q5] at k3
  have k4 := zj_use x_EN1_5 (zq_okX_t (zq_okX_t (zq_okX_t (hK))))
  have k4 : zm_E 3 57 42 (zq_ev r (0, [(2, 1)])) (zq_ev r (0, [(5, 1)])) P h := k4
  simp only [q2, q6] at k4
  obtain t1 := zm_cp1_l (P := P) (h := h) (a := r 0) (b := r 1) (c := r 2) (x := r 3) (y := r 4) (z := r 5) (M := r 6) k1 k2 k3 k4
  obtain ⟨rq, hr⟩ : ∃ rq : Nat → Int, (∀ i, i < 7 → rq i = r i) := ⟨r, fun i hi => rfl⟩
  have v0 : rq 0 = r 0 := hr 0 (by decide)
  have v1 : rq 1 = r 1 := hr 1 (by decide)
  have v2 : rq 2 = r 2 := hr 2 (by decide)
  have v6 : rq 6 = r 6 := hr 6 (by decide)
  have g0 : zq_ev rq (0, [(0, 1)]) = r 0 := zu_f1 v0
  have g1 : zq_ev rq (0, [(1, 1)]) = r 1 := zu_f1 v1
  have g2 : zq_ev rq (0, [(2, 1)]) = r 2 := zu_f1 v2
  have g3 : zq_ev rq (0, [(6, 1)]) = r 6 := zu_f1 v6
  exact ⟨_, List.mem_cons_self .., rq, hr, zq_MeS_mk rfl hT (zq_all_nil) zq_fan (zq_fan) rfl (zu_fac ((x_MC1 _ _ _).mpr (by show zm_MC 50 (zq_ev rq (0, [(0, 1)])) (zq_ev rq (0, [(1, 1)])) (zq_ev rq (0, [(2, 1)])) (zq_ev rq (0, [(6, 1)])) P h; simp only [g0, g1, g2, g3]; exact t1)) zq_fan)⟩
noncomputable def zk_cz1 : zq_S × List zq_S := (([], [], [], [], [], [], [(293, [(0, [(4, 1)]), (0, [(5, 1)]), (0, [(6, 1)]), (0, [(7, 1)]), (0, [(8, 1)]), (0, [(9, 1)]), (0, [(10, 1)])]), (46, [(0, [(0, 1)]), (0, [(4, 1)])]), (47, [(0, [(1, 1)]), (0, [(5, 1)])]), (48, [(0, [(2, 1)]), (0, [(6, 1)])]), (49, [(0, [(3, 1)]), (0, [(7, 1)])])], 11), [([], [], [], [], [], [], [(294, [(0, [(0, 1)]), (0, [(1, 1)]), (0, [(2, 1)]), (0, [(3, 1)]), (0, [(8, 1)]), (0, [(9, 1)]), (0, [(10, 1)])])], 11)])
theorem zk_cz1_l {P : zq_Ty} {h : zq_H} {a b c d x y z w n M Z : Int} (k1 : zk_ZC 35 x y z w n M Z P h) (k2 : zm_E 16 59 44 a x P h) (k3 : zm_E 16 60 45 b y P h) (k4 : zm_E 16 61 46 c z P h) (k5 : zm_E 16 62 47 d w P h) : (zk_ZC 50 a b c d n M Z P h) := by
  exact zk_ZC_cp k1 k2 k3 k4 k5
theorem zk_cz1_ok {w : zq_Wd} (x_ZC0 : zj_is w 293 (fun q => zk_ZC 35 (q 0) (q 1) (q 2) (q 3) (q 4) (q 5) (q 6))) (x_EN1_0 : zj_is w 46 (fun q => zm_E 16 59 44 (q 0) (q 1))) (x_EN1_1 : zj_is w 47 (fun q => zm_E 16 60 45 (q 0) (q 1))) (x_EN1_2 : zj_is w 48 (fun q => zm_E 16 61 46 (q 0) (q 1))) (x_EN1_3 : zj_is w 49 (fun q => zm_E 16 62 47 (q 0) (q 1))) (x_ZC1 : zj_is w 294 (fun q => zk_ZC 50 (q 0) (q 1) (q 2) (q 3) (q 4) (q 5) (q 6))) : zq_okG1 w zk_cz1 := by
  refine ⟨rfl, rfl, zu_fac ⟨rfl, by decide⟩ zq_fan, ?_⟩
  intro r P h H hM
  have q0 : zq_ev r (0, [(4, 1)]) = r 4 := zu_e1 _ _
  have q1 : zq_ev r (0, [(5, 1)]) = r 5 := zu_e1 _ _
  have q2 : zq_ev r (0, [(6, 1)]) = r 6 := zu_e1 _ _
  have q3 : zq_ev r (0, [(7, 1)]) = r 7 := zu_e1 _ _
  have q4 : zq_ev r (0, [(8, 1)]) = r 8 := zu_e1 _ _
  have q5 : zq_ev r (0, [(9, 1)]) = r 9 := zu_e1 _ _
  have q6 : zq_ev r (0, [(10, 1)]) = r 10 := zu_e1 _ _
  have q7 : zq_ev r (0, [(0, 1)]) = r 0 := zu_e1 _ _
  have q8 : zq_ev r (0, [(1, 1)]) = r 1 := zu_e1 _ _
  have q9 : zq_ev r (0, [(2, 1)]) = r 2 := zu_e1 _ _
  have q10 : zq_ev r (0, [(3, 1)]) = r 3 := zu_e1 _ _
  obtain ⟨hT, hC, hF, hS, -, hK⟩ := hM
  have c := hC.1
  have k1 := zj_use x_ZC0 (hK)
  have k1 : zk_ZC 35 (zq_ev r (0, [(4, 1)])) (zq_ev r (0, [(5, 1)])) (zq_ev r (0, [(6, 1)])) (zq_ev r (0, [(7, 1)])) (zq_ev r (0, [(8, 1)])) (zq_ev r (0, [(9, 1)])) (zq_ev r (0, [(10, 1)])) P h := k1
  simp only [q0, q1, q2, q3, q4, q5, q6] at k1
  have k2 := zj_use x_EN1_0 (zq_okX_t (hK))
  have k2 : zm_E 16 59 44 (zq_ev r (0, [(0, 1)])) (zq_ev r (0, [(4, 1)])) P h := k2
  simp only [q0, q7] at k2
  have k3 := zj_use x_EN1_1 (zq_okX_t (zq_okX_t (hK)))
  have k3 : zm_E 16 60 45 (zq_ev r (0, [(1, 1)])) (zq_ev r (0, [(5, 1)])) P h := k3
  simp only [q1, q8] at k3
  have k4 := zj_use x_EN1_2 (zq_okX_t (zq_okX_t (zq_okX_t (hK))))
  have k4 : zm_E 16 61 46 (zq_ev r (0, [(2, 1)])) (zq_ev r (0, [(6, 1)])) P h := k4
  simp only [q2, q9] at k4
  have k5 := zj_use x_EN1_3 (zq_okX_t (zq_okX_t (zq_okX_t (zq_okX_t (hK)))))
  have k5 : zm_E 16 62 47 (zq_ev r (0, [(3, 1)])) (zq_ev r (0, [(7, 1)])) P h := k5
  simp only [q10, q3] at k5
  obtain t1 := zk_cz1_l (P := P) (h := h) (a := r 0) (b := r 1) (c := r 2) (d := r 3) (x := r 4) (y := r 5) (z := r 6) (w := r 7) (n := r 8) (M := r 9) (Z := r 10) k1 k2 k3 k4 k5
  obtain ⟨rq, hr⟩ : ∃ rq : Nat → Int, (∀ i, i < 11 → rq i = r i) := ⟨r, fun i hi => rfl⟩
  have v0 : rq 0 = r 0 := hr 0 (by decide)
  have v1 : rq 1 = r 1 := hr 1 (by decide)
  have v2 : rq 2 = r 2 := hr 2 (by decide)
  have v3 : rq 3 = r 3 := hr 3 (by decide)
  have v8 : rq 8 = r 8 := hr 8 (by decide)
  have v9 : rq 9 = r 9 := hr 9 (by decide)
  have v10 : rq 10 = r 10 := hr 10 (by decide)
  have g0 : zq_ev rq (0, [(0, 1)]) = r 0 := zu_f1 v0
  have g1 : zq_ev rq (0, [(1, 1)]) = r 1 := zu_f1 v1
  have g2 : zq_ev rq (0, [(2, 1)]) = r 2 := zu_f1 v2
  have g3 : zq_ev rq (0, [(3, 1)]) = r 3 := zu_f1 v3
  have g4 : zq_ev rq (0, [(8, 1)]) = r 8 := zu_f1 v8
  have g5 : zq_ev rq (0, [(9, 1)]) = r 9 := zu_f1 v9
  have g6 : zq_ev rq (0, [(10, 1)]) = r 10 := zu_f1 v10
  exact ⟨_, List.mem_cons_self .., rq, hr, zq_MeS_mk rfl hT (zq_all_nil) zq_fan (zq_fan) rfl (zu_fac ((x_ZC1 _ _ _).mpr (by show zk_ZC 50 (zq_ev rq (0, [(0, 1)])) (zq_ev rq (0, [(1, 1)])) (zq_ev rq (0, [(2, 1)])) (zq_ev rq (0, [(3, 1)])) (zq_ev rq (0, [(8, 1)])) (zq_ev rq (0, [(9, 1)])) (zq_ev rq (0, [(10, 1)])) P h; simp only [g0, g1, g2, g3, g4, g5, g6]; exact t1)) zq_fan)⟩
noncomputable def zt_t01 : zq_S × List zq_S := (([], [], [(0, [(0, 1)]), (0, [(1, 1)])], [((0, [(0, 1)]), 58), ((0, [(1, 1)]), 43)], [], [], [], 2), [([], [], [], [], [], [], [(357, [(0, [(0, 1)]), (0, [(1, 1)]), (0, [])])], 2)])
theorem zt_t01_l {P : zq_Ty} {h : zq_H} {a b : Int} (a1 : 0 ≤ a) (a2 : 0 ≤ b) (b1 : 0 ≤ a → P (a).toNat = some 58) (b2 : 0 ≤ b → P (b).toNat = some 43) : (zo_CB 6 58 43 a b 0 P h) := by
  exact zo_CB_0 ⟨a1, b1 a1⟩ ⟨a2, b2 a2⟩
theorem zt_t01_ok {w : zq_Wd} (x_CT1 : zj_is w 357 (fun q => zo_CB 6 58 43 (q 0) (q 1) (q 2))) : zq_okG1 w zt_t01 := by
  refine ⟨rfl, rfl, zu_fac ⟨rfl, by decide⟩ zq_fan, ?_⟩
  intro r P h H hM
  have q0 : zq_ev r (0, [(0, 1)]) = r 0 := zu_e1 _ _
  have q1 : zq_ev r (0, [(1, 1)]) = r 1 := zu_e1 _ _
  obtain ⟨hT, hC, hF, hS, -, hK⟩ := hM
  have c := hC.1
  have a1 := zq_all_1 c
  rw [q0] at a1
  have c := zq_all_t c
  have a2 := zq_all_1 c
  rw [q1] at a2
  have b1 : 0 ≤ r 0 → P (r 0).toNat = some 58 := fun z => by
    have z1 : 0 ≤ zq_ev r (0, [(0, 1)]) := by rw [q0]; exact z
    have z2 := zq_okF_1 (hF) z1
    simp only [q0] at z2
    exact z2
  have b2 : 0 ≤ r 1 → P (r 1).toNat = some 43 := fun z => by
    have z1 : 0 ≤ zq_ev r (0, [(1, 1)]) := by rw [q1]; exact z
    have z2 := zq_okF_1 (zq_okF_t (hF)) z1
    simp only [q1] at z2
    exact z2
  obtain t1 := zt_t01_l (P := P) (h := h) (a := r 0) (b := r 1) a1 a2 b1 b2
  obtain ⟨rq, hr⟩ : ∃ rq : Nat → Int, (∀ i, i < 2 → rq i = r i) := ⟨r, fun i hi => rfl⟩
  have v0 : rq 0 = r 0 := hr 0 (by decide)
  have v1 : rq 1 = r 1 := hr 1 (by decide)
  have g0 : zq_ev rq (0, [(0, 1)]) = r 0 := zu_f1 v0
  have g1 : zq_ev rq (0, [(1, 1)]) = r 1 := zu_f1 v1
  have g2 : zq_ev rq (0, []) = 0 := zu_e0 _ _
  exact ⟨_, List.mem_cons_self .., rq, hr, zq_MeS_mk rfl hT (zq_all_nil) zq_fan (zq_fan) rfl (zu_fac ((x_CT1 _ _ _).mpr (by show zo_CB 6 58 43 (zq_ev rq (0, [(0, 1)])) (zq_ev rq (0, [(1, 1)])) (zq_ev rq (0, [])) P h; simp only [g0, g1, g2]; exact t1)) zq_fan)⟩
noncomputable def zt_t11 : zq_S × List zq_S := (([], [], [(5, [(2, -1)])], [], [((0, [(0, 1)]), (0, [(2, 1)]), (0, [(3, 1)])), ((0, [(1, 1)]), (0, [(2, 1)]), (0, [(3, 1)]))], [], [(357, [(0, [(0, 1)]), (0, [(1, 1)]), (0, [(2, 1)])])], 4), [([], [], [], [], [], [], [(357, [(0, [(0, 1)]), (0, [(1, 1)]), (1, [(2, 1)])])], 4)])
theorem zt_t11_l {P : zq_Ty} {h : zq_H} {a b l v : Int} (a1 : 0 ≤ -l + 5) (s1 : 0 ≤ a ∧ P (a).toNat ≠ none ∧ h (a).toNat l = v) (s2 : 0 ≤ b ∧ P (b).toNat ≠ none ∧ h (b).toNat l = v) (k1 : zo_CB 6 58 43 a b l P h) : (zo_CB 6 58 43 a b (l + 1) P h) := by
  exact zo_CB_1 (by omega) k1 s1.2.2 s2.2.2
theorem zt_t11_ok {w : zq_Wd} (x_CT1 : zj_is w 357 (fun q => zo_CB 6 58 43 (q 0) (q 1) (q 2))) : zq_okG1 w zt_t11 := by
  refine ⟨rfl, rfl, zu_fac ⟨rfl, by decide⟩ zq_fan, ?_⟩
  intro r P h H hM
  have q0 : zq_ev r (5, [(2, -1)]) = -r 2 + 5 := zu_e5 _ _ _
  have q1 : zq_ev r (0, [(0, 1)]) = r 0 := zu_e1 _ _
  have q2 : zq_ev r (0, [(2, 1)]) = r 2 := zu_e1 _ _
  have q3 : zq_ev r (0, [(3, 1)]) = r 3 := zu_e1 _ _
  have q4 : zq_ev r (0, [(1, 1)]) = r 1 := zu_e1 _ _
  obtain ⟨hT, hC, hF, hS, -, hK⟩ := hM
  have c := hC.1
  have a1 := zq_all_1 c
  rw [q0] at a1
  have s1 := zq_okS_1 (hS)
  simp only [q1, q2, q3] at s1
  have s2 := zq_okS_1 (zq_okS_t (hS))
  simp only [q2, q3, q4] at s2
  have k1 := zj_use x_CT1 (hK)
  have k1 : zo_CB 6 58 43 (zq_ev r (0, [(0, 1)])) (zq_ev r (0, [(1, 1)])) (zq_ev r (0, [(2, 1)])) P h := k1
  simp only [q1, q2, q4] at k1
  obtain t1 := zt_t11_l (P := P) (h := h) (a := r 0) (b := r 1) (l := r 2) (v := r 3) a1 s1 s2 k1
  obtain ⟨rq, hr⟩ : ∃ rq : Nat → Int, (∀ i, i < 4 → rq i = r i) := ⟨r, fun i hi => rfl⟩
  have v0 : rq 0 = r 0 := hr 0 (by decide)
  have v1 : rq 1 = r 1 := hr 1 (by decide)
  have v2 : rq 2 = r 2 := hr 2 (by decide)
  have g0 : zq_ev rq (0, [(0, 1)]) = r 0 := zu_f1 v0
  have g1 : zq_ev rq (0, [(1, 1)]) = r 1 := zu_f1 v1
  have g2 : zq_ev rq (1, [(2, 1)]) = r 2 + 1 := zu_f2 v2 _
  exact ⟨_, List.mem_cons_self .., rq, hr, zq_MeS_mk rfl hT (zq_all_nil) zq_fan (zq_fan) rfl (zu_fac ((x_CT1 _ _ _).mpr (by show zo_CB 6 58 43 (zq_ev rq (0, [(0, 1)])) (zq_ev rq (0, [(1, 1)])) (zq_ev rq (1, [(2, 1)])) P h; simp only [g0, g1, g2]; exact t1)) zq_fan)⟩
noncomputable def zt_t21 : zq_S × List zq_S := (([], [], [(-6, [(2, 1)])], [], [], [], [(357, [(0, [(0, 1)]), (0, [(1, 1)]), (0, [(2, 1)])]), (307, [(0, [(1, 1)]), (0, [(3, 1)]), (0, [(4, 1)])])], 5), [([], [], [], [], [], [], [(308, [(0, [(0, 1)]), (0, [(3, 1)]), (0, [(4, 1)])])], 5)])
theorem zt_t21_l {P : zq_Ty} {h : zq_H} {a b l N T : Int} (a1 : 0 ≤ l - 6) (k1 : zo_CB 6 58 43 a b l P h) (k2 : zt_LT 35 b N T P h) : (zt_LT 50 a N T P h) := by
  exact zt_LT_cp (by omega) (zo_CB_CP k1) k2
theorem zt_t21_ok {w : zq_Wd} (x_CT1 : zj_is w 357 (fun q => zo_CB 6 58 43 (q 0) (q 1) (q 2))) (x_LT0 : zj_is w 307 (fun q => zt_LT 35 (q 0) (q 1) (q 2))) (x_LT1 : zj_is w 308 (fun q => zt_LT 50 (q 0) (q 1) (q 2))) : zq_okG1 w zt_t21 := by
  refine ⟨rfl, rfl, zu_fac ⟨rfl, by decide⟩ zq_fan, ?_⟩
  intro r P h H hM
  have q0 : zq_ev r (-6, [(2, 1)]) = r 2 - 6 := zu_e3 _ _ _
  have q1 : zq_ev r (0, [(0, 1)]) = r 0 := zu_e1 _ _
  have q2 : zq_ev r (0, [(1, 1)]) = r 1 := zu_e1 _ _
  have q3 : zq_ev r (0, [(2, 1)]) = r 2 := zu_e1 _ _
  have q4 : zq_ev r (0, [(3, 1)]) = r 3 := zu_e1 _ _
  have q5 : zq_ev r (0, [(4, 1)]) = r 4 := zu_e1 _ _
  obtain ⟨hT, hC, hF, hS, -, hK⟩ := hM
  have c := hC.1
  have a1 := zq_all_1 c
  rw [q0] at a1
  have k1 := zj_use x_CT1 (hK)
  have k1 : zo_CB 6 58 43 (zq_ev r (0, [(0, 1)])) (zq_ev r (0, [(1, 1)])) (zq_ev r (0, [(2, 1)])) P h := k1
  simp only [q1, q2, q3] at k1
  have k2 := zj_use x_LT0 (zq_okX_t (hK))
  have k2 : zt_LT 35 (zq_ev r (0, [(1, 1)])) (zq_ev r (0, [(3, 1)])) (zq_ev r (0, [(4, 1)])) P h := k2
  simp only [q2, q4, q5] at k2
  obtain t1 := zt_t21_l (P := P) (h := h) (a := r 0) (b := r 1) (l := r 2) (N := r 3) (T := r 4) a1 k1 k2
  obtain ⟨rq, hr⟩ : ∃ rq : Nat → Int, (∀ i, i < 5 → rq i = r i) := ⟨r, fun i hi => rfl⟩
  have v0 : rq 0 = r 0 := hr 0 (by decide)
  have v3 : rq 3 = r 3 := hr 3 (by decide)
  have v4 : rq 4 = r 4 := hr 4 (by decide)
  have g0 : zq_ev rq (0, [(0, 1)]) = r 0 := zu_f1 v0
  have g1 : zq_ev rq (0, [(3, 1)]) = r 3 := zu_f1 v3
  have g2 : zq_ev rq (0, [(4, 1)]) = r 4 := zu_f1 v4
  exact ⟨_, List.mem_cons_self .., rq, hr, zq_MeS_mk rfl hT (zq_all_nil) zq_fan (zq_fan) rfl (zu_fac ((x_LT1 _ _ _).mpr (by show zt_LT 50 (zq_ev rq (0, [(0, 1)])) (zq_ev rq (0, [(3, 1)])) (zq_ev rq (0, [(4, 1)])) P h; simp only [g0, g1, g2]; exact t1)) zq_fan)⟩
noncomputable def zm_cp2 : zq_S × List zq_S := (([], [], [], [], [], [], [(280, [(0, [(3, 1)]), (0, [(4, 1)]), (0, [(5, 1)]), (0, [(6, 1)])]), (56, [(0, [(0, 1)]), (0, [(3, 1)])]), (352, [(0, [(1, 1)]), (0, [(4, 1)])]), (57, [(0, [(2, 1)]), (0, [(5, 1)])])], 7), [([], [], [], [], [], [], [(282, [(0, [(0, 1)]), (0, [(1, 1)]), (0, [(2, 1)]), (0, [(6, 1)])])], 7)])
theorem zm_cp2_l {P : zq_Ty} {h : zq_H} {a b c x y z M : Int} (k1 : zm_MC 35 x y z M P h) (k2 : zm_E 6 66 36 a x P h) (k3 : zm_E 4 69 39 b y P h) (k4 : zm_E 3 72 42 c z P h) : (zm_MC 65 a b c M P h) := by
  exact zm_MC_cp k1 k2 k3 k4
theorem zm_cp2_ok {w : zq_Wd} (x_MC0 : zj_is w 280 (fun q => zm_MC 35 (q 0) (q 1) (q 2) (q 3))) (x_EN2_4 : zj_is w 56 (fun q => zm_E 6 66 36 (q 0) (q 1))) (x_CK2 : zj_is w 352 (fun q => zm_E 4 69 39 (q 0) (q 1))) (x_EN2_5 : zj_is w 57 (fun q => zm_E 3 72 42 (q 0) (q 1))) (x_MC2 : zj_is w 282 (fun q => zm_MC 65 (q 0) (q 1) (q 2) (q 3))) : zq_okG1 w zm_cp2 := by
  refine ⟨rfl, rfl, zu_fac ⟨rfl, by decide⟩ zq_fan, ?_⟩
  intro r P h H hM
  have q0 : zq_ev r (0, [(3, 1)]) = r 3 := zu_e1 _ _
  have q1 : zq_ev r (0, [(4, 1)]) = r 4 := zu_e1 _ _
  have q2 : zq_ev r (0, [(5, 1)]) = r 5 := zu_e1 _ _
  have q3 : zq_ev r (0, [(6, 1)]) = r 6 := zu_e1 _ _
  have q4 : zq_ev r (0, [(0, 1)]) = r 0 := zu_e1 _ _
  have q5 : zq_ev r (0, [(1, 1)]) = r 1 := zu_e1 _ _
  have q6 : zq_ev r (0, [(2, 1)]) = r 2 := zu_e1 _ _
  obtain ⟨hT, hC, hF, hS, -, hK⟩ := hM
  have c := hC.1
  have k1 := zj_use x_MC0 (hK)
  have k1 : zm_MC 35 (zq_ev r (0, [(3, 1)])) (zq_ev r (0, [(4, 1)])) (zq_ev r (0, [(5, 1)])) (zq_ev r (0, [(6, 1)])) P h := k1
  simp only [q0, q1, q2, q3] at k1
  have k2 := zj_use x_EN2_4 (zq_okX_t (hK))
  have k2 : zm_E 6 66 36 (zq_ev r (0, [(0, 1)])) (zq_ev r (0, [(3, 1)])) P h := k2
  simp only [q0, q4] at k2
  have k3 := zj_use x_CK2 (zq_okX_t (zq_okX_t (hK)))
  have k3 : zm_E 4 69 39 (zq_ev r (0, [(1, 1)])) (zq_ev r (0, [(4, 1)])) P h := k3
  simp only [q1, q5] at k3
  have k4 := zj_use x_EN2_5 (zq_okX_t (zq_okX_t (zq_okX_t (hK))))
  have k4 : zm_E 3 72 42 (zq_ev r (0, [(2, 1)])) (zq_ev r (0, [(5, 1)])) P h := k4
  simp only [q2, q6] at k4
  obtain t1 := zm_cp2_l (P := P) (h := h) (a := r 0) (b := r 1) (c := r 2) (x := r 3) (y := r 4) (z := r 5) (M := r 6) k1 k2 k3 k4
  obtain ⟨rq, hr⟩ : ∃ rq : Nat → Int, (∀ i, i < 7 → rq i = r i) := ⟨r, fun i hi => rfl⟩
  have v0 : rq 0 = r 0 := hr 0 (by decide)
  have v1 : rq 1 = r 1 := hr 1 (by decide)
  have v2 : rq 2 = r 2 := hr 2 (by decide)
  have v6 : rq 6 = r 6 := hr 6 (by decide)
  have g0 : zq_ev rq (0, [(0, 1)]) = r 0 := zu_f1 v0
  have g1 : zq_ev rq (0, [(1, 1)]) = r 1 := zu_f1 v1
  have g2 : zq_ev rq (0, [(2, 1)]) = r 2 := zu_f1 v2
  have g3 : zq_ev rq (0, [(6, 1)]) = r 6 := zu_f1 v6
  exact ⟨_, List.mem_cons_self .., rq, hr, zq_MeS_mk rfl hT (zq_all_nil) zq_fan (zq_fan) rfl (zu_fac ((x_MC2 _ _ _).mpr (by show zm_MC 65 (zq_ev rq (0, [(0, 1)])) (zq_ev rq (0, [(1, 1)])) (zq_ev rq (0, [(2, 1)])) (zq_ev rq (0, [(6, 1)])) P h; simp only [g0, g1, g2, g3]; exact t1)) zq_fan)⟩
noncomputable def zt_t02 : zq_S × List zq_S := (([], [], [(0, [(0, 1)]), (0, [(1, 1)])], [((0, [(0, 1)]), 73), ((0, [(1, 1)]), 43)], [], [], [], 2), [([], [], [], [], [], [], [(358, [(0, [(0, 1)]), (0, [(1, 1)]), (0, [])])], 2)])
theorem zt_t02_l {P : zq_Ty} {h : zq_H} {a b : Int} (a1 : 0 ≤ a) (a2 : 0 ≤ b) (b1 : 0 ≤ a → P (a).toNat = some 73) (b2 : 0 ≤ b → P (b).toNat = some 43) : (zo_CB 6 73 43 a b 0 P h) := by
  exact zo_CB_0 ⟨a1, b1 a1⟩ ⟨a2, b2 a2⟩
theorem zt_t02_ok {w : zq_Wd} (x_CT2 : zj_is w 358 (fun q => zo_CB 6 73 43 (q 0) (q 1) (q 2))) : zq_okG1 w zt_t02 := by
  refine ⟨rfl, rfl, zu_fac ⟨rfl, by decide⟩ zq_fan, ?_⟩
  intro r P h H hM
  have q0 : zq_ev r (0, [(0, 1)]) = r 0 := zu_e1 _ _
  have q1 : zq_ev r (0, [(1, 1)]) = r 1 := zu_e1 _ _
  obtain ⟨hT, hC, hF, hS, -, hK⟩ := hM
  have c := hC.1
  have a1 := zq_all_1 c
  rw [q0] at a1
  have c := zq_all_t c
  have a2 := zq_all_1 c
  rw [q1] at a2
  have b1 : 0 ≤ r 0 → P (r 0).toNat = some 73 := fun z => by
    have z1 : 0 ≤ zq_ev r (0, [(0, 1)]) := by rw [q0]; exact z
    have z2 := zq_okF_1 (hF) z1
    simp only [q0] at z2
    exact z2
  have b2 : 0 ≤ r 1 → P (r 1).toNat = some 43 := fun z => by
    have z1 : 0 ≤ zq_ev r (0, [(1, 1)]) := by rw [q1]; exact z
    have z2 := zq_okF_1 (zq_okF_t (hF)) z1
    simp only [q1] at z2
    exact z2
  obtain t1 := zt_t02_l (P := P) (h := h) (a := r 0) (b := r 1) a1 a2 b1 b2
  obtain ⟨rq, hr⟩ : ∃ rq : Nat → Int, (∀ i, i < 2 → rq i = r i) := ⟨r, fun i hi => rfl⟩
  have v0 : rq 0 = r 0 := hr 0 (by decide)
  have v1 : rq 1 = r 1 := hr 1 (by decide)
  have g0 : zq_ev rq (0, [(0, 1)]) = r 0 := zu_f1 v0
  have g1 : zq_ev rq (0, [(1, 1)]) = r 1 := zu_f1 v1
  have g2 : zq_ev rq (0, []) = 0 := zu_e0 _ _
  exact ⟨_, List.mem_cons_self .., rq, hr, zq_MeS_mk rfl hT (zq_all_nil) zq_fan (zq_fan) rfl (zu_fac ((x_CT2 _ _ _).mpr (by show zo_CB 6 73 43 (zq_ev rq (0, [(0, 1)])) (zq_ev rq (0, [(1, 1)])) (zq_ev rq (0, [])) P h; simp only [g0, g1, g2]; exact t1)) zq_fan)⟩
noncomputable def zt_t12 : zq_S × List zq_S := (([], [], [(5, [(2, -1)])], [], [((0, [(0, 1)]), (0, [(2, 1)]), (0, [(3, 1)])), ((0, [(1, 1)]), (0, [(2, 1)]), (0, [(3, 1)]))], [], [(358, [(0, [(0, 1)]), (0, [(1, 1)]), (0, [(2, 1)])])], 4), [([], [], [], [], [], [], [(358, [(0, [(0, 1)]), (0, [(1, 1)]), (1, [(2, 1)])])], 4)])
theorem zt_t12_l {P : zq_Ty} {h : zq_H} {a b l v : Int} (a1 : 0 ≤ -l + 5) (s1 : 0 ≤ a ∧ P (a).toNat ≠ none ∧ h (a).toNat l = v) (s2 : 0 ≤ b ∧ P (b).toNat ≠ none ∧ h (b).toNat l = v) (k1 : zo_CB 6 73 43 a b l P h) : (zo_CB 6 73 43 a b (l + 1) P h) := by
  exact zo_CB_1 (by omega) k1 s1.2.2 s2.2.2
theorem zt_t12_ok {w : zq_Wd} (x_CT2 : zj_is w 358 (fun q => zo_CB 6 73 43 (q 0) (q 1) (q 2))) : zq_okG1 w zt_t12 := by
  refine ⟨rfl, rfl, zu_fac ⟨rfl, by decide⟩ zq_fan, ?_⟩
  intro r P h H hM
  have q0 : zq_ev r (5, [(2, -1)]) = -r 2 + 5 := zu_e5 _ _ _
  have q1 : zq_ev r (0, [(0, 1)]) = r 0 := zu_e1 _ _
  have q2 : zq_ev r (0, [(2, 1)]) = r 2 := zu_e1 _ _
  have q3 : zq_ev r (0, [(3, 1)]) = r 3 := zu_e1 _ _
  have q4 : zq_ev r (0, [(1, 1)]) = r 1 := zu_e1 _ _
  obtain ⟨hT, hC, hF, hS, -, hK⟩ := hM
  have c := hC.1
  have a1 := zq_all_1 c
  rw [q0] at a1
  have s1 := zq_okS_1 (hS)
  simp only [q1, q2, q3] at s1
  have s2 := zq_okS_1 (zq_okS_t (hS))
  simp only [q2, q3, q4] at s2
  have k1 := zj_use x_CT2 (hK)
  have k1 : zo_CB 6 73 43 (zq_ev r (0, [(0, 1)])) (zq_ev r (0, [(1, 1)])) (zq_ev r (0, [(2, 1)])) P h := k1
  simp only [q1, q2, q4] at k1
  obtain t1 := zt_t12_l (P := P) (h := h) (a := r 0) (b := r 1) (l := r 2) (v := r 3) a1 s1 s2 k1
  obtain ⟨rq, hr⟩ : ∃ rq : Nat → Int, (∀ i, i < 4 → rq i = r i) := ⟨r, fun i hi => rfl⟩
  have v0 : rq 0 = r 0 := hr 0 (by decide)
  have v1 : rq 1 = r 1 := hr 1 (by decide)
  have v2 : rq 2 = r 2 := hr 2 (by decide)
  have g0 : zq_ev rq (0, [(0, 1)]) = r 0 := zu_f1 v0
  have g1 : zq_ev rq (0, [(1, 1)]) = r 1 := zu_f1 v1
  have g2 : zq_ev rq (1, [(2, 1)]) = r 2 + 1 := zu_f2 v2 _
  exact ⟨_, List.mem_cons_self .., rq, hr, zq_MeS_mk rfl hT (zq_all_nil) zq_fan (zq_fan) rfl (zu_fac ((x_CT2 _ _ _).mpr (by show zo_CB 6 73 43 (zq_ev rq (0, [(0, 1)])) (zq_ev rq (0, [(1, 1)])) (zq_ev rq (1, [(2, 1)])) P h; simp only [g0, g1, g2]; exact t1)) zq_fan)⟩
noncomputable def zt_t22 : zq_S × List zq_S := (([], [], [(-6, [(2, 1)])], [], [], [], [(358, [(0, [(0, 1)]), (0, [(1, 1)]), (0, [(2, 1)])]), (307, [(0, [(1, 1)]), (0, [(3, 1)]), (0, [(4, 1)])])], 5), [([], [], [], [], [], [], [(309, [(0, [(0, 1)]), (0, [(3, 1)]), (0, [(4, 1)])])], 5)])
theorem zt_t22_l {P : zq_Ty} {h : zq_H} {a b l N T : Int} (a1 : 0 ≤ l - 6) (k1 : zo_CB 6 73 43 a b l P h) (k2 : zt_LT 35 b N T P h) : (zt_LT 65 a N T P h) := by
  exact zt_LT_cp (by omega) (zo_CB_CP k1) k2
theorem zt_t22_ok {w : zq_Wd} (x_CT2 : zj_is w 358 (fun q => zo_CB 6 73 43 (q 0) (q 1) (q 2))) (x_LT0 : zj_is w 307 (fun q => zt_LT 35 (q 0) (q 1) (q 2))) (x_LT2 : zj_is w 309 (fun q => zt_LT 65 (q 0) (q 1) (q 2))) : zq_okG1 w zt_t22 := by
  refine ⟨rfl, rfl, zu_fac ⟨rfl, by decide⟩ zq_fan, ?_⟩
  intro r P h H hM
  have q0 : zq_ev r (-6, [(2, 1)]) = r 2 - 6 := zu_e3 _ _ _
  have q1 : zq_ev r (0, [(0, 1)]) = r 0 := zu_e1 _ _
  have q2 : zq_ev r (0, [(1, 1)]) = r 1 := zu_e1 _ _
  have q3 : zq_ev r (0, [(2, 1)]) = r 2 := zu_e1 _ _
  have q4 : zq_ev r (0, [(3, 1)]) = r 3 := zu_e1 _ _
  have q5 : zq_ev r (0, [(4, 1)]) = r 4 := zu_e1 _ _
  obtain ⟨hT, hC, hF, hS, -, hK⟩ := hM
  have c := hC.1
  have a1 := zq_all_1 c
  rw [q0] at a1
  have k1 := zj_use x_CT2 (hK)
  have k1 : zo_CB 6 73 43 (zq_ev r (0, [(0, 1)])) (zq_ev r (0, [(1, 1)])) (zq_ev r (0, [(2, 1)])) P h := k1
  simp only [q1, q2, q3] at k1
  have k2 := zj_use x_LT0 (zq_okX_t (hK))
  have k2 : zt_LT 35 (zq_ev r (0, [(1, 1)])) (zq_ev r (0, [(3, 1)])) (zq_ev r (0, [(4, 1)])) P h := k2
  simp only [q2, q4, q5] at k2
  obtain t1 := zt_t22_l (P := P) (h := h) (a := r 0) (b := r 1) (l := r 2) (N := r 3) (T := r 4) a1 k1 k2
  obtain ⟨rq, hr⟩ : ∃ rq : Nat → Int, (∀ i, i < 5 → rq i = r i) := ⟨r, fun i hi => rfl⟩
  have v0 : rq 0 = r 0 := hr 0 (by decide)
  have v3 : rq 3 = r 3 := hr 3 (by decide)
  have v4 : rq 4 = r 4 := hr 4 (by decide)
  have g0 : zq_ev rq (0, [(0, 1)]) = r 0 := zu_f1 v0
  have g1 : zq_ev rq (0, [(3, 1)]) = r 3 := zu_f1 v3
  have g2 : zq_ev rq (0, [(4, 1)]) = r 4 := zu_f1 v4
  exact ⟨_, List.mem_cons_self .., rq, hr, zq_MeS_mk rfl hT (zq_all_nil) zq_fan (zq_fan) rfl (zu_fac ((x_LT2 _ _ _).mpr (by show zt_LT 65 (zq_ev rq (0, [(0, 1)])) (zq_ev rq (0, [(3, 1)])) (zq_ev rq (0, [(4, 1)])) P h; simp only [g0, g1, g2]; exact t1)) zq_fan)⟩
noncomputable def zm_cp3 : zq_S × List zq_S := (([], [], [], [], [], [], [(280, [(0, [(3, 1)]), (0, [(4, 1)]), (0, [(5, 1)]), (0, [(6, 1)])]), (62, [(0, [(0, 1)]), (0, [(3, 1)])]), (353, [(0, [(1, 1)]), (0, [(4, 1)])]), (63, [(0, [(2, 1)]), (0, [(5, 1)])])], 7), [([], [], [], [], [], [], [(283, [(0, [(0, 1)]), (0, [(1, 1)]), (0, [(2, 1)]), (0, [(6, 1)])])], 7)])
theorem zm_cp3_l {P : zq_Ty} {h : zq_H} {a b c x y z M : Int} (k1 : zm_MC 35 x y z M P h) (k2 : zm_E 6 81 36 a x P h) (k3 : zm_E 4 84 39 b y P h) (k4 : zm_E 3 87 42 c z P h) : (zm_MC 80 a b c M P h) := by
  exact zm_MC_cp k1 k2 k3 k4
theorem zm_cp3_ok {w : zq_Wd} (x_MC0 : zj_is w 280 (fun q => zm_MC 35 (q 0) (q 1) (q 2) (q 3))) (x_EN3_4 : zj_is w 62 (fun q => zm_E 6 81 36 (q 0) (q 1))) (x_CK3 : zj_is w 353 (fun q => zm_E 4 84 39 (q 0) (q 1))) (x_EN3_5 : zj_is w 63 (fun q => zm_E 3 87 42 (q 0) (q 1))) (x_MC3 : zj_is w 283 (fun q => zm_MC 80 (q 0) (q 1) (q 2) (q 3))) : zq_okG1 w zm_cp3 := by
  refine ⟨rfl, rfl, zu_fac ⟨rfl, by decide⟩ zq_fan, ?_⟩
  intro r P h H hM
  have q0 : zq_ev r (0, [(3, 1)]) = r 3 := zu_e1 _ _
  have q1 : zq_ev r (0, [(4, 1)]) = r 4 := zu_e1 _ _
  have q2 : zq_ev r (0, [(5, 1)]) = r 5 := zu_e1 _ _
  have q3 : zq_ev r (0, [(6, 1)]) = r 6 := zu_e1 _ _
  have q4 : zq_ev r (0, [(0, 1)]) = r 0 := zu_e1 _ _
  have q5 : zq_ev r (0, [(1, 1)]) = r 1 := zu_e1 _ _
  have q6 : zq_ev r (0, [(2, 1)]) = r 2 := zu_e1 _ _
  obtain ⟨hT, hC, hF, hS, -, hK⟩ := hM
  have c := hC.1
  have k1 := zj_use x_MC0 (hK)
  have k1 : zm_MC 35 (zq_ev r (0, [(3, 1)])) (zq_ev r (0, [(4, 1)])) (zq_ev r (0, [(5, 1)])) (zq_ev r (0, [(6, 1)])) P h := k1
  simp only [q0, q1, q2, q3] at k1
  have k2 := zj_use x_EN3_4 (zq_okX_t (hK))
  have k2 : zm_E 6 81 36 (zq_ev r (0, [(0, 1)])) (zq_ev r (0, [(3, 1)])) P h := k2
  simp only [q0, q4] at k2
  have k3 := zj_use x_CK3 (zq_okX_t (zq_okX_t (hK)))
  have k3 : zm_E 4 84 39 (zq_ev r (0, [(1, 1)])) (zq_ev r (0, [(4, 1)])) P h := k3
  simp only [q1, q5] at k3
  have k4 := zj_use x_EN3_5 (zq_okX_t (zq_okX_t (zq_okX_t (hK))))
  have k4 : zm_E 3 87 42 (zq_ev r (0, [(2, 1)])) (zq_ev r (0, [(5, 1)])) P h := k4
  simp only [q2, q6] at k4
  obtain t1 := zm_cp3_l (P := P) (h := h) (a := r 0) (b := r 1) (c := r 2) (x := r 3) (y := r 4) (z := r 5) (M := r 6) k1 k2 k3 k4
  obtain ⟨rq, hr⟩ : ∃ rq : Nat → Int, (∀ i, i < 7 → rq i = r i) := ⟨r, fun i hi => rfl⟩
  have v0 : rq 0 = r 0 := hr 0 (by decide)
  have v1 : rq 1 = r 1 := hr 1 (by decide)
  have v2 : rq 2 = r 2 := hr 2 (by decide)
  have v6 : rq 6 = r 6 := hr 6 (by decide)
  have g0 : zq_ev rq (0, [(0, 1)]) = r 0 := zu_f1 v0
  have g1 : zq_ev rq (0, [(1, 1)]) = r 1 := zu_f1 v1
  have g2 : zq_ev rq (0, [(2, 1)]) = r 2 := zu_f1 v2
  have g3 : zq_ev rq (0, [(6, 1)]) = r 6 := zu_f1 v6
  exact ⟨_, List.mem_cons_self .., rq, hr, zq_MeS_mk rfl hT (zq_all_nil) zq_fan (zq_fan) rfl (zu_fac ((x_MC3 _ _ _).mpr (by show zm_MC 80 (zq_ev rq (0, [(0, 1)])) (zq_ev rq (0, [(1, 1)])) (zq_ev rq (0, [(2, 1)])) (zq_ev rq (0, [(6, 1)])) P h; simp only [g0, g1, g2, g3]; exact t1)) zq_fan)⟩
noncomputable def zt_t03 : zq_S × List zq_S := (([], [], [(0, [(0, 1)]), (0, [(1, 1)])], [((0, [(0, 1)]), 88), ((0, [(1, 1)]), 43)], [], [], [], 2), [([], [], [], [], [], [], [(359, [(0, [(0, 1)]), (0, [(1, 1)]), (0, [])])], 2)])
theorem zt_t03_l {P : zq_Ty} {h : zq_H} {a b : Int} (a1 : 0 ≤ a) (a2 : 0 ≤ b) (b1 : 0 ≤ a → P (a).toNat = some 88) (b2 : 0 ≤ b → P (b).toNat = some 43) : (zo_CB 6 88 43 a b 0 P h) := by
  exact zo_CB_0 ⟨a1, b1 a1⟩ ⟨a2, b2 a2⟩
theorem zt_t03_ok {w : zq_Wd} (x_CT3 : zj_is w 359 (fun q => zo_CB 6 88 43 (q 0) (q 1) (q 2))) : zq_okG1 w zt_t03 := by
  refine ⟨rfl, rfl, zu_fac ⟨rfl, by decide⟩ zq_fan, ?_⟩
  intro r P h H hM
  have q0 : zq_ev r (0, [(0, 1)]) = r 0 := zu_e1 _ _
  have q1 : zq_ev r (0, [(1, 1)]) = r 1 := zu_e1 _ _
  obtain ⟨hT, hC, hF, hS, -, hK⟩ := hM
  have c := hC.1
  have a1 := zq_all_1 c
  rw [q0] at a1
  have c := zq_all_t c
  have a2 := zq_all_1 c
  rw [q1] at a2
  have b1 : 0 ≤ r 0 → P (r 0).toNat = some 88 := fun z => by
    have z1 : 0 ≤ zq_ev r (0, [(0, 1)]) := by rw [q0]; exact z
    have z2 := zq_okF_1 (hF) z1
    simp only [q0] at z2
    exact z2
  have b2 : 0 ≤ r 1 → P (r 1).toNat = some 43 := fun z => by
    have z1 : 0 ≤ zq_ev r (0, [(1, 1)]) := by rw [q1]; exact z
    have z2 := zq_okF_1 (zq_okF_t (hF)) z1
    simp only [q1] at z2
    exact z2
  obtain t1 := zt_t03_l (P := P) (h := h) (a := r 0) (b := r 1) a1 a2 b1 b2
  obtain ⟨rq, hr⟩ : ∃ rq : Nat → Int, (∀ i, i < 2 → rq i = r i) := ⟨r, fun i hi => rfl⟩
  have v0 : rq 0 = r 0 := hr 0 (by decide)
  have v1 : rq 1 = r 1 := hr 1 (by decide)
  have g0 : zq_ev rq (0, [(0, 1)]) = r 0 := zu_f1 v0
  have g1 : zq_ev rq (0, [(1, 1)]) = r 1 := zu_f1 v1
  have g2 : zq_ev rq (0, []) = 0 := zu_e0 _ _
  exact ⟨_, List.mem_cons_self .., rq, hr, zq_MeS_mk rfl hT (zq_all_nil) zq_fan (zq_fan) rfl (zu_fac ((x_CT3 _ _ _).mpr (by show zo_CB 6 88 43 (zq_ev rq (0, [(0, 1)])) (zq_ev rq (0, [(1, 1)])) (zq_ev rq (0, [])) P h; simp only [g0, g1, g2]; exact t1)) zq_fan)⟩
noncomputable def zt_t13 : zq_S × List zq_S := (([], [], [(5, [(2, -1)])], [], [((0, [(0, 1)]), (0, [(2, 1)]), (0, [(3, 1)])), ((0, [(1, 1)]), (0, [(2, 1)]), (0, [(3, 1)]))], [], [(359, [(0, [(0, 1)]), (0, [(1, 1)]), (0, [(2, 1)])])], 4), [([], [], [], [], [], [], [(359, [(0, [(0, 1)]), (0, [(1, 1)]), (1, [(2, 1)])])], 4)])
theorem zt_t13_l {P : zq_Ty} {h : zq_H} {a b l v : Int} (a1 : 0 ≤ -l + 5) (s1 : 0 ≤ a ∧ P (a).toNat ≠ none ∧ h (a).toNat l = v) (s2 : 0 ≤ b ∧ P (b).toNat ≠ none ∧ h (b).toNat l = v) (k1 : zo_CB 6 88 43 a b l P h) : (zo_CB 6 88 43 a b (l + 1) P h) := by
  exact zo_CB_1 (by omega) k1 s1.2.2 s2.2.2
theorem zt_t13_ok {w : zq_Wd} (x_CT3 : zj_is w 359 (fun q => zo_CB 6 88 43 (q 0) (q 1) (q 2))) : zq_okG1 w zt_t13 := by
  refine ⟨rfl, rfl, zu_fac ⟨rfl, by decide⟩ zq_fan, ?_⟩
  intro r P h H hM
  have q0 : zq_ev r (5, [(2, -1)]) = -r 2 + 5 := zu_e5 _ _ _
  have q1 : zq_ev r (0, [(0, 1)]) = r 0 := zu_e1 _ _
  have q2 : zq_ev r (0, [(2, 1)]) = r 2 := zu_e1 _ _
  have q3 : zq_ev r (0, [(3, 1)]) = r 3 := zu_e1 _ _
  have q4 : zq_ev r (0, [(1, 1)]) = r 1 := zu_e1 _ _
  obtain ⟨hT, hC, hF, hS, -, hK⟩ := hM
  have c := hC.1
  have a1 := zq_all_1 c
  rw [q0] at a1
  have s1 := zq_okS_1 (hS)
  simp only [q1, q2, q3] at s1
  have s2 := zq_okS_1 (zq_okS_t (hS))
  simp only [q2, q3, q4] at s2
  have k1 := zj_use x_CT3 (hK)
  have k1 : zo_CB 6 88 43 (zq_ev r (0, [(0, 1)])) (zq_ev r (0, [(1, 1)])) (zq_ev r (0, [(2, 1)])) P h := k1
  simp only [q1, q2, q4] at k1
  obtain t1 := zt_t13_l (P := P) (h := h) (a := r 0) (b := r 1) (l := r 2) (v := r 3) a1 s1 s2 k1
  obtain ⟨rq, hr⟩ : ∃ rq : Nat → Int, (∀ i, i < 4 → rq i = r i) := ⟨r, fun i hi => rfl⟩
  have v0 : rq 0 = r 0 := hr 0 (by decide)
  have v1 : rq 1 = r 1 := hr 1 (by decide)
  have v2 : rq 2 = r 2 := hr 2 (by decide)
  have g0 : zq_ev rq (0, [(0, 1)]) = r 0 := zu_f1 v0
  have g1 : zq_ev rq (0, [(1, 1)]) = r 1 := zu_f1 v1
  have g2 : zq_ev rq (1, [(2, 1)]) = r 2 + 1 := zu_f2 v2 _
  exact ⟨_, List.mem_cons_self .., rq, hr, zq_MeS_mk rfl hT (zq_all_nil) zq_fan (zq_fan) rfl (zu_fac ((x_CT3 _ _ _).mpr (by show zo_CB 6 88 43 (zq_ev rq (0, [(0, 1)])) (zq_ev rq (0, [(1, 1)])) (zq_ev rq (1, [(2, 1)])) P h; simp only [g0, g1, g2]; exact t1)) zq_fan)⟩
noncomputable def zt_t23 : zq_S × List zq_S := (([], [], [(-6, [(2, 1)])], [], [], [], [(359, [(0, [(0, 1)]), (0, [(1, 1)]), (0, [(2, 1)])]), (307, [(0, [(1, 1)]), (0, [(3, 1)]), (0, [(4, 1)])])], 5), [([], [], [], [], [], [], [(310, [(0, [(0, 1)]), (0, [(3, 1)]), (0, [(4, 1)])])], 5)])
theorem zt_t23_l {P : zq_Ty} {h : zq_H} {a b l N T : Int} (a1 : 0 ≤ l - 6) (k1 : zo_CB 6 88 43 a b l P h) (k2 : zt_LT 35 b N T P h) : (zt_LT 80 a N T P h) := by
  exact zt_LT_cp (by omega) (zo_CB_CP k1) k2
theorem zt_t23_ok {w : zq_Wd} (x_CT3 : zj_is w 359 (fun q => zo_CB 6 88 43 (q 0) (q 1) (q 2))) (x_LT0 : zj_is w 307 (fun q => zt_LT 35 (q 0) (q 1) (q 2))) (x_LT3 : zj_is w 310 (fun q => zt_LT 80 (q 0) (q 1) (q 2))) : zq_okG1 w zt_t23 := by
  refine ⟨rfl, rfl, zu_fac ⟨rfl, by decide⟩ zq_fan, ?_⟩
  intro r P h H hM
  have q0 : zq_ev r (-6, [(2, 1)]) = r 2 - 6 := zu_e3 _ _ _
  have q1 : zq_ev r (0, [(0, 1)]) = r 0 := zu_e1 _ _
  have q2 : zq_ev r (0, [(1, 1)]) = r 1 := zu_e1 _ _
  have q3 : zq_ev r (0, [(2, 1)]) = r 2 := zu_e1 _ _
  have q4 : zq_ev r (0, [(3, 1)]) = r 3 := zu_e1 _ _
  have q5 : zq_ev r (0, [(4, 1)]) = r 4 := zu_e1 _ _
  obtain ⟨hT, hC, hF, hS, -, hK⟩ := hM
  have c := hC.1
  have a1 := zq_all_1 c
  rw [q0] at a1
  have k1 := zj_use x_CT3 (hK)
  have k1 : zo_CB 6 88 43 (zq_ev r (0, [(0, 1)])) (zq_ev r (0, [(1, 1)])) (zq_ev r (0, [(2, 1)])) P h := k1
  simp only [q1, q2, q3] at k1
  have k2 := zj_use x_LT0 (zq_okX_t (hK))
  have k2 : zt_LT 35 (zq_ev r (0, [(1, 1)])) (zq_ev r (0, [(3, 1)])) (zq_ev r (0, [(4, 1)])) P h := k2
  simp only [q2, q4, q5] at k2
  obtain t1 := zt_t23_l (P := P) (h := h) (a := r 0) (b := r 1) (l := r 2) (N := r 3) (T := r 4) a1 k1 k2
  obtain ⟨rq, hr⟩ : ∃ rq : Nat → Int, (∀ i, i < 5 → rq i = r i) := ⟨r, fun i hi => rfl⟩
  have v0 : rq 0 = r 0 := hr 0 (by decide)
  have v3 : rq 3 = r 3 := hr 3 (by decide)
  have v4 : rq 4 = r 4 := hr 4 (by decide)
  have g0 : zq_ev rq (0, [(0, 1)]) = r 0 := zu_f1 v0
  have g1 : zq_ev rq (0, [(3, 1)]) = r 3 := zu_f1 v3
  have g2 : zq_ev rq (0, [(4, 1)]) = r 4 := zu_f1 v4
  exact ⟨_, List.mem_cons_self .., rq, hr, zq_MeS_mk rfl hT (zq_all_nil) zq_fan (zq_fan) rfl (zu_fac ((x_LT3 _ _ _).mpr (by show zt_LT 80 (zq_ev rq (0, [(0, 1)])) (zq_ev rq (0, [(3, 1)])) (zq_ev rq (0, [(4, 1)])) P h; simp only [g0, g1, g2]; exact t1)) zq_fan)⟩
noncomputable def zm_cp4 : zq_S × List zq_S := (([], [], [], [], [], [], [(282, [(0, [(3, 1)]), (0, [(4, 1)]), (0, [(5, 1)]), (0, [(6, 1)])]), (68, [(0, [(0, 1)]), (0, [(3, 1)])]), (354, [(0, [(1, 1)]), (0, [(4, 1)])]), (69, [(0, [(2, 1)]), (0, [(5, 1)])])], 7), [([], [], [], [], [], [], [(280, [(0, [(0, 1)]), (0, [(1, 1)]), (0, [(2, 1)]), (0, [(6, 1)])])], 7)])
theorem zm_cp4_l {P : zq_Ty} {h : zq_H} {a b c x y z M : Int} (k1 : zm_MC 65 x y z M P h) (k2 : zm_E 6 36 66 a x P h) (k3 : zm_E 4 39 69 b y P h) (k4 : zm_E 3 42 72 c z P h) : (zm_MC 35 a b c M P h) := by
  exact zm_MC_cp k1 k2 k3 k4
theorem zm_cp4_ok {w : zq_Wd} (x_MC2 : zj_is w 282 (fun q => zm_MC 65 (q 0) (q 1) (q 2) (q 3))) (x_EN4_4 : zj_is w 68 (fun q => zm_E 6 36 66 (q 0) (q 1))) (x_CK4 : zj_is w 354 (fun q => zm_E 4 39 69 (q 0) (q 1))) (x_EN4_5 : zj_is w 69 (fun q => zm_E 3 42 72 (q 0) (q 1))) (x_MC0 : zj_is w 280 (fun q => zm_MC 35 (q 0) (q 1) (q 2) (q 3))) : zq_okG1 w zm_cp4 := by
  refine ⟨rfl, rfl, zu_fac ⟨rfl, by decide⟩ zq_fan, ?_⟩
  intro r P h H hM
  have q0 : zq_ev r (0, [(3, 1)]) = r 3 := zu_e1 _ _
  have q1 : zq_ev r (0, [(4, 1)]) = r 4 := zu_e1 _ _
  have q2 : zq_ev r (0, [(5, 1)]) = r 5 := zu_e1 _ _
  have q3 : zq_ev r (0, [(6, 1)]) = r 6 := zu_e1 _ _
  have q4 : zq_ev r (0, [(0, 1)]) = r 0 := zu_e1 _ _
  have q5 : zq_ev r (0, [(1, 1)]) = r 1 := zu_e1 _ _
  have q6 : zq_ev r (0, [(2, 1)]) = r 2 := zu_e1 _ _
  obtain ⟨hT, hC, hF, hS, -, hK⟩ := hM
  have c := hC.1
  have k1 := zj_use x_MC2 (hK)
  have k1 : zm_MC 65 (zq_ev r (0, [(3, 1)])) (zq_ev r (0, [(4, 1)])) (zq_ev r (0, [(5, 1)])) (zq_ev r (0, [(6, 1)])) P h := k1
  simp only [q0, q1, q2, q3] at k1
  have k2 := zj_use x_EN4_4 (zq_okX_t (hK))
  have k2 : zm_E 6 36 66 (zq_ev r (0, [(0, 1)])) (zq_ev r (0, [(3, 1)])) P h := k2
  simp only [q0, q4] at k2
  have k3 := zj_use x_CK4 (zq_okX_t (zq_okX_t (hK)))
  have k3 : zm_E 4 39 69 (zq_ev r (0, [(1, 1)])) (zq_ev r (0, [(4, 1)])) P h := k3
  simp only [q1, q5] at k3
  have k4 := zj_use x_EN4_5 (zq_okX_t (zq_okX_t (zq_okX_t (hK))))
  have k4 : zm_E 3 42 72 (zq_ev r (0, [(2, 1)])) (zq_ev r (0, [(5, 1)])) P h := k4
  simp only [q2, q6] at k4
  obtain t1 := zm_cp4_l (P := P) (h := h) (a := r 0) (b := r 1) (c := r 2) (x := r 3) (y := r 4) (z := r 5) (M := r 6) k1 k2 k3 k4
  obtain ⟨rq, hr⟩ : ∃ rq : Nat → Int, (∀ i, i < 7 → rq i = r i) := ⟨r, fun i hi => rfl⟩
  have v0 : rq 0 = r 0 := hr 0 (by decide)
  have v1 : rq 1 = r 1 := hr 1 (by decide)
  have v2 : rq 2 = r 2 := hr 2 (by decide)
  have v6 : rq 6 = r 6 := hr 6 (by decide)
  have g0 : zq_ev rq (0, [(0, 1)]) = r 0 := zu_f1 v0
  have g1 : zq_ev rq (0, [(1, 1)]) = r 1 := zu_f1 v1
  have g2 : zq_ev rq (0, [(2, 1)]) = r 2 := zu_f1 v2
  have g3 : zq_ev rq (0, [(6, 1)]) = r 6 := zu_f1 v6
  exact ⟨_, List.mem_cons_self .., rq, hr, zq_MeS_mk rfl hT (zq_all_nil) zq_fan (zq_fan) rfl (zu_fac ((x_MC0 _ _ _).mpr (by show zm_MC 35 (zq_ev rq (0, [(0, 1)])) (zq_ev rq (0, [(1, 1)])) (zq_ev rq (0, [(2, 1)])) (zq_ev rq (0, [(6, 1)])) P h; simp only [g0, g1, g2, g3]; exact t1)) zq_fan)⟩
noncomputable def zt_t04 : zq_S × List zq_S := (([], [], [(0, [(0, 1)]), (0, [(1, 1)])], [((0, [(0, 1)]), 43), ((0, [(1, 1)]), 73)], [], [], [], 2), [([], [], [], [], [], [], [(360, [(0, [(0, 1)]), (0, [(1, 1)]), (0, [])])], 2)])
theorem zt_t04_l {P : zq_Ty} {h : zq_H} {a b : Int} (a1 : 0 ≤ a) (a2 : 0 ≤ b) (b1 : 0 ≤ a → P (a).toNat = some 43) (b2 : 0 ≤ b → P (b).toNat = some 73) : (zo_CB 6 43 73 a b 0 P h) := by
  exact zo_CB_0 ⟨a1, b1 a1⟩ ⟨a2, b2 a2⟩
theorem zt_t04_ok {w : zq_Wd} (x_CT4 : zj_is w 360 (fun q => zo_CB 6 43 73 (q 0) (q 1) (q 2))) : zq_okG1 w zt_t04 := by
  refine ⟨rfl, rfl, zu_fac ⟨rfl, by decide⟩ zq_fan, ?_⟩
  intro r P h H hM
  have q0 : zq_ev r (0, [(0, 1)]) = r 0 := zu_e1 _ _
  have q1 : zq_ev r (0, [(1, 1)]) = r 1 := zu_e1 _ _
  obtain ⟨hT, hC, hF, hS, -, hK⟩ := hM
  have c := hC.1
  have a1 := zq_all_1 c
  rw [q0] at a1
  have c := zq_all_t c
  have a2 := zq_all_1 c
  rw [q1] at a2
  have b1 : 0 ≤ r 0 → P (r 0).toNat = some 43 := fun z => by
    have z1 : 0 ≤ zq_ev r (0, [(0, 1)]) := by rw [q0]; exact z
    have z2 := zq_okF_1 (hF) z1
    simp only [q0] at z2
    exact z2
  have b2 : 0 ≤ r 1 → P (r 1).toNat = some 73 := fun z => by
    have z1 : 0 ≤ zq_ev r (0, [(1, 1)]) := by rw [q1]; exact z
    have z2 := zq_okF_1 (zq_okF_t (hF)) z1
    simp only [q1] at z2
    exact z2
  obtain t1 := zt_t04_l (P := P) (h := h) (a := r 0) (b := r 1) a1 a2 b1 b2
  obtain ⟨rq, hr⟩ : ∃ rq : Nat → Int, (∀ i, i < 2 → rq i = r i) := ⟨r, fun i hi => rfl⟩
  have v0 : rq 0 = r 0 := hr 0 (by decide)
  have v1 : rq 1 = r 1 := hr 1 (by decide)
  have g0 : zq_ev rq (0, [(0, 1)]) = r 0 := zu_f1 v0
  have g1 : zq_ev rq (0, [(1, 1)]) = r 1 := zu_f1 v1
  have g2 : zq_ev rq (0, []) = 0 := zu_e0 _ _
  exact ⟨_, List.mem_cons_self .., rq, hr, zq_MeS_mk rfl hT (zq_all_nil) zq_fan (zq_fan) rfl (zu_fac ((x_CT4 _ _ _).mpr (by show zo_CB 6 43 73 (zq_ev rq (0, [(0, 1)])) (zq_ev rq (0, [(1, 1)])) (zq_ev rq (0, [])) P h; simp only [g0, g1, g2]; exact t1)) zq_fan)⟩
noncomputable def zt_t14 : zq_S × List zq_S := (([], [], [(5, [(2, -1)])], [], [((0, [(0, 1)]), (0, [(2, 1)]), (0, [(3, 1)])), ((0, [(1, 1)]), (0, [(2, 1)]), (0, [(3, 1)]))], [], [(360, [(0, [(0, 1)]), (0, [(1, 1)]), (0, [(2, 1)])])], 4), [([], [], [], [], [], [], [(360, [(0, [(0, 1)]), (0, [(1, 1)]), (1, [(2, 1)])])], 4)])
theorem zt_t14_l {P : zq_Ty} {h : zq_H} {a b l v : Int} (a1 : 0 ≤ -l + 5) (s1 : 0 ≤ a ∧ P (a).toNat ≠ none ∧ h (a).toNat l = v) (s2 : 0 ≤ b ∧ P (b).toNat ≠ none ∧ h (b).toNat l = v) (k1 : zo_CB 6 43 73 a b l P h) : (zo_CB 6 43 73 a b (l + 1) P h) := by
  exact zo_CB_1 (by omega) k1 s1.2.2 s2.2.2
theorem zt_t14_ok {w : zq_Wd} (x_CT4 : zj_is w 360 (fun q => zo_CB 6 43 73 (q 0) (q 1) (q 2))) : zq_okG1 w zt_t14 := by
  refine ⟨rfl, rfl, zu_fac ⟨rfl, by decide⟩ zq_fan, ?_⟩
  intro r P h H hM
  have q0 : zq_ev r (5, [(2, -1)]) = -r 2 + 5 := zu_e5 _ _ _
  have q1 : zq_ev r (0, [(0, 1)]) = r 0 := zu_e1 _ _
  have q2 : zq_ev r (0, [(2, 1)]) = r 2 := zu_e1 _ _
  have q3 : zq_ev r (0, [(3, 1)]) = r 3 := zu_e1 _ _
  have q4 : zq_ev r (0, [(1, 1)]) = r 1 := zu_e1 _ _
  obtain ⟨hT, hC, hF, hS, -, hK⟩ := hM
  have c := hC.1
  have a1 := zq_all_1 c
  rw [q0] at a1
  have s1 := zq_okS_1 (hS)
  simp only [q1, q2, q3] at s1
  have s2 := zq_okS_1 (zq_okS_t (hS))
  simp only [q2, q3, q4] at s2
  have k1 := zj_use x_CT4 (hK)
  have k1 : zo_CB 6 43 73 (zq_ev r (0, [(0, 1)])) (zq_ev r (0, [(1, 1)])) (zq_ev r (0, [(2, 1)])) P h := k1
  simp only [q1, q2, q4] at k1
  obtain t1 := zt_t14_l (P := P) (h := h) (a := r 0) (b := r 1) (l := r 2) (v := r 3) a1 s1 s2 k1
  obtain ⟨rq, hr⟩ : ∃ rq : Nat → Int, (∀ i, i < 4 → rq i = r i) := ⟨r, fun i hi => rfl⟩
  have v0 : rq 0 = r 0 := hr 0 (by decide)
  have v1 : rq 1 = r 1 := hr 1 (by decide)
  have v2 : rq 2 = r 2 := hr 2 (by decide)
  have g0 : zq_ev rq (0, [(0, 1)]) = r 0 := zu_f1 v0
  have g1 : zq_ev rq (0, [(1, 1)]) = r 1 := zu_f1 v1
  have g2 : zq_ev rq (1, [(2, 1)]) = r 2 + 1 := zu_f2 v2 _
  exact ⟨_, List.mem_cons_self .., rq, hr, zq_MeS_mk rfl hT (zq_all_nil) zq_fan (zq_fan) rfl (zu_fac ((x_CT4 _ _ _).mpr (by show zo_CB 6 43 73 (zq_ev rq (0, [(0, 1)])) (zq_ev rq (0, [(1, 1)])) (zq_ev rq (1, [(2, 1)])) P h; simp only [g0, g1, g2]; exact t1)) zq_fan)⟩
noncomputable def zt_t24 : zq_S × List zq_S := (([], [], [(-6, [(2, 1)])], [], [], [], [(360, [(0, [(0, 1)]), (0, [(1, 1)]), (0, [(2, 1)])]), (309, [(0, [(1, 1)]), (0, [(3, 1)]), (0, [(4, 1)])])], 5), [([], [], [], [], [], [], [(307, [(0, [(0, 1)]), (0, [(3, 1)]), (0, [(4, 1)])])], 5)])
theorem zt_t24_l {P : zq_Ty} {h : zq_H} {a b l N T : Int} (a1 : 0 ≤ l - 6) (k1 : zo_CB 6 43 73 a b l P h) (k2 : zt_LT 65 b N T P h) : (zt_LT 35 a N T P h) := by
  exact zt_LT_cp (by omega) (zo_CB_CP k1) k2
theorem zt_t24_ok {w : zq_Wd} (x_CT4 : zj_is w 360 (fun q => zo_CB 6 43 73 (q 0) (q 1) (q 2))) (x_LT2 : zj_is w 309 (fun q => zt_LT 65 (q 0) (q 1) (q 2))) (x_LT0 : zj_is w 307 (fun q => zt_LT 35 (q 0) (q 1) (q 2))) : zq_okG1 w zt_t24 := by
  refine ⟨rfl, rfl, zu_fac ⟨rfl, by decide⟩ zq_fan, ?_⟩
  intro r P h H hM
  have q0 : zq_ev r (-6, [(2, 1)]) = r 2 - 6 := zu_e3 _ _ _
  have q1 : zq_ev r (0, [(0, 1)]) = r 0 := zu_e1 _ _
  have q2 : zq_ev r (0, [(1, 1)]) = r 1 := zu_e1 _ _
  have q3 : zq_ev r (0, [(2, 1)]) = r 2 := zu_e1 _ _
  have q4 : zq_ev r (0, [(3, 1)]) = r 3 := zu_e1 _ _
  have q5 : zq_ev r (0, [(4, 1)]) = r 4 := zu_e1 _ _
  obtain ⟨hT, hC, hF, hS, -, hK⟩ := hM
  have c := hC.1
  have a1 := zq_all_1 c
  rw [q0] at a1
  have k1 := zj_use x_CT4 (hK)
  have k1 : zo_CB 6 43 73 (zq_ev r (0, [(0, 1)])) (zq_ev r (0, [(1, 1)])) (zq_ev r (0, [(2, 1)])) P h := k1
  simp only [q1, q2, q3] at k1
  have k2 := zj_use x_LT2 (zq_okX_t (hK))
  have k2 : zt_LT 65 (zq_ev r (0, [(1, 1)])) (zq_ev r (0, [(3, 1)])) (zq_ev r (0, [(4, 1)])) P h := k2
  simp only [q2, q4, q5] at k2
  obtain t1 := zt_t24_l (P := P) (h := h) (a := r 0) (b := r 1) (l := r 2) (N := r 3) (T := r 4) a1 k1 k2
  obtain ⟨rq, hr⟩ : ∃ rq : Nat → Int, (∀ i, i < 5 → rq i = r i) := ⟨r, fun i hi => rfl⟩
  have v0 : rq 0 = r 0 := hr 0 (by decide)
  have v3 : rq 3 = r 3 := hr 3 (by decide)
  have v4 : rq 4 = r 4 := hr 4 (by decide)
  have g0 : zq_ev rq (0, [(0, 1)]) = r 0 := zu_f1 v0
  have g1 : zq_ev rq (0, [(3, 1)]) = r 3 := zu_f1 v3
  have g2 : zq_ev rq (0, [(4, 1)]) = r 4 := zu_f1 v4
  exact ⟨_, List.mem_cons_self .., rq, hr, zq_MeS_mk rfl hT (zq_all_nil) zq_fan (zq_fan) rfl (zu_fac ((x_LT0 _ _ _).mpr (by show zt_LT 35 (zq_ev rq (0, [(0, 1)])) (zq_ev rq (0, [(3, 1)])) (zq_ev rq (0, [(4, 1)])) P h; simp only [g0, g1, g2]; exact t1)) zq_fan)⟩
noncomputable def zm_cp5 : zq_S × List zq_S := (([], [], [], [], [], [], [(283, [(0, [(3, 1)]), (0, [(4, 1)]), (0, [(5, 1)]), (0, [(6, 1)])]), (74, [(0, [(0, 1)]), (0, [(3, 1)])]), (355, [(0, [(1, 1)]), (0, [(4, 1)])]), (75, [(0, [(2, 1)]), (0, [(5, 1)])])], 7), [([], [], [], [], [], [], [(280, [(0, [(0, 1)]), (0, [(1, 1)]), (0, [(2, 1)]), (0, [(6, 1)])])], 7)])
theorem zm_cp5_l {P : zq_Ty} {h : zq_H} {a b c x y z M : Int} (k1 : zm_MC 80 x y z M P h) (k2 : zm_E 6 36 81 a x P h) (k3 : zm_E 4 39 84 b y P h) (k4 : zm_E 3 42 87 c z P h) : (zm_MC 35 a b c M P h) := by
  exact zm_MC_cp k1 k2 k3 k4
theorem zm_cp5_ok {w : zq_Wd} (x_MC3 : zj_is w 283 (fun q => zm_MC 80 (q 0) (q 1) (q 2) (q 3))) (x_EN5_4 : zj_is w 74 (fun q => zm_E 6 36 81 (q 0) (q 1))) (x_CK5 : zj_is w 355 (fun q => zm_E 4 39 84 (q 0) (q 1))) (x_EN5_5 : zj_is w 75 (fun q => zm_E 3 42 87 (q 0) (q 1))) (x_MC0 : zj_is w 280 (fun q => zm_MC 35 (q 0) (q 1) (q 2) (q 3))) : zq_okG1 w zm_cp5 := by
  refine ⟨rfl, rfl, zu_fac ⟨rfl, by decide⟩ zq_fan, ?_⟩
  intro r P h H hM
  have q0 : zq_ev r (0, [(3, 1)]) = r 3 := zu_e1 _ _
  have q1 : zq_ev r (0, [(4, 1)]) = r 4 := zu_e1 _ _
  have q2 : zq_ev r (0, [(5, 1)]) = r 5 := zu_e1 _ _
  have q3 : zq_ev r (0, [(6, 1)]) = r 6 := zu_e1 _ _
  have q4 : zq_ev r (0, [(0, 1)]) = r 0 := zu_e1 _ _
  have q5 : zq_ev r (0, [(1, 1)]) = r 1 := zu_e1 _ _
  have q6 : zq_ev r (0, [(2, 1)]) = r 2 := zu_e1 _ _
  obtain ⟨hT, hC, hF, hS, -, hK⟩ := hM
  have c := hC.1
  have k1 := zj_use x_MC3 (hK)
  have k1 : zm_MC 80 (zq_ev r (0, [(3, 1)])) (zq_ev r (0, [(4, 1)])) (zq_ev r (0, [(5, 1)])) (zq_ev r (0, [(6, 1)])) P h := k1
  simp only [q0, q1, q2, q3] at k1
  have k2 := zj_use x_EN5_4 (zq_okX_t (hK))
  have k2 : zm_E 6 36 81 (zq_ev r (0, [(0, 1)])) (zq_ev r (0, [(3, 1)])) P h := k2
  simp only [q0, q4] at k2
  have k3 := zj_use x_CK5 (zq_okX_t (zq_okX_t (hK)))
  have k3 : zm_E 4 39 84 (zq_ev r (0, [(1, 1)])) (zq_ev r (0, [(4, 1)])) P h := k3
  simp only [q1, q5] at k3
  have k4 := zj_use x_EN5_5 (zq_okX_t (zq_okX_t (zq_okX_t (hK))))
  have k4 : zm_E 3 42 87 (zq_ev r (0, [(2, 1)])) (zq_ev r (0, [(5, 1)])) P h := k4
  simp only [q2, q6] at k4
  obtain t1 := zm_cp5_l (P := P) (h := h) (a := r 0) (b := r 1) (c := r 2) (x := r 3) (y := r 4) (z := r 5) (M := r 6) k1 k2 k3 k4
  obtain ⟨rq, hr⟩ : ∃ rq : Nat → Int, (∀ i, i < 7 → rq i = r i) := ⟨r, fun i hi => rfl⟩
  have v0 : rq 0 = r 0 := hr 0 (by decide)
  have v1 : rq 1 = r 1 := hr 1 (by decide)
  have v2 : rq 2 = r 2 := hr 2 (by decide)
  have v6 : rq 6 = r 6 := hr 6 (by decide)
  have g0 : zq_ev rq (0, [(0, 1)]) = r 0 := zu_f1 v0
  have g1 : zq_ev rq (0, [(1, 1)]) = r 1 := zu_f1 v1
  have g2 : zq_ev rq (0, [(2, 1)]) = r 2 := zu_f1 v2
  have g3 : zq_ev rq (0, [(6, 1)]) = r 6 := zu_f1 v6
  exact ⟨_, List.mem_cons_self .., rq, hr, zq_MeS_mk rfl hT (zq_all_nil) zq_fan (zq_fan) rfl (zu_fac ((x_MC0 _ _ _).mpr (by show zm_MC 35 (zq_ev rq (0, [(0, 1)])) (zq_ev rq (0, [(1, 1)])) (zq_ev rq (0, [(2, 1)])) (zq_ev rq (0, [(6, 1)])) P h; simp only [g0, g1, g2, g3]; exact t1)) zq_fan)⟩
noncomputable def zt_t05 : zq_S × List zq_S := (([], [], [(0, [(0, 1)]), (0, [(1, 1)])], [((0, [(0, 1)]), 43), ((0, [(1, 1)]), 88)], [], [], [], 2), [([], [], [], [], [], [], [(361, [(0, [(0, 1)]), (0, [(1, 1)]), (0, [])])], 2)])
theorem zt_t05_l {P : zq_Ty} {h : zq_H} {a b : Int} (a1 : 0 ≤ a) (a2 : 0 ≤ b) (b1 : 0 ≤ a → P (a).toNat = some 43) (b2 : 0 ≤ b → P (b).toNat = some 88) : (zo_CB 6 43 88 a b 0 P h) := by
  exact zo_CB_0 ⟨a1, b1 a1⟩ ⟨a2, b2 a2⟩
theorem zt_t05_ok {w : zq_Wd} (x_CT5 : zj_is w 361 (fun q => zo_CB 6 43 88 (q 0) (q 1) (q 2))) : zq_okG1 w zt_t05 := by
  refine ⟨rfl, rfl, zu_fac ⟨rfl, by decide⟩ zq_fan, ?_⟩
  intro r P h H hM
  have q0 : zq_ev r (0, [(0, 1)]) = r 0 := zu_e1 _ _
  have q1 : zq_ev r (0, [(1, 1)]) = r 1 := zu_e1 _ _
  obtain ⟨hT, hC, hF, hS, -, hK⟩ := hM
  have c := hC.1
  have a1 := zq_all_1 c
  rw [q0] at a1
  have c := zq_all_t c
  have a2 := zq_all_1 c
  rw [q1] at a2
  have b1 : 0 ≤ r 0 → P (r 0).toNat = some 43 := fun z => by
    have z1 : 0 ≤ zq_ev r (0, [(0, 1)]) := by rw [q0]; exact z
    have z2 := zq_okF_1 (hF) z1
    simp only [q0] at z2
    exact z2
  have b2 : 0 ≤ r 1 → P (r 1).toNat = some 88 := fun z => by
    have z1 : 0 ≤ zq_ev r (0, [(1, 1)]) := by rw [q1]; exact z
    have z2 := zq_okF_1 (zq_okF_t (hF)) z1
    simp only [q1] at z2
    exact z2
  obtain t1 := zt_t05_l (P := P) (h := h) (a := r 0) (b := r 1) a1 a2 b1 b2
  obtain ⟨rq, hr⟩ : ∃ rq : Nat → Int, (∀ i, i < 2 → rq i = r i) := ⟨r, fun i hi => rfl⟩
  have v0 : rq 0 = r 0 := hr 0 (by decide)
  have v1 : rq 1 = r 1 := hr 1 (by decide)
  have g0 : zq_ev rq (0, [(0, 1)]) = r 0 := zu_f1 v0
  have g1 : zq_ev rq (0, [(1, 1)]) = r 1 := zu_f1 v1
  have g2 : zq_ev rq (0, []) = 0 := zu_e0 _ _
  exact ⟨_, List.mem_cons_self .., rq, hr, zq_MeS_mk rfl hT (zq_all_nil) zq_fan (zq_fan) rfl (zu_fac ((x_CT5 _ _ _).mpr (by show zo_CB 6 43 88 (zq_ev rq (0, [(0, 1)])) (zq_ev rq (0, [(1, 1)])) (zq_ev rq (0, [])) P h; simp only [g0, g1, g2]; exact t1)) zq_fan)⟩
noncomputable def zt_t15 : zq_S × List zq_S := (([], [], [(5, [(2, -1)])], [], [((0, [(0, 1)]), (0, [(2, 1)]), (0, [(3, 1)])), ((0, [(1, 1)]), (0, [(2, 1)]), (0, [(3, 1)]))], [], [(361, [(0, [(0, 1)]), (0, [(1, 1)]), (0, [(2, 1)])])], 4), [([], [], [], [], [], [], [(361, [(0, [(0, 1)]), (0, [(1, 1)]), (1, [(2, 1)])])], 4)])
theorem zt_t15_l {P : zq_Ty} {h : zq_H} {a b l v : Int} (a1 : 0 ≤ -l + 5) (s1 : 0 ≤ a ∧ P (a).toNat ≠ none ∧ h (a).toNat l = v) (s2 : 0 ≤ b ∧ P (b).toNat ≠ none ∧ h (b).toNat l = v) (k1 : zo_CB 6 43 88 a b l P h) : (zo_CB 6 43 88 a b (l + 1) P h) := by
  exact zo_CB_1 (by omega) k1 s1.2.2 s2.2.2
theorem zt_t15_ok {w : zq_Wd} (x_CT5 : zj_is w 361 (fun q => zo_CB 6 43 88 (q 0) (q 1) (q 2))) : zq_okG1 w zt_t15 := by
  refine ⟨rfl, rfl, zu_fac ⟨rfl, by decide⟩ zq_fan, ?_⟩
  intro r P h H hM
  have q0 : zq_ev r (5, [(2, -1)]) = -r 2 + 5 := zu_e5 _ _ _
  have q1 : zq_ev r (0, [(0, 1)]) = r 0 := zu_e1 _ _
  have q2 : zq_ev r (0, [(2, 1)]) = r 2 := zu_e1 _ _
  have q3 : zq_ev r (0, [(3, 1)]) = r 3 := zu_e1 _ _
  have q4 : zq_ev r (0, [(1, 1)]) = r 1 := zu_e1 _ _
  obtain ⟨hT, hC, hF, hS, -, hK⟩ := hM
  have c := hC.1
  have a1 := zq_all_1 c
  rw [q0] at a1
  have s1 := zq_okS_1 (hS)
  simp only [q1, q2, q3] at s1
  have s2 := zq_okS_1 (zq_okS_t (hS))
  simp only [q2, q3, q4] at s2
  have k1 := zj_use x_CT5 (hK)
  have k1 : zo_CB 6 43 88 (zq_ev r (0, [(0, 1)])) (zq_ev r (0, [(1, 1)])) (zq_ev r (0, [(2, 1)])) P h := k1
  simp only [q1, q2, q4] at k1
  obtain t1 := zt_t15_l (P := P) (h := h) (a := r 0) (b := r 1) (l := r 2) (v := r 3) a1 s1 s2 k1
  obtain ⟨rq, hr⟩ : ∃ rq : Nat → Int, (∀ i, i < 4 → rq i = r i) := ⟨r, fun i hi => rfl⟩
  have v0 : rq 0 = r 0 := hr 0 (by decide)
  have v1 : rq 1 = r 1 := hr 1 (by decide)
  have v2 : rq 2 = r 2 := hr 2 (by decide)
  have g0 : zq_ev rq (0, [(0, 1)]) = r 0 := zu_f1 v0
  have g1 : zq_ev rq (0, [(1, 1)]) = r 1 := zu_f1 v1
  have g2 : zq_ev rq (1, [(2, 1)]) = r 2 + 1 := zu_f2 v2 _
  exact ⟨_, List.mem_cons_self .., rq, hr, zq_MeS_mk rfl hT (zq_all_nil) zq_fan (zq_fan) rfl (zu_fac ((x_CT5 _ _ _).mpr (by show zo_CB 6 43 88 (zq_ev rq (0, [(0, 1)])) (zq_ev rq (0, [(1, 1)])) (zq_ev rq (1, [(2, 1)])) P h; simp only [g0, g1, g2]; exact t1)) zq_fan)⟩
noncomputable def zt_t25 : zq_S × List zq_S := (([], [], [(-6, [(2, 1)])], [], [], [], [(361, [(0, [(0, 1)]), (0, [(1, 1)]), (0, [(2, 1)])]), (310, [(0, [(1, 1)]), (0, [(3, 1)]), (0, [(4, 1)])])], 5), [([], [], [], [], [], [], [(307, [(0, [(0, 1)]), (0, [(3, 1)]), (0, [(4, 1)])])], 5)])
theorem zt_t25_l {P : zq_Ty} {h : zq_H} {a b l N T : Int} (a1 : 0 ≤ l - 6) (k1 : zo_CB 6 43 88 a b l P h) (k2 : zt_LT 80 b N T P h) : (zt_LT 35 a N T P h) := by
  exact zt_LT_cp (by omega) (zo_CB_CP k1) k2
theorem zt_t25_ok {w : zq_Wd} (x_CT5 : zj_is w 361 (fun q => zo_CB 6 43 88 (q 0) (q 1) (q 2))) (x_LT3 : zj_is w 310 (fun q => zt_LT 80 (q 0) (q 1) (q 2))) (x_LT0 : zj_is w 307 (fun q => zt_LT 35 (q 0) (q 1) (q 2))) : zq_okG1 w zt_t25 := by
  refine ⟨rfl, rfl, zu_fac ⟨rfl, by decide⟩ zq_fan, ?_⟩
  intro r P h H hM
  have q0 : zq_ev r (-6, [(2, 1)]) = r 2 - 6 := zu_e3 _ _ _
  have q1 : zq_ev r (0, [(0, 1)]) = r 0 := zu_e1 _ _
  have q2 : zq_ev r (0, [(1, 1)]) = r 1 := zu_e1 _ _
  have q3 : zq_ev r (0, [(2, 1)]) = r 2 := zu_e1 _ _
  have q4 : zq_ev r (0, [(3, 1)]) = r 3 := zu_e1 _ _
  have q5 : zq_ev r (0, [(4, 1)]) = r 4 := zu_e1 _ _
  obtain ⟨hT, hC, hF, hS, -, hK⟩ := hM
  have c := hC.1
  have a1 := zq_all_1 c
  rw [q0] at a1
  have k1 := zj_use x_CT5 (hK)
  have k1 : zo_CB 6 43 88 (zq_ev r (0, [(0, 1)])) (zq_ev r (0, [(1, 1)])) (zq_ev r (0, [(2, 1)])) P h := k1
  simp only [q1, q2, q3] at k1
  have k2 := zj_use x_LT3 (zq_okX_t (hK))
  have k2 : zt_LT 80 (zq_ev r (0, [(1, 1)])) (zq_ev r (0, [(3, 1)])) (zq_ev r (0, [(4, 1)])) P h := k2
  simp only [q2, q4, q5] at k2
  obtain t1 := zt_t25_l (P := P) (h := h) (a := r 0) (b := r 1) (l := r 2) (N := r 3) (T := r 4) a1 k1 k2
  obtain ⟨rq, hr⟩ : ∃ rq : Nat → Int, (∀ i, i < 5 → rq i = r i) := ⟨r, fun i hi => rfl⟩
  have v0 : rq 0 = r 0 := hr 0 (by decide)
  have v3 : rq 3 = r 3 := hr 3 (by decide)
  have v4 : rq 4 = r 4 := hr 4 (by decide)
  have g0 : zq_ev rq (0, [(0, 1)]) = r 0 := zu_f1 v0
  have g1 : zq_ev rq (0, [(3, 1)]) = r 3 := zu_f1 v3
  have g2 : zq_ev rq (0, [(4, 1)]) = r 4 := zu_f1 v4
  exact ⟨_, List.mem_cons_self .., rq, hr, zq_MeS_mk rfl hT (zq_all_nil) zq_fan (zq_fan) rfl (zu_fac ((x_LT0 _ _ _).mpr (by show zt_LT 35 (zq_ev rq (0, [(0, 1)])) (zq_ev rq (0, [(3, 1)])) (zq_ev rq (0, [(4, 1)])) P h; simp only [g0, g1, g2]; exact t1)) zq_fan)⟩
noncomputable def zm_i0 : zq_S × List zq_S := (([], [], [], [], [], [], [(7, [(0, [(0, 1)]), (0, [(1, 1)]), (0, []), (5671, [])]), (286, [(0, [(0, 1)]), (0, [(2, 1)])])], 3), [([], [], [], [], [], [], [(287, [(0, [(1, 1)]), (0, [(2, 1)])])], 3)])
theorem zm_i0_l {P : zq_Ty} {h : zq_H} {a b M : Int} (k1 : zm_Q a b 0 5671 P h) (k2 : zm_MK 1 0 a M P h) : (zm_MK 2 0 b M P h) := by
  exact zm_MI k1 k2
theorem zm_i0_ok {w : zq_Wd} (x_Q : zj_is w 7 (fun q => zm_Q (q 0) (q 1) (q 2) (q 3))) (x_MK : zj_is w 286 (fun q => zm_MK 1 0 (q 0) (q 1))) (x_MI0 : zj_is w 287 (fun q => zm_MK 2 0 (q 0) (q 1))) : zq_okG1 w zm_i0 := by
  refine ⟨rfl, rfl, zu_fac ⟨rfl, by decide⟩ zq_fan, ?_⟩
  intro r P h H hM
  have q0 : zq_ev r (0, [(0, 1)]) = r 0 := zu_e1 _ _
  have q1 : zq_ev r (0, [(1, 1)]) = r 1 := zu_e1 _ _
  have q2 : zq_ev r (0, []) = 0 := zu_e0 _ _
  have q3 : zq_ev r (5671, []) = 5671 := zu_e0 _ _
  have q4 : zq_ev r (0, [(2, 1)]) = r 2 := zu_e1 _ _
  obtain ⟨hT, hC, hF, hS, -, hK⟩ := hM
  have c := hC.1
  have k1 := zj_use x_Q (hK)
  have k1 : zm_Q (zq_ev r (0, [(0, 1)])) (zq_ev r (0, [(1, 1)])) (zq_ev r (0, [])) (zq_ev r (5671, [])) P h := k1
  simp only [q0, q1, q2, q3] at k1
  have k2 := zj_use x_MK (zq_okX_t (hK))
  have k2 : zm_MK 1 0 (zq_ev r (0, [(0, 1)])) (zq_ev r (0, [(2, 1)])) P h := k2
  simp only [q0, q4] at k2
  obtain t1 := zm_i0_l (P := P) (h := h) (a := r 0) (b := r 1) (M := r 2) k1 k2
  obtain ⟨rq, hr⟩ : ∃ rq : Nat → Int, (∀ i, i < 3 → rq i = r i) := ⟨r, fun i hi => rfl⟩
  have v1 : rq 1 = r 1 := hr 1 (by decide)
  have v2 : rq 2 = r 2 := hr 2 (by decide)
  have g0 : zq_ev rq (0, [(1, 1)]) = r 1 := zu_f1 v1
  have g1 : zq_ev rq (0, [(2, 1)]) = r 2 := zu_f1 v2
  exact ⟨_, List.mem_cons_self .., rq, hr, zq_MeS_mk rfl hT (zq_all_nil) zq_fan (zq_fan) rfl (zu_fac ((x_MI0 _ _ _).mpr (by show zm_MK 2 0 (zq_ev rq (0, [(1, 1)])) (zq_ev rq (0, [(2, 1)])) P h; simp only [g0, g1]; exact t1)) zq_fan)⟩
noncomputable def zm_j0 : zq_S × List zq_S := (([], [], [], [], [], [], [(7, [(0, [(0, 1)]), (0, [(1, 1)]), (0, []), (5671, [])]), (287, [(0, [(1, 1)]), (0, [(2, 1)])])], 3), [([], [], [], [], [], [], [(286, [(0, [(0, 1)]), (0, [(2, 1)])])], 3)])
theorem zm_j0_l {P : zq_Ty} {h : zq_H} {a b M : Int} (k1 : zm_Q a b 0 5671 P h) (k2 : zm_MK 2 0 b M P h) : (zm_MK 1 0 a M P h) := by
  exact zm_MB k1 k2
theorem zm_j0_ok {w : zq_Wd} (x_Q : zj_is w 7 (fun q => zm_Q (q 0) (q 1) (q 2) (q 3))) (x_MI0 : zj_is w 287 (fun q => zm_MK 2 0 (q 0) (q 1))) (x_MK : zj_is w 286 (fun q => zm_MK 1 0 (q 0) (q 1))) : zq_okG1 w zm_j0 := by
  refine ⟨rfl, rfl, zu_fac ⟨rfl, by decide⟩ zq_fan, ?_⟩
  intro r P h H hM
  have q0 : zq_ev r (0, [(0, 1)]) = r 0 := zu_e1 _ _
  have q1 : zq_ev r (0, [(1, 1)]) = r 1 := zu_e1 _ _
  have q2 : zq_ev r (0, []) = 0 := zu_e0 _ _
  have q3 : zq_ev r (5671, []) = 5671 := zu_e0 _ _
  have q4 : zq_ev r (0, [(2, 1)]) = r 2 := zu_e1 _ _
  obtain ⟨hT, hC, hF, hS, -, hK⟩ := hM
  have c := hC.1
  have k1 := zj_use x_Q (hK)
  have k1 : zm_Q (zq_ev r (0, [(0, 1)])) (zq_ev r (0, [(1, 1)])) (zq_ev r (0, [])) (zq_ev r (5671, [])) P h := k1
  simp only [q0, q1, q2, q3] at k1
  have k2 := zj_use x_MI0 (zq_okX_t (hK))
  have k2 : zm_MK 2 0 (zq_ev r (0, [(1, 1)])) (zq_ev r (0, [(2, 1)])) P h := k2
  simp only [q1, q4] at k2
  obtain t1 := zm_j0_l (P := P) (h := h) (a := r 0) (b := r 1) (M := r 2) k1 k2
  obtain ⟨rq, hr⟩ : ∃ rq : Nat → Int, (∀ i, i < 3 → rq i = r i) := ⟨r, fun i hi => rfl⟩
  have v0 : rq 0 = r 0 := hr 0 (by decide)
  have v2 : rq 2 = r 2 := hr 2 (by decide)
  have g0 : zq_ev rq (0, [(0, 1)]) = r 0 := zu_f1 v0
  have g1 : zq_ev rq (0, [(2, 1)]) = r 2 := zu_f1 v2
  exact ⟨_, List.mem_cons_self .., rq, hr, zq_MeS_mk rfl hT (zq_all_nil) zq_fan (zq_fan) rfl (zu_fac ((x_MK _ _ _).mpr (by show zm_MK 1 0 (zq_ev rq (0, [(0, 1)])) (zq_ev rq (0, [(2, 1)])) P h; simp only [g0, g1]; exact t1)) zq_fan)⟩
noncomputable def zl_i0 : zq_S × List zq_S := (([], [], [], [], [], [], [(7, [(0, [(0, 1)]), (0, [(1, 1)]), (0, []), (5671, [])]), (232, [(0, [(0, 1)]), (0, [(2, 1)]), (0, [(3, 1)])])], 4), [([], [], [], [], [], [], [(348, [(0, [(1, 1)]), (0, [(2, 1)]), (0, [(3, 1)])])], 4)])
theorem zl_i0_l {P : zq_Ty} {h : zq_H} {a b T N : Int} (k1 : zm_Q a b 0 5671 P h) (k2 : zl_KT a T N P h) : (zl_KI 0 b T N P h) := by
  exact zl_KI_of k1 k2
theorem zl_i0_ok {w : zq_Wd} (x_Q : zj_is w 7 (fun q => zm_Q (q 0) (q 1) (q 2) (q 3))) (x_KT : zj_is w 232 (fun q => zl_KT (q 0) (q 1) (q 2))) (x_KI0 : zj_is w 348 (fun q => zl_KI 0 (q 0) (q 1) (q 2))) : zq_okG1 w zl_i0 := by
  refine ⟨rfl, rfl, zu_fac ⟨rfl, by decide⟩ zq_fan, ?_⟩
  intro r P h H hM
  have q0 : zq_ev r (0, [(0, 1)]) = r 0 := zu_e1 _ _
  have q1 : zq_ev r (0, [(1, 1)]) = r 1 := zu_e1 _ _
  have q2 : zq_ev r (0, []) = 0 := zu_e0 _ _
  have q3 : zq_ev r (5671, []) = 5671 := zu_e0 _ _
  have q4 : zq_ev r (0, [(2, 1)]) = r 2 := zu_e1 _ _
  have q5 : zq_ev r (0, [(3, 1)]) = r 3 := zu_e1 _ _
  obtain ⟨hT, hC, hF, hS, -, hK⟩ := hM
  have c := hC.1
  have k1 := zj_use x_Q (hK)
  have k1 : zm_Q (zq_ev r (0, [(0, 1)])) (zq_ev r (0, [(1, 1)])) (zq_ev r (0, [])) (zq_ev r (5671, [])) P h := k1
  simp only [q0, q1, q2, q3] at k1
  have k2 := zj_use x_KT (zq_okX_t (hK))
  have k2 : zl_KT (zq_ev r (0, [(0, 1)])) (zq_ev r (0, [(2, 1)])) (zq_ev r (0, [(3, 1)])) P h := k2
  simp only [q0, q4, q5] at k2
  obtain t1 := zl_i0_l (P := P) (h := h) (a := r 0) (b := r 1) (T := r 2) (N := r 3) k1 k2
  obtain ⟨rq, hr⟩ : ∃ rq : Nat → Int, (∀ i, i < 4 → rq i = r i) := ⟨r, fun i hi => rfl⟩
  have v1 : rq 1 = r 1 := hr 1 (by decide)
  have v2 : rq 2 = r 2 := hr 2 (by decide)
  have v3 : rq 3 = r 3 := hr 3 (by decide)
  have g0 : zq_ev rq (0, [(1, 1)]) = r 1 := zu_f1 v1
  have g1 : zq_ev rq (0, [(2, 1)]) = r 2 := zu_f1 v2
  have g2 : zq_ev rq (0, [(3, 1)]) = r 3 := zu_f1 v3
  exact ⟨_, List.mem_cons_self .., rq, hr, zq_MeS_mk rfl hT (zq_all_nil) zq_fan (zq_fan) rfl (zu_fac ((x_KI0 _ _ _).mpr (by show zl_KI 0 (zq_ev rq (0, [(1, 1)])) (zq_ev rq (0, [(2, 1)])) (zq_ev rq (0, [(3, 1)])) P h; simp only [g0, g1, g2]; exact t1)) zq_fan)⟩
noncomputable def zl_j0 : zq_S × List zq_S := (([], [], [], [], [], [], [(7, [(0, [(0, 1)]), (0, [(1, 1)]), (0, []), (5671, [])]), (348, [(0, [(1, 1)]), (0, [(2, 1)]), (0, [(3, 1)])])], 4), [([], [], [], [], [], [], [(232, [(0, [(0, 1)]), (0, [(2, 1)]), (0, [(3, 1)])])], 4)])
theorem zl_j0_l {P : zq_Ty} {h : zq_H} {a b T N : Int} (k1 : zm_Q a b 0 5671 P h) (k2 : zl_KI 0 b T N P h) : (zl_KT a T N P h) := by
  exact zl_KT_of k1 k2
theorem zl_j0_ok {w : zq_Wd} (x_Q : zj_is w 7 (fun q => zm_Q (q 0) (q 1) (q 2) (q 3))) (x_KI0 : zj_is w 348 (fun q => zl_KI 0 (q 0) (q 1) (q 2))) (x_KT : zj_is w 232 (fun q => zl_KT (q 0) (q 1) (q 2))) : zq_okG1 w zl_j0 := by
  refine ⟨rfl, rfl, zu_fac ⟨rfl, by decide⟩ zq_fan, ?_⟩
  intro r P h H hM
  have q0 : zq_ev r (0, [(0, 1)]) = r 0 := zu_e1 _ _
  have q1 : zq_ev r (0, [(1, 1)]) = r 1 := zu_e1 _ _
  have q2 : zq_ev r (0, []) = 0 := zu_e0 _ _
  have q3 : zq_ev r (5671, []) = 5671 := zu_e0 _ _
  have q4 : zq_ev r (0, [(2, 1)]) = r 2 := zu_e1 _ _
  have q5 : zq_ev r (0, [(3, 1)]) = r 3 := zu_e1 _ _
  obtain ⟨hT, hC, hF, hS, -, hK⟩ := hM
  have c := hC.1
  have k1 := zj_use x_Q (hK)
  have k1 : zm_Q (zq_ev r (0, [(0, 1)])) (zq_ev r (0, [(1, 1)])) (zq_ev r (0, [])) (zq_ev r (5671, [])) P h := k1
  simp only [q0, q1, q2, q3] at k1
  have k2 := zj_use x_KI0 (zq_okX_t (hK))
  have k2 : zl_KI 0 (zq_ev r (0, [(1, 1)])) (zq_ev r (0, [(2, 1)])) (zq_ev r (0, [(3, 1)])) P h := k2
  simp only [q1, q4, q5] at k2
  obtain t1 := zl_j0_l (P := P) (h := h) (a := r 0) (b := r 1) (T := r 2) (N := r 3) k1 k2
  obtain ⟨rq, hr⟩ : ∃ rq : Nat → Int, (∀ i, i < 4 → rq i = r i) := ⟨r, fun i hi => rfl⟩
  have v0 : rq 0 = r 0 := hr 0 (by decide)
  have v2 : rq 2 = r 2 := hr 2 (by decide)
  have v3 : rq 3 = r 3 := hr 3 (by decide)
  have g0 : zq_ev rq (0, [(0, 1)]) = r 0 := zu_f1 v0
  have g1 : zq_ev rq (0, [(2, 1)]) = r 2 := zu_f1 v2
  have g2 : zq_ev rq (0, [(3, 1)]) = r 3 := zu_f1 v3
  exact ⟨_, List.mem_cons_self .., rq, hr, zq_MeS_mk rfl hT (zq_all_nil) zq_fan (zq_fan) rfl (zu_fac ((x_KT _ _ _).mpr (by show zl_KT (zq_ev rq (0, [(0, 1)])) (zq_ev rq (0, [(2, 1)])) (zq_ev rq (0, [(3, 1)])) P h; simp only [g0, g1, g2]; exact t1)) zq_fan)⟩
noncomputable def zl_z0 : zq_S × List zq_S := (([], [], [(0, [(0, 1)])], [((0, [(0, 1)]), 2)], [], [], [], 1), [([], [], [], [], [], [], [(348, [(0, [(0, 1)]), (0, []), (0, [])])], 1)])
theorem zl_z0_l {P : zq_Ty} {h : zq_H} {b : Int} (a1 : 0 ≤ b) (b1 : 0 ≤ b → P (b).toNat = some 2) : (zl_KI 0 b 0 0 P h) := by
  exact zl_KI_0 ⟨a1, b1 a1⟩
theorem zl_z0_ok {w : zq_Wd} (x_KI0 : zj_is w 348 (fun q => zl_KI 0 (q 0) (q 1) (q 2))) : zq_okG1 w zl_z0 := by
  refine ⟨rfl, rfl, zu_fac ⟨rfl, by decide⟩ zq_fan, ?_⟩
  intro r P h H hM
  have q0 : zq_ev r (0, [(0, 1)]) = r 0 := zu_e1 _ _
  obtain ⟨hT, hC, hF, hS, -, hK⟩ := hM
  have c := hC.1
  have a1 := zq_all_1 c
  rw [q0] at a1
  have b1 : 0 ≤ r 0 → P (r 0).toNat = some 2 := fun z => by
    have z1 : 0 ≤ zq_ev r (0, [(0, 1)]) := by rw [q0]; exact z
    have z2 := zq_okF_1 (hF) z1
    simp only [q0] at z2
    exact z2
  obtain t1 := zl_z0_l (P := P) (h := h) (b := r 0) a1 b1
  obtain ⟨rq, hr⟩ : ∃ rq : Nat → Int, (∀ i, i < 1 → rq i = r i) := ⟨r, fun i hi => rfl⟩
  have v0 : rq 0 = r 0 := hr 0 (by decide)
  have g0 : zq_ev rq (0, [(0, 1)]) = r 0 := zu_f1 v0
  have g1 : zq_ev rq (0, []) = 0 := zu_e0 _ _
  exact ⟨_, List.mem_cons_self .., rq, hr, zq_MeS_mk rfl hT (zq_all_nil) zq_fan (zq_fan) rfl (zu_fac ((x_KI0 _ _ _).mpr (by show zl_KI 0 (zq_ev rq (0, [(0, 1)])) (zq_ev rq (0, [])) (zq_ev rq (0, [])) P h; simp only [g0, g1]; exact t1)) zq_fan)⟩
noncomputable def zm_i1 : zq_S × List zq_S := (([], [], [], [], [], [], [(7, [(0, [(0, 1)]), (0, [(1, 1)]), (5671, []), (5671, [])]), (286, [(0, [(0, 1)]), (0, [(2, 1)])])], 3), [([], [], [], [], [], [], [(288, [(0, [(1, 1)]), (0, [(2, 1)])])], 3)])
theorem zm_i1_l {P : zq_Ty} {h : zq_H} {a b M : Int} (k1 : zm_Q a b 5671 5671 P h) (k2 : zm_MK 1 0 a M P h) : (zm_MK 2 5671 b M P h) := by
  exact zm_MI k1 k2
theorem zm_i1_ok {w : zq_Wd} (x_Q : zj_is w 7 (fun q => zm_Q (q 0) (q 1) (q 2) (q 3))) (x_MK : zj_is w 286 (fun q => zm_MK 1 0 (q 0) (q 1))) (x_MI1 : zj_is w 288 (fun q => zm_MK 2 5671 (q 0) (q 1))) : zq_okG1 w zm_i1 := by
  refine ⟨rfl, rfl, zu_fac ⟨rfl, by decide⟩ zq_fan, ?_⟩
  intro r P h H hM
  have q0 : zq_ev r (0, [(0, 1)]) = r 0 := zu_e1 _ _
  have q1 : zq_ev r (0, [(1, 1)]) = r 1 := zu_e1 _ _
  have q2 : zq_ev r (5671, []) = 5671 := zu_e0 _ _
  have q3 : zq_ev r (0, [(2, 1)]) = r 2 := zu_e1 _ _
  obtain ⟨hT, hC, hF, hS, -, hK⟩ := hM
  have c := hC.1
  have k1 := zj_use x_Q (hK)
  have k1 : zm_Q (zq_ev r (0, [(0, 1)])) (zq_ev r (0, [(1, 1)])) (zq_ev r (5671, [])) (zq_ev r (5671, [])) P h := k1
  simp only [q0, q1, q2] at k1
  have k2 := zj_use x_MK (zq_okX_t (hK))
  have k2 : zm_MK 1 0 (zq_ev r (0, [(0, 1)])) (zq_ev r (0, [(2, 1)])) P h := k2
  simp only [q0, q3] at k2
  obtain t1 := zm_i1_l (P := P) (h := h) (a := r 0) (b := r 1) (M := r 2) k1 k2
  obtain ⟨rq, hr⟩ : ∃ rq : Nat → Int, (∀ i, i < 3 → rq i = r i) := ⟨r, fun i hi => rfl⟩
  have v1 : rq 1 = r 1 := hr 1 (by decide)
  have v2 : rq 2 = r 2 := hr 2 (by decide)
  have g0 : zq_ev rq (0, [(1, 1)]) = r 1 := zu_f1 v1
  have g1 : zq_ev rq (0, [(2, 1)]) = r 2 := zu_f1 v2
  exact ⟨_, List.mem_cons_self .., rq, hr, zq_MeS_mk rfl hT (zq_all_nil) zq_fan (zq_fan) rfl (zu_fac ((x_MI1 _ _ _).mpr (by show zm_MK 2 5671 (zq_ev rq (0, [(1, 1)])) (zq_ev rq (0, [(2, 1)])) P h; simp only [g0, g1]; exact t1)) zq_fan)⟩
noncomputable def zm_j1 : zq_S × List zq_S := (([], [], [], [], [], [], [(7, [(0, [(0, 1)]), (0, [(1, 1)]), (5671, []), (5671, [])]), (288, [(0, [(1, 1)]), (0, [(2, 1)])])], 3), [([], [], [], [], [], [], [(286, [(0, [(0, 1)]), (0, [(2, 1)])])], 3)])
theorem zm_j1_l {P : zq_Ty} {h : zq_H} {a b M : Int} (k1 : zm_Q a b 5671 5671 P h) (k2 : zm_MK 2 5671 b M P h) : (zm_MK 1 0 a M P h) := by
  exact zm_MB k1 k2
theorem zm_j1_ok {w : zq_Wd} (x_Q : zj_is w 7 (fun q => zm_Q (q 0) (q 1) (q 2) (q 3))) (x_MI1 : zj_is w 288 (fun q => zm_MK 2 5671 (q 0) (q 1))) (x_MK : zj_is w 286 (fun q => zm_MK 1 0 (q 0) (q 1))) : zq_okG1 w zm_j1 := by
  refine ⟨rfl, rfl, zu_fac ⟨rfl, by decide⟩ zq_fan, ?_⟩
  intro r P h H hM
  have q0 : zq_ev r (0, [(0, 1)]) = r 0 := zu_e1 _ _
  have q1 : zq_ev r (0, [(1, 1)]) = r 1 := zu_e1 _ _
  have q2 : zq_ev r (5671, []) = 5671 := zu_e0 _ _
  have q3 : zq_ev r (0, [(2, 1)]) = r 2 := zu_e1 _ _
  obtain ⟨hT, hC, hF, hS, -, hK⟩ := hM
  have c := hC.1
  have k1 := zj_use x_Q (hK)
  have k1 : zm_Q (zq_ev r (0, [(0, 1)])) (zq_ev r (0, [(1, 1)])) (zq_ev r (5671, [])) (zq_ev r (5671, [])) P h := k1
  simp only [q0, q1, q2] at k1
  have k2 := zj_use x_MI1 (zq_okX_t (hK))
  have k2 : zm_MK 2 5671 (zq_ev r (0, [(1, 1)])) (zq_ev r (0, [(2, 1)])) P h := k2
  simp only [q1, q3] at k2
  obtain t1 := zm_j1_l (P := P) (h := h) (a := r 0) (b := r 1) (M := r 2) k1 k2
  obtain ⟨rq, hr⟩ : ∃ rq : Nat → Int, (∀ i, i < 3 → rq i = r i) := ⟨r, fun i hi => rfl⟩
  have v0 : rq 0 = r 0 := hr 0 (by decide)
  have v2 : rq 2 = r 2 := hr 2 (by decide)
  have g0 : zq_ev rq (0, [(0, 1)]) = r 0 := zu_f1 v0
  have g1 : zq_ev rq (0, [(2, 1)]) = r 2 := zu_f1 v2
  exact ⟨_, List.mem_cons_self .., rq, hr, zq_MeS_mk rfl hT (zq_all_nil) zq_fan (zq_fan) rfl (zu_fac ((x_MK _ _ _).mpr (by show zm_MK 1 0 (zq_ev rq (0, [(0, 1)])) (zq_ev rq (0, [(2, 1)])) P h; simp only [g0, g1]; exact t1)) zq_fan)⟩
noncomputable def zl_i1 : zq_S × List zq_S := (([], [], [], [], [], [], [(7, [(0, [(0, 1)]), (0, [(1, 1)]), (5671, []), (5671, [])]), (232, [(0, [(0, 1)]), (0, [(2, 1)]), (0, [(3, 1)])])], 4), [([], [], [], [], [], [], [(349, [(0, [(1, 1)]), (0, [(2, 1)]), (0, [(3, 1)])])], 4)])
theorem zl_i1_l {P : zq_Ty} {h : zq_H} {a b T N : Int} (k1 : zm_Q a b 5671 5671 P h) (k2 : zl_KT a T N P h) : (zl_KI 5671 b T N P h) := by
  exact zl_KI_of k1 k2
theorem zl_i1_ok {w : zq_Wd} (x_Q : zj_is w 7 (fun q => zm_Q (q 0) (q 1) (q 2) (q 3))) (x_KT : zj_is w 232 (fun q => zl_KT (q 0) (q 1) (q 2))) (x_KI1 : zj_is w 349 (fun q => zl_KI 5671 (q 0) (q 1) (q 2))) : zq_okG1 w zl_i1 := by
  refine ⟨rfl, rfl, zu_fac ⟨rfl, by decide⟩ zq_fan, ?_⟩
  intro r P h H hM
  have q0 : zq_ev r (0, [(0, 1)]) = r 0 := zu_e1 _ _
  have q1 : zq_ev r (0, [(1, 1)]) = r 1 := zu_e1 _ _
  have q2 : zq_ev r (5671, []) = 5671 := zu_e0 _ _
  have q3 : zq_ev r (0, [(2, 1)]) = r 2 := zu_e1 _ _
  have q4 : zq_ev r (0, [(3, 1)]) = r 3 := zu_e1 _ _
  obtain ⟨hT, hC, hF, hS, -, hK⟩ := hM
  have c := hC.1
  have k1 := zj_use x_Q (hK)
  have k1 : zm_Q (zq_ev r (0, [(0, 1)])) (zq_ev r (0, [(1, 1)])) (zq_ev r (5671, [])) (zq_ev r (5671, [])) P h := k1
  simp only [q0, q1, q2] at k1
  have k2 := zj_use x_KT (zq_okX_t (hK))
  have k2 : zl_KT (zq_ev r (0, [(0, 1)])) (zq_ev r (0, [(2, 1)])) (zq_ev r (0, [(3, 1)])) P h := k2
  simp only [q0, q3, q4] at k2
  obtain t1 := zl_i1_l (P := P) (h := h) (a := r 0) (b := r 1) (T := r 2) (N := r 3) k1 k2
  obtain ⟨rq, hr⟩ : ∃ rq : Nat → Int, (∀ i, i < 4 → rq i = r i) := ⟨r, fun i hi => rfl⟩
  have v1 : rq 1 = r 1 := hr 1 (by decide)
  have v2 : rq 2 = r 2 := hr 2 (by decide)
  have v3 : rq 3 = r 3 := hr 3 (by decide)
  have g0 : zq_ev rq (0, [(1, 1)]) = r 1 := zu_f1 v1
  have g1 : zq_ev rq (0, [(2, 1)]) = r 2 := zu_f1 v2
  have g2 : zq_ev rq (0, [(3, 1)]) = r 3 := zu_f1 v3
  exact ⟨_, List.mem_cons_self .., rq, hr, zq_MeS_mk rfl hT (zq_all_nil) zq_fan (zq_fan) rfl (zu_fac ((x_KI1 _ _ _).mpr (by show zl_KI 5671 (zq_ev rq (0, [(1, 1)])) (zq_ev rq (0, [(2, 1)])) (zq_ev rq (0, [(3, 1)])) P h; simp only [g0, g1, g2]; exact t1)) zq_fan)⟩
noncomputable def zl_j1 : zq_S × List zq_S := (([], [], [], [], [], [], [(7, [(0, [(0, 1)]), (0, [(1, 1)]), (5671, []), (5671, [])]), (349, [(0, [(1, 1)]), (0, [(2, 1)]), (0, [(3, 1)])])], 4), [([], [], [], [], [], [], [(232, [(0, [(0, 1)]), (0, [(2, 1)]), (0, [(3, 1)])])], 4)])
theorem zl_j1_l {P : zq_Ty} {h : zq_H} {a b T N : Int} (k1 : zm_Q a b 5671 5671 P h) (k2 : zl_KI 5671 b T N P h) : (zl_KT a T N P h) := by
  exact zl_KT_of k1 k2
theorem zl_j1_ok {w : zq_Wd} (x_Q : zj_is w 7 (fun q => zm_Q (q 0) (q 1) (q 2) (q 3))) (x_KI1 : zj_is w 349 (fun q => zl_KI 5671 (q 0) (q 1) (q 2))) (x_KT : zj_is w 232 (fun q => zl_KT (q 0) (q 1) (q 2))) : zq_okG1 w zl_j1 := by
  refine ⟨rfl, rfl, zu_fac ⟨rfl, by decide⟩ zq_fan, ?_⟩
  intro r P h H hM
  have q0 : zq_ev r (0, [(0, 1)]) = r 0 := zu_e1 _ _
  have q1 : zq_ev r (0, [(1, 1)]) = r 1 := zu_e1 _ _
  have q2 : zq_ev r (5671, []) = 5671 := zu_e0 _ _
  have q3 : zq_ev r (0, [(2, 1)]) = r 2 := zu_e1 _ _
  have q4 : zq_ev r (0, [(3, 1)]) = r 3 := zu_e1 _ _
  obtain ⟨hT, hC, hF, hS, -, hK⟩ := hM
  have c := hC.1
  have k1 := zj_use x_Q (hK)
  have k1 : zm_Q (zq_ev r (0, [(0, 1)])) (zq_ev r (0, [(1, 1)])) (zq_ev r (5671, [])) (zq_ev r (5671, [])) P h := k1
  simp only [q0, q1, q2] at k1
  have k2 := zj_use x_KI1 (zq_okX_t (hK))
  have k2 : zl_KI 5671 (zq_ev r (0, [(1, 1)])) (zq_ev r (0, [(2, 1)])) (zq_ev r (0, [(3, 1)])) P h := k2
  simp only [q1, q3, q4] at k2
  obtain t1 := zl_j1_l (P := P) (h := h) (a := r 0) (b := r 1) (T := r 2) (N := r 3) k1 k2
  obtain ⟨rq, hr⟩ : ∃ rq : Nat → Int, (∀ i, i < 4 → rq i = r i) := ⟨r, fun i hi => rfl⟩
  have v0 : rq 0 = r 0 := hr 0 (by decide)
  have v2 : rq 2 = r 2 := hr 2 (by decide)
  have v3 : rq 3 = r 3 := hr 3 (by decide)
  have g0 : zq_ev rq (0, [(0, 1)]) = r 0 := zu_f1 v0
  have g1 : zq_ev rq (0, [(2, 1)]) = r 2 := zu_f1 v2
  have g2 : zq_ev rq (0, [(3, 1)]) = r 3 := zu_f1 v3
  exact ⟨_, List.mem_cons_self .., rq, hr, zq_MeS_mk rfl hT (zq_all_nil) zq_fan (zq_fan) rfl (zu_fac ((x_KT _ _ _).mpr (by show zl_KT (zq_ev rq (0, [(0, 1)])) (zq_ev rq (0, [(2, 1)])) (zq_ev rq (0, [(3, 1)])) P h; simp only [g0, g1, g2]; exact t1)) zq_fan)⟩
noncomputable def zl_z1 : zq_S × List zq_S := (([], [], [(0, [(0, 1)])], [((0, [(0, 1)]), 2)], [], [], [], 1), [([], [], [], [], [], [], [(349, [(0, [(0, 1)]), (0, []), (0, [])])], 1)])
theorem zl_z1_l {P : zq_Ty} {h : zq_H} {b : Int} (a1 : 0 ≤ b) (b1 : 0 ≤ b → P (b).toNat = some 2) : (zl_KI 5671 b 0 0 P h) := by
  exact zl_KI_0 ⟨a1, b1 a1⟩
theorem zl_z1_ok {w : zq_Wd} (x_KI1 : zj_is w 349 (fun q => zl_KI 5671 (q 0) (q 1) (q 2))) : zq_okG1 w zl_z1 := by
  refine ⟨rfl, rfl, zu_fac ⟨rfl, by decide⟩ zq_fan, ?_⟩
  intro r P h H hM
  have q0 : zq_ev r (0, [(0, 1)]) = r 0 := zu_e1 _ _
  obtain ⟨hT, hC, hF, hS, -, hK⟩ := hM
  have c := hC.1
  have a1 := zq_all_1 c
  rw [q0] at a1
  have b1 : 0 ≤ r 0 → P (r 0).toNat = some 2 := fun z => by
    have z1 : 0 ≤ zq_ev r (0, [(0, 1)]) := by rw [q0]; exact z
    have z2 := zq_okF_1 (hF) z1
    simp only [q0] at z2
    exact z2
  obtain t1 := zl_z1_l (P := P) (h := h) (b := r 0) a1 b1
  obtain ⟨rq, hr⟩ : ∃ rq : Nat → Int, (∀ i, i < 1 → rq i = r i) := ⟨r, fun i hi => rfl⟩
  have v0 : rq 0 = r 0 := hr 0 (by decide)
  have g0 : zq_ev rq (0, [(0, 1)]) = r 0 := zu_f1 v0
  have g1 : zq_ev rq (0, []) = 0 := zu_e0 _ _
  exact ⟨_, List.mem_cons_self .., rq, hr, zq_MeS_mk rfl hT (zq_all_nil) zq_fan (zq_fan) rfl (zu_fac ((x_KI1 _ _ _).mpr (by show zl_KI 5671 (zq_ev rq (0, [(0, 1)])) (zq_ev rq (0, [])) (zq_ev rq (0, [])) P h; simp only [g0, g1]; exact t1)) zq_fan)⟩
noncomputable def zt_z0 : zq_S × List zq_S := (([], [], [(0, [(0, 1)])], [((0, [(0, 1)]), 43)], [], [], [], 1), [([], [], [], [], [], [], [(307, [(0, [(0, 1)]), (0, []), (0, [])])], 1)])
theorem zt_z0_l {P : zq_Ty} {h : zq_H} {a : Int} (a1 : 0 ≤ a) (b1 : 0 ≤ a → P (a).toNat = some 43) : (zt_LT 35 a 0 0 P h) := by
  exact zt_LT_0 ⟨a1, b1 a1⟩
theorem zt_z0_ok {w : zq_Wd} (x_LT0 : zj_is w 307 (fun q => zt_LT 35 (q 0) (q 1) (q 2))) : zq_okG1 w zt_z0 := by
  refine ⟨rfl, rfl, zu_fac ⟨rfl, by decide⟩ zq_fan, ?_⟩
  intro r P h H hM
  have q0 : zq_ev r (0, [(0, 1)]) = r 0 := zu_e1 _ _
  obtain ⟨hT, hC, hF, hS, -, hK⟩ := hM
  have c := hC.1
  have a1 := zq_all_1 c
  rw [q0] at a1
  have b1 : 0 ≤ r 0 → P (r 0).toNat = some 43 := fun z => by
    have z1 : 0 ≤ zq_ev r (0, [(0, 1)]) := by rw [q0]; exact z
    have z2 := zq_okF_1 (hF) z1
    simp only [q0] at z2
    exact z2
  obtain t1 := zt_z0_l (P := P) (h := h) (a := r 0) a1 b1
  obtain ⟨rq, hr⟩ : ∃ rq : Nat → Int, (∀ i, i < 1 → rq i = r i) := ⟨r, fun i hi => rfl⟩
  have v0 : rq 0 = r 0 := hr 0 (by decide)
  have g0 : zq_ev rq (0, [(0, 1)]) = r 0 := zu_f1 v0
  have g1 : zq_ev rq (0, []) = 0 := zu_e0 _ _
  exact ⟨_, List.mem_cons_self .., rq, hr, zq_MeS_mk rfl hT (zq_all_nil) zq_fan (zq_fan) rfl (zu_fac ((x_LT0 _ _ _).mpr (by show zt_LT 35 (zq_ev rq (0, [(0, 1)])) (zq_ev rq (0, [])) (zq_ev rq (0, [])) P h; simp only [g0, g1]; exact t1)) zq_fan)⟩
noncomputable def zm_z0 : zq_S × List zq_S := (([], [], [(0, [(0, 1)]), (0, [(1, 1)]), (0, [(2, 1)])], [((0, [(0, 1)]), 36), ((0, [(1, 1)]), 39), ((0, [(2, 1)]), 42)], [((0, [(0, 1)]), (0, []), (0, [])), ((0, [(0, 1)]), (1, []), (0, [])), ((0, [(0, 1)]), (2, []), (0, [])), ((0, [(0, 1)]), (3, []), (0, [])), ((0, [(0, 1)]), (4, []), (0, [])), ((0, [(0, 1)]), (5, []), (0, [])), ((0, [(1, 1)]), (0, []), (0, [])), ((0, [(1, 1)]), (1, []), (0, [])), ((0, [(1, 1)]), (2, []), (0, [])), ((0, [(1, 1)]), (3, []), (0, [])), ((0, [(2, 1)]), (0, []), (0, []))], [], [], 3), [([], [], [], [], [], [], [(280, [(0, [(0, 1)]), (0, [(1, 1)]), (0, [(2, 1)]), (4586997233048136541430758450064474100387735230759824291973833691816938709832156080645343570059119116156928, [])])], 3)])
theorem zm_z0_l {P : zq_Ty} {h : zq_H} {b c t : Int} (a1 : 0 ≤ b) (a2 : 0 ≤ c) (a3 : 0 ≤ t) (b1 : 0 ≤ b → P (b).toNat = some 36) (b2 : 0 ≤ c → P (c).toNat = some 39) (b3 : 0 ≤ t → P (t).toNat = some 42) (s1 : 0 ≤ b ∧ P (b).toNat ≠ none ∧ h (b).toNat 0 = 0) (s2 : 0 ≤ b ∧ P (b).toNat ≠ none ∧ h (b).toNat 1 = 0) (s3 : 0 ≤ b ∧ P (b).toNat ≠ none ∧ h (b).toNat 2 = 0) (s4 : 0 ≤ b ∧ P (b).toNat ≠ none ∧ h (b).toNat 3 = 0) (s5 : 0 ≤ b ∧ P (b).toNat ≠ none ∧ h (b).toNat 4 = 0) (s6 : 0 ≤ b ∧ P (b).toNat ≠ none ∧ h (b).toNat 5 = 0) (s7 : 0 ≤ c ∧ P (c).toNat ≠ none ∧ h (c).toNat 0 = 0) (s8 : 0 ≤ c ∧ P (c).toNat ≠ none ∧ h (c).toNat 1 = 0) (s9 : 0 ≤ c ∧ P (c).toNat ≠ none ∧ h (c).toNat 2 = 0) (s10 : 0 ≤ c ∧ P (c).toNat ≠ none ∧ h (c).toNat 3 = 0) (s11 : 0 ≤ t ∧ P (t).toNat ≠ none ∧ h (t).toNat 0 = 0) : (zm_MC 35 b c t 4586997233048136541430758450064474100387735230759824291973833691816938709832156080645343570059119116156928 P h) := by
  refine ⟨⟨a1, b1 a1⟩, ⟨a2, b2 a2⟩, ⟨a3, b3 a3⟩, zm_zero (fun j j0 j1 => ?_)⟩
  unfold zm_f
  by_cases x : j < 6
  · rw [if_pos x]
    have : j = 0 ∨ j = 1 ∨ j = 2 ∨ j = 3 ∨ j = 4 ∨ j = 5 := by omega
    rcases this with e | e | e | e | e | e <;> subst e <;> first | exact s1.2.2 | exact s2.2.2 | exact s3.2.2 | exact s4.2.2 | exact s5.2.2 | exact s6.2.2
  · rw [if_neg x]
    by_cases y : j < 10
    · rw [if_pos y]
      have : j = 6 ∨ j = 7 ∨ j = 8 ∨ j = 9 := by omega
      rcases this with e | e | e | e <;> subst e <;> first | exact s7.2.2 | exact s8.2.2 | exact s9.2.2 | exact s10.2.2
    · rw [if_neg y]; exact s11.2.2
theorem zm_z0_ok {w : zq_Wd} (x_MC0 : zj_is w 280 (fun q => zm_MC 35 (q 0) (q 1) (q 2) (q 3))) : zq_okG1 w zm_z0 := by
  refine ⟨rfl, rfl, zu_fac ⟨rfl, by decide⟩ zq_fan, ?_⟩
  intro r P h H hM
  have q0 : zq_ev r (0, [(0, 1)]) = r 0 := zu_e1 _ _
  have q1 : zq_ev r (0, [(1, 1)]) = r 1 := zu_e1 _ _
  have q2 : zq_ev r (0, [(2, 1)]) = r 2 := zu_e1 _ _
  have q3 : zq_ev r (0, []) = 0 := zu_e0 _ _
  have q4 : zq_ev r (1, []) = 1 := zu_e0 _ _
  have q5 : zq_ev r (2, []) = 2 := zu_e0 _ _
  have q6 : zq_ev r (3, []) = 3 := zu_e0 _ _
  have q7 : zq_ev r (4, []) = 4 := zu_e0 _ _
  have q8 : zq_ev r (5, []) = 5 := zu_e0 _ _
  obtain ⟨hT, hC, hF, hS, -, hK⟩ := hM
  have c := hC.1
  have a1 := zq_all_1 c
  rw [q0] at a1
  have c := zq_all_t c
  have a2 := zq_all_1 c
  rw [q1] at a2
  have c := zq_all_t c
  have a3 := zq_all_1 c
  rw [q2] at a3
  have b1 : 0 ≤ r 0 → P (r 0).toNat = some 36 := fun z => by
    have z1 : 0 ≤ zq_ev r (0, [(0, 1)]) := by rw [q0]; exact z
    have z2 := zq_okF_1 (hF) z1
    simp only [q0] at z2
    exact z2
  have b2 : 0 ≤ r 1 → P (r 1).toNat = some 39 := fun z => by
    have z1 : 0 ≤ zq_ev r (0, [(1, 1)]) := by rw [q1]; exact z
    have z2 := zq_okF_1 (zq_okF_t (hF)) z1
    simp only [q1] at z2
    exact z2
  have b3 : 0 ≤ r 2 → P (r 2).toNat = some 42 := fun z => by
    have z1 : 0 ≤ zq_ev r (0, [(2, 1)]) := by rw [q2]; exact z
    have z2 := zq_okF_1 (zq_okF_t (zq_okF_t (hF))) z1
    simp only [q2] at z2
    exact z2
  have s1 := zq_okS_1 (hS)
  simp only [q0, q3] at s1
  have s2 := zq_okS_1 (zq_okS_t (hS))
  simp only [q0, q3, q4] at s2
  have s3 := zq_okS_1 (zq_okS_t (zq_okS_t (hS)))
  simp only [q0, q3, q5] at s3
  have s4 := zq_okS_1 (zq_okS_t (zq_okS_t (zq_okS_t (hS))))
  simp only [q0, q3, q6] at s4
  have s5 := zq_okS_1 (zq_okS_t (zq_okS_t (zq_okS_t (zq_okS_t (hS)))))
  simp only [q0, q3, q7] at s5
  have s6 := zq_okS_1 (zq_okS_t (zq_okS_t (zq_okS_t (zq_okS_t (zq_okS_t (hS))))))
  simp only [q0, q3, q8] at s6
  have s7 := zq_okS_1 (zq_okS_t (zq_okS_t (zq_okS_t (zq_okS_t (zq_okS_t (zq_okS_t (hS)))))))
  simp only [q1, q3] at s7
  have s8 := zq_okS_1 (zq_okS_t (zq_okS_t (zq_okS_t (zq_okS_t (zq_okS_t (zq_okS_t (zq_okS_t (hS))))))))
  simp only [q1, q3, q4] at s8
  have s9 := zq_okS_1 (zq_okS_t (zq_okS_t (zq_okS_t (zq_okS_t (zq_okS_t (zq_okS_t (zq_okS_t (zq_okS_t (hS)))))))))
  simp only [q1, q3, q5] at s9
  have s10 := zq_okS_1 (zq_okS_t (zq_okS_t (zq_okS_t (zq_okS_t (zq_okS_t (zq_okS_t (zq_okS_t (zq_okS_t (zq_okS_t (hS))))))))))
  simp only [q1, q3, q6] at s10
  have s11 := zq_okS_1 (zq_okS_t (zq_okS_t (zq_okS_t (zq_okS_t (zq_okS_t (zq_okS_t (zq_okS_t (zq_okS_t (zq_okS_t (zq_okS_t (hS)))))))))))
  simp only [q2, q3] at s11
  obtain t1 := zm_z0_l (P := P) (h := h) (b := r 0) (c := r 1) (t := r 2) a1 a2 a3 b1 b2 b3 s1 s2 s3 s4 s5 s6 s7 s8 s9 s10 s11
  obtain ⟨rq, hr⟩ : ∃ rq : Nat → Int, (∀ i, i < 3 → rq i = r i) := ⟨r, fun i hi => rfl⟩
  have v0 : rq 0 = r 0 := hr 0 (by decide)
  have v1 : rq 1 = r 1 := hr 1 (by decide)
  have v2 : rq 2 = r 2 := hr 2 (by decide)
  have g0 : zq_ev rq (0, [(0, 1)]) = r 0 := zu_f1 v0
  have g1 : zq_ev rq (0, [(1, 1)]) = r 1 := zu_f1 v1
  have g2 : zq_ev rq (0, [(2, 1)]) = r 2 := zu_f1 v2
  have g3 : zq_ev rq (4586997233048136541430758450064474100387735230759824291973833691816938709832156080645343570059119116156928, []) = 4586997233048136541430758450064474100387735230759824291973833691816938709832156080645343570059119116156928 := zu_e0 _ _
  exact ⟨_, List.mem_cons_self .., rq, hr, zq_MeS_mk rfl hT (zq_all_nil) zq_fan (zq_fan) rfl (zu_fac ((x_MC0 _ _ _).mpr (by show zm_MC 35 (zq_ev rq (0, [(0, 1)])) (zq_ev rq (0, [(1, 1)])) (zq_ev rq (0, [(2, 1)])) (zq_ev rq (4586997233048136541430758450064474100387735230759824291973833691816938709832156080645343570059119116156928, [])) P h; simp only [g0, g1, g2, g3]; exact t1)) zq_fan)⟩
noncomputable def zk_zz0 : zq_S × List zq_S := (([], [], [(0, [(0, 1)]), (0, [(1, 1)]), (0, [(2, 1)]), (0, [(3, 1)])], [((0, [(0, 1)]), 44), ((0, [(1, 1)]), 45), ((0, [(2, 1)]), 46), ((0, [(3, 1)]), 47)], [], [], [], 5), [([], [], [], [], [], [], [(293, [(0, [(0, 1)]), (0, [(1, 1)]), (0, [(2, 1)]), (0, [(3, 1)]), (0, []), (0, [(4, 1)]), (0, [])])], 5)])
theorem zk_zz0_l {P : zq_Ty} {h : zq_H} {a b c d M : Int} (a1 : 0 ≤ a) (a2 : 0 ≤ b) (a3 : 0 ≤ c) (a4 : 0 ≤ d) (b1 : 0 ≤ a → P (a).toNat = some 44) (b2 : 0 ≤ b → P (b).toNat = some 45) (b3 : 0 ≤ c → P (c).toNat = some 46) (b4 : 0 ≤ d → P (d).toNat = some 47) : (zk_ZC 35 a b c d 0 M 0 P h) := by
  exact zk_ZC_0 ⟨a1, b1 a1⟩ ⟨a2, b2 a2⟩ ⟨a3, b3 a3⟩ ⟨a4, b4 a4⟩
theorem zk_zz0_ok {w : zq_Wd} (x_ZC0 : zj_is w 293 (fun q => zk_ZC 35 (q 0) (q 1) (q 2) (q 3) (q 4) (q 5) (q 6))) : zq_okG1 w zk_zz0 := by
  refine ⟨rfl, rfl, zu_fac ⟨rfl, by decide⟩ zq_fan, ?_⟩
  intro r P h H hM
  have q0 : zq_ev r (0, [(0, 1)]) = r 0 := zu_e1 _ _
  have q1 : zq_ev r (0, [(1, 1)]) = r 1 := zu_e1 _ _
  have q2 : zq_ev r (0, [(2, 1)]) = r 2 := zu_e1 _ _
  have q3 : zq_ev r (0, [(3, 1)]) = r 3 := zu_e1 _ _
  obtain ⟨hT, hC, hF, hS, -, hK⟩ := hM
  have c := hC.1
  have a1 := zq_all_1 c
  rw [q0] at a1
  have c := zq_all_t c
  have a2 := zq_all_1 c
  rw [q1] at a2
  have c := zq_all_t c
  have a3 := zq_all_1 c
  rw [q2] at a3
  have c := zq_all_t c
  have a4 := zq_all_1 c
  rw [q3] at a4
  have b1 : 0 ≤ r 0 → P (r 0).toNat = some 44 := fun z => by
    have z1 : 0 ≤ zq_ev r (0, [(0, 1)]) := by rw [q0]; exact z
    have z2 := zq_okF_1 (hF) z1
    simp only [q0] at z2
    exact z2
  have b2 : 0 ≤ r 1 → P (r 1).toNat = some 45 := fun z => by
    have z1 : 0 ≤ zq_ev r (0, [(1, 1)]) := by rw [q1]; exact z
    have z2 := zq_okF_1 (zq_okF_t (hF)) z1
    simp only [q1] at z2
    exact z2
  have b3 : 0 ≤ r 2 → P (r 2).toNat = some 46 := fun z => by
    have z1 : 0 ≤ zq_ev r (0, [(2, 1)]) := by rw [q2]; exact z
    have z2 := zq_okF_1 (zq_okF_t (zq_okF_t (hF))) z1
    simp only [q2] at z2
    exact z2
  have b4 : 0 ≤ r 3 → P (r 3).toNat = some 47 := fun z => by
    have z1 : 0 ≤ zq_ev r (0, [(3, 1)]) := by rw [q3]; exact z
    have z2 := zq_okF_1 (zq_okF_t (zq_okF_t (zq_okF_t (hF)))) z1
    simp only [q3] at z2
    exact z2
  obtain t1 := zk_zz0_l (P := P) (h := h) (a := r 0) (b := r 1) (c := r 2) (d := r 3) (M := r 4) a1 a2 a3 a4 b1 b2 b3 b4
  obtain ⟨rq, hr⟩ : ∃ rq : Nat → Int, (∀ i, i < 5 → rq i = r i) := ⟨r, fun i hi => rfl⟩
  have v0 : rq 0 = r 0 := hr 0 (by decide)
  have v1 : rq 1 = r 1 := hr 1 (by decide)
  have v2 : rq 2 = r 2 := hr 2 (by decide)
  have v3 : rq 3 = r 3 := hr 3 (by decide)
  have v4 : rq 4 = r 4 := hr 4 (by decide)
  have g0 : zq_ev rq (0, [(0, 1)]) = r 0 := zu_f1 v0
  have g1 : zq_ev rq (0, [(1, 1)]) = r 1 := zu_f1 v1
  have g2 : zq_ev rq (0, [(2, 1)]) = r 2 := zu_f1 v2
  have g3 : zq_ev rq (0, [(3, 1)]) = r 3 := zu_f1 v3
  have g4 : zq_ev rq (0, []) = 0 := zu_e0 _ _
  have g5 : zq_ev rq (0, [(4, 1)]) = r 4 := zu_f1 v4
  exact ⟨_, List.mem_cons_self .., rq, hr, zq_MeS_mk rfl hT (zq_all_nil) zq_fan (zq_fan) rfl (zu_fac ((x_ZC0 _ _ _).mpr (by show zk_ZC 35 (zq_ev rq (0, [(0, 1)])) (zq_ev rq (0, [(1, 1)])) (zq_ev rq (0, [(2, 1)])) (zq_ev rq (0, [(3, 1)])) (zq_ev rq (0, [])) (zq_ev rq (0, [(4, 1)])) (zq_ev rq (0, [])) P h; simp only [g0, g1, g2, g3, g4, g5]; exact t1)) zq_fan)⟩
noncomputable def zt_z1 : zq_S × List zq_S := (([], [], [(0, [(0, 1)])], [((0, [(0, 1)]), 58)], [], [], [], 1), [([], [], [], [], [], [], [(308, [(0, [(0, 1)]), (0, []), (0, [])])], 1)])
theorem zt_z1_l {P : zq_Ty} {h : zq_H} {a : Int} (a1 : 0 ≤ a) (b1 : 0 ≤ a → P (a).toNat = some 58) : (zt_LT 50 a 0 0 P h) := by
  exact zt_LT_0 ⟨a1, b1 a1⟩
theorem zt_z1_ok {w : zq_Wd} (x_LT1 : zj_is w 308 (fun q => zt_LT 50 (q 0) (q 1) (q 2))) : zq_okG1 w zt_z1 := by
  refine ⟨rfl, rfl, zu_fac ⟨rfl, by decide⟩ zq_fan, ?_⟩
  intro r P h H hM
  have q0 : zq_ev r (0, [(0, 1)]) = r 0 := zu_e1 _ _
  obtain ⟨hT, hC, hF, hS, -, hK⟩ := hM
  have c := hC.1
  have a1 := zq_all_1 c
  rw [q0] at a1
  have b1 : 0 ≤ r 0 → P (r 0).toNat = some 58 := fun z => by
    have z1 : 0 ≤ zq_ev r (0, [(0, 1)]) := by rw [q0]; exact z
    have z2 := zq_okF_1 (hF) z1
    simp only [q0] at z2
    exact z2
  obtain t1 := zt_z1_l (P := P) (h := h) (a := r 0) a1 b1
  obtain ⟨rq, hr⟩ : ∃ rq : Nat → Int, (∀ i, i < 1 → rq i = r i) := ⟨r, fun i hi => rfl⟩
  have v0 : rq 0 = r 0 := hr 0 (by decide)
  have g0 : zq_ev rq (0, [(0, 1)]) = r 0 := zu_f1 v0
  have g1 : zq_ev rq (0, []) = 0 := zu_e0 _ _
  exact ⟨_, List.mem_cons_self .., rq, hr, zq_MeS_mk rfl hT (zq_all_nil) zq_fan (zq_fan) rfl (zu_fac ((x_LT1 _ _ _).mpr (by show zt_LT 50 (zq_ev rq (0, [(0, 1)])) (zq_ev rq (0, [])) (zq_ev rq (0, [])) P h; simp only [g0, g1]; exact t1)) zq_fan)⟩
noncomputable def zm_z1 : zq_S × List zq_S := (([], [], [(0, [(0, 1)]), (0, [(1, 1)]), (0, [(2, 1)])], [((0, [(0, 1)]), 51), ((0, [(1, 1)]), 54), ((0, [(2, 1)]), 57)], [((0, [(0, 1)]), (0, []), (0, [])), ((0, [(0, 1)]), (1, []), (0, [])), ((0, [(0, 1)]), (2, []), (0, [])), ((0, [(0, 1)]), (3, []), (0, [])), ((0, [(0, 1)]), (4, []), (0, [])), ((0, [(0, 1)]), (5, []), (0, [])), ((0, [(1, 1)]), (0, []), (0, [])), ((0, [(1, 1)]), (1, []), (0, [])), ((0, [(1, 1)]), (2, []), (0, [])), ((0, [(1, 1)]), (3, []), (0, [])), ((0, [(2, 1)]), (0, []), (0, []))], [], [], 3), [([], [], [], [], [], [], [(281, [(0, [(0, 1)]), (0, [(1, 1)]), (0, [(2, 1)]), (4586997233048136541430758450064474100387735230759824291973833691816938709832156080645343570059119116156928, [])])], 3)])
theorem zm_z1_l {P : zq_Ty} {h : zq_H} {b c t : Int} (a1 : 0 ≤ b) (a2 : 0 ≤ c) (a3 : 0 ≤ t) (b1 : 0 ≤ b → P (b).toNat = some 51) (b2 : 0 ≤ c → P (c).toNat = some 54) (b3 : 0 ≤ t → P (t).toNat = some 57) (s1 : 0 ≤ b ∧ P (b).toNat ≠ none ∧ h (b).toNat 0 = 0) (s2 : 0 ≤ b ∧ P (b).toNat ≠ none ∧ h (b).toNat 1 = 0) (s3 : 0 ≤ b ∧ P (b).toNat ≠ none ∧ h (b).toNat 2 = 0) (s4 : 0 ≤ b ∧ P (b).toNat ≠ none ∧ h (b).toNat 3 = 0) (s5 : 0 ≤ b ∧ P (b).toNat ≠ none ∧ h (b).toNat 4 = 0) (s6 : 0 ≤ b ∧ P (b).toNat ≠ none ∧ h (b).toNat 5 = 0) (s7 : 0 ≤ c ∧ P (c).toNat ≠ none ∧ h (c).toNat 0 = 0) (s8 : 0 ≤ c ∧ P (c).toNat ≠ none ∧ h (c).toNat 1 = 0) (s9 : 0 ≤ c ∧ P (c).toNat ≠ none ∧ h (c).toNat 2 = 0) (s10 : 0 ≤ c ∧ P (c).toNat ≠ none ∧ h (c).toNat 3 = 0) (s11 : 0 ≤ t ∧ P (t).toNat ≠ none ∧ h (t).toNat 0 = 0) : (zm_MC 50 b c t 4586997233048136541430758450064474100387735230759824291973833691816938709832156080645343570059119116156928 P h) := by
  refine ⟨⟨a1, b1 a1⟩, ⟨a2, b2 a2⟩, ⟨a3, b3 a3⟩, zm_zero (fun j j0 j1 => ?_)⟩
  unfold zm_f
  by_cases x : j < 6
  · rw [if_pos x]
    have : j = 0 ∨ j = 1 ∨ j = 2 ∨ j = 3 ∨ j = 4 ∨ j = 5 := by omega
    rcases this with e | e | e | e | e | e <;> subst e <;> first | exact s1.2.2 | exact s2.2.2 | exact s3.2.2 | exact s4.2.2 | exact s5.2.2 | exact s6.2.2
  · rw [if_neg x]
    by_cases y : j < 10
    · rw [if_pos y]
      have : j = 6 ∨ j = 7 ∨ j = 8 ∨ j = 9 := by omega
      rcases this with e | e | e | e <;> subst e <;> first | exact s7.2.2 | exact s8.2.2 | exact s9.2.2 | exact s10.2.2
    · rw [if_neg y]; exact s11.2.2
theorem zm_z1_ok {w : zq_Wd} (x_MC1 : zj_is w 281 (fun q => zm_MC 50 (q 0) (q 1) (q 2) (q 3))) : zq_okG1 w zm_z1 := by
  refine ⟨rfl, rfl, zu_fac ⟨rfl, by decide⟩ zq_fan, ?_⟩
  intro r P h H hM
  have q0 : zq_ev r (0, [(0, 1)]) = r 0 := zu_e1 _ _
  have q1 : zq_ev r (0, [(1, 1)]) = r 1 := zu_e1 _ _
  have q2 : zq_ev r (0, [(2, 1)]) = r 2 := zu_e1 _ _
  have q3 : zq_ev r (0, []) = 0 := zu_e0 _ _
  have q4 : zq_ev r (1, []) = 1 := zu_e0 _ _
  have q5 : zq_ev r (2, []) = 2 := zu_e0 _ _
  have q6 : zq_ev r (3, []) = 3 := zu_e0 _ _
  have q7 : zq_ev r (4, []) = 4 := zu_e0 _ _
  have q8 : zq_ev r (5, []) = 5 := zu_e0 _ _
  obtain ⟨hT, hC, hF, hS, -, hK⟩ := hM
  have c := hC.1
  have a1 := zq_all_1 c
  rw [q0] at a1
  have c := zq_all_t c
  have a2 := zq_all_1 c
  rw [q1] at a2
  have c := zq_all_t c
  have a3 := zq_all_1 c
  rw [q2] at a3
  have b1 : 0 ≤ r 0 → P (r 0).toNat = some 51 := fun z => by
    have z1 : 0 ≤ zq_ev r (0, [(0, 1)]) := by rw [q0]; exact z
    have z2 := zq_okF_1 (hF) z1
    simp only [q0] at z2
    exact z2
  have b2 : 0 ≤ r 1 → P (r 1).toNat = some 54 := fun z => by
    have z1 : 0 ≤ zq_ev r (0, [(1, 1)]) := by rw [q1]; exact z
    have z2 := zq_okF_1 (zq_okF_t (hF)) z1
    simp only [q1] at z2
    exact z2
  have b3 : 0 ≤ r 2 → P (r 2).toNat = some 57 := fun z => by
    have z1 : 0 ≤ zq_ev r (0, [(2, 1)]) := by rw [q2]; exact z
    have z2 := zq_okF_1 (zq_okF_t (zq_okF_t (hF))) z1
    simp only [q2] at z2
    exact z2
  have s1 := zq_okS_1 (hS)
  simp only [q0, q3] at s1
  have s2 := zq_okS_1 (zq_okS_t (hS))
  simp only [q0, q3, q4] at s2
  have s3 := zq_okS_1 (zq_okS_t (zq_okS_t (hS)))
  simp only [q0, q3, q5] at s3
  have s4 := zq_okS_1 (zq_okS_t (zq_okS_t (zq_okS_t (hS))))
  simp only [q0, q3, q6] at s4
  have s5 := zq_okS_1 (zq_okS_t (zq_okS_t (zq_okS_t (zq_okS_t (hS)))))
  simp only [q0, q3, q7] at s5
  have s6 := zq_okS_1 (zq_okS_t (zq_okS_t (zq_okS_t (zq_okS_t (zq_okS_t (hS))))))
  simp only [q0, q3, q8] at s6
  have s7 := zq_okS_1 (zq_okS_t (zq_okS_t (zq_okS_t (zq_okS_t (zq_okS_t (zq_okS_t (hS)))))))
  simp only [q1, q3] at s7
  have s8 := zq_okS_1 (zq_okS_t (zq_okS_t (zq_okS_t (zq_okS_t (zq_okS_t (zq_okS_t (zq_okS_t (hS))))))))
  simp only [q1, q3, q4] at s8
  have s9 := zq_okS_1 (zq_okS_t (zq_okS_t (zq_okS_t (zq_okS_t (zq_okS_t (zq_okS_t (zq_okS_t (zq_okS_t (hS)))))))))
  simp only [q1, q3, q5] at s9
  have s10 := zq_okS_1 (zq_okS_t (zq_okS_t (zq_okS_t (zq_okS_t (zq_okS_t (zq_okS_t (zq_okS_t (zq_okS_t (zq_okS_t (hS))))))))))
  simp only [q1, q3, q6] at s10
  have s11 := zq_okS_1 (zq_okS_t (zq_okS_t (zq_okS_t (zq_okS_t (zq_okS_t (zq_okS_t (zq_okS_t (zq_okS_t (zq_okS_t (zq_okS_t (hS)))))))))))
  simp only [q2, q3] at s11
  obtain t1 := zm_z1_l (P := P) (h := h) (b := r 0) (c := r 1) (t := r 2) a1 a2 a3 b1 b2 b3 s1 s2 s3 s4 s5 s6 s7 s8 s9 s10 s11
  obtain ⟨rq, hr⟩ : ∃ rq : Nat → Int, (∀ i, i < 3 → rq i = r i) := ⟨r, fun i hi => rfl⟩
  have v0 : rq 0 = r 0 := hr 0 (by decide)
  have v1 : rq 1 = r 1 := hr 1 (by decide)
  have v2 : rq 2 = r 2 := hr 2 (by decide)
  have g0 : zq_ev rq (0, [(0, 1)]) = r 0 := zu_f1 v0
  have g1 : zq_ev rq (0, [(1, 1)]) = r 1 := zu_f1 v1
  have g2 : zq_ev rq (0, [(2, 1)]) = r 2 := zu_f1 v2
  have g3 : zq_ev rq (4586997233048136541430758450064474100387735230759824291973833691816938709832156080645343570059119116156928, []) = 4586997233048136541430758450064474100387735230759824291973833691816938709832156080645343570059119116156928 := zu_e0 _ _
  exact ⟨_, List.mem_cons_self .., rq, hr, zq_MeS_mk rfl hT (zq_all_nil) zq_fan (zq_fan) rfl (zu_fac ((x_MC1 _ _ _).mpr (by show zm_MC 50 (zq_ev rq (0, [(0, 1)])) (zq_ev rq (0, [(1, 1)])) (zq_ev rq (0, [(2, 1)])) (zq_ev rq (4586997233048136541430758450064474100387735230759824291973833691816938709832156080645343570059119116156928, [])) P h; simp only [g0, g1, g2, g3]; exact t1)) zq_fan)⟩
noncomputable def zk_zz1 : zq_S × List zq_S := (([], [], [(0, [(0, 1)]), (0, [(1, 1)]), (0, [(2, 1)]), (0, [(3, 1)])], [((0, [(0, 1)]), 59), ((0, [(1, 1)]), 60), ((0, [(2, 1)]), 61), ((0, [(3, 1)]), 62)], [], [], [], 5), [([], [], [], [], [], [], [(294, [(0, [(0, 1)]), (0, [(1, 1)]), (0, [(2, 1)]), (0, [(3, 1)]), (0, []), (0, [(4, 1)]), (0, [])])], 5)])
theorem zk_zz1_l {P : zq_Ty} {h : zq_H} {a b c d M : Int} (a1 : 0 ≤ a) (a2 : 0 ≤ b) (a3 : 0 ≤ c) (a4 : 0 ≤ d) (b1 : 0 ≤ a → P (a).toNat = some 59) (b2 : 0 ≤ b → P (b).toNat = some 60) (b3 : 0 ≤ c → P (c).toNat = some 61) (b4 : 0 ≤ d → P (d).toNat = some 62) : (zk_ZC 50 a b c d 0 M 0 P h) := by
  exact zk_ZC_0 ⟨a1, b1 a1⟩ ⟨a2, b2 a2⟩ ⟨a3, b3 a3⟩ ⟨a4, b4 a4⟩
theorem zk_zz1_ok {w : zq_Wd} (x_ZC1 : zj_is w 294 (fun q => zk_ZC 50 (q 0) (q 1) (q 2) (q 3) (q 4) (q 5) (q 6))) : zq_okG1 w zk_zz1 := by
  refine ⟨rfl, rfl, zu_fac ⟨rfl, by decide⟩ zq_fan, ?_⟩
  intro r P h H hM
  have q0 : zq_ev r (0, [(0, 1)]) = r 0 := zu_e1 _ _
  have q1 : zq_ev r (0, [(1, 1)]) = r 1 := zu_e1 _ _
  have q2 : zq_ev r (0, [(2, 1)]) = r 2 := zu_e1 _ _
  have q3 : zq_ev r (0, [(3, 1)]) = r 3 := zu_e1 _ _
  obtain ⟨hT, hC, hF, hS, -, hK⟩ := hM
  have c := hC.1
  have a1 := zq_all_1 c
  rw [q0] at a1
  have c := zq_all_t c
  have a2 := zq_all_1 c
  rw [q1] at a2
  have c := zq_all_t c
  have a3 := zq_all_1 c
  rw [q2] at a3
  have c := zq_all_t c
  have a4 := zq_all_1 c
  rw [q3] at a4
  have b1 : 0 ≤ r 0 → P (r 0).toNat = some 59 := fun z => by
    have z1 : 0 ≤ zq_ev r (0, [(0, 1)]) := by rw [q0]; exact z
    have z2 := zq_okF_1 (hF) z1
    simp only [q0] at z2
    exact z2
  have b2 : 0 ≤ r 1 → P (r 1).toNat = some 60 := fun z => by
    have z1 : 0 ≤ zq_ev r (0, [(1, 1)]) := by rw [q1]; exact z
    have z2 := zq_okF_1 (zq_okF_t (hF)) z1
    simp only [q1] at z2
    exact z2
  have b3 : 0 ≤ r 2 → P (r 2).toNat = some 61 := fun z => by
    have z1 : 0 ≤ zq_ev r (0, [(2, 1)]) := by rw [q2]; exact z
    have z2 := zq_okF_1 (zq_okF_t (zq_okF_t (hF))) z1
    simp only [q2] at z2
    exact z2
  have b4 : 0 ≤ r 3 → P (r 3).toNat = some 62 := fun z => by
    have z1 : 0 ≤ zq_ev r (0, [(3, 1)]) := by rw [q3]; exact z
    have z2 := zq_okF_1 (zq_okF_t (zq_okF_t (zq_okF_t (hF)))) z1
    simp only [q3] at z2
    exact z2
  obtain t1 := zk_zz1_l (P := P) (h := h) (a := r 0) (b := r 1) (c := r 2) (d := r 3) (M := r 4) a1 a2 a3 a4 b1 b2 b3 b4
  obtain ⟨rq, hr⟩ : ∃ rq : Nat → Int, (∀ i, i < 5 → rq i = r i) := ⟨r, fun i hi => rfl⟩
  have v0 : rq 0 = r 0 := hr 0 (by decide)
  have v1 : rq 1 = r 1 := hr 1 (by decide)
  have v2 : rq 2 = r 2 := hr 2 (by decide)
  have v3 : rq 3 = r 3 := hr 3 (by decide)
  have v4 : rq 4 = r 4 := hr 4 (by decide)
  have g0 : zq_ev rq (0, [(0, 1)]) = r 0 := zu_f1 v0
  have g1 : zq_ev rq (0, [(1, 1)]) = r 1 := zu_f1 v1
  have g2 : zq_ev rq (0, [(2, 1)]) = r 2 := zu_f1 v2
  have g3 : zq_ev rq (0, [(3, 1)]) = r 3 := zu_f1 v3
  have g4 : zq_ev rq (0, []) = 0 := zu_e0 _ _
  have g5 : zq_ev rq (0, [(4, 1)]) = r 4 := zu_f1 v4
  exact ⟨_, List.mem_cons_self .., rq, hr, zq_MeS_mk rfl hT (zq_all_nil) zq_fan (zq_fan) rfl (zu_fac ((x_ZC1 _ _ _).mpr (by show zk_ZC 50 (zq_ev rq (0, [(0, 1)])) (zq_ev rq (0, [(1, 1)])) (zq_ev rq (0, [(2, 1)])) (zq_ev rq (0, [(3, 1)])) (zq_ev rq (0, [])) (zq_ev rq (0, [(4, 1)])) (zq_ev rq (0, [])) P h; simp only [g0, g1, g2, g3, g4, g5]; exact t1)) zq_fan)⟩
noncomputable def zt_z2 : zq_S × List zq_S := (([], [], [(0, [(0, 1)])], [((0, [(0, 1)]), 73)], [], [], [], 1), [([], [], [], [], [], [], [(309, [(0, [(0, 1)]), (0, []), (0, [])])], 1)])
theorem zt_z2_l {P : zq_Ty} {h : zq_H} {a : Int} (a1 : 0 ≤ a) (b1 : 0 ≤ a → P (a).toNat = some 73) : (zt_LT 65 a 0 0 P h) := by
  exact zt_LT_0 ⟨a1, b1 a1⟩
theorem zt_z2_ok {w : zq_Wd} (x_LT2 : zj_is w 309 (fun q => zt_LT 65 (q 0) (q 1) (q 2))) : zq_okG1 w zt_z2 := by
  refine ⟨rfl, rfl, zu_fac ⟨rfl, by decide⟩ zq_fan, ?_⟩
  intro r P h H hM
  have q0 : zq_ev r (0, [(0, 1)]) = r 0 := zu_e1 _ _
  obtain ⟨hT, hC, hF, hS, -, hK⟩ := hM
  have c := hC.1
  have a1 := zq_all_1 c
  rw [q0] at a1
  have b1 : 0 ≤ r 0 → P (r 0).toNat = some 73 := fun z => by
    have z1 : 0 ≤ zq_ev r (0, [(0, 1)]) := by rw [q0]; exact z
    have z2 := zq_okF_1 (hF) z1
    simp only [q0] at z2
    exact z2
  obtain t1 := zt_z2_l (P := P) (h := h) (a := r 0) a1 b1
  obtain ⟨rq, hr⟩ : ∃ rq : Nat → Int, (∀ i, i < 1 → rq i = r i) := ⟨r, fun i hi => rfl⟩
  have v0 : rq 0 = r 0 := hr 0 (by decide)
  have g0 : zq_ev rq (0, [(0, 1)]) = r 0 := zu_f1 v0
  have g1 : zq_ev rq (0, []) = 0 := zu_e0 _ _
  exact ⟨_, List.mem_cons_self .., rq, hr, zq_MeS_mk rfl hT (zq_all_nil) zq_fan (zq_fan) rfl (zu_fac ((x_LT2 _ _ _).mpr (by show zt_LT 65 (zq_ev rq (0, [(0, 1)])) (zq_ev rq (0, [])) (zq_ev rq (0, [])) P h; simp only [g0, g1]; exact t1)) zq_fan)⟩
noncomputable def zm_z2 : zq_S × List zq_S := (([], [], [(0, [(0, 1)]), (0, [(1, 1)]), (0, [(2, 1)])], [((0, [(0, 1)]), 66), ((0, [(1, 1)]), 69), ((0, [(2, 1)]), 72)], [((0, [(0, 1)]), (0, []), (0, [])), ((0, [(0, 1)]), (1, []), (0, [])), ((0, [(0, 1)]), (2, []), (0, [])), ((0, [(0, 1)]), (3, []), (0, [])), ((0, [(0, 1)]), (4, []), (0, [])), ((0, [(0, 1)]), (5, []), (0, [])), ((0, [(1, 1)]), (0, []), (0, [])), ((0, [(1, 1)]), (1, []), (0, [])), ((0, [(1, 1)]), (2, []), (0, [])), ((0, [(1, 1)]), (3, []), (0, [])), ((0, [(2, 1)]), (0, []), (0, []))], [], [], 3), [([], [], [], [], [], [], [(282, [(0, [(0, 1)]), (0, [(1, 1)]), (0, [(2, 1)]), (4586997233048136541430758450064474100387735230759824291973833691816938709832156080645343570059119116156928, [])])], 3)])
theorem zm_z2_l {P : zq_Ty} {h : zq_H} {b c t : Int} (a1 : 0 ≤ b) (a2 : 0 ≤ c) (a3 : 0 ≤ t) (b1 : 0 ≤ b → P (b).toNat = some 66) (b2 : 0 ≤ c → P (c).toNat = some 69) (b3 : 0 ≤ t → P (t).toNat = some 72) (s1 : 0 ≤ b ∧ P (b).toNat ≠ none ∧ h (b).toNat 0 = 0) (s2 : 0 ≤ b ∧ P (b).toNat ≠ none ∧ h (b).toNat 1 = 0) (s3 : 0 ≤ b ∧ P (b).toNat ≠ none ∧ h (b).toNat 2 = 0) (s4 : 0 ≤ b ∧ P (b).toNat ≠ none ∧ h (b).toNat 3 = 0) (s5 : 0 ≤ b ∧ P (b).toNat ≠ none ∧ h (b).toNat 4 = 0) (s6 : 0 ≤ b ∧ P (b).toNat ≠ none ∧ h (b).toNat 5 = 0) (s7 : 0 ≤ c ∧ P (c).toNat ≠ none ∧ h (c).toNat 0 = 0) (s8 : 0 ≤ c ∧ P (c).toNat ≠ none ∧ h (c).toNat 1 = 0) (s9 : 0 ≤ c ∧ P (c).toNat ≠ none ∧ h (c).toNat 2 = 0) (s10 : 0 ≤ c ∧ P (c).toNat ≠ none ∧ h (c).toNat 3 = 0) (s11 : 0 ≤ t ∧ P (t).toNat ≠ none ∧ h (t).toNat 0 = 0) : (zm_MC 65 b c t 4586997233048136541430758450064474100387735230759824291973833691816938709832156080645343570059119116156928 P h) := by
  refine ⟨⟨a1, b1 a1⟩, ⟨a2, b2 a2⟩, ⟨a3, b3 a3⟩, zm_zero (fun j j0 j1 => ?_)⟩
  unfold zm_f
  by_cases x : j < 6
  · rw [if_pos x]
    have : j = 0 ∨ j = 1 ∨ j = 2 ∨ j = 3 ∨ j = 4 ∨ j = 5 := by omega
    rcases this with e | e | e | e | e | e <;> subst e <;> first | exact s1.2.2 | exact s2.2.2 | exact s3.2.2 | exact s4.2.2 | exact s5.2.2 | exact s6.2.2
  · rw [if_neg x]
    by_cases y : j < 10
    · rw [if_pos y]
      have : j = 6 ∨ j = 7 ∨ j = 8 ∨ j = 9 := by omega
      rcases this with e | e | e | e <;> subst e <;> first | exact s7.2.2 | exact s8.2.2 | exact s9.2.2 | exact s10.2.2
    · rw [if_neg y]; exact s11.2.2
theorem zm_z2_ok {w : zq_Wd} (x_MC2 : zj_is w 282 (fun q => zm_MC 65 (q 0) (q 1) (q 2) (q 3))) : zq_okG1 w zm_z2 := by
  refine ⟨rfl, rfl, zu_fac ⟨rfl, by decide⟩ zq_fan, ?_⟩
  intro r P h H hM
  have q0 : zq_ev r (0, [(0, 1)]) = r 0 := zu_e1 _ _
  have q1 : zq_ev r (0, [(1, 1)]) = r 1 := zu_e1 _ _
  have q2 : zq_ev r (0, [(2, 1)]) = r 2 := zu_e1 _ _
  have q3 : zq_ev r (0, []) = 0 := zu_e0 _ _
  have q4 : zq_ev r (1, []) = 1 := zu_e0 _ _
  have q5 : zq_ev r (2, []) = 2 := zu_e0 _ _
  have q6 : zq_ev r (3, []) = 3 := zu_e0 _ _
  have q7 : zq_ev r (4, []) = 4 := zu_e0 _ _
  have q8 : zq_ev r (5, []) = 5 := zu_e0 _ _
  obtain ⟨hT, hC, hF, hS, -, hK⟩ := hM
  have c := hC.1
  have a1 := zq_all_1 c
  rw [q0] at a1
  have c := zq_all_t c
  have a2 := zq_all_1 c
  rw [q1] at a2
  have c := zq_all_t c
  have a3 := zq_all_1 c
  rw [q2] at a3
  have b1 : 0 ≤ r 0 → P (r 0).toNat = some 66 := fun z => by
    have z1 : 0 ≤ zq_ev r (0, [(0, 1)]) := by rw [q0]; exact z
    have z2 := zq_okF_1 (hF) z1
    simp only [q0] at z2
    exact z2
  have b2 : 0 ≤ r 1 → P (r 1).toNat = some 69 := fun z => by
    have z1 : 0 ≤ zq_ev r (0, [(1, 1)]) := by rw [q1]; exact z
    have z2 := zq_okF_1 (zq_okF_t (hF)) z1
    simp only [q1] at z2
    exact z2
  have b3 : 0 ≤ r 2 → P (r 2).toNat = some 72 := fun z => by
    have z1 : 0 ≤ zq_ev r (0, [(2, 1)]) := by rw [q2]; exact z
    have z2 := zq_okF_1 (zq_okF_t (zq_okF_t (hF))) z1
    simp only [q2] at z2
    exact z2
  have s1 := zq_okS_1 (hS)
  simp only [q0, q3] at s1
  have s2 := zq_okS_1 (zq_okS_t (hS))
  simp only [q0, q3, q4] at s2
  have s3 := zq_okS_1 (zq_okS_t (zq_okS_t (hS)))
  simp only [q0, q3, q5] at s3
  have s4 := zq_okS_1 (zq_okS_t (zq_okS_t (zq_okS_t (hS))))
  simp only [q0, q3, q6] at s4
  have s5 := zq_okS_1 (zq_okS_t (zq_okS_t (zq_okS_t (zq_okS_t (hS)))))
  simp only [q0, q3, q7] at s5
  have s6 := zq_okS_1 (zq_okS_t (zq_okS_t (zq_okS_t (zq_okS_t (zq_okS_t (hS))))))
  simp only [q0, q3, q8] at s6
  have s7 := zq_okS_1 (zq_okS_t (zq_okS_t (zq_okS_t (zq_okS_t (zq_okS_t (zq_okS_t (hS)))))))
  simp only [q1, q3] at s7
  have s8 := zq_okS_1 (zq_okS_t (zq_okS_t (zq_okS_t (zq_okS_t (zq_okS_t (zq_okS_t (zq_okS_t (hS))))))))
  simp only [q1, q3, q4] at s8
  have s9 := zq_okS_1 (zq_okS_t (zq_okS_t (zq_okS_t (zq_okS_t (zq_okS_t (zq_okS_t (zq_okS_t (zq_okS_t (hS)))))))))
  simp only [q1, q3, q5] at s9
  have s10 := zq_okS_1 (zq_okS_t (zq_okS_t (zq_okS_t (zq_okS_t (zq_okS_t (zq_okS_t (zq_okS_t (zq_okS_t (zq_okS_t (hS))))))))))
  simp only [q1, q3, q6] at s10
  have s11 := zq_okS_1 (zq_okS_t (zq_okS_t (zq_okS_t (zq_okS_t (zq_okS_t (zq_okS_t (zq_okS_t (zq_okS_t (zq_okS_t (zq_okS_t (hS)))))))))))
  simp only [q2, q3] at s11
  obtain t1 := zm_z2_l (P := P) (h := h) (b := r 0) (c := r 1) (t := r 2) a1 a2 a3 b1 b2 b3 s1 s2 s3 s4 s5 s6 s7 s8 s9 s10 s11
  obtain ⟨rq, hr⟩ : ∃ rq : Nat → Int, (∀ i, i < 3 → rq i = r i) := ⟨r, fun i hi => rfl⟩
  have v0 : rq 0 = r 0 := hr 0 (by decide)
  have v1 : rq 1 = r 1 := hr 1 (by decide)
  have v2 : rq 2 = r 2 := hr 2 (by decide)
  have g0 : zq_ev rq (0, [(0, 1)]) = r 0 := zu_f1 v0
  have g1 : zq_ev rq (0, [(1, 1)]) = r 1 := zu_f1 v1
  have g2 : zq_ev rq (0, [(2, 1)]) = r 2 := zu_f1 v2
  have g3 : zq_ev rq (4586997233048136541430758450064474100387735230759824291973833691816938709832156080645343570059119116156928, []) = 4586997233048136541430758450064474100387735230759824291973833691816938709832156080645343570059119116156928 := zu_e0 _ _
  exact ⟨_, List.mem_cons_self .., rq, hr, zq_MeS_mk rfl hT (zq_all_nil) zq_fan (zq_fan) rfl (zu_fac ((x_MC2 _ _ _).mpr (by show zm_MC 65 (zq_ev rq (0, [(0, 1)])) (zq_ev rq (0, [(1, 1)])) (zq_ev rq (0, [(2, 1)])) (zq_ev rq (4586997233048136541430758450064474100387735230759824291973833691816938709832156080645343570059119116156928, [])) P h; simp only [g0, g1, g2, g3]; exact t1)) zq_fan)⟩
noncomputable def zt_z3 : zq_S × List zq_S := (([], [], [(0, [(0, 1)])], [((0, [(0, 1)]), 88)], [], [], [], 1), [([], [], [], [], [], [], [(310, [(0, [(0, 1)]), (0, []), (0, [])])], 1)])
theorem zt_z3_l {P : zq_Ty} {h : zq_H} {a : Int} (a1 : 0 ≤ a) (b1 : 0 ≤ a → P (a).toNat = some 88) : (zt_LT 80 a 0 0 P h) := by
  exact zt_LT_0 ⟨a1, b1 a1⟩
theorem zt_z3_ok {w : zq_Wd} (x_LT3 : zj_is w 310 (fun q => zt_LT 80 (q 0) (q 1) (q 2))) : zq_okG1 w zt_z3 := by
  refine ⟨rfl, rfl, zu_fac ⟨rfl, by decide⟩ zq_fan, ?_⟩
  intro r P h H hM
  have q0 : zq_ev r (0, [(0, 1)]) = r 0 := zu_e1 _ _
  obtain ⟨hT, hC, hF, hS, -, hK⟩ := hM
  have c := hC.1
  have a1 := zq_all_1 c
  rw [q0] at a1
  have b1 : 0 ≤ r 0 → P (r 0).toNat = some 88 := fun z => by
    have z1 : 0 ≤ zq_ev r (0, [(0, 1)]) := by rw [q0]; exact z
    have z2 := zq_okF_1 (hF) z1
    simp only [q0] at z2
    exact z2
  obtain t1 := zt_z3_l (P := P) (h := h) (a := r 0) a1 b1
  obtain ⟨rq, hr⟩ : ∃ rq : Nat → Int, (∀ i, i < 1 → rq i = r i) := ⟨r, fun i hi => rfl⟩
  have v0 : rq 0 = r 0 := hr 0 (by decide)
  have g0 : zq_ev rq (0, [(0, 1)]) = r 0 := zu_f1 v0
  have g1 : zq_ev rq (0, []) = 0 := zu_e0 _ _
  exact ⟨_, List.mem_cons_self .., rq, hr, zq_MeS_mk rfl hT (zq_all_nil) zq_fan (zq_fan) rfl (zu_fac ((x_LT3 _ _ _).mpr (by show zt_LT 80 (zq_ev rq (0, [(0, 1)])) (zq_ev rq (0, [])) (zq_ev rq (0, [])) P h; simp only [g0, g1]; exact t1)) zq_fan)⟩
noncomputable def zm_z3 : zq_S × List zq_S := (([], [], [(0, [(0, 1)]), (0, [(1, 1)]), (0, [(2, 1)])], [((0, [(0, 1)]), 81), ((0, [(1, 1)]), 84), ((0, [(2, 1)]), 87)], [((0, [(0, 1)]), (0, []), (0, [])), ((0, [(0, 1)]), (1, []), (0, [])), ((0, [(0, 1)]), (2, []), (0, [])), ((0, [(0, 1)]), (3, []), (0, [])), ((0, [(0, 1)]), (4, []), (0, [])), ((0, [(0, 1)]), (5, []), (0, [])), ((0, [(1, 1)]), (0, []), (0, [])), ((0, [(1, 1)]), (1, []), (0, [])), ((0, [(1, 1)]), (2, []), (0, [])), ((0, [(1, 1)]), (3, []), (0, [])), ((0, [(2, 1)]), (0, []), (0, []))], [], [], 3), [([], [], [], [], [], [], [(283, [(0, [(0, 1)]), (0, [(1, 1)]), (0, [(2, 1)]), (4586997233048136541430758450064474100387735230759824291973833691816938709832156080645343570059119116156928, [])])], 3)])
theorem zm_z3_l {P : zq_Ty} {h : zq_H} {b c t : Int} (a1 : 0 ≤ b) (a2 : 0 ≤ c) (a3 : 0 ≤ t) (b1 : 0 ≤ b → P (b).toNat = some 81) (b2 : 0 ≤ c → P (c).toNat = some 84) (b3 : 0 ≤ t → P (t).toNat = some 87) (s1 : 0 ≤ b ∧ P (b).toNat ≠ none ∧ h (b).toNat 0 = 0) (s2 : 0 ≤ b ∧ P (b).toNat ≠ none ∧ h (b).toNat 1 = 0) (s3 : 0 ≤ b ∧ P (b).toNat ≠ none ∧ h (b).toNat 2 = 0) (s4 : 0 ≤ b ∧ P (b).toNat ≠ none ∧ h (b).toNat 3 = 0) (s5 : 0 ≤ b ∧ P (b).toNat ≠ none ∧ h (b).toNat 4 = 0) (s6 : 0 ≤ b ∧ P (b).toNat ≠ none ∧ h (b).toNat 5 = 0) (s7 : 0 ≤ c ∧ P (c).toNat ≠ none ∧ h (c).toNat 0 = 0) (s8 : 0 ≤ c ∧ P (c).toNat ≠ none ∧ h (c).toNat 1 = 0) (s9 : 0 ≤ c ∧ P (c).toNat ≠ none ∧ h (c).toNat 2 = 0) (s10 : 0 ≤ c ∧ P (c).toNat ≠ none ∧ h (c).toNat 3 = 0) (s11 : 0 ≤ t ∧ P (t).toNat ≠ none ∧ h (t).toNat 0 = 0) : (zm_MC 80 b c t 4586997233048136541430758450064474100387735230759824291973833691816938709832156080645343570059119116156928 P h) := by
  refine ⟨⟨a1, b1 a1⟩, ⟨a2, b2 a2⟩, ⟨a3, b3 a3⟩, zm_zero (fun j j0 j1 => ?_)⟩
  unfold zm_f
  by_cases x : j < 6
  · rw [if_pos x]
    have : j = 0 ∨ j = 1 ∨ j = 2 ∨ j = 3 ∨ j = 4 ∨ j = 5 := by omega
    rcases this with e | e | e | e | e | e <;> subst e <;> first | exact s1.2.2 | exact s2.2.2 | exact s3.2.2 | exact s4.2.2 | exact s5.2.2 | exact s6.2.2
  · rw [if_neg x]
    by_cases y : j < 10
    · rw [if_pos y]
      have : j = 6 ∨ j = 7 ∨ j = 8 ∨ j = 9 := by omega
      rcases this with e | e | e | e <;> subst e <;> first | exact s7.2.2 | exact s8.2.2 | exact s9.2.2 | exact s10.2.2
    · rw [if_neg y]; exact s11.2.2
theorem zm_z3_ok {w : zq_Wd} (x_MC3 : zj_is w 283 (fun q => zm_MC 80 (q 0) (q 1) (q 2) (q 3))) : zq_okG1 w zm_z3 := by
  refine ⟨rfl, rfl, zu_fac ⟨rfl, by decide⟩ zq_fan, ?_⟩
  intro r P h H hM
  have q0 : zq_ev r (0, [(0, 1)]) = r 0 := zu_e1 _ _
  have q1 : zq_ev r (0, [(1, 1)]) = r 1 := zu_e1 _ _
  have q2 : zq_ev r (0, [(2, 1)]) = r 2 := zu_e1 _ _
  have q3 : zq_ev r (0, []) = 0 := zu_e0 _ _
  have q4 : zq_ev r (1, []) = 1 := zu_e0 _ _
  have q5 : zq_ev r (2, []) = 2 := zu_e0 _ _
  have q6 : zq_ev r (3, []) = 3 := zu_e0 _ _
  have q7 : zq_ev r (4, []) = 4 := zu_e0 _ _
  have q8 : zq_ev r (5, []) = 5 := zu_e0 _ _
  obtain ⟨hT, hC, hF, hS, -, hK⟩ := hM
  have c := hC.1
  have a1 := zq_all_1 c
  rw [q0] at a1
  have c := zq_all_t c
  have a2 := zq_all_1 c
  rw [q1] at a2
  have c := zq_all_t c
  have a3 := zq_all_1 c
  rw [q2] at a3
  have b1 : 0 ≤ r 0 → P (r 0).toNat = some 81 := fun z => by
    have z1 : 0 ≤ zq_ev r (0, [(0, 1)]) := by rw [q0]; exact z
    have z2 := zq_okF_1 (hF) z1
    simp only [q0] at z2
    exact z2
  have b2 : 0 ≤ r 1 → P (r 1).toNat = some 84 := fun z => by
    have z1 : 0 ≤ zq_ev r (0, [(1, 1)]) := by rw [q1]; exact z
    have z2 := zq_okF_1 (zq_okF_t (hF)) z1
    simp only [q1] at z2
    exact z2
  have b3 : 0 ≤ r 2 → P (r 2).toNat = some 87 := fun z => by
    have z1 : 0 ≤ zq_ev r (0, [(2, 1)]) := by rw [q2]; exact z
    have z2 := zq_okF_1 (zq_okF_t (zq_okF_t (hF))) z1
    simp only [q2] at z2
    exact z2
  have s1 := zq_okS_1 (hS)
  simp only [q0, q3] at s1
  have s2 := zq_okS_1 (zq_okS_t (hS))
  simp only [q0, q3, q4] at s2
  have s3 := zq_okS_1 (zq_okS_t (zq_okS_t (hS)))
  simp only [q0, q3, q5] at s3
  have s4 := zq_okS_1 (zq_okS_t (zq_okS_t (zq_okS_t (hS))))
  simp only [q0, q3, q6] at s4
  have s5 := zq_okS_1 (zq_okS_t (zq_okS_t (zq_okS_t (zq_okS_t (hS)))))
  simp only [q0, q3, q7] at s5
  have s6 := zq_okS_1 (zq_okS_t (zq_okS_t (zq_okS_t (zq_okS_t (zq_okS_t (hS))))))
  simp only [q0, q3, q8] at s6
  have s7 := zq_okS_1 (zq_okS_t (zq_okS_t (zq_okS_t (zq_okS_t (zq_okS_t (zq_okS_t (hS)))))))
  simp only [q1, q3] at s7
  have s8 := zq_okS_1 (zq_okS_t (zq_okS_t (zq_okS_t (zq_okS_t (zq_okS_t (zq_okS_t (zq_okS_t (hS))))))))
  simp only [q1, q3, q4] at s8
  have s9 := zq_okS_1 (zq_okS_t (zq_okS_t (zq_okS_t (zq_okS_t (zq_okS_t (zq_okS_t (zq_okS_t (zq_okS_t (hS)))))))))
  simp only [q1, q3, q5] at s9
  have s10 := zq_okS_1 (zq_okS_t (zq_okS_t (zq_okS_t (zq_okS_t (zq_okS_t (zq_okS_t (zq_okS_t (zq_okS_t (zq_okS_t (hS))))))))))
  simp only [q1, q3, q6] at s10
  have s11 := zq_okS_1 (zq_okS_t (zq_okS_t (zq_okS_t (zq_okS_t (zq_okS_t (zq_okS_t (zq_okS_t (zq_okS_t (zq_okS_t (zq_okS_t (hS)))))))))))
  simp only [q2, q3] at s11
  obtain t1 := zm_z3_l (P := P) (h := h) (b := r 0) (c := r 1) (t := r 2) a1 a2 a3 b1 b2 b3 s1 s2 s3 s4 s5 s6 s7 s8 s9 s10 s11
  obtain ⟨rq, hr⟩ : ∃ rq : Nat → Int, (∀ i, i < 3 → rq i = r i) := ⟨r, fun i hi => rfl⟩
  have v0 : rq 0 = r 0 := hr 0 (by decide)
  have v1 : rq 1 = r 1 := hr 1 (by decide)
  have v2 : rq 2 = r 2 := hr 2 (by decide)
  have g0 : zq_ev rq (0, [(0, 1)]) = r 0 := zu_f1 v0
  have g1 : zq_ev rq (0, [(1, 1)]) = r 1 := zu_f1 v1
  have g2 : zq_ev rq (0, [(2, 1)]) = r 2 := zu_f1 v2
  have g3 : zq_ev rq (4586997233048136541430758450064474100387735230759824291973833691816938709832156080645343570059119116156928, []) = 4586997233048136541430758450064474100387735230759824291973833691816938709832156080645343570059119116156928 := zu_e0 _ _
  exact ⟨_, List.mem_cons_self .., rq, hr, zq_MeS_mk rfl hT (zq_all_nil) zq_fan (zq_fan) rfl (zu_fac ((x_MC3 _ _ _).mpr (by show zm_MC 80 (zq_ev rq (0, [(0, 1)])) (zq_ev rq (0, [(1, 1)])) (zq_ev rq (0, [(2, 1)])) (zq_ev rq (4586997233048136541430758450064474100387735230759824291973833691816938709832156080645343570059119116156928, [])) P h; simp only [g0, g1, g2, g3]; exact t1)) zq_fan)⟩
noncomputable def zm_yk : zq_S × List zq_S := (([], [], [(0, [(0, 1)])], [((0, [(0, 1)]), 1)], [((0, [(0, 1)]), (0, []), (0, [])), ((0, [(0, 1)]), (1, []), (0, [])), ((0, [(0, 1)]), (2, []), (0, [])), ((0, [(0, 1)]), (3, []), (0, [])), ((0, [(0, 1)]), (4, []), (0, [])), ((0, [(0, 1)]), (5, []), (0, [])), ((0, [(0, 1)]), (6, []), (0, [])), ((0, [(0, 1)]), (7, []), (0, [])), ((0, [(0, 1)]), (8, []), (0, [])), ((0, [(0, 1)]), (9, []), (0, [])), ((0, [(0, 1)]), (10, []), (0, []))], [], [], 1), [([], [], [], [], [], [], [(286, [(0, [(0, 1)]), (4586997233048136541430758450064474100387735230759824291973833691816938709832156080645343570059119116156928, [])])], 1)])
theorem zm_yk_l {P : zq_Ty} {h : zq_H} {a : Int} (a1 : 0 ≤ a) (b1 : 0 ≤ a → P (a).toNat = some 1) (s1 : 0 ≤ a ∧ P (a).toNat ≠ none ∧ h (a).toNat 0 = 0) (s2 : 0 ≤ a ∧ P (a).toNat ≠ none ∧ h (a).toNat 1 = 0) (s3 : 0 ≤ a ∧ P (a).toNat ≠ none ∧ h (a).toNat 2 = 0) (s4 : 0 ≤ a ∧ P (a).toNat ≠ none ∧ h (a).toNat 3 = 0) (s5 : 0 ≤ a ∧ P (a).toNat ≠ none ∧ h (a).toNat 4 = 0) (s6 : 0 ≤ a ∧ P (a).toNat ≠ none ∧ h (a).toNat 5 = 0) (s7 : 0 ≤ a ∧ P (a).toNat ≠ none ∧ h (a).toNat 6 = 0) (s8 : 0 ≤ a ∧ P (a).toNat ≠ none ∧ h (a).toNat 7 = 0) (s9 : 0 ≤ a ∧ P (a).toNat ≠ none ∧ h (a).toNat 8 = 0) (s10 : 0 ≤ a ∧ P (a).toNat ≠ none ∧ h (a).toNat 9 = 0) (s11 : 0 ≤ a ∧ P (a).toNat ≠ none ∧ h (a).toNat 10 = 0) : (zm_MK 1 0 a 4586997233048136541430758450064474100387735230759824291973833691816938709832156080645343570059119116156928 P h) := by
  refine ⟨⟨a1, b1 a1⟩, zm_zero (fun j j0 j1 => ?_)⟩
  have : j = 0 ∨ j = 1 ∨ j = 2 ∨ j = 3 ∨ j = 4 ∨ j = 5 ∨ j = 6 ∨ j = 7 ∨ j = 8 ∨ j = 9 ∨ j = 10 := by omega
  rcases this with e | e | e | e | e | e | e | e | e | e | e <;> subst e <;> first | exact s1.2.2 | exact s2.2.2 | exact s3.2.2 | exact s4.2.2 | exact s5.2.2 | exact s6.2.2 | exact s7.2.2 | exact s8.2.2 | exact s9.2.2 | exact s10.2.2 | exact s11.2.2
theorem zm_yk_ok {w : zq_Wd} (x_MK : zj_is w 286 (fun q => zm_MK 1 0 (q 0) (q 1))) : zq_okG1 w zm_yk := by
  refine ⟨rfl, rfl, zu_fac ⟨rfl, by decide⟩ zq_fan, ?_⟩
  intro r P h H hM
  have q0 : zq_ev r (0, [(0, 1)]) = r 0 := zu_e1 _ _
  have q1 : zq_ev r (0, []) = 0 := zu_e0 _ _
  have q2 : zq_ev r (1, []) = 1 := zu_e0 _ _
  have q3 : zq_ev r (2, []) = 2 := zu_e0 _ _
  have q4 : zq_ev r (3, []) = 3 := zu_e0 _ _
  have q5 : zq_ev r (4, []) = 4 := zu_e0 _ _
  have q6 : zq_ev r (5, []) = 5 := zu_e0 _ _
  have q7 : zq_ev r (6, []) = 6 := zu_e0 _ _
  have q8 : zq_ev r (7, []) = 7 := zu_e0 _ _
  have q9 : zq_ev r (8, []) = 8 := zu_e0 _ _
  have q10 : zq_ev r (9, []) = 9 := zu_e0 _ _
  have q11 : zq_ev r (10, []) = 10 := zu_e0 _ _
  obtain ⟨hT, hC, hF, hS, -, hK⟩ := hM
  have c := hC.1
  have a1 := zq_all_1 c
  rw [q0] at a1
  have b1 : 0 ≤ r 0 → P (r 0).toNat = some 1 := fun z => by
    have z1 : 0 ≤ zq_ev r (0, [(0, 1)]) := by rw [q0]; exact z
    have z2 := zq_okF_1 (hF) z1
    simp only [q0] at z2
    exact z2
  have s1 := zq_okS_1 (hS)
  simp only [q0, q1] at s1
  have s2 := zq_okS_1 (zq_okS_t (hS))
  simp only [q0, q1, q2] at s2
  have s3 := zq_okS_1 (zq_okS_t (zq_okS_t (hS)))
  simp only [q0, q1, q3] at s3
  have s4 := zq_okS_1 (zq_okS_t (zq_okS_t (zq_okS_t (hS))))
  simp only [q0, q1, q4] at s4
  have s5 := zq_okS_1 (zq_okS_t (zq_okS_t (zq_okS_t (zq_okS_t (hS)))))
  simp only [q0, q1, q5] at s5
  have s6 := zq_okS_1 (zq_okS_t (zq_okS_t (zq_okS_t (zq_okS_t (zq_okS_t (hS))))))
  simp only [q0, q1, q6] at s6
  have s7 := zq_okS_1 (zq_okS_t (zq_okS_t (zq_okS_t (zq_okS_t (zq_okS_t (zq_okS_t (hS)))))))
  simp only [q0, q1, q7] at s7
  have s8 := zq_okS_1 (zq_okS_t (zq_okS_t (zq_okS_t (zq_okS_t (zq_okS_t (zq_okS_t (zq_okS_t (hS))))))))
  simp only [q0, q1, q8] at s8
  have s9 := zq_okS_1 (zq_okS_t (zq_okS_t (zq_okS_t (zq_okS_t (zq_okS_t (zq_okS_t (zq_okS_t (zq_okS_t (hS)))))))))
  simp only [q0, q1, q9] at s9
  have s10 := zq_okS_1 (zq_okS_t (zq_okS_t (zq_okS_t (zq_okS_t (zq_okS_t (zq_okS_t (zq_okS_t (zq_okS_t (zq_okS_t (hS))))))))))
  simp only [q0, q1, q10] at s10
  have s11 := zq_okS_1 (zq_okS_t (zq_okS_t (zq_okS_t (zq_okS_t (zq_okS_t (zq_okS_t (zq_okS_t (zq_okS_t (zq_okS_t (zq_okS_t (hS)))))))))))
  simp only [q0, q1, q11] at s11
  obtain t1 := zm_yk_l (P := P) (h := h) (a := r 0) a1 b1 s1 s2 s3 s4 s5 s6 s7 s8 s9 s10 s11
  obtain ⟨rq, hr⟩ : ∃ rq : Nat → Int, (∀ i, i < 1 → rq i = r i) := ⟨r, fun i hi => rfl⟩
  have v0 : rq 0 = r 0 := hr 0 (by decide)
  have g0 : zq_ev rq (0, [(0, 1)]) = r 0 := zu_f1 v0
  have g1 : zq_ev rq (4586997233048136541430758450064474100387735230759824291973833691816938709832156080645343570059119116156928, []) = 4586997233048136541430758450064474100387735230759824291973833691816938709832156080645343570059119116156928 := zu_e0 _ _
  exact ⟨_, List.mem_cons_self .., rq, hr, zq_MeS_mk rfl hT (zq_all_nil) zq_fan (zq_fan) rfl (zu_fac ((x_MK _ _ _).mpr (by show zm_MK 1 0 (zq_ev rq (0, [(0, 1)])) (zq_ev rq (4586997233048136541430758450064474100387735230759824291973833691816938709832156080645343570059119116156928, [])) P h; simp only [g0, g1]; exact t1)) zq_fan)⟩
noncomputable def zm_y0 : zq_S × List zq_S := (([], [], [(0, [(0, 1)])], [((0, [(0, 1)]), 2)], [((0, [(0, 1)]), (0, []), (0, [])), ((0, [(0, 1)]), (1, []), (0, [])), ((0, [(0, 1)]), (2, []), (0, [])), ((0, [(0, 1)]), (3, []), (0, [])), ((0, [(0, 1)]), (4, []), (0, [])), ((0, [(0, 1)]), (5, []), (0, [])), ((0, [(0, 1)]), (6, []), (0, [])), ((0, [(0, 1)]), (7, []), (0, [])), ((0, [(0, 1)]), (8, []), (0, [])), ((0, [(0, 1)]), (9, []), (0, [])), ((0, [(0, 1)]), (10, []), (0, []))], [], [], 1), [([], [], [], [], [], [], [(287, [(0, [(0, 1)]), (4586997233048136541430758450064474100387735230759824291973833691816938709832156080645343570059119116156928, [])])], 1)])
theorem zm_y0_l {P : zq_Ty} {h : zq_H} {a : Int} (a1 : 0 ≤ a) (b1 : 0 ≤ a → P (a).toNat = some 2) (s1 : 0 ≤ a ∧ P (a).toNat ≠ none ∧ h (a).toNat 0 = 0) (s2 : 0 ≤ a ∧ P (a).toNat ≠ none ∧ h (a).toNat 1 = 0) (s3 : 0 ≤ a ∧ P (a).toNat ≠ none ∧ h (a).toNat 2 = 0) (s4 : 0 ≤ a ∧ P (a).toNat ≠ none ∧ h (a).toNat 3 = 0) (s5 : 0 ≤ a ∧ P (a).toNat ≠ none ∧ h (a).toNat 4 = 0) (s6 : 0 ≤ a ∧ P (a).toNat ≠ none ∧ h (a).toNat 5 = 0) (s7 : 0 ≤ a ∧ P (a).toNat ≠ none ∧ h (a).toNat 6 = 0) (s8 : 0 ≤ a ∧ P (a).toNat ≠ none ∧ h (a).toNat 7 = 0) (s9 : 0 ≤ a ∧ P (a).toNat ≠ none ∧ h (a).toNat 8 = 0) (s10 : 0 ≤ a ∧ P (a).toNat ≠ none ∧ h (a).toNat 9 = 0) (s11 : 0 ≤ a ∧ P (a).toNat ≠ none ∧ h (a).toNat 10 = 0) : (zm_MK 2 0 a 4586997233048136541430758450064474100387735230759824291973833691816938709832156080645343570059119116156928 P h) := by
  refine ⟨⟨a1, b1 a1⟩, zm_zero (fun j j0 j1 => ?_)⟩
  have : j = 0 ∨ j = 1 ∨ j = 2 ∨ j = 3 ∨ j = 4 ∨ j = 5 ∨ j = 6 ∨ j = 7 ∨ j = 8 ∨ j = 9 ∨ j = 10 := by omega
  rcases this with e | e | e | e | e | e | e | e | e | e | e <;> subst e <;> first | exact s1.2.2 | exact s2.2.2 | exact s3.2.2 | exact s4.2.2 | exact s5.2.2 | exact s6.2.2 | exact s7.2.2 | exact s8.2.2 | exact s9.2.2 | exact s10.2.2 | exact s11.2.2
theorem zm_y0_ok {w : zq_Wd} (x_MI0 : zj_is w 287 (fun q => zm_MK 2 0 (q 0) (q 1))) : zq_okG1 w zm_y0 := by
  refine ⟨rfl, rfl, zu_fac ⟨rfl, by decide⟩ zq_fan, ?_⟩
  intro r P h H hM
  have q0 : zq_ev r (0, [(0, 1)]) = r 0 := zu_e1 _ _
  have q1 : zq_ev r (0, []) = 0 := zu_e0 _ _
  have q2 : zq_ev r (1, []) = 1 := zu_e0 _ _
  have q3 : zq_ev r (2, []) = 2 := zu_e0 _ _
  have q4 : zq_ev r (3, []) = 3 := zu_e0 _ _
  have q5 : zq_ev r (4, []) = 4 := zu_e0 _ _
  have q6 : zq_ev r (5, []) = 5 := zu_e0 _ _
  have q7 : zq_ev r (6, []) = 6 := zu_e0 _ _
  have q8 : zq_ev r (7, []) = 7 := zu_e0 _ _
  have q9 : zq_ev r (8, []) = 8 := zu_e0 _ _
  have q10 : zq_ev r (9, []) = 9 := zu_e0 _ _
  have q11 : zq_ev r (10, []) = 10 := zu_e0 _ _
  obtain ⟨hT, hC, hF, hS, -, hK⟩ := hM
  have c := hC.1
  have a1 := zq_all_1 c
  rw [q0] at a1
  have b1 : 0 ≤ r 0 → P (r 0).toNat = some 2 := fun z => by
    have z1 : 0 ≤ zq_ev r (0, [(0, 1)]) := by rw [q0]; exact z
    have z2 := zq_okF_1 (hF) z1
    simp only [q0] at z2
    exact z2
  have s1 := zq_okS_1 (hS)
  simp only [q0, q1] at s1
  have s2 := zq_okS_1 (zq_okS_t (hS))
  simp only [q0, q1, q2] at s2
  have s3 := zq_okS_1 (zq_okS_t (zq_okS_t (hS)))
  simp only [q0, q1, q3] at s3
  have s4 := zq_okS_1 (zq_okS_t (zq_okS_t (zq_okS_t (hS))))
  simp only [q0, q1, q4] at s4
  have s5 := zq_okS_1 (zq_okS_t (zq_okS_t (zq_okS_t (zq_okS_t (hS)))))
  simp only [q0, q1, q5] at s5
  have s6 := zq_okS_1 (zq_okS_t (zq_okS_t (zq_okS_t (zq_okS_t (zq_okS_t (hS))))))
  simp only [q0, q1, q6] at s6
  have s7 := zq_okS_1 (zq_okS_t (zq_okS_t (zq_okS_t (zq_okS_t (zq_okS_t (zq_okS_t (hS)))))))
  simp only [q0, q1, q7] at s7
  have s8 := zq_okS_1 (zq_okS_t (zq_okS_t (zq_okS_t (zq_okS_t (zq_okS_t (zq_okS_t (zq_okS_t (hS))))))))
  simp only [q0, q1, q8] at s8
  have s9 := zq_okS_1 (zq_okS_t (zq_okS_t (zq_okS_t (zq_okS_t (zq_okS_t (zq_okS_t (zq_okS_t (zq_okS_t (hS)))))))))
  simp only [q0, q1, q9] at s9
  have s10 := zq_okS_1 (zq_okS_t (zq_okS_t (zq_okS_t (zq_okS_t (zq_okS_t (zq_okS_t (zq_okS_t (zq_okS_t (zq_okS_t (hS))))))))))
  simp only [q0, q1, q10] at s10
  have s11 := zq_okS_1 (zq_okS_t (zq_okS_t (zq_okS_t (zq_okS_t (zq_okS_t (zq_okS_t (zq_okS_t (zq_okS_t (zq_okS_t (zq_okS_t (hS)))))))))))
  simp only [q0, q1, q11] at s11
  obtain t1 := zm_y0_l (P := P) (h := h) (a := r 0) a1 b1 s1 s2 s3 s4 s5 s6 s7 s8 s9 s10 s11
  obtain ⟨rq, hr⟩ : ∃ rq : Nat → Int, (∀ i, i < 1 → rq i = r i) := ⟨r, fun i hi => rfl⟩
  have v0 : rq 0 = r 0 := hr 0 (by decide)
  have g0 : zq_ev rq (0, [(0, 1)]) = r 0 := zu_f1 v0
  have g1 : zq_ev rq (4586997233048136541430758450064474100387735230759824291973833691816938709832156080645343570059119116156928, []) = 4586997233048136541430758450064474100387735230759824291973833691816938709832156080645343570059119116156928 := zu_e0 _ _
  exact ⟨_, List.mem_cons_self .., rq, hr, zq_MeS_mk rfl hT (zq_all_nil) zq_fan (zq_fan) rfl (zu_fac ((x_MI0 _ _ _).mpr (by show zm_MK 2 0 (zq_ev rq (0, [(0, 1)])) (zq_ev rq (4586997233048136541430758450064474100387735230759824291973833691816938709832156080645343570059119116156928, [])) P h; simp only [g0, g1]; exact t1)) zq_fan)⟩
noncomputable def zm_y1 : zq_S × List zq_S := (([], [], [(0, [(0, 1)])], [((0, [(0, 1)]), 2)], [((0, [(0, 1)]), (5671, []), (0, [])), ((0, [(0, 1)]), (5672, []), (0, [])), ((0, [(0, 1)]), (5673, []), (0, [])), ((0, [(0, 1)]), (5674, []), (0, [])), ((0, [(0, 1)]), (5675, []), (0, [])), ((0, [(0, 1)]), (5676, []), (0, [])), ((0, [(0, 1)]), (5677, []), (0, [])), ((0, [(0, 1)]), (5678, []), (0, [])), ((0, [(0, 1)]), (5679, []), (0, [])), ((0, [(0, 1)]), (5680, []), (0, [])), ((0, [(0, 1)]), (5681, []), (0, []))], [], [], 1), [([], [], [], [], [], [], [(288, [(0, [(0, 1)]), (4586997233048136541430758450064474100387735230759824291973833691816938709832156080645343570059119116156928, [])])], 1)])
theorem zm_y1_l {P : zq_Ty} {h : zq_H} {a : Int} (a1 : 0 ≤ a) (b1 : 0 ≤ a → P (a).toNat = some 2) (s1 : 0 ≤ a ∧ P (a).toNat ≠ none ∧ h (a).toNat 5671 = 0) (s2 : 0 ≤ a ∧ P (a).toNat ≠ none ∧ h (a).toNat 5672 = 0) (s3 : 0 ≤ a ∧ P (a).toNat ≠ none ∧ h (a).toNat 5673 = 0) (s4 : 0 ≤ a ∧ P (a).toNat ≠ none ∧ h (a).toNat 5674 = 0) (s5 : 0 ≤ a ∧ P (a).toNat ≠ none ∧ h (a).toNat 5675 = 0) (s6 : 0 ≤ a ∧ P (a).toNat ≠ none ∧ h (a).toNat 5676 = 0) (s7 : 0 ≤ a ∧ P (a).toNat ≠ none ∧ h (a).toNat 5677 = 0) (s8 : 0 ≤ a ∧ P (a).toNat ≠ none ∧ h (a).toNat 5678 = 0) (s9 : 0 ≤ a ∧ P (a).toNat ≠ none ∧ h (a).toNat 5679 = 0) (s10 : 0 ≤ a ∧ P (a).toNat ≠ none ∧ h (a).toNat 5680 = 0) (s11 : 0 ≤ a ∧ P (a).toNat ≠ none ∧ h (a).toNat 5681 = 0) : (zm_MK 2 5671 a 4586997233048136541430758450064474100387735230759824291973833691816938709832156080645343570059119116156928 P h) := by
  refine ⟨⟨a1, b1 a1⟩, zm_zero (fun j j0 j1 => ?_)⟩
  have : j = 0 ∨ j = 1 ∨ j = 2 ∨ j = 3 ∨ j = 4 ∨ j = 5 ∨ j = 6 ∨ j = 7 ∨ j = 8 ∨ j = 9 ∨ j = 10 := by omega
  rcases this with e | e | e | e | e | e | e | e | e | e | e <;> subst e <;> first | exact s1.2.2 | exact s2.2.2 | exact s3.2.2 | exact s4.2.2 | exact s5.2.2 | exact s6.2.2 | exact s7.2.2 | exact s8.2.2 | exact s9.2.2 | exact s10.2.2 | exact s11.2.2
theorem zm_y1_ok {w : zq_Wd} (x_MI1 : zj_is w 288 (fun q => zm_MK 2 5671 (q 0) (q 1))) : zq_okG1 w zm_y1 := by
  refine ⟨rfl, rfl, zu_fac ⟨rfl, by decide⟩ zq_fan, ?_⟩
  intro r P h H hM
  have q0 : zq_ev r (0, [(0, 1)]) = r 0 := zu_e1 _ _
  have q1 : zq_ev r (5671, []) = 5671 := zu_e0 _ _
  have q2 : zq_ev r (0, []) = 0 := zu_e0 _ _
  have q3 : zq_ev r (5672, []) = 5672 := zu_e0 _ _
  have q4 : zq_ev r (5673, []) = 5673 := zu_e0 _ _
  have q5 : zq_ev r (5674, []) = 5674 := zu_e0 _ _
  have q6 : zq_ev r (5675, []) = 5675 := zu_e0 _ _
  have q7 : zq_ev r (5676, []) = 5676 := zu_e0 _ _
  have q8 : zq_ev r (5677, []) = 5677 := zu_e0 _ _
  have q9 : zq_ev r (5678, []) = 5678 := zu_e0 _ _
  have q10 : zq_ev r (5679, []) = 5679 := zu_e0 _ _
  have q11 : zq_ev r (5680, []) = 5680 := zu_e0 _ _
  have q12 : zq_ev r (5681, []) = 5681 := zu_e0 _ _
  obtain ⟨hT, hC, hF, hS, -, hK⟩ := hM
  have c := hC.1
  have a1 := zq_all_1 c
  rw [q0] at a1
  have b1 : 0 ≤ r 0 → P (r 0).toNat = some 2 := fun z => by
    have z1 : 0 ≤ zq_ev r (0, [(0, 1)]) := by rw [q0]; exact z
    have z2 := zq_okF_1 (hF) z1
    simp only [q0] at z2
    exact z2
  have s1 := zq_okS_1 (hS)
  simp only [q0, q1, q2] at s1
  have s2 := zq_okS_1 (zq_okS_t (hS))
  simp only [q0, q2, q3] at s2
  have s3 := zq_okS_1 (zq_okS_t (zq_okS_t (hS)))
  simp only [q0, q2, q4] at s3
  have s4 := zq_okS_1 (zq_okS_t (zq_okS_t (zq_okS_t (hS))))
  simp only [q0, q2, q5] at s4
  have s5 := zq_okS_1 (zq_okS_t (zq_okS_t (zq_okS_t (zq_okS_t (hS)))))
  simp only [q0, q2, q6] at s5
  have s6 := zq_okS_1 (zq_okS_t (zq_okS_t (zq_okS_t (zq_okS_t (zq_okS_t (hS))))))
  simp only [q0, q2, q7] at s6
  have s7 := zq_okS_1 (zq_okS_t (zq_okS_t (zq_okS_t (zq_okS_t (zq_okS_t (zq_okS_t (hS)))))))
  simp only [q0, q2, q8] at s7
  have s8 := zq_okS_1 (zq_okS_t (zq_okS_t (zq_okS_t (zq_okS_t (zq_okS_t (zq_okS_t (zq_okS_t (hS))))))))
  simp only [q0, q2, q9] at s8
  have s9 := zq_okS_1 (zq_okS_t (zq_okS_t (zq_okS_t (zq_okS_t (zq_okS_t (zq_okS_t (zq_okS_t (zq_okS_t (hS)))))))))
  simp only [q0, q10, q2] at s9
  have s10 := zq_okS_1 (zq_okS_t (zq_okS_t (zq_okS_t (zq_okS_t (zq_okS_t (zq_okS_t (zq_okS_t (zq_okS_t (zq_okS_t (hS))))))))))
  simp only [q0, q11, q2] at s10
  have s11 := zq_okS_1 (zq_okS_t (zq_okS_t (zq_okS_t (zq_okS_t (zq_okS_t (zq_okS_t (zq_okS_t (zq_okS_t (zq_okS_t (zq_okS_t (hS)))))))))))
  simp only [q0, q12, q2] at s11
  obtain t1 := zm_y1_l (P := P) (h := h) (a := r 0) a1 b1 s1 s2 s3 s4 s5 s6 s7 s8 s9 s10 s11
  obtain ⟨rq, hr⟩ : ∃ rq : Nat → Int, (∀ i, i < 1 → rq i = r i) := ⟨r, fun i hi => rfl⟩
  have v0 : rq 0 = r 0 := hr 0 (by decide)
  have g0 : zq_ev rq (0, [(0, 1)]) = r 0 := zu_f1 v0
  have g1 : zq_ev rq (4586997233048136541430758450064474100387735230759824291973833691816938709832156080645343570059119116156928, []) = 4586997233048136541430758450064474100387735230759824291973833691816938709832156080645343570059119116156928 := zu_e0 _ _
  exact ⟨_, List.mem_cons_self .., rq, hr, zq_MeS_mk rfl hT (zq_all_nil) zq_fan (zq_fan) rfl (zu_fac ((x_MI1 _ _ _).mpr (by show zm_MK 2 5671 (zq_ev rq (0, [(0, 1)])) (zq_ev rq (4586997233048136541430758450064474100387735230759824291973833691816938709832156080645343570059119116156928, [])) P h; simp only [g0, g1]; exact t1)) zq_fan)⟩
noncomputable def zl_zk : zq_S × List zq_S := (([], [], [(0, [(0, 1)])], [((0, [(0, 1)]), 1)], [], [], [], 1), [([], [], [], [], [], [], [(232, [(0, [(0, 1)]), (0, []), (0, [])])], 1)])
theorem zl_zk_l {P : zq_Ty} {h : zq_H} {a : Int} (a1 : 0 ≤ a) (b1 : 0 ≤ a → P (a).toNat = some 1) : (zl_KT a 0 0 P h) := by
  exact zl_KT_0 ⟨a1, b1 a1⟩
theorem zl_zk_ok {w : zq_Wd} (x_KT : zj_is w 232 (fun q => zl_KT (q 0) (q 1) (q 2))) : zq_okG1 w zl_zk := by
  refine ⟨rfl, rfl, zu_fac ⟨rfl, by decide⟩ zq_fan, ?_⟩
  intro r P h H hM
  have q0 : zq_ev r (0, [(0, 1)]) = r 0 := zu_e1 _ _
  obtain ⟨hT, hC, hF, hS, -, hK⟩ := hM
  have c := hC.1
  have a1 := zq_all_1 c
  rw [q0] at a1
  have b1 : 0 ≤ r 0 → P (r 0).toNat = some 1 := fun z => by
    have z1 : 0 ≤ zq_ev r (0, [(0, 1)]) := by rw [q0]; exact z
    have z2 := zq_okF_1 (hF) z1
    simp only [q0] at z2
    exact z2
  obtain t1 := zl_zk_l (P := P) (h := h) (a := r 0) a1 b1
  obtain ⟨rq, hr⟩ : ∃ rq : Nat → Int, (∀ i, i < 1 → rq i = r i) := ⟨r, fun i hi => rfl⟩
  have v0 : rq 0 = r 0 := hr 0 (by decide)
  have g0 : zq_ev rq (0, [(0, 1)]) = r 0 := zu_f1 v0
  have g1 : zq_ev rq (0, []) = 0 := zu_e0 _ _
  exact ⟨_, List.mem_cons_self .., rq, hr, zq_MeS_mk rfl hT (zq_all_nil) zq_fan (zq_fan) rfl (zu_fac ((x_KT _ _ _).mpr (by show zl_KT (zq_ev rq (0, [(0, 1)])) (zq_ev rq (0, [])) (zq_ev rq (0, [])) P h; simp only [g0, g1]; exact t1)) zq_fan)⟩
noncomputable def zk_zr : zq_S × List zq_S := (([], [], [(0, [(0, 1)])], [((0, [(0, 1)]), 12)], [], [], [], 1), [([], [], [], [], [], [], [(297, [(0, [(0, 1)]), (0, []), (0, [])])], 1)])
theorem zk_zr_l {P : zq_Ty} {h : zq_H} {a : Int} (a1 : 0 ≤ a) (b1 : 0 ≤ a → P (a).toNat = some 12) : (zk_ZR 12 a 0 0 P h) := by
  exact ⟨⟨a1, b1 a1⟩, by omega, by omega, fun j x y => by omega⟩
theorem zk_zr_ok {w : zq_Wd} (x_ZR : zj_is w 297 (fun q => zk_ZR 12 (q 0) (q 1) (q 2))) : zq_okG1 w zk_zr := by
  refine ⟨rfl, rfl, zu_fac ⟨rfl, by decide⟩ zq_fan, ?_⟩
  intro r P h H hM
  have q0 : zq_ev r (0, [(0, 1)]) = r 0 := zu_e1 _ _
  obtain ⟨hT, hC, hF, hS, -, hK⟩ := hM
  have c := hC.1
  have a1 := zq_all_1 c
  rw [q0] at a1
  have b1 : 0 ≤ r 0 → P (r 0).toNat = some 12 := fun z => by
    have z1 : 0 ≤ zq_ev r (0, [(0, 1)]) := by rw [q0]; exact z
    have z2 := zq_okF_1 (hF) z1
    simp only [q0] at z2
    exact z2
  obtain t1 := zk_zr_l (P := P) (h := h) (a := r 0) a1 b1
  obtain ⟨rq, hr⟩ : ∃ rq : Nat → Int, (∀ i, i < 1 → rq i = r i) := ⟨r, fun i hi => rfl⟩
  have v0 : rq 0 = r 0 := hr 0 (by decide)
  have g0 : zq_ev rq (0, [(0, 1)]) = r 0 := zu_f1 v0
  have g1 : zq_ev rq (0, []) = 0 := zu_e0 _ _
  exact ⟨_, List.mem_cons_self .., rq, hr, zq_MeS_mk rfl hT (zq_all_nil) zq_fan (zq_fan) rfl (zu_fac ((x_ZR _ _ _).mpr (by show zk_ZR 12 (zq_ev rq (0, [(0, 1)])) (zq_ev rq (0, [])) (zq_ev rq (0, [])) P h; simp only [g0, g1]; exact t1)) zq_fan)⟩
noncomputable def zk_n00 : zq_S × List zq_S := (([], [], [], [], [], [], [(293, [(0, [(0, 1)]), (0, [(1, 1)]), (0, [(2, 1)]), (0, [(3, 1)]), (0, [(4, 1)]), (0, [(5, 1)]), (0, [(6, 1)])])], 8), [([], [], [], [], [], [], [(293, [(0, [(0, 1)]), (0, [(1, 1)]), (0, [(2, 1)]), (0, [(3, 1)]), (0, []), (0, [(7, 1)]), (0, [])])], 8)])
theorem zk_n00_l {P : zq_Ty} {h : zq_H} {a b c d n M Z N : Int} (k1 : zk_ZC 35 a b c d n M Z P h) : (zk_ZC 35 a b c d 0 N 0 P h) := by
  obtain ⟨w1, w2, w3, w4, _⟩ := k1
  exact zk_ZC_0 w1 w2 w3 w4
theorem zk_n00_ok {w : zq_Wd} (x_ZC0 : zj_is w 293 (fun q => zk_ZC 35 (q 0) (q 1) (q 2) (q 3) (q 4) (q 5) (q 6))) : zq_okG1 w zk_n00 := by
  refine ⟨rfl, rfl, zu_fac ⟨rfl, by decide⟩ zq_fan, ?_⟩
  intro r P h H hM
  have q0 : zq_ev r (0, [(0, 1)]) = r 0 := zu_e1 _ _
  have q1 : zq_ev r (0, [(1, 1)]) = r 1 := zu_e1 _ _
  have q2 : zq_ev r (0, [(2, 1)]) = r 2 := zu_e1 _ _
  have q3 : zq_ev r (0, [(3, 1)]) = r 3 := zu_e1 _ _
  have q4 : zq_ev r (0, [(4, 1)]) = r 4 := zu_e1 _ _
  have q5 : zq_ev r (0, [(5, 1)]) = r 5 := zu_e1 _ _
  have q6 : zq_ev r (0, [(6, 1)]) = r 6 := zu_e1 _ _
  obtain ⟨hT, hC, hF, hS, -, hK⟩ := hM
  have c := hC.1
  have k1 := zj_use x_ZC0 (hK)
  have k1 : zk_ZC 35 (zq_ev r (0, [(0, 1)])) (zq_ev r (0, [(1, 1)])) (zq_ev r (0, [(2, 1)])) (zq_ev r (0, [(3, 1)])) (zq_ev r (0, [(4, 1)])) (zq_ev r (0, [(5, 1)])) (zq_ev r (0, [(6, 1)])) P h := k1
  simp only [q0, q1, q2, q3, q4, q5, q6] at k1
  obtain t1 := zk_n00_l (P := P) (h := h) (a := r 0) (b := r 1) (c := r 2) (d := r 3) (n := r 4) (M := r 5) (Z := r 6) (N := r 7) k1
  obtain ⟨rq, hr⟩ : ∃ rq : Nat → Int, (∀ i, i < 8 → rq i = r i) := ⟨r, fun i hi => rfl⟩
  have v0 : rq 0 = r 0 := hr 0 (by decide)
  have v1 : rq 1 = r 1 := hr 1 (by decide)
  have v2 : rq 2 = r 2 := hr 2 (by decide)
  have v3 : rq 3 = r 3 := hr 3 (by decide)
  have v7 : rq 7 = r 7 := hr 7 (by decide)
  have g0 : zq_ev rq (0, [(0, 1)]) = r 0 := zu_f1 v0
  have g1 : zq_ev rq (0, [(1, 1)]) = r 1 := zu_f1 v1
  have g2 : zq_ev rq (0, [(2, 1)]) = r 2 := zu_f1 v2
  have g3 : zq_ev rq (0, [(3, 1)]) = r 3 := zu_f1 v3
  have g4 : zq_ev rq (0, []) = 0 := zu_e0 _ _
  have g5 : zq_ev rq (0, [(7, 1)]) = r 7 := zu_f1 v7
  exact ⟨_, List.mem_cons_self .., rq, hr, zq_MeS_mk rfl hT (zq_all_nil) zq_fan (zq_fan) rfl (zu_fac ((x_ZC0 _ _ _).mpr (by show zk_ZC 35 (zq_ev rq (0, [(0, 1)])) (zq_ev rq (0, [(1, 1)])) (zq_ev rq (0, [(2, 1)])) (zq_ev rq (0, [(3, 1)])) (zq_ev rq (0, [])) (zq_ev rq (0, [(7, 1)])) (zq_ev rq (0, [])) P h; simp only [g0, g1, g2, g3, g4, g5]; exact t1)) zq_fan)⟩
noncomputable def zk_n01 : zq_S × List zq_S := (([], [], [], [], [], [], [(294, [(0, [(0, 1)]), (0, [(1, 1)]), (0, [(2, 1)]), (0, [(3, 1)]), (0, [(4, 1)]), (0, [(5, 1)]), (0, [(6, 1)])])], 8), [([], [], [], [], [], [], [(294, [(0, [(0, 1)]), (0, [(1, 1)]), (0, [(2, 1)]), (0, [(3, 1)]), (0, []), (0, [(7, 1)]), (0, [])])], 8)])
theorem zk_n01_l {P : zq_Ty} {h : zq_H} {a b c d n M Z N : Int} (k1 : zk_ZC 50 a b c d n M Z P h) : (zk_ZC 50 a b c d 0 N 0 P h) := by
  obtain ⟨w1, w2, w3, w4, _⟩ := k1
  exact zk_ZC_0 w1 w2 w3 w4
theorem zk_n01_ok {w : zq_Wd} (x_ZC1 : zj_is w 294 (fun q => zk_ZC 50 (q 0) (q 1) (q 2) (q 3) (q 4) (q 5) (q 6))) : zq_okG1 w zk_n01 := by
  refine ⟨rfl, rfl, zu_fac ⟨rfl, by decide⟩ zq_fan, ?_⟩
  intro r P h H hM
  have q0 : zq_ev r (0, [(0, 1)]) = r 0 := zu_e1 _ _
  have q1 : zq_ev r (0, [(1, 1)]) = r 1 := zu_e1 _ _
  have q2 : zq_ev r (0, [(2, 1)]) = r 2 := zu_e1 _ _
  have q3 : zq_ev r (0, [(3, 1)]) = r 3 := zu_e1 _ _
  have q4 : zq_ev r (0, [(4, 1)]) = r 4 := zu_e1 _ _
  have q5 : zq_ev r (0, [(5, 1)]) = r 5 := zu_e1 _ _
  have q6 : zq_ev r (0, [(6, 1)]) = r 6 := zu_e1 _ _
  obtain ⟨hT, hC, hF, hS, -, hK⟩ := hM
  have c := hC.1
  have k1 := zj_use x_ZC1 (hK)
  have k1 : zk_ZC 50 (zq_ev r (0, [(0, 1)])) (zq_ev r (0, [(1, 1)])) (zq_ev r (0, [(2, 1)])) (zq_ev r (0, [(3, 1)])) (zq_ev r (0, [(4, 1)])) (zq_ev r (0, [(5, 1)])) (zq_ev r (0, [(6, 1)])) P h := k1
  simp only [q0, q1, q2, q3, q4, q5, q6] at k1
  obtain t1 := zk_n01_l (P := P) (h := h) (a := r 0) (b := r 1) (c := r 2) (d := r 3) (n := r 4) (M := r 5) (Z := r 6) (N := r 7) k1
  obtain ⟨rq, hr⟩ : ∃ rq : Nat → Int, (∀ i, i < 8 → rq i = r i) := ⟨r, fun i hi => rfl⟩
  have v0 : rq 0 = r 0 := hr 0 (by decide)
  have v1 : rq 1 = r 1 := hr 1 (by decide)
  have v2 : rq 2 = r 2 := hr 2 (by decide)
  have v3 : rq 3 = r 3 := hr 3 (by decide)
  have v7 : rq 7 = r 7 := hr 7 (by decide)
  have g0 : zq_ev rq (0, [(0, 1)]) = r 0 := zu_f1 v0
  have g1 : zq_ev rq (0, [(1, 1)]) = r 1 := zu_f1 v1
  have g2 : zq_ev rq (0, [(2, 1)]) = r 2 := zu_f1 v2
  have g3 : zq_ev rq (0, [(3, 1)]) = r 3 := zu_f1 v3
  have g4 : zq_ev rq (0, []) = 0 := zu_e0 _ _
  have g5 : zq_ev rq (0, [(7, 1)]) = r 7 := zu_f1 v7
  exact ⟨_, List.mem_cons_self .., rq, hr, zq_MeS_mk rfl hT (zq_all_nil) zq_fan (zq_fan) rfl (zu_fac ((x_ZC1 _ _ _).mpr (by show zk_ZC 50 (zq_ev rq (0, [(0, 1)])) (zq_ev rq (0, [(1, 1)])) (zq_ev rq (0, [(2, 1)])) (zq_ev rq (0, [(3, 1)])) (zq_ev rq (0, [])) (zq_ev rq (0, [(7, 1)])) (zq_ev rq (0, [])) P h; simp only [g0, g1, g2, g3, g4, g5]; exact t1)) zq_fan)⟩
noncomputable def zk_nr : zq_S × List zq_S := (([], [], [], [], [], [], [(297, [(0, [(0, 1)]), (0, [(1, 1)]), (0, [(2, 1)])])], 3), [([], [], [], [], [], [], [(297, [(0, [(0, 1)]), (0, []), (0, [])])], 3)])
theorem zk_nr_l {P : zq_Ty} {h : zq_H} {a n Z : Int} (k1 : zk_ZR 12 a n Z P h) : (zk_ZR 12 a 0 0 P h) := by
  obtain ⟨w1, w2, w3, w4⟩ := k1
  exact ⟨w1, by omega, by omega, fun j x y => by omega⟩
theorem zk_nr_ok {w : zq_Wd} (x_ZR : zj_is w 297 (fun q => zk_ZR 12 (q 0) (q 1) (q 2))) : zq_okG1 w zk_nr := by
  refine ⟨rfl, rfl, zu_fac ⟨rfl, by decide⟩ zq_fan, ?_⟩
  intro r P h H hM
  have q0 : zq_ev r (0, [(0, 1)]) = r 0 := zu_e1 _ _
  have q1 : zq_ev r (0, [(1, 1)]) = r 1 := zu_e1 _ _
  have q2 : zq_ev r (0, [(2, 1)]) = r 2 := zu_e1 _ _
  obtain ⟨hT, hC, hF, hS, -, hK⟩ := hM
  have c := hC.1
  have k1 := zj_use x_ZR (hK)
  have k1 : zk_ZR 12 (zq_ev r (0, [(0, 1)])) (zq_ev r (0, [(1, 1)])) (zq_ev r (0, [(2, 1)])) P h := k1
  simp only [q0, q1, q2] at k1
  obtain t1 := zk_nr_l (P := P) (h := h) (a := r 0) (n := r 1) (Z := r 2) k1
  obtain ⟨rq, hr⟩ : ∃ rq : Nat → Int, (∀ i, i < 3 → rq i = r i) := ⟨r, fun i hi => rfl⟩
  have v0 : rq 0 = r 0 := hr 0 (by decide)
  have g0 : zq_ev rq (0, [(0, 1)]) = r 0 := zu_f1 v0
  have g1 : zq_ev rq (0, []) = 0 := zu_e0 _ _
  exact ⟨_, List.mem_cons_self .., rq, hr, zq_MeS_mk rfl hT (zq_all_nil) zq_fan (zq_fan) rfl (zu_fac ((x_ZR _ _ _).mpr (by show zk_ZR 12 (zq_ev rq (0, [(0, 1)])) (zq_ev rq (0, [])) (zq_ev rq (0, [])) P h; simp only [g0, g1]; exact t1)) zq_fan)⟩
noncomputable def zm_kv : zq_S × List zq_S := (([], [], [(0, [(2, 1)]), (10, [(2, -1)]), (2147483648, [(3, 1)]), (2147483647, [(3, -1)])], [], [], [], [(289, [(0, [(0, 1)]), (0, [(4, 1)]), (0, [(2, 1)])]), (290, [(0, [(1, 1)]), (0, [(2, 1)]), (0, [(3, 1)]), (0, [(4, 1)])])], 5), [([], [], [], [], [], [], [(289, [(0, [(0, 1)]), (0, [(1, 1)]), (0, [(2, 1)])])], 5)])
theorem zm_kv_l {P : zq_Ty} {h : zq_H} {a M p c N : Int} (a1 : 0 ≤ p) (a2 : 0 ≤ -p + 10) (a3 : 0 ≤ c + 2147483648) (a4 : 0 ≤ -c + 2147483647) (k1 : zm_KH a N p P h) (k2 : zm_UM M p c N P h) : (zm_KH a M p P h) := by
  obtain ⟨w1, w2, w3, w4⟩ := k1
  have k2 : N = zm_st M p c := k2
  refine ⟨w1, w2, w3, fun j x y z => ?_⟩
  rw [w4 j x y z, k2, zm_st_dg (by unfold zn_in; omega) x (by omega), if_neg z]
theorem zm_kv_ok {w : zq_Wd} (x_KH : zj_is w 289 (fun q => zm_KH (q 0) (q 1) (q 2))) (x_UM : zj_is w 290 (fun q => zm_UM (q 0) (q 1) (q 2) (q 3))) : zq_okG1 w zm_kv := by
  refine ⟨rfl, rfl, zu_fac ⟨rfl, by decide⟩ zq_fan, ?_⟩
  intro r P h H hM
  have q0 : zq_ev r (0, [(2, 1)]) = r 2 := zu_e1 _ _
  have q1 : zq_ev r (10, [(2, -1)]) = -r 2 + 10 := zu_e5 _ _ _
  have q2 : zq_ev r (2147483648, [(3, 1)]) = r 3 + 2147483648 := zu_e2 _ _ _
  have q3 : zq_ev r (2147483647, [(3, -1)]) = -r 3 + 2147483647 := zu_e5 _ _ _
  have q4 : zq_ev r (0, [(0, 1)]) = r 0 := zu_e1 _ _
  have q5 : zq_ev r (0, [(4, 1)]) = r 4 := zu_e1 _ _
  have q6 : zq_ev r (0, [(1, 1)]) = r 1 := zu_e1 _ _
  have q7 : zq_ev r (0, [(3, 1)]) = r 3 := zu_e1 _ _
  obtain ⟨hT, hC, hF, hS, -, hK⟩ := hM
  have c := hC.1
  have a1 := zq_all_1 c
  rw [q0] at a1
  have c := zq_all_t c
  have a2 := zq_all_1 c
  rw [q1] at a2
  have c := zq_all_t c
  have a3 := zq_all_1 c
  rw [q2] at a3
  have c := zq_all_t c
  have a4 := zq_all_1 c
  rw [q3] at a4
  have k1 := zj_use x_KH (hK)
  have k1 : zm_KH (zq_ev r (0, [(0, 1)])) (zq_ev r (0, [(4, 1)])) (zq_ev r (0, [(2, 1)])) P h := k1
  simp only [q0, q4, q5] at k1
  have k2 := zj_use x_UM (zq_okX_t (hK))
  have k2 : zm_UM (zq_ev r (0, [(1, 1)])) (zq_ev r (0, [(2, 1)])) (zq_ev r (0, [(3, 1)])) (zq_ev r (0, [(4, 1)])) P h := k2
  simp only [q0, q5, q6, q7] at k2
  obtain t1 := zm_kv_l (P := P) (h := h) (a := r 0) (M := r 1) (p := r 2) (c := r 3) (N := r 4) a1 a2 a3 a4 k1 k2
  obtain ⟨rq, hr⟩ : ∃ rq : Nat → Int, (∀ i, i < 5 → rq i = r i) := ⟨r, fun i hi => rfl⟩
  have v0 : rq 0 = r 0 := hr 0 (by decide)
  have v1 : rq 1 = r 1 := hr 1 (by decide)
  have v2 : rq 2 = r 2 := hr 2 (by decide)
  have g0 : zq_ev rq (0, [(0, 1)]) = r 0 := zu_f1 v0
  have g1 : zq_ev rq (0, [(1, 1)]) = r 1 := zu_f1 v1
  have g2 : zq_ev rq (0, [(2, 1)]) = r 2 := zu_f1 v2
  exact ⟨_, List.mem_cons_self .., rq, hr, zq_MeS_mk rfl hT (zq_all_nil) zq_fan (zq_fan) rfl (zu_fac ((x_KH _ _ _).mpr (by show zm_KH (zq_ev rq (0, [(0, 1)])) (zq_ev rq (0, [(1, 1)])) (zq_ev rq (0, [(2, 1)])) P h; simp only [g0, g1, g2]; exact t1)) zq_fan)⟩
noncomputable def zm_kw : zq_S × List zq_S := (([], [], [], [], [((0, [(0, 1)]), (0, [(2, 1)]), (0, [(3, 1)]))], [], [(289, [(0, [(0, 1)]), (0, [(1, 1)]), (0, [(2, 1)])]), (134, [(0, [(1, 1)]), (0, [(2, 1)]), (0, [(3, 1)])]), (314, [(0, [(1, 1)])])], 4), [([], [], [], [], [], [], [(286, [(0, [(0, 1)]), (0, [(1, 1)])])], 4)])
theorem zm_kw_l {P : zq_Ty} {h : zq_H} {a M p v : Int} (s1 : 0 ≤ a ∧ P (a).toNat ≠ none ∧ h (a).toNat p = v) (k1 : zm_KH a M p P h) (k2 : zn_DG M p v P h) (k3 : zm_CN M P h) : (zm_MK 1 0 a M P h) := by
  obtain ⟨w1, w2, w3, w4⟩ := k1
  have k2 : v = zn_dg M p := k2
  have k3 : M = zm_pk (zn_dg M) 11 := k3
  have key : ∀ j : Int, 0 ≤ j → j < 11 → h a.toNat (0 + j) = zn_dg M j := by
    intro j x y
    rw [show 0 + j = j by omega]
    by_cases e : j = p
    · rw [e, s1.2.2]; exact k2
    · exact w4 j x y e
  refine ⟨w1, fun i x y => by (show zn_in (h a.toNat (0 + i))); rw [key i x y]; exact zn_dg_in _ _, k3.trans (zm_pk_cg 11 (fun j x y => (key j x (by omega)).symm))⟩
theorem zm_kw_ok {w : zq_Wd} (x_KH : zj_is w 289 (fun q => zm_KH (q 0) (q 1) (q 2))) (x_DG : zj_is w 134 (fun q => zn_DG (q 0) (q 1) (q 2))) (x_CN : zj_is w 314 (fun q => zm_CN (q 0))) (x_MK : zj_is w 286 (fun q => zm_MK 1 0 (q 0) (q 1))) : zq_okG1 w zm_kw := by
  refine ⟨rfl, rfl, zu_fac ⟨rfl, by decide⟩ zq_fan, ?_⟩
  intro r P h H hM
  have q0 : zq_ev r (0, [(0, 1)]) = r 0 := zu_e1 _ _
  have q1 : zq_ev r (0, [(2, 1)]) = r 2 := zu_e1 _ _
  have q2 : zq_ev r (0, [(3, 1)]) = r 3 := zu_e1 _ _
  have q3 : zq_ev r (0, [(1, 1)]) = r 1 := zu_e1 _ _
  obtain ⟨hT, hC, hF, hS, -, hK⟩ := hM
  have c := hC.1
  have s1 := zq_okS_1 (hS)
  simp only [q0, q1, q2] at s1
  have k1 := zj_use x_KH (hK)
  have k1 : zm_KH (zq_ev r (0, [(0, 1)])) (zq_ev r (0, [(1, 1)])) (zq_ev r (0, [(2, 1)])) P h := k1
  simp only [q0, q1, q3] at k1
  have k2 := zj_use x_DG (zq_okX_t (hK))
  have k2 : zn_DG (zq_ev r (0, [(1, 1)])) (zq_ev r (0, [(2, 1)])) (zq_ev r (0, [(3, 1)])) P h := k2
  simp only [q1, q2, q3] at k2
  have k3 := zj_use x_CN (zq_okX_t (zq_okX_t (hK)))
  have k3 : zm_CN (zq_ev r (0, [(1, 1)])) P h := k3
  simp only [q3] at k3
  obtain t1 := zm_kw_l (P := P) (h := h) (a := r 0) (M := r 1) (p := r 2) (v := r 3) s1 k1 k2 k3
  obtain ⟨rq, hr⟩ : ∃ rq : Nat → Int, (∀ i, i < 4 → rq i = r i) := ⟨r, fun i hi => rfl⟩
  have v0 : rq 0 = r 0 := hr 0 (by decide)
  have v1 : rq 1 = r 1 := hr 1 (by decide)
  have g0 : zq_ev rq (0, [(0, 1)]) = r 0 := zu_f1 v0
  have g1 : zq_ev rq (0, [(1, 1)]) = r 1 := zu_f1 v1
  exact ⟨_, List.mem_cons_self .., rq, hr, zq_MeS_mk rfl hT (zq_all_nil) zq_fan (zq_fan) rfl (zu_fac ((x_MK _ _ _).mpr (by show zm_MK 1 0 (zq_ev rq (0, [(0, 1)])) (zq_ev rq (0, [(1, 1)])) P h; simp only [g0, g1]; exact t1)) zq_fan)⟩
noncomputable def zm_eU : zq_S × List zq_S := (([], [], [], [], [], [], [(290, [(0, [(0, 1)]), (0, [(1, 1)]), (0, [(2, 1)]), (0, [(3, 1)])]), (290, [(0, [(0, 1)]), (0, [(1, 1)]), (0, [(2, 1)]), (0, [(4, 1)])])], 5), [([], [], [(0, [(3, 1), (4, -1)]), (0, [(3, -1), (4, 1)])], [], [], [], [], 5)])
theorem zm_eU_l {P : zq_Ty} {h : zq_H} {M p v N K : Int} (k1 : zm_UM M p v N P h) (k2 : zm_UM M p v K P h) : (0 ≤ N - K ∧ 0 ≤ -N + K) := by
  have a : N = zm_st M p v := k1
  have b : K = zm_st M p v := k2
  omega
theorem zm_eU_ok {w : zq_Wd} (x_UM : zj_is w 290 (fun q => zm_UM (q 0) (q 1) (q 2) (q 3))) : zq_okG1 w zm_eU := by
  refine ⟨rfl, rfl, zu_fac ⟨rfl, by decide⟩ zq_fan, ?_⟩
  intro r P h H hM
  have q0 : zq_ev r (0, [(0, 1)]) = r 0 := zu_e1 _ _
  have q1 : zq_ev r (0, [(1, 1)]) = r 1 := zu_e1 _ _
  have q2 : zq_ev r (0, [(2, 1)]) = r 2 := zu_e1 _ _
  have q3 : zq_ev r (0, [(3, 1)]) = r 3 := zu_e1 _ _
  have q4 : zq_ev r (0, [(4, 1)]) = r 4 := zu_e1 _ _
  obtain ⟨hT, hC, hF, hS, -, hK⟩ := hM
  have c := hC.1
  have k1 := zj_use x_UM (hK)
  have k1 : zm_UM (zq_ev r (0, [(0, 1)])) (zq_ev r (0, [(1, 1)])) (zq_ev r (0, [(2, 1)])) (zq_ev r (0, [(3, 1)])) P h := k1
  simp only [q0, q1, q2, q3] at k1
  have k2 := zj_use x_UM (zq_okX_t (hK))
  have k2 : zm_UM (zq_ev r (0, [(0, 1)])) (zq_ev r (0, [(1, 1)])) (zq_ev r (0, [(2, 1)])) (zq_ev r (0, [(4, 1)])) P h := k2
  simp only [q0, q1, q2, q4] at k2
  obtain ⟨c1, c2⟩ := zm_eU_l (P := P) (h := h) (M := r 0) (p := r 1) (v := r 2) (N := r 3) (K := r 4) k1 k2
  obtain ⟨rq, hr⟩ : ∃ rq : Nat → Int, (∀ i, i < 5 → rq i = r i) := ⟨r, fun i hi => rfl⟩
  have v3 : rq 3 = r 3 := hr 3 (by decide)
  have v4 : rq 4 = r 4 := hr 4 (by decide)
  have g0 : zq_ev rq (0, [(3, -1), (4, 1)]) = -r 3 + r 4 := by simp only [zq_ev, zq_ts, v3, v4] <;> omega
  have g1 : zq_ev rq (0, [(3, 1), (4, -1)]) = r 3 - r 4 := by simp only [zq_ev, zq_ts, v3, v4] <;> omega
  exact ⟨_, List.mem_cons_self .., rq, hr, zq_MeS_mk rfl hT (zq_all_cons (by rw [g1]; exact c1) (zq_all_cons (by rw [g0]; exact c2) (zq_all_nil))) zq_fan (zq_fan) rfl zq_fan⟩
noncomputable def zm_eD : zq_S × List zq_S := (([], [], [], [], [], [], [(134, [(0, [(0, 1)]), (0, [(1, 1)]), (0, [(2, 1)])]), (134, [(0, [(0, 1)]), (0, [(1, 1)]), (0, [(3, 1)])])], 4), [([], [], [(0, [(2, 1), (3, -1)]), (0, [(2, -1), (3, 1)])], [], [], [], [], 4)])
theorem zm_eD_l {P : zq_Ty} {h : zq_H} {M i v w : Int} (k1 : zn_DG M i v P h) (k2 : zn_DG M i w P h) : (0 ≤ v - w ∧ 0 ≤ -v + w) := by
  have a : v = zn_dg M i := k1
  have b : w = zn_dg M i := k2
  omega
theorem zm_eD_ok {w : zq_Wd} (x_DG : zj_is w 134 (fun q => zn_DG (q 0) (q 1) (q 2))) : zq_okG1 w zm_eD := by
  refine ⟨rfl, rfl, zu_fac ⟨rfl, by decide⟩ zq_fan, ?_⟩
  intro r P h H hM
  have q0 : zq_ev r (0, [(0, 1)]) = r 0 := zu_e1 _ _
  have q1 : zq_ev r (0, [(1, 1)]) = r 1 := zu_e1 _ _
  have q2 : zq_ev r (0, [(2, 1)]) = r 2 := zu_e1 _ _
  have q3 : zq_ev r (0, [(3, 1)]) = r 3 := zu_e1 _ _
  obtain ⟨hT, hC, hF, hS, -, hK⟩ := hM
  have c := hC.1
  have k1 := zj_use x_DG (hK)
  have k1 : zn_DG (zq_ev r (0, [(0, 1)])) (zq_ev r (0, [(1, 1)])) (zq_ev r (0, [(2, 1)])) P h := k1
  simp only [q0, q1, q2] at k1
  have k2 := zj_use x_DG (zq_okX_t (hK))
  have k2 : zn_DG (zq_ev r (0, [(0, 1)])) (zq_ev r (0, [(1, 1)])) (zq_ev r (0, [(3, 1)])) P h := k2
  simp only [q0, q1, q3] at k2
  obtain ⟨c1, c2⟩ := zm_eD_l (P := P) (h := h) (M := r 0) (i := r 1) (v := r 2) (w := r 3) k1 k2
  obtain ⟨rq, hr⟩ : ∃ rq : Nat → Int, (∀ i, i < 4 → rq i = r i) := ⟨r, fun i hi => rfl⟩
  have v2 : rq 2 = r 2 := hr 2 (by decide)
  have v3 : rq 3 = r 3 := hr 3 (by decide)
  have g0 : zq_ev rq (0, [(2, -1), (3, 1)]) = -r 2 + r 3 := by simp only [zq_ev, zq_ts, v2, v3] <;> omega
  have g1 : zq_ev rq (0, [(2, 1), (3, -1)]) = r 2 - r 3 := by simp only [zq_ev, zq_ts, v2, v3] <;> omega
  exact ⟨_, List.mem_cons_self .., rq, hr, zq_MeS_mk rfl hT (zq_all_cons (by rw [g1]; exact c1) (zq_all_cons (by rw [g0]; exact c2) (zq_all_nil))) zq_fan (zq_fan) rfl zq_fan⟩
