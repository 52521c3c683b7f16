/-! CLAUSES: facts -/
noncomputable def zd_uSS : zq_S × List zq_S := (([], [], [(0, [(4, -1), (10, 1)]), (0, [(4, -1), (9, 1)])], [], [], [], [(241, [(0, [(3, 1)]), (0, [(8, 1)]), (0, []), (0, [(10, 1)])]), (255, [(0, [(0, 1)]), (0, [(1, 1)]), (0, [(2, 1)]), (0, [(3, 1)]), (0, [(4, 1)]), (0, [(5, 1)]), (0, [(6, 1)]), (0, [(7, 1)])])], 11), [([], [], [], [], [], [], [(255, [(0, [(0, 1)]), (0, [(1, 1)]), (0, [(2, 1)]), (0, [(8, 1)]), (0, [(9, 1)]), (0, [(5, 1)]), (0, [(6, 1)]), (0, [(7, 1)])])], 11)])
theorem zd_uSS_l {P : zq_Ty} {h : zq_H} {o g n Y z s i j Z w u : Int} (a1 : 0 ≤ -z + u) (a2 : 0 ≤ -z + w) (k1 : zc_AG Y Z 0 u P h) (k2 : zd_SS o g n Y z s i j P h) : (zd_SS o g n Z w s i j P h) := by
  exact zd_S_up k2 (fun q x y => k1 q (by omega) (by omega)) (by omega)
theorem zd_uSS_ok {w : zq_Wd} (x_AG : zj_is w 241 (fun q => zc_AG (q 0) (q 1) (q 2) (q 3))) (x_SS : zj_is w 255 (fun q => zd_SS (q 0) (q 1) (q 2) (q 3) (q 4) (q 5) (q 6) (q 7))) : zq_okG1 w zd_uSS := by
  refine ⟨rfl, rfl, zu_fac ⟨rfl, by decide⟩ zq_fan, ?_⟩
  intro r P h H hM
  have q0 : zq_ev r (0, [(4, -1), (10, 1)]) = -r 4 + r 10 := by simp only [zq_ev, zq_ts] <;> omega
  have q1 : zq_ev r (0, [(4, -1), (9, 1)]) = -r 4 + r 9 := by simp only [zq_ev, zq_ts] <;> omega
  have q2 : zq_ev r (0, [(3, 1)]) = r 3 := zu_e1 _ _
  have q3 : zq_ev r (0, [(8, 1)]) = r 8 := zu_e1 _ _
  have q4 : zq_ev r (0, []) = 0 := zu_e0 _ _
  have q5 : zq_ev r (0, [(10, 1)]) = r 10 := zu_e1 _ _
  have q6 : zq_ev r (0, [(0, 1)]) = r 0 := zu_e1 _ _
  have q7 : zq_ev r (0, [(1, 1)]) = r 1 := zu_e1 _ _
  have q8 : zq_ev r (0, [(2, 1)]) = r 2 := zu_e1 _ _
  have q9 : zq_ev r (0, [(4, 1)]) = r 4 := zu_e1 _ _
  have q10 : zq_ev r (0, [(5, 1)]) = r 5 := zu_e1 _ _
  have q11 : zq_ev r (0, [(6, 1)]) = r 6 := zu_e1 _ _
  have q12 : zq_ev r (0, [(7, 1)]) = r 7 := zu_e1 _ _
  obtain ⟨hT, hC, hF, hS, -, hK⟩ := hM
  have c := hC.1
  have a1 := zq_all_1 c
  rw [q0] at a1
  have c := zq_all_t c
  have a2 := zq_all_1 c
  rw [q1] at a2
  have k1 := zj_use x_AG (hK)
  have k1 : zc_AG (zq_ev r (0, [(3, 1)])) (zq_ev r (0, [(8, 1)])) (zq_ev r (0, [])) (zq_ev r (0, [(10, 1)])) P h := k1
  simp only [q2, q3, q4, q5] at k1
  have k2 := zj_use x_SS (zq_okX_t (hK))
  have k2 : zd_SS (zq_ev r (0, [(0, 1)])) (zq_ev r (0, [(1, 1)])) (zq_ev r (0, [(2, 1)])) (zq_ev r (0, [(3, 1)])) (zq_ev r (0, [(4, 1)])) (zq_ev r (0, [(5, 1)])) (zq_ev r (0, [(6, 1)])) (zq_ev r (0, [(7, 1)])) P h := k2
  simp only [q10, q11, q12, q2, q6, q7, q8, q9] at k2
  obtain t1 := zd_uSS_l (P := P) (h := h) (o := r 0) (g := r 1) (n := r 2) (Y := r 3) (z := r 4) (s := r 5) (i := r 6) (j := r 7) (Z := r 8) (w := r 9) (u := r 10) a1 a2 k1 k2
  obtain ⟨rq, hr⟩ : ∃ rq : Nat → Int, (∀ i, i < 11 → rq i = r i) := ⟨r, fun i hi => rfl⟩
  have v0 : rq 0 = r 0 := hr 0 (by decide)
  have v1 : rq 1 = r 1 := hr 1 (by decide)
  have v2 : rq 2 = r 2 := hr 2 (by decide)
  have v5 : rq 5 = r 5 := hr 5 (by decide)
  have v6 : rq 6 = r 6 := hr 6 (by decide)
  have v7 : rq 7 = r 7 := hr 7 (by decide)
  have v8 : rq 8 = r 8 := hr 8 (by decide)
  have v9 : rq 9 = r 9 := hr 9 (by decide)
  have g0 : zq_ev rq (0, [(0, 1)]) = r 0 := zu_f1 v0
  have g1 : zq_ev rq (0, [(1, 1)]) = r 1 := zu_f1 v1
  have g2 : zq_ev rq (0, [(2, 1)]) = r 2 := zu_f1 v2
  have g3 : zq_ev rq (0, [(8, 1)]) = r 8 := zu_f1 v8
  have g4 : zq_ev rq (0, [(9, 1)]) = r 9 := zu_f1 v9
  have g5 : zq_ev rq (0, [(5, 1)]) = r 5 := zu_f1 v5
  have g6 : zq_ev rq (0, [(6, 1)]) = r 6 := zu_f1 v6
  have g7 : zq_ev rq (0, [(7, 1)]) = r 7 := zu_f1 v7
  exact ⟨_, List.mem_cons_self .., rq, hr, zq_MeS_mk rfl hT (zq_all_nil) zq_fan (zq_fan) rfl (zu_fac ((x_SS _ _ _).mpr (by show zd_SS (zq_ev rq (0, [(0, 1)])) (zq_ev rq (0, [(1, 1)])) (zq_ev rq (0, [(2, 1)])) (zq_ev rq (0, [(8, 1)])) (zq_ev rq (0, [(9, 1)])) (zq_ev rq (0, [(5, 1)])) (zq_ev rq (0, [(6, 1)])) (zq_ev rq (0, [(7, 1)])) P h; simp only [g0, g1, g2, g3, g4, g5, g6, g7]; exact t1)) zq_fan)⟩
noncomputable def zd_uCI : zq_S × List zq_S := (([], [], [(0, [(4, -1), (10, 1)]), (0, [(4, -1), (9, 1)])], [], [], [], [(241, [(0, [(3, 1)]), (0, [(8, 1)]), (0, []), (0, [(10, 1)])]), (256, [(0, [(0, 1)]), (0, [(1, 1)]), (0, [(2, 1)]), (0, [(3, 1)]), (0, [(4, 1)]), (0, [(5, 1)]), (0, [(6, 1)]), (0, [(7, 1)])])], 11), [([], [], [], [], [], [], [(256, [(0, [(0, 1)]), (0, [(1, 1)]), (0, [(2, 1)]), (0, [(8, 1)]), (0, [(9, 1)]), (0, [(5, 1)]), (0, [(6, 1)]), (0, [(7, 1)])])], 11)])
theorem zd_uCI_l {P : zq_Ty} {h : zq_H} {o g n Y z s j p Z w u : Int} (a1 : 0 ≤ -z + u) (a2 : 0 ≤ -z + w) (k1 : zc_AG Y Z 0 u P h) (k2 : zd_CI o g n Y z s j p P h) : (zd_CI o g n Z w s j p P h) := by
  exact zd_I_up k2 (fun q x y => k1 q (by omega) (by omega)) (by omega)
theorem zd_uCI_ok {w : zq_Wd} (x_AG : zj_is w 241 (fun q => zc_AG (q 0) (q 1) (q 2) (q 3))) (x_CI : zj_is w 256 (fun q => zd_CI (q 0) (q 1) (q 2) (q 3) (q 4) (q 5) (q 6) (q 7))) : zq_okG1 w zd_uCI := by
  refine ⟨rfl, rfl, zu_fac ⟨rfl, by decide⟩ zq_fan, ?_⟩
  intro r P h H hM
  have q0 : zq_ev r (0, [(4, -1), (10, 1)]) = -r 4 + r 10 := by simp only [zq_ev, zq_ts] <;> omega
  have q1 : zq_ev r (0, [(4, -1), (9, 1)]) = -r 4 + r 9 := by simp only [zq_ev, zq_ts] <;> omega
  have q2 : zq_ev r (0, [(3, 1)]) = r 3 := zu_e1 _ _
  have q3 : zq_ev r (0, [(8, 1)]) = r 8 := zu_e1 _ _
  have q4 : zq_ev r (0, []) = 0 := zu_e0 _ _
  have q5 : zq_ev r (0, [(10, 1)]) = r 10 := zu_e1 _ _
  have q6 : zq_ev r (0, [(0, 1)]) = r 0 := zu_e1 _ _
  have q7 : zq_ev r (0, [(1, 1)]) = r 1 := zu_e1 _ _
  have q8 : zq_ev r (0, [(2, 1)]) = r 2 := zu_e1 _ _
  have q9 : zq_ev r (0, [(4, 1)]) = r 4 := zu_e1 _ _
  have q10 : zq_ev r (0, [(5, 1)]) = r 5 := zu_e1 _ _
  have q11 : zq_ev r (0, [(6, 1)]) = r 6 := zu_e1 _ _
  have q12 : zq_ev r (0, [(7, 1)]) = r 7 := zu_e1 _ _
  obtain ⟨hT, hC, hF, hS, -, hK⟩ := hM
  have c := hC.1
  have a1 := zq_all_1 c
  rw [q0] at a1
  have c := zq_all_t c
  have a2 := zq_all_1 c
  rw [q1] at a2
  have k1 := zj_use x_AG (hK)
  have k1 : zc_AG (zq_ev r (0, [(3, 1)])) (zq_ev r (0, [(8, 1)])) (zq_ev r (0, [])) (zq_ev r (0, [(10, 1)])) P h := k1
  simp only [q2, q3, q4, q5] at k1
  have k2 := zj_use x_CI (zq_okX_t (hK))
  have k2 : zd_CI (zq_ev r (0, [(0, 1)])) (zq_ev r (0, [(1, 1)])) (zq_ev r (0, [(2, 1)])) (zq_ev r (0, [(3, 1)])) (zq_ev r (0, [(4, 1)])) (zq_ev r (0, [(5, 1)])) (zq_ev r (0, [(6, 1)])) (zq_ev r (0, [(7, 1)])) P h := k2
  simp only [q10, q11, q12, q2, q6, q7, q8, q9] at k2
  obtain t1 := zd_uCI_l (P := P) (h := h) (o := r 0) (g := r 1) (n := r 2) (Y := r 3) (z := r 4) (s := r 5) (j := r 6) (p := r 7) (Z := r 8) (w := r 9) (u := r 10) a1 a2 k1 k2
  obtain ⟨rq, hr⟩ : ∃ rq : Nat → Int, (∀ i, i < 11 → rq i = r i) := ⟨r, fun i hi => rfl⟩
  have v0 : rq 0 = r 0 := hr 0 (by decide)
  have v1 : rq 1 = r 1 := hr 1 (by decide)
  have v2 : rq 2 = r 2 := hr 2 (by decide)
  have v5 : rq 5 = r 5 := hr 5 (by decide)
  have v6 : rq 6 = r 6 := hr 6 (by decide)
  have v7 : rq 7 = r 7 := hr 7 (by decide)
  have v8 : rq 8 = r 8 := hr 8 (by decide)
  have v9 : rq 9 = r 9 := hr 9 (by decide)
  have g0 : zq_ev rq (0, [(0, 1)]) = r 0 := zu_f1 v0
  have g1 : zq_ev rq (0, [(1, 1)]) = r 1 := zu_f1 v1
  have g2 : zq_ev rq (0, [(2, 1)]) = r 2 := zu_f1 v2
  have g3 : zq_ev rq (0, [(8, 1)]) = r 8 := zu_f1 v8
  have g4 : zq_ev rq (0, [(9, 1)]) = r 9 := zu_f1 v9
  have g5 : zq_ev rq (0, [(5, 1)]) = r 5 := zu_f1 v5
  have g6 : zq_ev rq (0, [(6, 1)]) = r 6 := zu_f1 v6
  have g7 : zq_ev rq (0, [(7, 1)]) = r 7 := zu_f1 v7
  exact ⟨_, List.mem_cons_self .., rq, hr, zq_MeS_mk rfl hT (zq_all_nil) zq_fan (zq_fan) rfl (zu_fac ((x_CI _ _ _).mpr (by show zd_CI (zq_ev rq (0, [(0, 1)])) (zq_ev rq (0, [(1, 1)])) (zq_ev rq (0, [(2, 1)])) (zq_ev rq (0, [(8, 1)])) (zq_ev rq (0, [(9, 1)])) (zq_ev rq (0, [(5, 1)])) (zq_ev rq (0, [(6, 1)])) (zq_ev rq (0, [(7, 1)])) P h; simp only [g0, g1, g2, g3, g4, g5, g6, g7]; exact t1)) zq_fan)⟩
noncomputable def zd_uOB : zq_S × List zq_S := (([], [], [(0, [(3, -1), (12, 1)]), (0, [(3, -1), (11, 1)])], [], [], [], [(241, [(0, [(2, 1)]), (0, [(10, 1)]), (0, []), (0, [(12, 1)])]), (258, [(0, [(0, 1)]), (0, [(1, 1)]), (0, [(2, 1)]), (0, [(3, 1)]), (0, [(4, 1)]), (0, [(5, 1)]), (0, [(6, 1)]), (0, [(7, 1)]), (0, [(8, 1)]), (0, [(9, 1)])])], 13), [([], [], [], [], [], [], [(258, [(0, [(0, 1)]), (0, [(1, 1)]), (0, [(10, 1)]), (0, [(11, 1)]), (0, [(4, 1)]), (0, [(5, 1)]), (0, [(6, 1)]), (0, [(7, 1)]), (0, [(8, 1)]), (0, [(9, 1)])])], 13)])
theorem zd_uOB_l {P : zq_Ty} {h : zq_H} {g n Y z k a b c i e Z w u : Int} (a1 : 0 ≤ -z + u) (a2 : 0 ≤ -z + w) (k1 : zc_AG Y Z 0 u P h) (k2 : zd_OB g n Y z k a b c i e P h) : (zd_OB g n Z w k a b c i e P h) := by
  exact zd_O_up k2 (fun q x y => k1 q (by omega) (by omega)) (by omega)
theorem zd_uOB_ok {w : zq_Wd} (x_AG : zj_is w 241 (fun q => zc_AG (q 0) (q 1) (q 2) (q 3))) (x_OB : zj_is w 258 (fun q => zd_OB (q 0) (q 1) (q 2) (q 3) (q 4) (q 5) (q 6) (q 7) (q 8) (q 9))) : zq_okG1 w zd_uOB := by
  refine ⟨rfl, rfl, zu_fac ⟨rfl, by decide⟩ zq_fan, ?_⟩
  intro r P h H hM
  have q0 : zq_ev r (0, [(3, -1), (12, 1)]) = -r 3 + r 12 := by simp only [zq_ev, zq_ts] <;> omega
  have q1 : zq_ev r (0, [(3, -1), (11, 1)]) = -r 3 + r 11 := by simp only [zq_ev, zq_ts] <;> omega
  have q2 : zq_ev r (0, [(2, 1)]) = r 2 := zu_e1 _ _
  have q3 : zq_ev r (0, [(10, 1)]) = r 10 := zu_e1 _ _
  have q4 : zq_ev r (0, []) = 0 := zu_e0 _ _
  have q5 : zq_ev r (0, [(12, 1)]) = r 12 := zu_e1 _ _
  have q6 : zq_ev r (0, [(0, 1)]) = r 0 := zu_e1 _ _
  have q7 : zq_ev r (0, [(1, 1)]) = r 1 := zu_e1 _ _
  have q8 : zq_ev r (0, [(3, 1)]) = r 3 := zu_e1 _ _
  have q9 : zq_ev r (0, [(4, 1)]) = r 4 := zu_e1 _ _
  have q10 : zq_ev r (0, [(5, 1)]) = r 5 := zu_e1 _ _
  have q11 : zq_ev r (0, [(6, 1)]) = r 6 := zu_e1 _ _
  have q12 : zq_ev r (0, [(7, 1)]) = r 7 := zu_e1 _ _
  have q13 : zq_ev r (0, [(8, 1)]) = r 8 := zu_e1 _ _
  have q14 : zq_ev r (0, [(9, 1)]) = r 9 := zu_e1 _ _
  obtain ⟨hT, hC, hF, hS, -, hK⟩ := hM
  have c := hC.1
  have a1 := zq_all_1 c
  rw [q0] at a1
  have c := zq_all_t c
  have a2 := zq_all_1 c
  rw [q1] at a2
  have k1 := zj_use x_AG (hK)
  have k1 : zc_AG (zq_ev r (0, [(2, 1)])) (zq_ev r (0, [(10, 1)])) (zq_ev r (0, [])) (zq_ev r (0, [(12, 1)])) P h := k1
  simp only [q2, q3, q4, q5] at k1
  have k2 := zj_use x_OB (zq_okX_t (hK))
  have k2 : zd_OB (zq_ev r (0, [(0, 1)])) (zq_ev r (0, [(1, 1)])) (zq_ev r (0, [(2, 1)])) (zq_ev r (0, [(3, 1)])) (zq_ev r (0, [(4, 1)])) (zq_ev r (0, [(5, 1)])) (zq_ev r (0, [(6, 1)])) (zq_ev r (0, [(7, 1)])) (zq_ev r (0, [(8, 1)])) (zq_ev r (0, [(9, 1)])) P h := k2
  simp only [q10, q11, q12, q13, q14, q2, q6, q7, q8, q9] at k2
  obtain t1 := zd_uOB_l (P := P) (h := h) (g := r 0) (n := r 1) (Y := r 2) (z := r 3) (k := r 4) (a := r 5) (b := r 6) (c := r 7) (i := r 8) (e := r 9) (Z := r 10) (w := r 11) (u := r 12) a1 a2 k1 k2
  obtain ⟨rq, hr⟩ : ∃ rq : Nat → Int, (∀ i, i < 13 → rq i = r i) := ⟨r, fun i hi => rfl⟩
  have v0 : rq 0 = r 0 := hr 0 (by decide)
  have v1 : rq 1 = r 1 := hr 1 (by decide)
  have v4 : rq 4 = r 4 := hr 4 (by decide)
  have v5 : rq 5 = r 5 := hr 5 (by decide)
  have v6 : rq 6 = r 6 := hr 6 (by decide)
  have v7 : rq 7 = r 7 := hr 7 (by decide)
  have v8 : rq 8 = r 8 := hr 8 (by decide)
  have v9 : rq 9 = r 9 := hr 9 (by decide)
  have v10 : rq 10 = r 10 := hr 10 (by decide)
  have v11 : rq 11 = r 11 := hr 11 (by decide)
  have g0 : zq_ev rq (0, [(0, 1)]) = r 0 := zu_f1 v0
  have g1 : zq_ev rq (0, [(1, 1)]) = r 1 := zu_f1 v1
  have g2 : zq_ev rq (0, [(10, 1)]) = r 10 := zu_f1 v10
  have g3 : zq_ev rq (0, [(11, 1)]) = r 11 := zu_f1 v11
  have g4 : zq_ev rq (0, [(4, 1)]) = r 4 := zu_f1 v4
  have g5 : zq_ev rq (0, [(5, 1)]) = r 5 := zu_f1 v5
  have g6 : zq_ev rq (0, [(6, 1)]) = r 6 := zu_f1 v6
  have g7 : zq_ev rq (0, [(7, 1)]) = r 7 := zu_f1 v7
  have g8 : zq_ev rq (0, [(8, 1)]) = r 8 := zu_f1 v8
  have g9 : zq_ev rq (0, [(9, 1)]) = r 9 := zu_f1 v9
  exact ⟨_, List.mem_cons_self .., rq, hr, zq_MeS_mk rfl hT (zq_all_nil) zq_fan (zq_fan) rfl (zu_fac ((x_OB _ _ _).mpr (by show zd_OB (zq_ev rq (0, [(0, 1)])) (zq_ev rq (0, [(1, 1)])) (zq_ev rq (0, [(10, 1)])) (zq_ev rq (0, [(11, 1)])) (zq_ev rq (0, [(4, 1)])) (zq_ev rq (0, [(5, 1)])) (zq_ev rq (0, [(6, 1)])) (zq_ev rq (0, [(7, 1)])) (zq_ev rq (0, [(8, 1)])) (zq_ev rq (0, [(9, 1)])) P h; simp only [g0, g1, g2, g3, g4, g5, g6, g7, g8, g9]; exact t1)) zq_fan)⟩
noncomputable def zd_uCB : zq_S × List zq_S := (([], [], [(0, [(4, -1), (14, 1)]), (0, [(4, -1), (13, 1)])], [], [], [], [(241, [(0, [(3, 1)]), (0, [(12, 1)]), (0, []), (0, [(14, 1)])]), (259, [(0, [(0, 1)]), (0, [(1, 1)]), (0, [(2, 1)]), (0, [(3, 1)]), (0, [(4, 1)]), (0, [(5, 1)]), (0, [(6, 1)]), (0, [(7, 1)]), (0, [(8, 1)]), (0, [(9, 1)]), (0, [(10, 1)]), (0, [(11, 1)])])], 15), [([], [], [], [], [], [], [(259, [(0, [(0, 1)]), (0, [(1, 1)]), (0, [(2, 1)]), (0, [(12, 1)]), (0, [(13, 1)]), (0, [(5, 1)]), (0, [(6, 1)]), (0, [(7, 1)]), (0, [(8, 1)]), (0, [(9, 1)]), (0, [(10, 1)]), (0, [(11, 1)])])], 15)])
theorem zd_uCB_l {P : zq_Ty} {h : zq_H} {o g n Y z k t a b c i e Z w u : Int} (a1 : 0 ≤ -z + u) (a2 : 0 ≤ -z + w) (k1 : zc_AG Y Z 0 u P h) (k2 : zd_CB o g n Y z k t a b c i e P h) : (zd_CB o g n Z w k t a b c i e P h) := by
  exact zd_B_up k2 (fun q x y => k1 q (by omega) (by omega)) (by omega)
theorem zd_uCB_ok {w : zq_Wd} (x_AG : zj_is w 241 (fun q => zc_AG (q 0) (q 1) (q 2) (q 3))) (x_CB : zj_is w 259 (fun q => zd_CB (q 0) (q 1) (q 2) (q 3) (q 4) (q 5) (q 6) (q 7) (q 8) (q 9) (q 10) (q 11))) : zq_okG1 w zd_uCB := by
  refine ⟨rfl, rfl, zu_fac ⟨rfl, by decide⟩ zq_fan, ?_⟩
  intro r P h H hM
  have q0 : zq_ev r (0, [(4, -1), (14, 1)]) = -r 4 + r 14 := by simp only [zq_ev, zq_ts] <;> omega
  have q1 : zq_ev r (0, [(4, -1), (13, 1)]) = -r 4 + r 13 := by simp only [zq_ev, zq_ts] <;> omega
  have q2 : zq_ev r (0, [(3, 1)]) = r 3 := zu_e1 _ _
  have q3 : zq_ev r (0, [(12, 1)]) = r 12 := zu_e1 _ _
  have q4 : zq_ev r (0, []) = 0 := zu_e0 _ _
  have q5 : zq_ev r (0, [(14, 1)]) = r 14 := zu_e1 _ _
  have q6 : zq_ev r (0, [(0, 1)]) = r 0 := zu_e1 _ _
  have q7 : zq_ev r (0, [(1, 1)]) = r 1 := zu_e1 _ _
  have q8 : zq_ev r (0, [(2, 1)]) = r 2 := zu_e1 _ _
  have q9 : zq_ev r (0, [(4, 1)]) = r 4 := zu_e1 _ _
  have q10 : zq_ev r (0, [(5, 1)]) = r 5 := zu_e1 _ _
  have q11 : zq_ev r (0, [(6, 1)]) = r 6 := zu_e1 _ _
  have q12 : zq_ev r (0, [(7, 1)]) = r 7 := zu_e1 _ _
  have q13 : zq_ev r (0, [(8, 1)]) = r 8 := zu_e1 _ _
  have q14 : zq_ev r (0, [(9, 1)]) = r 9 := zu_e1 _ _
  have q15 : zq_ev r (0, [(10, 1)]) = r 10 := zu_e1 _ _
  have q16 : zq_ev r (0, [(11, 1)]) = r 11 := zu_e1 _ _
  obtain ⟨hT, hC, hF, hS, -, hK⟩ := hM
  have c := hC.1
  have a1 := zq_all_1 c
  rw [q0] at a1
  have c := zq_all_t c
  have a2 := zq_all_1 c
  rw [q1] at a2
  have k1 := zj_use x_AG (hK)
  have k1 : zc_AG (zq_ev r (0, [(3, 1)])) (zq_ev r (0, [(12, 1)])) (zq_ev r (0, [])) (zq_ev r (0, [(14, 1)])) P h := k1
  simp only [q2, q3, q4, q5] at k1
  have k2 := zj_use x_CB (zq_okX_t (hK))
  have k2 : zd_CB (zq_ev r (0, [(0, 1)])) (zq_ev r (0, [(1, 1)])) (zq_ev r (0, [(2, 1)])) (zq_ev r (0, [(3, 1)])) (zq_ev r (0, [(4, 1)])) (zq_ev r (0, [(5, 1)])) (zq_ev r (0, [(6, 1)])) (zq_ev r (0, [(7, 1)])) (zq_ev r (0, [(8, 1)])) (zq_ev r (0, [(9, 1)])) (zq_ev r (0, [(10, 1)])) (zq_ev r (0, [(11, 1)])) P h := k2
  simp only [q10, q11, q12, q13, q14, q15, q16, q2, q6, q7, q8, q9] at k2
  obtain t1 := zd_uCB_l (P := P) (h := h) (o := r 0) (g := r 1) (n := r 2) (Y := r 3) (z := r 4) (k := r 5) (t := r 6) (a := r 7) (b := r 8) (c := r 9) (i := r 10) (e := r 11) (Z := r 12) (w := r 13) (u := r 14) a1 a2 k1 k2
  obtain ⟨rq, hr⟩ : ∃ rq : Nat → Int, (∀ i, i < 15 → rq i = r i) := ⟨r, fun i hi => rfl⟩
  have v0 : rq 0 = r 0 := hr 0 (by decide)
  have v1 : rq 1 = r 1 := hr 1 (by decide)
  have v2 : rq 2 = r 2 := hr 2 (by decide)
  have v5 : rq 5 = r 5 := hr 5 (by decide)
  have v6 : rq 6 = r 6 := hr 6 (by decide)
  have v7 : rq 7 = r 7 := hr 7 (by decide)
  have v8 : rq 8 = r 8 := hr 8 (by decide)
  have v9 : rq 9 = r 9 := hr 9 (by decide)
  have v10 : rq 10 = r 10 := hr 10 (by decide)
  have v11 : rq 11 = r 11 := hr 11 (by decide)
  have v12 : rq 12 = r 12 := hr 12 (by decide)
  have v13 : rq 13 = r 13 := hr 13 (by decide)
  have g0 : zq_ev rq (0, [(0, 1)]) = r 0 := zu_f1 v0
  have g1 : zq_ev rq (0, [(1, 1)]) = r 1 := zu_f1 v1
  have g2 : zq_ev rq (0, [(2, 1)]) = r 2 := zu_f1 v2
  have g3 : zq_ev rq (0, [(12, 1)]) = r 12 := zu_f1 v12
  have g4 : zq_ev rq (0, [(13, 1)]) = r 13 := zu_f1 v13
  have g5 : zq_ev rq (0, [(5, 1)]) = r 5 := zu_f1 v5
  have g6 : zq_ev rq (0, [(6, 1)]) = r 6 := zu_f1 v6
  have g7 : zq_ev rq (0, [(7, 1)]) = r 7 := zu_f1 v7
  have g8 : zq_ev rq (0, [(8, 1)]) = r 8 := zu_f1 v8
  have g9 : zq_ev rq (0, [(9, 1)]) = r 9 := zu_f1 v9
  have g10 : zq_ev rq (0, [(10, 1)]) = r 10 := zu_f1 v10
  have g11 : zq_ev rq (0, [(11, 1)]) = r 11 := zu_f1 v11
  exact ⟨_, List.mem_cons_self .., rq, hr, zq_MeS_mk rfl hT (zq_all_nil) zq_fan (zq_fan) rfl (zu_fac ((x_CB _ _ _).mpr (by show zd_CB (zq_ev rq (0, [(0, 1)])) (zq_ev rq (0, [(1, 1)])) (zq_ev rq (0, [(2, 1)])) (zq_ev rq (0, [(12, 1)])) (zq_ev rq (0, [(13, 1)])) (zq_ev rq (0, [(5, 1)])) (zq_ev rq (0, [(6, 1)])) (zq_ev rq (0, [(7, 1)])) (zq_ev rq (0, [(8, 1)])) (zq_ev rq (0, [(9, 1)])) (zq_ev rq (0, [(10, 1)])) (zq_ev rq (0, [(11, 1)])) P h; simp only [g0, g1, g10, g11, g2, g3, g4, g5, g6, g7, g8, g9]; exact t1)) zq_fan)⟩
noncomputable def zd_uDC : zq_S × List zq_S := (([], [], [(0, [(7, -1), (12, 1)]), (0, [(7, -1), (11, 1)])], [], [], [], [(241, [(0, [(6, 1)]), (0, [(10, 1)]), (0, []), (0, [(12, 1)])]), (260, [(0, [(0, 1)]), (0, [(1, 1)]), (0, [(2, 1)]), (0, [(3, 1)]), (0, [(4, 1)]), (0, [(5, 1)]), (0, [(6, 1)]), (0, [(7, 1)]), (0, [(8, 1)]), (0, [(9, 1)])])], 13), [([], [], [], [], [], [], [(260, [(0, [(0, 1)]), (0, [(1, 1)]), (0, [(2, 1)]), (0, [(3, 1)]), (0, [(4, 1)]), (0, [(5, 1)]), (0, [(10, 1)]), (0, [(11, 1)]), (0, [(8, 1)]), (0, [(9, 1)])])], 13)])
theorem zd_uDC_l {P : zq_Ty} {h : zq_H} {ak at_ as_ o g n Y z m p Z w u : Int} (a1 : 0 ≤ -z + u) (a2 : 0 ≤ -z + w) (k1 : zc_AG Y Z 0 u P h) (k2 : zd_DC ak at_ as_ o g n Y z m p P h) : (zd_DC ak at_ as_ o g n Z w m p P h) := by
  obtain ⟨b1, b2, b3, b4, b5, b6⟩ := k2
  exact ⟨b1, b2, b3, b4, b5, zd_D_up b6 (fun q x y => k1 q (by omega) (by omega)) (by omega)⟩
theorem zd_uDC_ok {w : zq_Wd} (x_AG : zj_is w 241 (fun q => zc_AG (q 0) (q 1) (q 2) (q 3))) (x_DC : zj_is w 260 (fun q => zd_DC (q 0) (q 1) (q 2) (q 3) (q 4) (q 5) (q 6) (q 7) (q 8) (q 9))) : zq_okG1 w zd_uDC := by
  refine ⟨rfl, rfl, zu_fac ⟨rfl, by decide⟩ zq_fan, ?_⟩
  intro r P h H hM
  have q0 : zq_ev r (0, [(7, -1), (12, 1)]) = -r 7 + r 12 := by simp only [zq_ev, zq_ts] <;> omega
  have q1 : zq_ev r (0, [(7, -1), (11, 1)]) = -r 7 + r 11 := by simp only [zq_ev, zq_ts] <;> omega
  have q2 : zq_ev r (0, [(6, 1)]) = r 6 := zu_e1 _ _
  have q3 : zq_ev r (0, [(10, 1)]) = r 10 := zu_e1 _ _
  have q4 : zq_ev r (0, []) = 0 := zu_e0 _ _
  have q5 : zq_ev r (0, [(12, 1)]) = r 12 := zu_e1 _ _
  have q6 : zq_ev r (0, [(0, 1)]) = r 0 := zu_e1 _ _
  have q7 : zq_ev r (0, [(1, 1)]) = r 1 := zu_e1 _ _
  have q8 : zq_ev r (0, [(2, 1)]) = r 2 := zu_e1 _ _
  have q9 : zq_ev r (0, [(3, 1)]) = r 3 := zu_e1 _ _
  have q10 : zq_ev r (0, [(4, 1)]) = r 4 := zu_e1 _ _
  have q11 : zq_ev r (0, [(5, 1)]) = r 5 := zu_e1 _ _
  have q12 : zq_ev r (0, [(7, 1)]) = r 7 := zu_e1 _ _
  have q13 : zq_ev r (0, [(8, 1)]) = r 8 := zu_e1 _ _
  have q14 : zq_ev r (0, [(9, 1)]) = r 9 := zu_e1 _ _
  obtain ⟨hT, hC, hF, hS, -, hK⟩ := hM
  have c := hC.1
  have a1 := zq_all_1 c
  rw [q0] at a1
  have c := zq_all_t c
  have a2 := zq_all_1 c
  rw [q1] at a2
  have k1 := zj_use x_AG (hK)
  have k1 : zc_AG (zq_ev r (0, [(6, 1)])) (zq_ev r (0, [(10, 1)])) (zq_ev r (0, [])) (zq_ev r (0, [(12, 1)])) P h := k1
  simp only [q2, q3, q4, q5] at k1
  have k2 := zj_use x_DC (zq_okX_t (hK))
  have k2 : zd_DC (zq_ev r (0, [(0, 1)])) (zq_ev r (0, [(1, 1)])) (zq_ev r (0, [(2, 1)])) (zq_ev r (0, [(3, 1)])) (zq_ev r (0, [(4, 1)])) (zq_ev r (0, [(5, 1)])) (zq_ev r (0, [(6, 1)])) (zq_ev r (0, [(7, 1)])) (zq_ev r (0, [(8, 1)])) (zq_ev r (0, [(9, 1)])) P h := k2
  simp only [q10, q11, q12, q13, q14, q2, q6, q7, q8, q9] at k2
  obtain t1 := zd_uDC_l (P := P) (h := h) (ak := r 0) (at_ := r 1) (as_ := r 2) (o := r 3) (g := r 4) (n := r 5) (Y := r 6) (z := r 7) (m := r 8) (p := r 9) (Z := r 10) (w := r 11) (u := r 12) a1 a2 k1 k2
  obtain ⟨rq, hr⟩ : ∃ rq : Nat → Int, (∀ i, i < 13 → rq i = r i) := ⟨r, fun i hi => rfl⟩
  have v0 : rq 0 = r 0 := hr 0 (by decide)
  have v1 : rq 1 = r 1 := hr 1 (by decide)
  have v2 : rq 2 = r 2 := hr 2 (by decide)
  have v3 : rq 3 = r 3 := hr 3 (by decide)
  have v4 : rq 4 = r 4 := hr 4 (by decide)
  have v5 : rq 5 = r 5 := hr 5 (by decide)
  have v8 : rq 8 = r 8 := hr 8 (by decide)
  have v9 : rq 9 = r 9 := hr 9 (by decide)
  have v10 : rq 10 = r 10 := hr 10 (by decide)
  have v11 : rq 11 = r 11 := hr 11 (by decide)
  have g0 : zq_ev rq (0, [(0, 1)]) = r 0 := zu_f1 v0
  have g1 : zq_ev rq (0, [(1, 1)]) = r 1 := zu_f1 v1
  have g2 : zq_ev rq (0, [(2, 1)]) = r 2 := zu_f1 v2
  have g3 : zq_ev rq (0, [(3, 1)]) = r 3 := zu_f1 v3
  have g4 : zq_ev rq (0, [(4, 1)]) = r 4 := zu_f1 v4
  have g5 : zq_ev rq (0, [(5, 1)]) = r 5 := zu_f1 v5
  have g6 : zq_ev rq (0, [(10, 1)]) = r 10 := zu_f1 v10
  have g7 : zq_ev rq (0, [(11, 1)]) = r 11 := zu_f1 v11
  have g8 : zq_ev rq (0, [(8, 1)]) = r 8 := zu_f1 v8
  have g9 : zq_ev rq (0, [(9, 1)]) = r 9 := zu_f1 v9
  exact ⟨_, List.mem_cons_self .., rq, hr, zq_MeS_mk rfl hT (zq_all_nil) zq_fan (zq_fan) rfl (zu_fac ((x_DC _ _ _).mpr (by show zd_DC (zq_ev rq (0, [(0, 1)])) (zq_ev rq (0, [(1, 1)])) (zq_ev rq (0, [(2, 1)])) (zq_ev rq (0, [(3, 1)])) (zq_ev rq (0, [(4, 1)])) (zq_ev rq (0, [(5, 1)])) (zq_ev rq (0, [(10, 1)])) (zq_ev rq (0, [(11, 1)])) (zq_ev rq (0, [(8, 1)])) (zq_ev rq (0, [(9, 1)])) P h; simp only [g0, g1, g2, g3, g4, g5, g6, g7, g8, g9]; exact t1)) zq_fan)⟩
noncomputable def zd_ss : zq_S × List zq_S := (([], [], [(0, [(4, 1)]), (32, [(4, -1)])], [], [], [], [(243, [(0, [(0, 1)]), (0, [(1, 1)]), (0, [(2, 1)]), (0, [(3, 1)]), (4, []), (0, [(4, 1)]), (0, [(5, 1)]), (0, [(6, 1)]), (0, [(7, 1)]), (0, [(8, 1)])]), (134, [(0, [(3, 1)]), (0, [(6, 1)]), (0, [])])], 9), [([], [], [], [], [], [], [(255, [(0, [(0, 1)]), (0, [(1, 1)]), (0, [(2, 1)]), (0, [(3, 1)]), (1, [(6, 1)]), (0, [(5, 1)]), (0, [(7, 1)]), (0, [(8, 1)])])], 9)])
theorem zd_ss_l {P : zq_Ty} {h : zq_H} {o g n Y d s t i j : Int} (a1 : 0 ≤ d) (a2 : 0 ≤ -d + 32) (k1 : zc_P o g n Y 4 d s t i j P h) (k2 : zn_DG Y t 0 P h) : (zd_SS o g n Y (t + 1) s i j P h) := by
  exact ⟨t, zp_P_need k1 (by omega), (show (0 : Int) = zn_dg Y t from k2).symm, by omega⟩
theorem zd_ss_ok {w : zq_Wd} (x_P : zj_is w 243 (fun q => zc_P (q 0) (q 1) (q 2) (q 3) (q 4) (q 5) (q 6) (q 7) (q 8) (q 9))) (x_DG : zj_is w 134 (fun q => zn_DG (q 0) (q 1) (q 2))) (x_SS : zj_is w 255 (fun q => zd_SS (q 0) (q 1) (q 2) (q 3) (q 4) (q 5) (q 6) (q 7))) : zq_okG1 w zd_ss := by
  refine ⟨rfl, rfl, zu_fac ⟨rfl, by decide⟩ zq_fan, ?_⟩
  intro r P h H hM
  have q0 : zq_ev r (0, [(4, 1)]) = r 4 := zu_e1 _ _
  have q1 : zq_ev r (32, [(4, -1)]) = -r 4 + 32 := zu_e5 _ _ _
  have q2 : zq_ev r (0, [(0, 1)]) = r 0 := zu_e1 _ _
  have q3 : zq_ev r (0, [(1, 1)]) = r 1 := zu_e1 _ _
  have q4 : zq_ev r (0, [(2, 1)]) = r 2 := zu_e1 _ _
  have q5 : zq_ev r (0, [(3, 1)]) = r 3 := zu_e1 _ _
  have q6 : zq_ev r (4, []) = 4 := zu_e0 _ _
  have q7 : zq_ev r (0, [(5, 1)]) = r 5 := zu_e1 _ _
  have q8 : zq_ev r (0, [(6, 1)]) = r 6 := zu_e1 _ _
  have q9 : zq_ev r (0, [(7, 1)]) = r 7 := zu_e1 _ _
  have q10 : zq_ev r (0, [(8, 1)]) = r 8 := zu_e1 _ _
  have q11 : zq_ev r (0, []) = 0 := zu_e0 _ _
  obtain ⟨hT, hC, hF, hS, -, hK⟩ := hM
  have c := hC.1
  have a1 := zq_all_1 c
  rw [q0] at a1
  have c := zq_all_t c
  have a2 := zq_all_1 c
  rw [q1] at a2
  have k1 := zj_use x_P (hK)
  have k1 : zc_P (zq_ev r (0, [(0, 1)])) (zq_ev r (0, [(1, 1)])) (zq_ev r (0, [(2, 1)])) (zq_ev r (0, [(3, 1)])) (zq_ev r (4, [])) (zq_ev r (0, [(4, 1)])) (zq_ev r (0, [(5, 1)])) (zq_ev r (0, [(6, 1)])) (zq_ev r (0, [(7, 1)])) (zq_ev r (0, [(8, 1)])) P h := k1
  simp only [q0, q10, q2, q3, q4, q5, q6, q7, q8, q9] at k1
  have k2 := zj_use x_DG (zq_okX_t (hK))
  have k2 : zn_DG (zq_ev r (0, [(3, 1)])) (zq_ev r (0, [(6, 1)])) (zq_ev r (0, [])) P h := k2
  simp only [q11, q5, q8] at k2
  obtain t1 := zd_ss_l (P := P) (h := h) (o := r 0) (g := r 1) (n := r 2) (Y := r 3) (d := r 4) (s := r 5) (t := r 6) (i := r 7) (j := r 8) a1 a2 k1 k2
  obtain ⟨rq, hr⟩ : ∃ rq : Nat → Int, (∀ i, i < 9 → rq i = r i) := ⟨r, fun i hi => rfl⟩
  have v0 : rq 0 = r 0 := hr 0 (by decide)
  have v1 : rq 1 = r 1 := hr 1 (by decide)
  have v2 : rq 2 = r 2 := hr 2 (by decide)
  have v3 : rq 3 = r 3 := hr 3 (by decide)
  have v5 : rq 5 = r 5 := hr 5 (by decide)
  have v6 : rq 6 = r 6 := hr 6 (by decide)
  have v7 : rq 7 = r 7 := hr 7 (by decide)
  have v8 : rq 8 = r 8 := hr 8 (by decide)
  have g0 : zq_ev rq (0, [(0, 1)]) = r 0 := zu_f1 v0
  have g1 : zq_ev rq (0, [(1, 1)]) = r 1 := zu_f1 v1
  have g2 : zq_ev rq (0, [(2, 1)]) = r 2 := zu_f1 v2
  have g3 : zq_ev rq (0, [(3, 1)]) = r 3 := zu_f1 v3
  have g4 : zq_ev rq (1, [(6, 1)]) = r 6 + 1 := zu_f2 v6 _
  have g5 : zq_ev rq (0, [(5, 1)]) = r 5 := zu_f1 v5
  have g6 : zq_ev rq (0, [(7, 1)]) = r 7 := zu_f1 v7
  have g7 : zq_ev rq (0, [(8, 1)]) = r 8 := zu_f1 v8
  exact ⟨_, List.mem_cons_self .., rq, hr, zq_MeS_mk rfl hT (zq_all_nil) zq_fan (zq_fan) rfl (zu_fac ((x_SS _ _ _).mpr (by show zd_SS (zq_ev rq (0, [(0, 1)])) (zq_ev rq (0, [(1, 1)])) (zq_ev rq (0, [(2, 1)])) (zq_ev rq (0, [(3, 1)])) (zq_ev rq (1, [(6, 1)])) (zq_ev rq (0, [(5, 1)])) (zq_ev rq (0, [(7, 1)])) (zq_ev rq (0, [(8, 1)])) P h; simp only [g0, g1, g2, g3, g4, g5, g6, g7]; exact t1)) zq_fan)⟩
noncomputable def zd_i1 : zq_S × List zq_S := (([], [], [(0, [(4, 1)]), (32, [(4, -1)])], [], [], [], [(239, [(0, [(1, 1)]), (0, [(2, 1)]), (0, [(7, 1)]), (25, [])]), (244, [(0, [(0, 1)]), (0, [(1, 1)]), (0, [(2, 1)]), (0, [(3, 1)]), (10, []), (0, [(4, 1)]), (0, [(5, 1)]), (0, [(6, 1)]), (1, [(7, 1)]), (0, [(8, 1)])]), (134, [(0, [(3, 1)]), (0, [(6, 1)]), (0, [])])], 9), [([], [], [], [], [], [], [(256, [(0, [(0, 1)]), (0, [(1, 1)]), (0, [(2, 1)]), (0, [(3, 1)]), (1, [(6, 1)]), (0, [(5, 1)]), (0, [(7, 1)]), (1, [(8, 1)])])], 9)])
theorem zd_i1_l {P : zq_Ty} {h : zq_H} {o g n Y d s t i j : Int} (a1 : 0 ≤ d) (a2 : 0 ≤ -d + 32) (k1 : zc_CM g n i 25 P h) (k2 : zc_T o g n Y 10 d s t (i + 1) j P h) (k3 : zn_DG Y t 0 P h) : (zd_CI o g n Y (t + 1) s i (j + 1) P h) := by
  exact Or.inr ⟨k2.1.1, zc_mp_c (by decide) k1 rfl, j, ⟨t, ⟨zp_P_need k2.1 (by omega), k2.2⟩, (show (0 : Int) = zn_dg Y t from k3).symm, by omega⟩, rfl⟩
theorem zd_i1_ok {w : zq_Wd} (x_CM : zj_is w 239 (fun q => zc_CM (q 0) (q 1) (q 2) (q 3))) (x_T : zj_is w 244 (fun q => zc_T (q 0) (q 1) (q 2) (q 3) (q 4) (q 5) (q 6) (q 7) (q 8) (q 9))) (x_DG : zj_is w 134 (fun q => zn_DG (q 0) (q 1) (q 2))) (x_CI : zj_is w 256 (fun q => zd_CI (q 0) (q 1) (q 2) (q 3) (q 4) (q 5) (q 6) (q 7))) : zq_okG1 w zd_i1 := by
  refine ⟨rfl, rfl, zu_fac ⟨rfl, by decide⟩ zq_fan, ?_⟩
  intro r P h H hM
  have q0 : zq_ev r (0, [(4, 1)]) = r 4 := zu_e1 _ _
  have q1 : zq_ev r (32, [(4, -1)]) = -r 4 + 32 := zu_e5 _ _ _
  have q2 : zq_ev r (0, [(1, 1)]) = r 1 := zu_e1 _ _
  have q3 : zq_ev r (0, [(2, 1)]) = r 2 := zu_e1 _ _
  have q4 : zq_ev r (0, [(7, 1)]) = r 7 := zu_e1 _ _
  have q5 : zq_ev r (25, []) = 25 := zu_e0 _ _
  have q6 : zq_ev r (0, [(0, 1)]) = r 0 := zu_e1 _ _
  have q7 : zq_ev r (0, [(3, 1)]) = r 3 := zu_e1 _ _
  have q8 : zq_ev r (10, []) = 10 := zu_e0 _ _
  have q9 : zq_ev r (0, [(5, 1)]) = r 5 := zu_e1 _ _
  have q10 : zq_ev r (0, [(6, 1)]) = r 6 := zu_e1 _ _
  have q11 : zq_ev r (1, [(7, 1)]) = r 7 + 1 := zu_e2 _ _ _
  have q12 : zq_ev r (0, [(8, 1)]) = r 8 := zu_e1 _ _
  have q13 : zq_ev r (0, []) = 0 := zu_e0 _ _
  obtain ⟨hT, hC, hF, hS, -, hK⟩ := hM
  have c := hC.1
  have a1 := zq_all_1 c
  rw [q0] at a1
  have c := zq_all_t c
  have a2 := zq_all_1 c
  rw [q1] at a2
  have k1 := zj_use x_CM (hK)
  have k1 : zc_CM (zq_ev r (0, [(1, 1)])) (zq_ev r (0, [(2, 1)])) (zq_ev r (0, [(7, 1)])) (zq_ev r (25, [])) P h := k1
  simp only [q2, q3, q4, q5] at k1
  have k2 := zj_use x_T (zq_okX_t (hK))
  have k2 : zc_T (zq_ev r (0, [(0, 1)])) (zq_ev r (0, [(1, 1)])) (zq_ev r (0, [(2, 1)])) (zq_ev r (0, [(3, 1)])) (zq_ev r (10, [])) (zq_ev r (0, [(4, 1)])) (zq_ev r (0, [(5, 1)])) (zq_ev r (0, [(6, 1)])) (zq_ev r (1, [(7, 1)])) (zq_ev r (0, [(8, 1)])) P h := k2
  simp only [q0, q10, q11, q12, q2, q3, q6, q7, q8, q9] at k2
  have k3 := zj_use x_DG (zq_okX_t (zq_okX_t (hK)))
  have k3 : zn_DG (zq_ev r (0, [(3, 1)])) (zq_ev r (0, [(6, 1)])) (zq_ev r (0, [])) P h := k3
  simp only [q10, q13, q7] at k3
  obtain t1 := zd_i1_l (P := P) (h := h) (o := r 0) (g := r 1) (n := r 2) (Y := r 3) (d := r 4) (s := r 5) (t := r 6) (i := r 7) (j := r 8) a1 a2 k1 k2 k3
  obtain ⟨rq, hr⟩ : ∃ rq : Nat → Int, (∀ i, i < 9 → rq i = r i) := ⟨r, fun i hi => rfl⟩
  have v0 : rq 0 = r 0 := hr 0 (by decide)
  have v1 : rq 1 = r 1 := hr 1 (by decide)
  have v2 : rq 2 = r 2 := hr 2 (by decide)
  have v3 : rq 3 = r 3 := hr 3 (by decide)
  have v5 : rq 5 = r 5 := hr 5 (by decide)
  have v6 : rq 6 = r 6 := hr 6 (by decide)
  have v7 : rq 7 = r 7 := hr 7 (by decide)
  have v8 : rq 8 = r 8 := hr 8 (by decide)
  have g0 : zq_ev rq (0, [(0, 1)]) = r 0 := zu_f1 v0
  have g1 : zq_ev rq (0, [(1, 1)]) = r 1 := zu_f1 v1
  have g2 : zq_ev rq (0, [(2, 1)]) = r 2 := zu_f1 v2
  have g3 : zq_ev rq (0, [(3, 1)]) = r 3 := zu_f1 v3
  have g4 : zq_ev rq (1, [(6, 1)]) = r 6 + 1 := zu_f2 v6 _
  have g5 : zq_ev rq (0, [(5, 1)]) = r 5 := zu_f1 v5
  have g6 : zq_ev rq (0, [(7, 1)]) = r 7 := zu_f1 v7
  have g7 : zq_ev rq (1, [(8, 1)]) = r 8 + 1 := zu_f2 v8 _
  exact ⟨_, List.mem_cons_self .., rq, hr, zq_MeS_mk rfl hT (zq_all_nil) zq_fan (zq_fan) rfl (zu_fac ((x_CI _ _ _).mpr (by show zd_CI (zq_ev rq (0, [(0, 1)])) (zq_ev rq (0, [(1, 1)])) (zq_ev rq (0, [(2, 1)])) (zq_ev rq (0, [(3, 1)])) (zq_ev rq (1, [(6, 1)])) (zq_ev rq (0, [(5, 1)])) (zq_ev rq (0, [(7, 1)])) (zq_ev rq (1, [(8, 1)])) P h; simp only [g0, g1, g2, g3, g4, g5, g6, g7]; exact t1)) zq_fan)⟩
noncomputable def zd_i0l : zq_S × List zq_S := (([], [], [(0, [(6, 1)]), (24, [(6, -1)])], [], [], [], [(239, [(0, [(1, 1)]), (0, [(2, 1)]), (0, [(5, 1)]), (0, [(6, 1)])])], 7), [([], [], [], [], [], [], [(256, [(0, [(0, 1)]), (0, [(1, 1)]), (0, [(2, 1)]), (0, [(3, 1)]), (0, [(4, 1)]), (-1, []), (0, [(5, 1)]), (1, [(5, 1)])])], 7)])
theorem zd_i0l_l {P : zq_Ty} {h : zq_H} {o g n Y z j c : Int} (a1 : 0 ≤ c) (a2 : 0 ≤ -c + 24) (k1 : zc_CM g n j c P h) : (zd_CI o g n Y z (-1) j (j + 1) P h) := by
  have hc : ze_c g n j ≠ 4 := by
    rw [show ze_c g n j = zu_mp c from k1]
    exact zc_mp_ne 25 4 (by decide +kernel) (by omega) (by omega)
  exact Or.inl ⟨rfl, hc, rfl⟩
theorem zd_i0l_ok {w : zq_Wd} (x_CM : zj_is w 239 (fun q => zc_CM (q 0) (q 1) (q 2) (q 3))) (x_CI : zj_is w 256 (fun q => zd_CI (q 0) (q 1) (q 2) (q 3) (q 4) (q 5) (q 6) (q 7))) : zq_okG1 w zd_i0l := by
  refine ⟨rfl, rfl, zu_fac ⟨rfl, by decide⟩ zq_fan, ?_⟩
  intro r P h H hM
  have q0 : zq_ev r (0, [(6, 1)]) = r 6 := zu_e1 _ _
  have q1 : zq_ev r (24, [(6, -1)]) = -r 6 + 24 := zu_e5 _ _ _
  have q2 : zq_ev r (0, [(1, 1)]) = r 1 := zu_e1 _ _
  have q3 : zq_ev r (0, [(2, 1)]) = r 2 := zu_e1 _ _
  have q4 : zq_ev r (0, [(5, 1)]) = r 5 := zu_e1 _ _
  obtain ⟨hT, hC, hF, hS, -, hK⟩ := hM
  have c := hC.1
  have a1 := zq_all_1 c
  rw [q0] at a1
  have c := zq_all_t c
  have a2 := zq_all_1 c
  rw [q1] at a2
  have k1 := zj_use x_CM (hK)
  have k1 : zc_CM (zq_ev r (0, [(1, 1)])) (zq_ev r (0, [(2, 1)])) (zq_ev r (0, [(5, 1)])) (zq_ev r (0, [(6, 1)])) P h := k1
  simp only [q0, q2, q3, q4] at k1
  obtain t1 := zd_i0l_l (P := P) (h := h) (o := r 0) (g := r 1) (n := r 2) (Y := r 3) (z := r 4) (j := r 5) (c := r 6) a1 a2 k1
  obtain ⟨rq, hr⟩ : ∃ rq : Nat → Int, (∀ i, i < 7 → rq i = r i) := ⟨r, fun i hi => rfl⟩
  have v0 : rq 0 = r 0 := hr 0 (by decide)
  have v1 : rq 1 = r 1 := hr 1 (by decide)
  have v2 : rq 2 = r 2 := hr 2 (by decide)
  have v3 : rq 3 = r 3 := hr 3 (by decide)
  have v4 : rq 4 = r 4 := hr 4 (by decide)
  have v5 : rq 5 = r 5 := hr 5 (by decide)
  have g0 : zq_ev rq (0, [(0, 1)]) = r 0 := zu_f1 v0
  have g1 : zq_ev rq (0, [(1, 1)]) = r 1 := zu_f1 v1
  have g2 : zq_ev rq (0, [(2, 1)]) = r 2 := zu_f1 v2
  have g3 : zq_ev rq (0, [(3, 1)]) = r 3 := zu_f1 v3
  have g4 : zq_ev rq (0, [(4, 1)]) = r 4 := zu_f1 v4
  have g5 : zq_ev rq (-1, []) = -1 := zu_e0 _ _
  have g6 : zq_ev rq (0, [(5, 1)]) = r 5 := zu_f1 v5
  have g7 : zq_ev rq (1, [(5, 1)]) = r 5 + 1 := zu_f2 v5 _
  exact ⟨_, List.mem_cons_self .., rq, hr, zq_MeS_mk rfl hT (zq_all_nil) zq_fan (zq_fan) rfl (zu_fac ((x_CI _ _ _).mpr (by show zd_CI (zq_ev rq (0, [(0, 1)])) (zq_ev rq (0, [(1, 1)])) (zq_ev rq (0, [(2, 1)])) (zq_ev rq (0, [(3, 1)])) (zq_ev rq (0, [(4, 1)])) (zq_ev rq (-1, [])) (zq_ev rq (0, [(5, 1)])) (zq_ev rq (1, [(5, 1)])) P h; simp only [g0, g1, g2, g3, g4, g5, g6, g7]; exact t1)) zq_fan)⟩
noncomputable def zd_m0l : zq_S × List zq_S := (([], [], [(0, [(3, 1)]), (23, [(3, -1)])], [], [], [], [(239, [(0, [(0, 1)]), (0, [(1, 1)]), (0, [(2, 1)]), (0, [(3, 1)])])], 4), [([], [], [], [], [], [], [(257, [(0, [(0, 1)]), (0, [(1, 1)]), (1, []), (0, [(2, 1)]), (0, [(2, 1)])])], 4)])
theorem zd_m0l_l {P : zq_Ty} {h : zq_H} {g n j c : Int} (a1 : 0 ≤ c) (a2 : 0 ≤ -c + 23) (k1 : zc_CM g n j c P h) : (zd_TM g n 1 j j P h) := by
  have hc : ze_c g n j ≠ 29 := by
    rw [show ze_c g n j = zu_mp c from k1]
    exact zc_mp_ne 24 29 (by decide +kernel) (by omega) (by omega)
  exact Or.inl ⟨rfl, hc, rfl⟩
theorem zd_m0l_ok {w : zq_Wd} (x_CM : zj_is w 239 (fun q => zc_CM (q 0) (q 1) (q 2) (q 3))) (x_TM : zj_is w 257 (fun q => zd_TM (q 0) (q 1) (q 2) (q 3) (q 4))) : zq_okG1 w zd_m0l := by
  refine ⟨rfl, rfl, zu_fac ⟨rfl, by decide⟩ zq_fan, ?_⟩
  intro r P h H hM
  have q0 : zq_ev r (0, [(3, 1)]) = r 3 := zu_e1 _ _
  have q1 : zq_ev r (23, [(3, -1)]) = -r 3 + 23 := zu_e5 _ _ _
  have q2 : zq_ev r (0, [(0, 1)]) = r 0 := zu_e1 _ _
  have q3 : zq_ev r (0, [(1, 1)]) = r 1 := zu_e1 _ _
  have q4 : zq_ev r (0, [(2, 1)]) = r 2 := zu_e1 _ _
  obtain ⟨hT, hC, hF, hS, -, hK⟩ := hM
  have c := hC.1
  have a1 := zq_all_1 c
  rw [q0] at a1
  have c := zq_all_t c
  have a2 := zq_all_1 c
  rw [q1] at a2
  have k1 := zj_use x_CM (hK)
  have k1 : zc_CM (zq_ev r (0, [(0, 1)])) (zq_ev r (0, [(1, 1)])) (zq_ev r (0, [(2, 1)])) (zq_ev r (0, [(3, 1)])) P h := k1
  simp only [q0, q2, q3, q4] at k1
  obtain t1 := zd_m0l_l (P := P) (h := h) (g := r 0) (n := r 1) (j := r 2) (c := r 3) a1 a2 k1
  obtain ⟨rq, hr⟩ : ∃ rq : Nat → Int, (∀ i, i < 4 → rq i = r i) := ⟨r, fun i hi => rfl⟩
  have v0 : rq 0 = r 0 := hr 0 (by decide)
  have v1 : rq 1 = r 1 := hr 1 (by decide)
  have v2 : rq 2 = r 2 := hr 2 (by decide)
  have g0 : zq_ev rq (0, [(0, 1)]) = r 0 := zu_f1 v0
  have g1 : zq_ev rq (0, [(1, 1)]) = r 1 := zu_f1 v1
  have g2 : zq_ev rq (1, []) = 1 := zu_e0 _ _
  have g3 : zq_ev rq (0, [(2, 1)]) = r 2 := zu_f1 v2
  exact ⟨_, List.mem_cons_self .., rq, hr, zq_MeS_mk rfl hT (zq_all_nil) zq_fan (zq_fan) rfl (zu_fac ((x_TM _ _ _).mpr (by show zd_TM (zq_ev rq (0, [(0, 1)])) (zq_ev rq (0, [(1, 1)])) (zq_ev rq (1, [])) (zq_ev rq (0, [(2, 1)])) (zq_ev rq (0, [(2, 1)])) P h; simp only [g0, g1, g2, g3]; exact t1)) zq_fan)⟩
noncomputable def zd_i0g : zq_S × List zq_S := (([], [], [(-26, [(6, 1)]), (10000, [(6, -1)])], [], [], [], [(239, [(0, [(1, 1)]), (0, [(2, 1)]), (0, [(5, 1)]), (0, [(6, 1)])])], 7), [([], [], [], [], [], [], [(256, [(0, [(0, 1)]), (0, [(1, 1)]), (0, [(2, 1)]), (0, [(3, 1)]), (0, [(4, 1)]), (-1, []), (0, [(5, 1)]), (1, [(5, 1)])])], 7)])
theorem zd_i0g_l {P : zq_Ty} {h : zq_H} {o g n Y z j c : Int} (a1 : 0 ≤ c - 26) (a2 : 0 ≤ -c + 10000) (k1 : zc_CM g n j c P h) : (zd_CI o g n Y z (-1) j (j + 1) P h) := by
  have hc : ze_c g n j ≠ 4 := by
    rw [show ze_c g n j = zu_mp c from k1]
    exact zc_mp_ne 25 4 (by decide +kernel) (by omega) (by omega)
  exact Or.inl ⟨rfl, hc, rfl⟩
theorem zd_i0g_ok {w : zq_Wd} (x_CM : zj_is w 239 (fun q => zc_CM (q 0) (q 1) (q 2) (q 3))) (x_CI : zj_is w 256 (fun q => zd_CI (q 0) (q 1) (q 2) (q 3) (q 4) (q 5) (q 6) (q 7))) : zq_okG1 w zd_i0g := by
  refine ⟨rfl, rfl, zu_fac ⟨rfl, by decide⟩ zq_fan, ?_⟩
  intro r P h H hM
  have q0 : zq_ev r (-26, [(6, 1)]) = r 6 - 26 := zu_e3 _ _ _
  have q1 : zq_ev r (10000, [(6, -1)]) = -r 6 + 10000 := zu_e5 _ _ _
  have q2 : zq_ev r (0, [(1, 1)]) = r 1 := zu_e1 _ _
  have q3 : zq_ev r (0, [(2, 1)]) = r 2 := zu_e1 _ _
  have q4 : zq_ev r (0, [(5, 1)]) = r 5 := zu_e1 _ _
  have q5 : zq_ev r (0, [(6, 1)]) = r 6 := zu_e1 _ _
  obtain ⟨hT, hC, hF, hS, -, hK⟩ := hM
  have c := hC.1
  have a1 := zq_all_1 c
  rw [q0] at a1
  have c := zq_all_t c
  have a2 := zq_all_1 c
  rw [q1] at a2
  have k1 := zj_use x_CM (hK)
  have k1 : zc_CM (zq_ev r (0, [(1, 1)])) (zq_ev r (0, [(2, 1)])) (zq_ev r (0, [(5, 1)])) (zq_ev r (0, [(6, 1)])) P h := k1
  simp only [q2, q3, q4, q5] at k1
  obtain t1 := zd_i0g_l (P := P) (h := h) (o := r 0) (g := r 1) (n := r 2) (Y := r 3) (z := r 4) (j := r 5) (c := r 6) a1 a2 k1
  obtain ⟨rq, hr⟩ : ∃ rq : Nat → Int, (∀ i, i < 7 → rq i = r i) := ⟨r, fun i hi => rfl⟩
  have v0 : rq 0 = r 0 := hr 0 (by decide)
  have v1 : rq 1 = r 1 := hr 1 (by decide)
  have v2 : rq 2 = r 2 := hr 2 (by decide)
  have v3 : rq 3 = r 3 := hr 3 (by decide)
  have v4 : rq 4 = r 4 := hr 4 (by decide)
  have v5 : rq 5 = r 5 := hr 5 (by decide)
  have g0 : zq_ev rq (0, [(0, 1)]) = r 0 := zu_f1 v0
  have g1 : zq_ev rq (0, [(1, 1)]) = r 1 := zu_f1 v1
  have g2 : zq_ev rq (0, [(2, 1)]) = r 2 := zu_f1 v2
  have g3 : zq_ev rq (0, [(3, 1)]) = r 3 := zu_f1 v3
  have g4 : zq_ev rq (0, [(4, 1)]) = r 4 := zu_f1 v4
  have g5 : zq_ev rq (-1, []) = -1 := zu_e0 _ _
  have g6 : zq_ev rq (0, [(5, 1)]) = r 5 := zu_f1 v5
  have g7 : zq_ev rq (1, [(5, 1)]) = r 5 + 1 := zu_f2 v5 _
  exact ⟨_, List.mem_cons_self .., rq, hr, zq_MeS_mk rfl hT (zq_all_nil) zq_fan (zq_fan) rfl (zu_fac ((x_CI _ _ _).mpr (by show zd_CI (zq_ev rq (0, [(0, 1)])) (zq_ev rq (0, [(1, 1)])) (zq_ev rq (0, [(2, 1)])) (zq_ev rq (0, [(3, 1)])) (zq_ev rq (0, [(4, 1)])) (zq_ev rq (-1, [])) (zq_ev rq (0, [(5, 1)])) (zq_ev rq (1, [(5, 1)])) P h; simp only [g0, g1, g2, g3, g4, g5, g6, g7]; exact t1)) zq_fan)⟩
noncomputable def zd_m0g : zq_S × List zq_S := (([], [], [(-25, [(3, 1)]), (10000, [(3, -1)])], [], [], [], [(239, [(0, [(0, 1)]), (0, [(1, 1)]), (0, [(2, 1)]), (0, [(3, 1)])])], 4), [([], [], [], [], [], [], [(257, [(0, [(0, 1)]), (0, [(1, 1)]), (1, []), (0, [(2, 1)]), (0, [(2, 1)])])], 4)])
theorem zd_m0g_l {P : zq_Ty} {h : zq_H} {g n j c : Int} (a1 : 0 ≤ c - 25) (a2 : 0 ≤ -c + 10000) (k1 : zc_CM g n j c P h) : (zd_TM g n 1 j j P h) := by
  have hc : ze_c g n j ≠ 29 := by
    rw [show ze_c g n j = zu_mp c from k1]
    exact zc_mp_ne 24 29 (by decide +kernel) (by omega) (by omega)
  exact Or.inl ⟨rfl, hc, rfl⟩
theorem zd_m0g_ok {w : zq_Wd} (x_CM : zj_is w 239 (fun q => zc_CM (q 0) (q 1) (q 2) (q 3))) (x_TM : zj_is w 257 (fun q => zd_TM (q 0) (q 1) (q 2) (q 3) (q 4))) : zq_okG1 w zd_m0g := by
  refine ⟨rfl, rfl, zu_fac ⟨rfl, by decide⟩ zq_fan, ?_⟩
  intro r P h H hM
  have q0 : zq_ev r (-25, [(3, 1)]) = r 3 - 25 := zu_e3 _ _ _
  have q1 : zq_ev r (10000, [(3, -1)]) = -r 3 + 10000 := zu_e5 _ _ _
  have q2 : zq_ev r (0, [(0, 1)]) = r 0 := zu_e1 _ _
  have q3 : zq_ev r (0, [(1, 1)]) = r 1 := zu_e1 _ _
  have q4 : zq_ev r (0, [(2, 1)]) = r 2 := zu_e1 _ _
  have q5 : zq_ev r (0, [(3, 1)]) = r 3 := zu_e1 _ _
  obtain ⟨hT, hC, hF, hS, -, hK⟩ := hM
  have c := hC.1
  have a1 := zq_all_1 c
  rw [q0] at a1
  have c := zq_all_t c
  have a2 := zq_all_1 c
  rw [q1] at a2
  have k1 := zj_use x_CM (hK)
  have k1 : zc_CM (zq_ev r (0, [(0, 1)])) (zq_ev r (0, [(1, 1)])) (zq_ev r (0, [(2, 1)])) (zq_ev r (0, [(3, 1)])) P h := k1
  simp only [q2, q3, q4, q5] at k1
  obtain t1 := zd_m0g_l (P := P) (h := h) (g := r 0) (n := r 1) (j := r 2) (c := r 3) a1 a2 k1
  obtain ⟨rq, hr⟩ : ∃ rq : Nat → Int, (∀ i, i < 4 → rq i = r i) := ⟨r, fun i hi => rfl⟩
  have v0 : rq 0 = r 0 := hr 0 (by decide)
  have v1 : rq 1 = r 1 := hr 1 (by decide)
  have v2 : rq 2 = r 2 := hr 2 (by decide)
  have g0 : zq_ev rq (0, [(0, 1)]) = r 0 := zu_f1 v0
  have g1 : zq_ev rq (0, [(1, 1)]) = r 1 := zu_f1 v1
  have g2 : zq_ev rq (1, []) = 1 := zu_e0 _ _
  have g3 : zq_ev rq (0, [(2, 1)]) = r 2 := zu_f1 v2
  exact ⟨_, List.mem_cons_self .., rq, hr, zq_MeS_mk rfl hT (zq_all_nil) zq_fan (zq_fan) rfl (zu_fac ((x_TM _ _ _).mpr (by show zd_TM (zq_ev rq (0, [(0, 1)])) (zq_ev rq (0, [(1, 1)])) (zq_ev rq (1, [])) (zq_ev rq (0, [(2, 1)])) (zq_ev rq (0, [(2, 1)])) P h; simp only [g0, g1, g2, g3]; exact t1)) zq_fan)⟩
noncomputable def zd_m1 : zq_S × List zq_S := (([], [], [], [], [], [], [(239, [(0, [(0, 1)]), (0, [(1, 1)]), (0, [(2, 1)]), (24, [])]), (225, [(0, [(0, 1)]), (0, [(1, 1)]), (1, [(2, 1)]), (0, [(3, 1)])])], 4), [([], [], [], [], [], [], [(257, [(0, [(0, 1)]), (0, [(1, 1)]), (0, [(3, 1)]), (0, [(2, 1)]), (2, [(2, 1)])])], 4)])
theorem zd_m1_l {P : zq_Ty} {h : zq_H} {g n j t : Int} (k1 : zc_CM g n j 24 P h) (k2 : ze_VL g n (j + 1) t P h) : (zd_TM g n t j (j + 2) P h) := by
  exact Or.inr ⟨zc_mp_c (by decide) k1 rfl, k2, rfl⟩
theorem zd_m1_ok {w : zq_Wd} (x_CM : zj_is w 239 (fun q => zc_CM (q 0) (q 1) (q 2) (q 3))) (x_VL : zj_is w 225 (fun q => ze_VL (q 0) (q 1) (q 2) (q 3))) (x_TM : zj_is w 257 (fun q => zd_TM (q 0) (q 1) (q 2) (q 3) (q 4))) : zq_okG1 w zd_m1 := by
  refine ⟨rfl, rfl, zu_fac ⟨rfl, by decide⟩ zq_fan, ?_⟩
  intro r P h H hM
  have q0 : zq_ev r (0, [(0, 1)]) = r 0 := zu_e1 _ _
  have q1 : zq_ev r (0, [(1, 1)]) = r 1 := zu_e1 _ _
  have q2 : zq_ev r (0, [(2, 1)]) = r 2 := zu_e1 _ _
  have q3 : zq_ev r (24, []) = 24 := zu_e0 _ _
  have q4 : zq_ev r (1, [(2, 1)]) = r 2 + 1 := zu_e2 _ _ _
  have q5 : zq_ev r (0, [(3, 1)]) = r 3 := zu_e1 _ _
  obtain ⟨hT, hC, hF, hS, -, hK⟩ := hM
  have c := hC.1
  have k1 := zj_use x_CM (hK)
  have k1 : zc_CM (zq_ev r (0, [(0, 1)])) (zq_ev r (0, [(1, 1)])) (zq_ev r (0, [(2, 1)])) (zq_ev r (24, [])) P h := k1
  simp only [q0, q1, q2, q3] at k1
  have k2 := zj_use x_VL (zq_okX_t (hK))
  have k2 : ze_VL (zq_ev r (0, [(0, 1)])) (zq_ev r (0, [(1, 1)])) (zq_ev r (1, [(2, 1)])) (zq_ev r (0, [(3, 1)])) P h := k2
  simp only [q0, q1, q4, q5] at k2
  obtain t1 := zd_m1_l (P := P) (h := h) (g := r 0) (n := r 1) (j := r 2) (t := r 3) k1 k2
  obtain ⟨rq, hr⟩ : ∃ rq : Nat → Int, (∀ i, i < 4 → rq i = r i) := ⟨r, fun i hi => rfl⟩
  have v0 : rq 0 = r 0 := hr 0 (by decide)
  have v1 : rq 1 = r 1 := hr 1 (by decide)
  have v2 : rq 2 = r 2 := hr 2 (by decide)
  have v3 : rq 3 = r 3 := hr 3 (by decide)
  have g0 : zq_ev rq (0, [(0, 1)]) = r 0 := zu_f1 v0
  have g1 : zq_ev rq (0, [(1, 1)]) = r 1 := zu_f1 v1
  have g2 : zq_ev rq (0, [(3, 1)]) = r 3 := zu_f1 v3
  have g3 : zq_ev rq (0, [(2, 1)]) = r 2 := zu_f1 v2
  have g4 : zq_ev rq (2, [(2, 1)]) = r 2 + 2 := zu_f2 v2 _
  exact ⟨_, List.mem_cons_self .., rq, hr, zq_MeS_mk rfl hT (zq_all_nil) zq_fan (zq_fan) rfl (zu_fac ((x_TM _ _ _).mpr (by show zd_TM (zq_ev rq (0, [(0, 1)])) (zq_ev rq (0, [(1, 1)])) (zq_ev rq (0, [(3, 1)])) (zq_ev rq (0, [(2, 1)])) (zq_ev rq (2, [(2, 1)])) P h; simp only [g0, g1, g2, g3, g4]; exact t1)) zq_fan)⟩
noncomputable def zd_b0 : zq_S × List zq_S := (([], [], [(0, [(0, 1)]), (0, [(0, -1)]), (-16, [(9, 1)]), (16, [(9, -1)])], [], [], [], [(239, [(0, [(1, 1)]), (0, [(2, 1)]), (0, [(8, 1)]), (0, [(9, 1)])])], 10), [([], [], [], [], [], [], [(259, [(0, [(0, 1)]), (0, [(1, 1)]), (0, [(2, 1)]), (0, [(3, 1)]), (0, [(4, 1)]), (0, [(9, 1)]), (1, []), (0, [(5, 1)]), (0, [(6, 1)]), (0, [(7, 1)]), (0, [(8, 1)]), (1, [(8, 1)])])], 10)])
theorem zd_b0_l {P : zq_Ty} {h : zq_H} {o g n Y z a b d i c : Int} (a1 : 0 ≤ o) (a2 : 0 ≤ -o) (a3 : 0 ≤ c - 16) (a4 : 0 ≤ -c + 16) (k1 : zc_CM g n i c P h) : (zd_CB o g n Y z c 1 a b d i (i + 1) P h) := by
  exact Or.inl ⟨by omega, rfl, Or.inl ⟨by omega, zc_mp_c (k := 16) (by decide) k1 (by omega), rfl⟩⟩
theorem zd_b0_ok {w : zq_Wd} (x_CM : zj_is w 239 (fun q => zc_CM (q 0) (q 1) (q 2) (q 3))) (x_CB : zj_is w 259 (fun q => zd_CB (q 0) (q 1) (q 2) (q 3) (q 4) (q 5) (q 6) (q 7) (q 8) (q 9) (q 10) (q 11))) : zq_okG1 w zd_b0 := by
  refine ⟨rfl, rfl, zu_fac ⟨rfl, by decide⟩ zq_fan, ?_⟩
  intro r P h H hM
  have q0 : zq_ev r (0, [(0, 1)]) = r 0 := zu_e1 _ _
  have q1 : zq_ev r (0, [(0, -1)]) = -r 0 := zu_e4 _ _
  have q2 : zq_ev r (-16, [(9, 1)]) = r 9 - 16 := zu_e3 _ _ _
  have q3 : zq_ev r (16, [(9, -1)]) = -r 9 + 16 := zu_e5 _ _ _
  have q4 : zq_ev r (0, [(1, 1)]) = r 1 := zu_e1 _ _
  have q5 : zq_ev r (0, [(2, 1)]) = r 2 := zu_e1 _ _
  have q6 : zq_ev r (0, [(8, 1)]) = r 8 := zu_e1 _ _
  have q7 : zq_ev r (0, [(9, 1)]) = r 9 := zu_e1 _ _
  obtain ⟨hT, hC, hF, hS, -, hK⟩ := hM
  have c := hC.1
  have a1 := zq_all_1 c
  rw [q0] at a1
  have c := zq_all_t c
  have a2 := zq_all_1 c
  rw [q1] at a2
  have c := zq_all_t c
  have a3 := zq_all_1 c
  rw [q2] at a3
  have c := zq_all_t c
  have a4 := zq_all_1 c
  rw [q3] at a4
  have k1 := zj_use x_CM (hK)
  have k1 : zc_CM (zq_ev r (0, [(1, 1)])) (zq_ev r (0, [(2, 1)])) (zq_ev r (0, [(8, 1)])) (zq_ev r (0, [(9, 1)])) P h := k1
  simp only [q4, q5, q6, q7] at k1
  obtain t1 := zd_b0_l (P := P) (h := h) (o := r 0) (g := r 1) (n := r 2) (Y := r 3) (z := r 4) (a := r 5) (b := r 6) (d := r 7) (i := r 8) (c := r 9) a1 a2 a3 a4 k1
  obtain ⟨rq, hr⟩ : ∃ rq : Nat → Int, (∀ i, i < 10 → rq i = r i) := ⟨r, fun i hi => rfl⟩
  have v0 : rq 0 = r 0 := hr 0 (by decide)
  have v1 : rq 1 = r 1 := hr 1 (by decide)
  have v2 : rq 2 = r 2 := hr 2 (by decide)
  have v3 : rq 3 = r 3 := hr 3 (by decide)
  have v4 : rq 4 = r 4 := hr 4 (by decide)
  have v5 : rq 5 = r 5 := hr 5 (by decide)
  have v6 : rq 6 = r 6 := hr 6 (by decide)
  have v7 : rq 7 = r 7 := hr 7 (by decide)
  have v8 : rq 8 = r 8 := hr 8 (by decide)
  have v9 : rq 9 = r 9 := hr 9 (by decide)
  have g0 : zq_ev rq (0, [(0, 1)]) = r 0 := zu_f1 v0
  have g1 : zq_ev rq (0, [(1, 1)]) = r 1 := zu_f1 v1
  have g2 : zq_ev rq (0, [(2, 1)]) = r 2 := zu_f1 v2
  have g3 : zq_ev rq (0, [(3, 1)]) = r 3 := zu_f1 v3
  have g4 : zq_ev rq (0, [(4, 1)]) = r 4 := zu_f1 v4
  have g5 : zq_ev rq (0, [(9, 1)]) = r 9 := zu_f1 v9
  have g6 : zq_ev rq (1, []) = 1 := zu_e0 _ _
  have g7 : zq_ev rq (0, [(5, 1)]) = r 5 := zu_f1 v5
  have g8 : zq_ev rq (0, [(6, 1)]) = r 6 := zu_f1 v6
  have g9 : zq_ev rq (0, [(7, 1)]) = r 7 := zu_f1 v7
  have g10 : zq_ev rq (0, [(8, 1)]) = r 8 := zu_f1 v8
  have g11 : zq_ev rq (1, [(8, 1)]) = r 8 + 1 := zu_f2 v8 _
  exact ⟨_, List.mem_cons_self .., rq, hr, zq_MeS_mk rfl hT (zq_all_nil) zq_fan (zq_fan) rfl (zu_fac ((x_CB _ _ _).mpr (by show zd_CB (zq_ev rq (0, [(0, 1)])) (zq_ev rq (0, [(1, 1)])) (zq_ev rq (0, [(2, 1)])) (zq_ev rq (0, [(3, 1)])) (zq_ev rq (0, [(4, 1)])) (zq_ev rq (0, [(9, 1)])) (zq_ev rq (1, [])) (zq_ev rq (0, [(5, 1)])) (zq_ev rq (0, [(6, 1)])) (zq_ev rq (0, [(7, 1)])) (zq_ev rq (0, [(8, 1)])) (zq_ev rq (1, [(8, 1)])) P h; simp only [g0, g1, g10, g11, g2, g3, g4, g5, g6, g7, g8, g9]; exact t1)) zq_fan)⟩
noncomputable def zd_b1 : zq_S × List zq_S := (([], [], [(0, [(0, 1)]), (0, [(0, -1)]), (-14, [(9, 1)]), (15, [(9, -1)]), (0, [(5, 1)])], [], [], [], [(239, [(0, [(1, 1)]), (0, [(2, 1)]), (0, [(8, 1)]), (0, [(9, 1)])]), (255, [(0, [(0, 1)]), (0, [(1, 1)]), (0, [(2, 1)]), (0, [(3, 1)]), (0, [(4, 1)]), (0, [(5, 1)]), (1, [(8, 1)]), (0, [(10, 1)])])], 11), [([], [], [], [], [], [], [(259, [(0, [(0, 1)]), (0, [(1, 1)]), (0, [(2, 1)]), (0, [(3, 1)]), (0, [(4, 1)]), (0, [(9, 1)]), (1, []), (0, [(5, 1)]), (0, [(6, 1)]), (0, [(7, 1)]), (0, [(8, 1)]), (0, [(10, 1)])])], 11)])
theorem zd_b1_l {P : zq_Ty} {h : zq_H} {o g n Y z a b d i c e : Int} (a1 : 0 ≤ o) (a2 : 0 ≤ -o) (a3 : 0 ≤ c - 14) (a4 : 0 ≤ -c + 15) (a5 : 0 ≤ a) (k1 : zc_CM g n i c P h) (k2 : zd_SS o g n Y z a (i + 1) e P h) : (zd_CB o g n Y z c 1 a b d i e P h) := by
  have ho : o = 0 := by omega
  subst ho
  have hc : ze_c g n i = c - 13 := by
    rcases (show c = 14 ∨ c = 15 by omega) with e1 | e1
    · rw [zc_mp_c (k := 14) (m := 1) (by decide) k1 e1]; omega
    · rw [zc_mp_c (k := 15) (m := 2) (by decide) k1 e1]; omega
  exact Or.inl ⟨rfl, rfl, Or.inr ⟨by omega, hc, by omega, k2⟩⟩
theorem zd_b1_ok {w : zq_Wd} (x_CM : zj_is w 239 (fun q => zc_CM (q 0) (q 1) (q 2) (q 3))) (x_SS : zj_is w 255 (fun q => zd_SS (q 0) (q 1) (q 2) (q 3) (q 4) (q 5) (q 6) (q 7))) (x_CB : zj_is w 259 (fun q => zd_CB (q 0) (q 1) (q 2) (q 3) (q 4) (q 5) (q 6) (q 7) (q 8) (q 9) (q 10) (q 11))) : zq_okG1 w zd_b1 := by
  refine ⟨rfl, rfl, zu_fac ⟨rfl, by decide⟩ zq_fan, ?_⟩
  intro r P h H hM
  have q0 : zq_ev r (0, [(0, 1)]) = r 0 := zu_e1 _ _
  have q1 : zq_ev r (0, [(0, -1)]) = -r 0 := zu_e4 _ _
  have q2 : zq_ev r (-14, [(9, 1)]) = r 9 - 14 := zu_e3 _ _ _
  have q3 : zq_ev r (15, [(9, -1)]) = -r 9 + 15 := zu_e5 _ _ _
  have q4 : zq_ev r (0, [(5, 1)]) = r 5 := zu_e1 _ _
  have q5 : zq_ev r (0, [(1, 1)]) = r 1 := zu_e1 _ _
  have q6 : zq_ev r (0, [(2, 1)]) = r 2 := zu_e1 _ _
  have q7 : zq_ev r (0, [(8, 1)]) = r 8 := zu_e1 _ _
  have q8 : zq_ev r (0, [(9, 1)]) = r 9 := zu_e1 _ _
  have q9 : zq_ev r (0, [(3, 1)]) = r 3 := zu_e1 _ _
  have q10 : zq_ev r (0, [(4, 1)]) = r 4 := zu_e1 _ _
  have q11 : zq_ev r (1, [(8, 1)]) = r 8 + 1 := zu_e2 _ _ _
  have q12 : zq_ev r (0, [(10, 1)]) = r 10 := zu_e1 _ _
  obtain ⟨hT, hC, hF, hS, -, hK⟩ := hM
  have c := hC.1
  have a1 := zq_all_1 c
  rw [q0] at a1
  have c := zq_all_t c
  have a2 := zq_all_1 c
  rw [q1] at a2
  have c := zq_all_t c
  have a3 := zq_all_1 c
  rw [q2] at a3
  have c := zq_all_t c
  have a4 := zq_all_1 c
  rw [q3] at a4
  have c := zq_all_t c
  have a5 := zq_all_1 c
  rw [q4] at a5
  have k1 := zj_use x_CM (hK)
  have k1 : zc_CM (zq_ev r (0, [(1, 1)])) (zq_ev r (0, [(2, 1)])) (zq_ev r (0, [(8, 1)])) (zq_ev r (0, [(9, 1)])) P h := k1
  simp only [q5, q6, q7, q8] at k1
  have k2 := zj_use x_SS (zq_okX_t (hK))
  have k2 : zd_SS (zq_ev r (0, [(0, 1)])) (zq_ev r (0, [(1, 1)])) (zq_ev r (0, [(2, 1)])) (zq_ev r (0, [(3, 1)])) (zq_ev r (0, [(4, 1)])) (zq_ev r (0, [(5, 1)])) (zq_ev r (1, [(8, 1)])) (zq_ev r (0, [(10, 1)])) P h := k2
  simp only [q0, q10, q11, q12, q4, q5, q6, q9] at k2
  obtain t1 := zd_b1_l (P := P) (h := h) (o := r 0) (g := r 1) (n := r 2) (Y := r 3) (z := r 4) (a := r 5) (b := r 6) (d := r 7) (i := r 8) (c := r 9) (e := r 10) a1 a2 a3 a4 a5 k1 k2
  obtain ⟨rq, hr⟩ : ∃ rq : Nat → Int, (∀ i, i < 11 → rq i = r i) := ⟨r, fun i hi => rfl⟩
  have v0 : rq 0 = r 0 := hr 0 (by decide)
  have v1 : rq 1 = r 1 := hr 1 (by decide)
  have v2 : rq 2 = r 2 := hr 2 (by decide)
  have v3 : rq 3 = r 3 := hr 3 (by decide)
  have v4 : rq 4 = r 4 := hr 4 (by decide)
  have v5 : rq 5 = r 5 := hr 5 (by decide)
  have v6 : rq 6 = r 6 := hr 6 (by decide)
  have v7 : rq 7 = r 7 := hr 7 (by decide)
  have v8 : rq 8 = r 8 := hr 8 (by decide)
  have v9 : rq 9 = r 9 := hr 9 (by decide)
  have v10 : rq 10 = r 10 := hr 10 (by decide)
  have g0 : zq_ev rq (0, [(0, 1)]) = r 0 := zu_f1 v0
  have g1 : zq_ev rq (0, [(1, 1)]) = r 1 := zu_f1 v1
  have g2 : zq_ev rq (0, [(2, 1)]) = r 2 := zu_f1 v2
  have g3 : zq_ev rq (0, [(3, 1)]) = r 3 := zu_f1 v3
  have g4 : zq_ev rq (0, [(4, 1)]) = r 4 := zu_f1 v4
  have g5 : zq_ev rq (0, [(9, 1)]) = r 9 := zu_f1 v9
  have g6 : zq_ev rq (1, []) = 1 := zu_e0 _ _
  have g7 : zq_ev rq (0, [(5, 1)]) = r 5 := zu_f1 v5
  have g8 : zq_ev rq (0, [(6, 1)]) = r 6 := zu_f1 v6
  have g9 : zq_ev rq (0, [(7, 1)]) = r 7 := zu_f1 v7
  have g10 : zq_ev rq (0, [(8, 1)]) = r 8 := zu_f1 v8
  have g11 : zq_ev rq (0, [(10, 1)]) = r 10 := zu_f1 v10
  exact ⟨_, List.mem_cons_self .., rq, hr, zq_MeS_mk rfl hT (zq_all_nil) zq_fan (zq_fan) rfl (zu_fac ((x_CB _ _ _).mpr (by show zd_CB (zq_ev rq (0, [(0, 1)])) (zq_ev rq (0, [(1, 1)])) (zq_ev rq (0, [(2, 1)])) (zq_ev rq (0, [(3, 1)])) (zq_ev rq (0, [(4, 1)])) (zq_ev rq (0, [(9, 1)])) (zq_ev rq (1, [])) (zq_ev rq (0, [(5, 1)])) (zq_ev rq (0, [(6, 1)])) (zq_ev rq (0, [(7, 1)])) (zq_ev rq (0, [(8, 1)])) (zq_ev rq (0, [(10, 1)])) P h; simp only [g0, g1, g10, g11, g2, g3, g4, g5, g6, g7, g8, g9]; exact t1)) zq_fan)⟩
noncomputable def zd_o17 : zq_S × List zq_S := (([], [], [(-1, [(0, 1)]), (1, [(0, -1)]), (-17, [(12, 1)]), (17, [(12, -1)]), (0, [(5, 1)]), (0, [(6, 1)]), (0, [(7, 1)])], [], [], [], [(239, [(0, [(1, 1)]), (0, [(2, 1)]), (0, [(8, 1)]), (0, [(12, 1)])]), (255, [(0, [(0, 1)]), (0, [(1, 1)]), (0, [(2, 1)]), (0, [(3, 1)]), (0, [(4, 1)]), (0, [(5, 1)]), (1, [(8, 1)]), (0, [(9, 1)])]), (239, [(0, [(1, 1)]), (0, [(2, 1)]), (0, [(9, 1)]), (21, [])]), (255, [(0, [(0, 1)]), (0, [(1, 1)]), (0, [(2, 1)]), (0, [(3, 1)]), (0, [(4, 1)]), (0, [(6, 1)]), (1, [(9, 1)]), (0, [(10, 1)])]), (239, [(0, [(1, 1)]), (0, [(2, 1)]), (0, [(10, 1)]), (23, [])]), (255, [(0, [(0, 1)]), (0, [(1, 1)]), (0, [(2, 1)]), (0, [(3, 1)]), (0, [(4, 1)]), (0, [(7, 1)]), (1, [(10, 1)]), (0, [(11, 1)])])], 13), [([], [], [], [], [], [], [(258, [(0, [(1, 1)]), (0, [(2, 1)]), (0, [(3, 1)]), (0, [(4, 1)]), (0, [(12, 1)]), (0, [(5, 1)]), (0, [(6, 1)]), (0, [(7, 1)]), (0, [(8, 1)]), (0, [(11, 1)])])], 13)])
theorem zd_o17_l {P : zq_Ty} {h : zq_H} {o g n Y z a b d i p q e c : Int} (a1 : 0 ≤ o - 1) (a2 : 0 ≤ -o + 1) (a3 : 0 ≤ c - 17) (a4 : 0 ≤ -c + 17) (a5 : 0 ≤ a) (a6 : 0 ≤ b) (a7 : 0 ≤ d) (k1 : zc_CM g n i c P h) (k2 : zd_SS o g n Y z a (i + 1) p P h) (k3 : zc_CM g n p 21 P h) (k4 : zd_SS o g n Y z b (p + 1) q P h) (k5 : zc_CM g n q 23 P h) (k6 : zd_SS o g n Y z d (q + 1) e P h) : (zd_OB g n Y z c a b d i e P h) := by
  have ho : o = 1 := by omega
  subst ho
  exact Or.inl ⟨by omega, zc_mp_c (k := 17) (by decide) k1 (by omega), by omega, by omega, by omega, p, q, k2, zc_mp_c (by decide) k3 rfl, k4, zc_mp_c (by decide) k5 rfl, k6⟩
theorem zd_o17_ok {w : zq_Wd} (x_CM : zj_is w 239 (fun q => zc_CM (q 0) (q 1) (q 2) (q 3))) (x_SS : zj_is w 255 (fun q => zd_SS (q 0) (q 1) (q 2) (q 3) (q 4) (q 5) (q 6) (q 7))) (x_OB : zj_is w 258 (fun q => zd_OB (q 0) (q 1) (q 2) (q 3) (q 4) (q 5) (q 6) (q 7) (q 8) (q 9))) : zq_okG1 w zd_o17 := by
  refine ⟨rfl, rfl, zu_fac ⟨rfl, by decide⟩ zq_fan, ?_⟩
  intro r P h H hM
  have q0 : zq_ev r (-1, [(0, 1)]) = r 0 - 1 := zu_e3 _ _ _
  have q1 : zq_ev r (1, [(0, -1)]) = -r 0 + 1 := zu_e5 _ _ _
  have q2 : zq_ev r (-17, [(12, 1)]) = r 12 - 17 := zu_e3 _ _ _
  have q3 : zq_ev r (17, [(12, -1)]) = -r 12 + 17 := zu_e5 _ _ _
  have q4 : zq_ev r (0, [(5, 1)]) = r 5 := zu_e1 _ _
  have q5 : zq_ev r (0, [(6, 1)]) = r 6 := zu_e1 _ _
  have q6 : zq_ev r (0, [(7, 1)]) = r 7 := zu_e1 _ _
  have q7 : zq_ev r (0, [(1, 1)]) = r 1 := zu_e1 _ _
  have q8 : zq_ev r (0, [(2, 1)]) = r 2 := zu_e1 _ _
  have q9 : zq_ev r (0, [(8, 1)]) = r 8 := zu_e1 _ _
  have q10 : zq_ev r (0, [(12, 1)]) = r 12 := zu_e1 _ _
  have q11 : zq_ev r (0, [(0, 1)]) = r 0 := zu_e1 _ _
  have q12 : zq_ev r (0, [(3, 1)]) = r 3 := zu_e1 _ _
  have q13 : zq_ev r (0, [(4, 1)]) = r 4 := zu_e1 _ _
  have q14 : zq_ev r (1, [(8, 1)]) = r 8 + 1 := zu_e2 _ _ _
  have q15 : zq_ev r (0, [(9, 1)]) = r 9 := zu_e1 _ _
  have q16 : zq_ev r (21, []) = 21 := zu_e0 _ _
  have q17 : zq_ev r (1, [(9, 1)]) = r 9 + 1 := zu_e2 _ _ _
  have q18 : zq_ev r (0, [(10, 1)]) = r 10 := zu_e1 _ _
  have q19 : zq_ev r (23, []) = 23 := zu_e0 _ _
  have q20 : zq_ev r (1, [(10, 1)]) = r 10 + 1 := zu_e2 _ _ _
  have q21 : zq_ev r (0, [(11, 1)]) = r 11 := zu_e1 _ _
  obtain ⟨hT, hC, hF, hS, -, hK⟩ := hM
  have c := hC.1
  have a1 := zq_all_1 c
  rw [q0] at a1
  have c := zq_all_t c
  have a2 := zq_all_1 c
  rw [q1] at a2
  have c := zq_all_t c
  have a3 := zq_all_1 c
  rw [q2] at a3
  have c := zq_all_t c
  have a4 := zq_all_1 c
  rw [q3] at a4
  have c := zq_all_t c
  have a5 := zq_all_1 c
  rw [q4] at a5
  have c := zq_all_t c
  have a6 := zq_all_1 c
  rw [q5] at a6
  have c := zq_all_t c
  have a7 := zq_all_1 c
  rw [q6] at a7
  have k1 := zj_use x_CM (hK)
  have k1 : zc_CM (zq_ev r (0, [(1, 1)])) (zq_ev r (0, [(2, 1)])) (zq_ev r (0, [(8, 1)])) (zq_ev r (0, [(12, 1)])) P h := k1
  simp only [q10, q7, q8, q9] at k1
  have k2 := zj_use x_SS (zq_okX_t (hK))
  have k2 : zd_SS (zq_ev r (0, [(0, 1)])) (zq_ev r (0, [(1, 1)])) (zq_ev r (0, [(2, 1)])) (zq_ev r (0, [(3, 1)])) (zq_ev r (0, [(4, 1)])) (zq_ev r (0, [(5, 1)])) (zq_ev r (1, [(8, 1)])) (zq_ev r (0, [(9, 1)])) P h := k2
  simp only [q11, q12, q13, q14, q15, q4, q7, q8] at k2
  have k3 := zj_use x_CM (zq_okX_t (zq_okX_t (hK)))
  have k3 : zc_CM (zq_ev r (0, [(1, 1)])) (zq_ev r (0, [(2, 1)])) (zq_ev r (0, [(9, 1)])) (zq_ev r (21, [])) P h := k3
  simp only [q15, q16, q7, q8] at k3
  have k4 := zj_use x_SS (zq_okX_t (zq_okX_t (zq_okX_t (hK))))
  have k4 : zd_SS (zq_ev r (0, [(0, 1)])) (zq_ev r (0, [(1, 1)])) (zq_ev r (0, [(2, 1)])) (zq_ev r (0, [(3, 1)])) (zq_ev r (0, [(4, 1)])) (zq_ev r (0, [(6, 1)])) (zq_ev r (1, [(9, 1)])) (zq_ev r (0, [(10, 1)])) P h := k4
  simp only [q11, q12, q13, q17, q18, q5, q7, q8] at k4
  have k5 := zj_use x_CM (zq_okX_t (zq_okX_t (zq_okX_t (zq_okX_t (hK)))))
  have k5 : zc_CM (zq_ev r (0, [(1, 1)])) (zq_ev r (0, [(2, 1)])) (zq_ev r (0, [(10, 1)])) (zq_ev r (23, [])) P h := k5
  simp only [q18, q19, q7, q8] at k5
  have k6 := zj_use x_SS (zq_okX_t (zq_okX_t (zq_okX_t (zq_okX_t (zq_okX_t (hK))))))
  have k6 : zd_SS (zq_ev r (0, [(0, 1)])) (zq_ev r (0, [(1, 1)])) (zq_ev r (0, [(2, 1)])) (zq_ev r (0, [(3, 1)])) (zq_ev r (0, [(4, 1)])) (zq_ev r (0, [(7, 1)])) (zq_ev r (1, [(10, 1)])) (zq_ev r (0, [(11, 1)])) P h := k6
  simp only [q11, q12, q13, q20, q21, q6, q7, q8] at k6
  obtain t1 := zd_o17_l (P := P) (h := h) (o := r 0) (g := r 1) (n := r 2) (Y := r 3) (z := r 4) (a := r 5) (b := r 6) (d := r 7) (i := r 8) (p := r 9) (q := r 10) (e := r 11) (c := r 12) a1 a2 a3 a4 a5 a6 a7 k1 k2 k3 k4 k5 k6
  obtain ⟨rq, hr⟩ : ∃ rq : Nat → Int, (∀ i, i < 13 → rq i = r i) := ⟨r, fun i hi => rfl⟩
  have v1 : rq 1 = r 1 := hr 1 (by decide)
  have v2 : rq 2 = r 2 := hr 2 (by decide)
  have v3 : rq 3 = r 3 := hr 3 (by decide)
  have v4 : rq 4 = r 4 := hr 4 (by decide)
  have v5 : rq 5 = r 5 := hr 5 (by decide)
  have v6 : rq 6 = r 6 := hr 6 (by decide)
  have v7 : rq 7 = r 7 := hr 7 (by decide)
  have v8 : rq 8 = r 8 := hr 8 (by decide)
  have v11 : rq 11 = r 11 := hr 11 (by decide)
  have v12 : rq 12 = r 12 := hr 12 (by decide)
  have g0 : zq_ev rq (0, [(1, 1)]) = r 1 := zu_f1 v1
  have g1 : zq_ev rq (0, [(2, 1)]) = r 2 := zu_f1 v2
  have g2 : zq_ev rq (0, [(3, 1)]) = r 3 := zu_f1 v3
  have g3 : zq_ev rq (0, [(4, 1)]) = r 4 := zu_f1 v4
  have g4 : zq_ev rq (0, [(12, 1)]) = r 12 := zu_f1 v12
  have g5 : zq_ev rq (0, [(5, 1)]) = r 5 := zu_f1 v5
  have g6 : zq_ev rq (0, [(6, 1)]) = r 6 := zu_f1 v6
  have g7 : zq_ev rq (0, [(7, 1)]) = r 7 := zu_f1 v7
  have g8 : zq_ev rq (0, [(8, 1)]) = r 8 := zu_f1 v8
  have g9 : zq_ev rq (0, [(11, 1)]) = r 11 := zu_f1 v11
  exact ⟨_, List.mem_cons_self .., rq, hr, zq_MeS_mk rfl hT (zq_all_nil) zq_fan (zq_fan) rfl (zu_fac ((x_OB _ _ _).mpr (by show zd_OB (zq_ev rq (0, [(1, 1)])) (zq_ev rq (0, [(2, 1)])) (zq_ev rq (0, [(3, 1)])) (zq_ev rq (0, [(4, 1)])) (zq_ev rq (0, [(12, 1)])) (zq_ev rq (0, [(5, 1)])) (zq_ev rq (0, [(6, 1)])) (zq_ev rq (0, [(7, 1)])) (zq_ev rq (0, [(8, 1)])) (zq_ev rq (0, [(11, 1)])) P h; simp only [g0, g1, g2, g3, g4, g5, g6, g7, g8, g9]; exact t1)) zq_fan)⟩
noncomputable def zd_o18 : zq_S × List zq_S := (([], [], [(-1, [(0, 1)]), (1, [(0, -1)]), (-18, [(10, 1)]), (18, [(10, -1)]), (0, [(5, 1)]), (0, [(6, 1)])], [], [], [], [(239, [(0, [(1, 1)]), (0, [(2, 1)]), (0, [(7, 1)]), (0, [(10, 1)])]), (255, [(0, [(0, 1)]), (0, [(1, 1)]), (0, [(2, 1)]), (0, [(3, 1)]), (0, [(4, 1)]), (0, [(5, 1)]), (1, [(7, 1)]), (0, [(8, 1)])]), (239, [(0, [(1, 1)]), (0, [(2, 1)]), (0, [(8, 1)]), (22, [])]), (255, [(0, [(0, 1)]), (0, [(1, 1)]), (0, [(2, 1)]), (0, [(3, 1)]), (0, [(4, 1)]), (0, [(6, 1)]), (1, [(8, 1)]), (0, [(9, 1)])])], 11), [([], [], [], [], [], [], [(258, [(0, [(1, 1)]), (0, [(2, 1)]), (0, [(3, 1)]), (0, [(4, 1)]), (0, [(10, 1)]), (0, [(5, 1)]), (0, [(6, 1)]), (-1, []), (0, [(7, 1)]), (0, [(9, 1)])])], 11)])
theorem zd_o18_l {P : zq_Ty} {h : zq_H} {o g n Y z a b i p e c : Int} (a1 : 0 ≤ o - 1) (a2 : 0 ≤ -o + 1) (a3 : 0 ≤ c - 18) (a4 : 0 ≤ -c + 18) (a5 : 0 ≤ a) (a6 : 0 ≤ b) (k1 : zc_CM g n i c P h) (k2 : zd_SS o g n Y z a (i + 1) p P h) (k3 : zc_CM g n p 22 P h) (k4 : zd_SS o g n Y z b (p + 1) e P h) : (zd_OB g n Y z c a b (-1) i e P h) := by
  have ho : o = 1 := by omega
  subst ho
  exact Or.inr (Or.inl ⟨by omega, zc_mp_c (k := 18) (by decide) k1 (by omega), by omega, by omega, rfl, p, k2, zc_mp_c (by decide) k3 rfl, k4⟩)
theorem zd_o18_ok {w : zq_Wd} (x_CM : zj_is w 239 (fun q => zc_CM (q 0) (q 1) (q 2) (q 3))) (x_SS : zj_is w 255 (fun q => zd_SS (q 0) (q 1) (q 2) (q 3) (q 4) (q 5) (q 6) (q 7))) (x_OB : zj_is w 258 (fun q => zd_OB (q 0) (q 1) (q 2) (q 3) (q 4) (q 5) (q 6) (q 7) (q 8) (q 9))) : zq_okG1 w zd_o18 := by
  refine ⟨rfl, rfl, zu_fac ⟨rfl, by decide⟩ zq_fan, ?_⟩
  intro r P h H hM
  have q0 : zq_ev r (-1, [(0, 1)]) = r 0 - 1 := zu_e3 _ _ _
  have q1 : zq_ev r (1, [(0, -1)]) = -r 0 + 1 := zu_e5 _ _ _
  have q2 : zq_ev r (-18, [(10, 1)]) = r 10 - 18 := zu_e3 _ _ _
  have q3 : zq_ev r (18, [(10, -1)]) = -r 10 + 18 := zu_e5 _ _ _
  have q4 : zq_ev r (0, [(5, 1)]) = r 5 := zu_e1 _ _
  have q5 : zq_ev r (0, [(6, 1)]) = r 6 := zu_e1 _ _
  have q6 : zq_ev r (0, [(1, 1)]) = r 1 := zu_e1 _ _
  have q7 : zq_ev r (0, [(2, 1)]) = r 2 := zu_e1 _ _
  have q8 : zq_ev r (0, [(7, 1)]) = r 7 := zu_e1 _ _
  have q9 : zq_ev r (0, [(10, 1)]) = r 10 := zu_e1 _ _
  have q10 : zq_ev r (0, [(0, 1)]) = r 0 := zu_e1 _ _
  have q11 : zq_ev r (0, [(3, 1)]) = r 3 := zu_e1 _ _
  have q12 : zq_ev r (0, [(4, 1)]) = r 4 := zu_e1 _ _
  have q13 : zq_ev r (1, [(7, 1)]) = r 7 + 1 := zu_e2 _ _ _
  have q14 : zq_ev r (0, [(8, 1)]) = r 8 := zu_e1 _ _
  have q15 : zq_ev r (22, []) = 22 := zu_e0 _ _
  have q16 : zq_ev r (1, [(8, 1)]) = r 8 + 1 := zu_e2 _ _ _
  have q17 : zq_ev r (0, [(9, 1)]) = r 9 := zu_e1 _ _
  obtain ⟨hT, hC, hF, hS, -, hK⟩ := hM
  have c := hC.1
  have a1 := zq_all_1 c
  rw [q0] at a1
  have c := zq_all_t c
  have a2 := zq_all_1 c
  rw [q1] at a2
  have c := zq_all_t c
  have a3 := zq_all_1 c
  rw [q2] at a3
  have c := zq_all_t c
  have a4 := zq_all_1 c
  rw [q3] at a4
  have c := zq_all_t c
  have a5 := zq_all_1 c
  rw [q4] at a5
  have c := zq_all_t c
  have a6 := zq_all_1 c
  rw [q5] at a6
  have k1 := zj_use x_CM (hK)
  have k1 : zc_CM (zq_ev r (0, [(1, 1)])) (zq_ev r (0, [(2, 1)])) (zq_ev r (0, [(7, 1)])) (zq_ev r (0, [(10, 1)])) P h := k1
  simp only [q6, q7, q8, q9] at k1
  have k2 := zj_use x_SS (zq_okX_t (hK))
  have k2 : zd_SS (zq_ev r (0, [(0, 1)])) (zq_ev r (0, [(1, 1)])) (zq_ev r (0, [(2, 1)])) (zq_ev r (0, [(3, 1)])) (zq_ev r (0, [(4, 1)])) (zq_ev r (0, [(5, 1)])) (zq_ev r (1, [(7, 1)])) (zq_ev r (0, [(8, 1)])) P h := k2
  simp only [q10, q11, q12, q13, q14, q4, q6, q7] at k2
  have k3 := zj_use x_CM (zq_okX_t (zq_okX_t (hK)))
  have k3 : zc_CM (zq_ev r (0, [(1, 1)])) (zq_ev r (0, [(2, 1)])) (zq_ev r (0, [(8, 1)])) (zq_ev r (22, [])) P h := k3
  simp only [q14, q15, q6, q7] at k3
  have k4 := zj_use x_SS (zq_okX_t (zq_okX_t (zq_okX_t (hK))))
  have k4 : zd_SS (zq_ev r (0, [(0, 1)])) (zq_ev r (0, [(1, 1)])) (zq_ev r (0, [(2, 1)])) (zq_ev r (0, [(3, 1)])) (zq_ev r (0, [(4, 1)])) (zq_ev r (0, [(6, 1)])) (zq_ev r (1, [(8, 1)])) (zq_ev r (0, [(9, 1)])) P h := k4
  simp only [q10, q11, q12, q16, q17, q5, q6, q7] at k4
  obtain t1 := zd_o18_l (P := P) (h := h) (o := r 0) (g := r 1) (n := r 2) (Y := r 3) (z := r 4) (a := r 5) (b := r 6) (i := r 7) (p := r 8) (e := r 9) (c := r 10) a1 a2 a3 a4 a5 a6 k1 k2 k3 k4
  obtain ⟨rq, hr⟩ : ∃ rq : Nat → Int, (∀ i, i < 11 → rq i = r i) := ⟨r, fun i hi => rfl⟩
  have v1 : rq 1 = r 1 := hr 1 (by decide)
  have v2 : rq 2 = r 2 := hr 2 (by decide)
  have v3 : rq 3 = r 3 := hr 3 (by decide)
  have v4 : rq 4 = r 4 := hr 4 (by decide)
  have v5 : rq 5 = r 5 := hr 5 (by decide)
  have v6 : rq 6 = r 6 := hr 6 (by decide)
  have v7 : rq 7 = r 7 := hr 7 (by decide)
  have v9 : rq 9 = r 9 := hr 9 (by decide)
  have v10 : rq 10 = r 10 := hr 10 (by decide)
  have g0 : zq_ev rq (0, [(1, 1)]) = r 1 := zu_f1 v1
  have g1 : zq_ev rq (0, [(2, 1)]) = r 2 := zu_f1 v2
  have g2 : zq_ev rq (0, [(3, 1)]) = r 3 := zu_f1 v3
  have g3 : zq_ev rq (0, [(4, 1)]) = r 4 := zu_f1 v4
  have g4 : zq_ev rq (0, [(10, 1)]) = r 10 := zu_f1 v10
  have g5 : zq_ev rq (0, [(5, 1)]) = r 5 := zu_f1 v5
  have g6 : zq_ev rq (0, [(6, 1)]) = r 6 := zu_f1 v6
  have g7 : zq_ev rq (-1, []) = -1 := zu_e0 _ _
  have g8 : zq_ev rq (0, [(7, 1)]) = r 7 := zu_f1 v7
  have g9 : zq_ev rq (0, [(9, 1)]) = r 9 := zu_f1 v9
  exact ⟨_, List.mem_cons_self .., rq, hr, zq_MeS_mk rfl hT (zq_all_nil) zq_fan (zq_fan) rfl (zu_fac ((x_OB _ _ _).mpr (by show zd_OB (zq_ev rq (0, [(1, 1)])) (zq_ev rq (0, [(2, 1)])) (zq_ev rq (0, [(3, 1)])) (zq_ev rq (0, [(4, 1)])) (zq_ev rq (0, [(10, 1)])) (zq_ev rq (0, [(5, 1)])) (zq_ev rq (0, [(6, 1)])) (zq_ev rq (-1, [])) (zq_ev rq (0, [(7, 1)])) (zq_ev rq (0, [(9, 1)])) P h; simp only [g0, g1, g2, g3, g4, g5, g6, g7, g8, g9]; exact t1)) zq_fan)⟩
noncomputable def zd_o19 : zq_S × List zq_S := (([], [], [(-1, [(0, 1)]), (1, [(0, -1)]), (-19, [(8, 1)]), (19, [(8, -1)]), (0, [(5, 1)])], [], [], [], [(239, [(0, [(1, 1)]), (0, [(2, 1)]), (0, [(6, 1)]), (0, [(8, 1)])]), (255, [(0, [(0, 1)]), (0, [(1, 1)]), (0, [(2, 1)]), (0, [(3, 1)]), (0, [(4, 1)]), (0, [(5, 1)]), (1, [(6, 1)]), (0, [(7, 1)])])], 9), [([], [], [], [], [], [], [(258, [(0, [(1, 1)]), (0, [(2, 1)]), (0, [(3, 1)]), (0, [(4, 1)]), (0, [(8, 1)]), (0, [(5, 1)]), (-1, []), (-1, []), (0, [(6, 1)]), (0, [(7, 1)])])], 9)])
theorem zd_o19_l {P : zq_Ty} {h : zq_H} {o g n Y z a i e c : Int} (a1 : 0 ≤ o - 1) (a2 : 0 ≤ -o + 1) (a3 : 0 ≤ c - 19) (a4 : 0 ≤ -c + 19) (a5 : 0 ≤ a) (k1 : zc_CM g n i c P h) (k2 : zd_SS o g n Y z a (i + 1) e P h) : (zd_OB g n Y z c a (-1) (-1) i e P h) := by
  have ho : o = 1 := by omega
  subst ho
  exact Or.inr (Or.inr (Or.inl ⟨by omega, zc_mp_c (k := 19) (by decide) k1 (by omega), by omega, rfl, rfl, k2⟩))
theorem zd_o19_ok {w : zq_Wd} (x_CM : zj_is w 239 (fun q => zc_CM (q 0) (q 1) (q 2) (q 3))) (x_SS : zj_is w 255 (fun q => zd_SS (q 0) (q 1) (q 2) (q 3) (q 4) (q 5) (q 6) (q 7))) (x_OB : zj_is w 258 (fun q => zd_OB (q 0) (q 1) (q 2) (q 3) (q 4) (q 5) (q 6) (q 7) (q 8) (q 9))) : zq_okG1 w zd_o19 := by
  refine ⟨rfl, rfl, zu_fac ⟨rfl, by decide⟩ zq_fan, ?_⟩
  intro r P h H hM
  have q0 : zq_ev r (-1, [(0, 1)]) = r 0 - 1 := zu_e3 _ _ _
  have q1 : zq_ev r (1, [(0, -1)]) = -r 0 + 1 := zu_e5 _ _ _
  have q2 : zq_ev r (-19, [(8, 1)]) = r 8 - 19 := zu_e3 _ _ _
  have q3 : zq_ev r (19, [(8, -1)]) = -r 8 + 19 := zu_e5 _ _ _
  have q4 : zq_ev r (0, [(5, 1)]) = r 5 := zu_e1 _ _
  have q5 : zq_ev r (0, [(1, 1)]) = r 1 := zu_e1 _ _
  have q6 : zq_ev r (0, [(2, 1)]) = r 2 := zu_e1 _ _
  have q7 : zq_ev r (0, [(6, 1)]) = r 6 := zu_e1 _ _
  have q8 : zq_ev r (0, [(8, 1)]) = r 8 := zu_e1 _ _
  have q9 : zq_ev r (0, [(0, 1)]) = r 0 := zu_e1 _ _
  have q10 : zq_ev r (0, [(3, 1)]) = r 3 := zu_e1 _ _
  have q11 : zq_ev r (0, [(4, 1)]) = r 4 := zu_e1 _ _
  have q12 : zq_ev r (1, [(6, 1)]) = r 6 + 1 := zu_e2 _ _ _
  have q13 : zq_ev r (0, [(7, 1)]) = r 7 := zu_e1 _ _
  obtain ⟨hT, hC, hF, hS, -, hK⟩ := hM
  have c := hC.1
  have a1 := zq_all_1 c
  rw [q0] at a1
  have c := zq_all_t c
  have a2 := zq_all_1 c
  rw [q1] at a2
  have c := zq_all_t c
  have a3 := zq_all_1 c
  rw [q2] at a3
  have c := zq_all_t c
  have a4 := zq_all_1 c
  rw [q3] at a4
  have c := zq_all_t c
  have a5 := zq_all_1 c
  rw [q4] at a5
  have k1 := zj_use x_CM (hK)
  have k1 : zc_CM (zq_ev r (0, [(1, 1)])) (zq_ev r (0, [(2, 1)])) (zq_ev r (0, [(6, 1)])) (zq_ev r (0, [(8, 1)])) P h := k1
  simp only [q5, q6, q7, q8] at k1
  have k2 := zj_use x_SS (zq_okX_t (hK))
  have k2 : zd_SS (zq_ev r (0, [(0, 1)])) (zq_ev r (0, [(1, 1)])) (zq_ev r (0, [(2, 1)])) (zq_ev r (0, [(3, 1)])) (zq_ev r (0, [(4, 1)])) (zq_ev r (0, [(5, 1)])) (zq_ev r (1, [(6, 1)])) (zq_ev r (0, [(7, 1)])) P h := k2
  simp only [q10, q11, q12, q13, q4, q5, q6, q9] at k2
  obtain t1 := zd_o19_l (P := P) (h := h) (o := r 0) (g := r 1) (n := r 2) (Y := r 3) (z := r 4) (a := r 5) (i := r 6) (e := r 7) (c := r 8) a1 a2 a3 a4 a5 k1 k2
  obtain ⟨rq, hr⟩ : ∃ rq : Nat → Int, (∀ i, i < 9 → rq i = r i) := ⟨r, fun i hi => rfl⟩
  have v1 : rq 1 = r 1 := hr 1 (by decide)
  have v2 : rq 2 = r 2 := hr 2 (by decide)
  have v3 : rq 3 = r 3 := hr 3 (by decide)
  have v4 : rq 4 = r 4 := hr 4 (by decide)
  have v5 : rq 5 = r 5 := hr 5 (by decide)
  have v6 : rq 6 = r 6 := hr 6 (by decide)
  have v7 : rq 7 = r 7 := hr 7 (by decide)
  have v8 : rq 8 = r 8 := hr 8 (by decide)
  have g0 : zq_ev rq (0, [(1, 1)]) = r 1 := zu_f1 v1
  have g1 : zq_ev rq (0, [(2, 1)]) = r 2 := zu_f1 v2
  have g2 : zq_ev rq (0, [(3, 1)]) = r 3 := zu_f1 v3
  have g3 : zq_ev rq (0, [(4, 1)]) = r 4 := zu_f1 v4
  have g4 : zq_ev rq (0, [(8, 1)]) = r 8 := zu_f1 v8
  have g5 : zq_ev rq (0, [(5, 1)]) = r 5 := zu_f1 v5
  have g6 : zq_ev rq (-1, []) = -1 := zu_e0 _ _
  have g7 : zq_ev rq (0, [(6, 1)]) = r 6 := zu_f1 v6
  have g8 : zq_ev rq (0, [(7, 1)]) = r 7 := zu_f1 v7
  exact ⟨_, List.mem_cons_self .., rq, hr, zq_MeS_mk rfl hT (zq_all_nil) zq_fan (zq_fan) rfl (zu_fac ((x_OB _ _ _).mpr (by show zd_OB (zq_ev rq (0, [(1, 1)])) (zq_ev rq (0, [(2, 1)])) (zq_ev rq (0, [(3, 1)])) (zq_ev rq (0, [(4, 1)])) (zq_ev rq (0, [(8, 1)])) (zq_ev rq (0, [(5, 1)])) (zq_ev rq (-1, [])) (zq_ev rq (-1, [])) (zq_ev rq (0, [(6, 1)])) (zq_ev rq (0, [(7, 1)])) P h; simp only [g0, g1, g2, g3, g4, g5, g6, g7, g8]; exact t1)) zq_fan)⟩
noncomputable def zd_o20 : zq_S × List zq_S := (([], [], [(-1, [(0, 1)]), (1, [(0, -1)]), (-20, [(6, 1)]), (20, [(6, -1)])], [], [], [], [(239, [(0, [(1, 1)]), (0, [(2, 1)]), (0, [(5, 1)]), (0, [(6, 1)])])], 7), [([], [], [], [], [], [], [(258, [(0, [(1, 1)]), (0, [(2, 1)]), (0, [(3, 1)]), (0, [(4, 1)]), (0, [(6, 1)]), (-1, []), (-1, []), (-1, []), (0, [(5, 1)]), (1, [(5, 1)])])], 7)])
theorem zd_o20_l {P : zq_Ty} {h : zq_H} {o g n Y z i c : Int} (a1 : 0 ≤ o - 1) (a2 : 0 ≤ -o + 1) (a3 : 0 ≤ c - 20) (a4 : 0 ≤ -c + 20) (k1 : zc_CM g n i c P h) : (zd_OB g n Y z c (-1) (-1) (-1) i (i + 1) P h) := by
  exact Or.inr (Or.inr (Or.inr ⟨by omega, zc_mp_c (k := 20) (by decide) k1 (by omega), rfl, rfl, rfl, rfl⟩))
theorem zd_o20_ok {w : zq_Wd} (x_CM : zj_is w 239 (fun q => zc_CM (q 0) (q 1) (q 2) (q 3))) (x_OB : zj_is w 258 (fun q => zd_OB (q 0) (q 1) (q 2) (q 3) (q 4) (q 5) (q 6) (q 7) (q 8) (q 9))) : zq_okG1 w zd_o20 := by
  refine ⟨rfl, rfl, zu_fac ⟨rfl, by decide⟩ zq_fan, ?_⟩
  intro r P h H hM
  have q0 : zq_ev r (-1, [(0, 1)]) = r 0 - 1 := zu_e3 _ _ _
  have q1 : zq_ev r (1, [(0, -1)]) = -r 0 + 1 := zu_e5 _ _ _
  have q2 : zq_ev r (-20, [(6, 1)]) = r 6 - 20 := zu_e3 _ _ _
  have q3 : zq_ev r (20, [(6, -1)]) = -r 6 + 20 := zu_e5 _ _ _
  have q4 : zq_ev r (0, [(1, 1)]) = r 1 := zu_e1 _ _
  have q5 : zq_ev r (0, [(2, 1)]) = r 2 := zu_e1 _ _
  have q6 : zq_ev r (0, [(5, 1)]) = r 5 := zu_e1 _ _
  have q7 : zq_ev r (0, [(6, 1)]) = r 6 := zu_e1 _ _
  obtain ⟨hT, hC, hF, hS, -, hK⟩ := hM
  have c := hC.1
  have a1 := zq_all_1 c
  rw [q0] at a1
  have c := zq_all_t c
  have a2 := zq_all_1 c
  rw [q1] at a2
  have c := zq_all_t c
  have a3 := zq_all_1 c
  rw [q2] at a3
  have c := zq_all_t c
  have a4 := zq_all_1 c
  rw [q3] at a4
  have k1 := zj_use x_CM (hK)
  have k1 : zc_CM (zq_ev r (0, [(1, 1)])) (zq_ev r (0, [(2, 1)])) (zq_ev r (0, [(5, 1)])) (zq_ev r (0, [(6, 1)])) P h := k1
  simp only [q4, q5, q6, q7] at k1
  obtain t1 := zd_o20_l (P := P) (h := h) (o := r 0) (g := r 1) (n := r 2) (Y := r 3) (z := r 4) (i := r 5) (c := r 6) a1 a2 a3 a4 k1
  obtain ⟨rq, hr⟩ : ∃ rq : Nat → Int, (∀ i, i < 7 → rq i = r i) := ⟨r, fun i hi => rfl⟩
  have v1 : rq 1 = r 1 := hr 1 (by decide)
  have v2 : rq 2 = r 2 := hr 2 (by decide)
  have v3 : rq 3 = r 3 := hr 3 (by decide)
  have v4 : rq 4 = r 4 := hr 4 (by decide)
  have v5 : rq 5 = r 5 := hr 5 (by decide)
  have v6 : rq 6 = r 6 := hr 6 (by decide)
  have g0 : zq_ev rq (0, [(1, 1)]) = r 1 := zu_f1 v1
  have g1 : zq_ev rq (0, [(2, 1)]) = r 2 := zu_f1 v2
  have g2 : zq_ev rq (0, [(3, 1)]) = r 3 := zu_f1 v3
  have g3 : zq_ev rq (0, [(4, 1)]) = r 4 := zu_f1 v4
  have g4 : zq_ev rq (0, [(6, 1)]) = r 6 := zu_f1 v6
  have g5 : zq_ev rq (-1, []) = -1 := zu_e0 _ _
  have g6 : zq_ev rq (0, [(5, 1)]) = r 5 := zu_f1 v5
  have g7 : zq_ev rq (1, [(5, 1)]) = r 5 + 1 := zu_f2 v5 _
  exact ⟨_, List.mem_cons_self .., rq, hr, zq_MeS_mk rfl hT (zq_all_nil) zq_fan (zq_fan) rfl (zu_fac ((x_OB _ _ _).mpr (by show zd_OB (zq_ev rq (0, [(1, 1)])) (zq_ev rq (0, [(2, 1)])) (zq_ev rq (0, [(3, 1)])) (zq_ev rq (0, [(4, 1)])) (zq_ev rq (0, [(6, 1)])) (zq_ev rq (-1, [])) (zq_ev rq (-1, [])) (zq_ev rq (-1, [])) (zq_ev rq (0, [(5, 1)])) (zq_ev rq (1, [(5, 1)])) P h; simp only [g0, g1, g2, g3, g4, g5, g6, g7]; exact t1)) zq_fan)⟩
noncomputable def zd_ob : zq_S × List zq_S := (([], [], [(-1, [(0, 1)]), (1, [(0, -1)])], [], [], [], [(258, [(0, [(1, 1)]), (0, [(2, 1)]), (0, [(3, 1)]), (0, [(4, 1)]), (0, [(5, 1)]), (0, [(7, 1)]), (0, [(8, 1)]), (0, [(9, 1)]), (0, [(10, 1)]), (0, [(11, 1)])]), (257, [(0, [(1, 1)]), (0, [(2, 1)]), (0, [(6, 1)]), (0, [(11, 1)]), (0, [(12, 1)])])], 13), [([], [], [], [], [], [], [(259, [(0, [(0, 1)]), (0, [(1, 1)]), (0, [(2, 1)]), (0, [(3, 1)]), (0, [(4, 1)]), (0, [(5, 1)]), (0, [(6, 1)]), (0, [(7, 1)]), (0, [(8, 1)]), (0, [(9, 1)]), (0, [(10, 1)]), (0, [(12, 1)])])], 13)])
theorem zd_ob_l {P : zq_Ty} {h : zq_H} {o g n Y z k t a b d i f e : Int} (a1 : 0 ≤ o - 1) (a2 : 0 ≤ -o + 1) (k1 : zd_OB g n Y z k a b d i f P h) (k2 : zd_TM g n t f e P h) : (zd_CB o g n Y z k t a b d i e P h) := by
  exact Or.inr ⟨by omega, f, k1, k2⟩
theorem zd_ob_ok {w : zq_Wd} (x_OB : zj_is w 258 (fun q => zd_OB (q 0) (q 1) (q 2) (q 3) (q 4) (q 5) (q 6) (q 7) (q 8) (q 9))) (x_TM : zj_is w 257 (fun q => zd_TM (q 0) (q 1) (q 2) (q 3) (q 4))) (x_CB : zj_is w 259 (fun q => zd_CB (q 0) (q 1) (q 2) (q 3) (q 4) (q 5) (q 6) (q 7) (q 8) (q 9) (q 10) (q 11))) : zq_okG1 w zd_ob := by
  refine ⟨rfl, rfl, zu_fac ⟨rfl, by decide⟩ zq_fan, ?_⟩
  intro r P h H hM
  have q0 : zq_ev r (-1, [(0, 1)]) = r 0 - 1 := zu_e3 _ _ _
  have q1 : zq_ev r (1, [(0, -1)]) = -r 0 + 1 := zu_e5 _ _ _
  have q2 : zq_ev r (0, [(1, 1)]) = r 1 := zu_e1 _ _
  have q3 : zq_ev r (0, [(2, 1)]) = r 2 := zu_e1 _ _
  have q4 : zq_ev r (0, [(3, 1)]) = r 3 := zu_e1 _ _
  have q5 : zq_ev r (0, [(4, 1)]) = r 4 := zu_e1 _ _
  have q6 : zq_ev r (0, [(5, 1)]) = r 5 := zu_e1 _ _
  have q7 : zq_ev r (0, [(7, 1)]) = r 7 := zu_e1 _ _
  have q8 : zq_ev r (0, [(8, 1)]) = r 8 := zu_e1 _ _
  have q9 : zq_ev r (0, [(9, 1)]) = r 9 := zu_e1 _ _
  have q10 : zq_ev r (0, [(10, 1)]) = r 10 := zu_e1 _ _
  have q11 : zq_ev r (0, [(11, 1)]) = r 11 := zu_e1 _ _
  have q12 : zq_ev r (0, [(6, 1)]) = r 6 := zu_e1 _ _
  have q13 : zq_ev r (0, [(12, 1)]) = r 12 := zu_e1 _ _
  obtain ⟨hT, hC, hF, hS, -, hK⟩ := hM
  have c := hC.1
  have a1 := zq_all_1 c
  rw [q0] at a1
  have c := zq_all_t c
  have a2 := zq_all_1 c
  rw [q1] at a2
  have k1 := zj_use x_OB (hK)
  have k1 : zd_OB (zq_ev r (0, [(1, 1)])) (zq_ev r (0, [(2, 1)])) (zq_ev r (0, [(3, 1)])) (zq_ev r (0, [(4, 1)])) (zq_ev r (0, [(5, 1)])) (zq_ev r (0, [(7, 1)])) (zq_ev r (0, [(8, 1)])) (zq_ev r (0, [(9, 1)])) (zq_ev r (0, [(10, 1)])) (zq_ev r (0, [(11, 1)])) P h := k1
  simp only [q10, q11, q2, q3, q4, q5, q6, q7, q8, q9] at k1
  have k2 := zj_use x_TM (zq_okX_t (hK))
  have k2 : zd_TM (zq_ev r (0, [(1, 1)])) (zq_ev r (0, [(2, 1)])) (zq_ev r (0, [(6, 1)])) (zq_ev r (0, [(11, 1)])) (zq_ev r (0, [(12, 1)])) P h := k2
  simp only [q11, q12, q13, q2, q3] at k2
  obtain t1 := zd_ob_l (P := P) (h := h) (o := r 0) (g := r 1) (n := r 2) (Y := r 3) (z := r 4) (k := r 5) (t := r 6) (a := r 7) (b := r 8) (d := r 9) (i := r 10) (f := r 11) (e := r 12) a1 a2 k1 k2
  obtain ⟨rq, hr⟩ : ∃ rq : Nat → Int, (∀ i, i < 13 → rq i = r i) := ⟨r, fun i hi => rfl⟩
  have v0 : rq 0 = r 0 := hr 0 (by decide)
  have v1 : rq 1 = r 1 := hr 1 (by decide)
  have v2 : rq 2 = r 2 := hr 2 (by decide)
  have v3 : rq 3 = r 3 := hr 3 (by decide)
  have v4 : rq 4 = r 4 := hr 4 (by decide)
  have v5 : rq 5 = r 5 := hr 5 (by decide)
  have v6 : rq 6 = r 6 := hr 6 (by decide)
  have v7 : rq 7 = r 7 := hr 7 (by decide)
  have v8 : rq 8 = r 8 := hr 8 (by decide)
  have v9 : rq 9 = r 9 := hr 9 (by decide)
  have v10 : rq 10 = r 10 := hr 10 (by decide)
  have v12 : rq 12 = r 12 := hr 12 (by decide)
  have g0 : zq_ev rq (0, [(0, 1)]) = r 0 := zu_f1 v0
  have g1 : zq_ev rq (0, [(1, 1)]) = r 1 := zu_f1 v1
  have g2 : zq_ev rq (0, [(2, 1)]) = r 2 := zu_f1 v2
  have g3 : zq_ev rq (0, [(3, 1)]) = r 3 := zu_f1 v3
  have g4 : zq_ev rq (0, [(4, 1)]) = r 4 := zu_f1 v4
  have g5 : zq_ev rq (0, [(5, 1)]) = r 5 := zu_f1 v5
  have g6 : zq_ev rq (0, [(6, 1)]) = r 6 := zu_f1 v6
  have g7 : zq_ev rq (0, [(7, 1)]) = r 7 := zu_f1 v7
  have g8 : zq_ev rq (0, [(8, 1)]) = r 8 := zu_f1 v8
  have g9 : zq_ev rq (0, [(9, 1)]) = r 9 := zu_f1 v9
  have g10 : zq_ev rq (0, [(10, 1)]) = r 10 := zu_f1 v10
  have g11 : zq_ev rq (0, [(12, 1)]) = r 12 := zu_f1 v12
  exact ⟨_, List.mem_cons_self .., rq, hr, zq_MeS_mk rfl hT (zq_all_nil) zq_fan (zq_fan) rfl (zu_fac ((x_CB _ _ _).mpr (by show zd_CB (zq_ev rq (0, [(0, 1)])) (zq_ev rq (0, [(1, 1)])) (zq_ev rq (0, [(2, 1)])) (zq_ev rq (0, [(3, 1)])) (zq_ev rq (0, [(4, 1)])) (zq_ev rq (0, [(5, 1)])) (zq_ev rq (0, [(6, 1)])) (zq_ev rq (0, [(7, 1)])) (zq_ev rq (0, [(8, 1)])) (zq_ev rq (0, [(9, 1)])) (zq_ev rq (0, [(10, 1)])) (zq_ev rq (0, [(12, 1)])) P h; simp only [g0, g1, g10, g11, g2, g3, g4, g5, g6, g7, g8, g9]; exact t1)) zq_fan)⟩
noncomputable def zd_d0 : zq_S × List zq_S := (([], [], [(0, [(0, 1)]), (0, [(1, 1)]), (0, [(2, 1)])], [((0, [(0, 1)]), 30), ((0, [(1, 1)]), 31), ((0, [(2, 1)]), 32)], [], [], [], 8), [([], [], [], [], [], [], [(260, [(0, [(0, 1)]), (0, [(1, 1)]), (0, [(2, 1)]), (0, [(3, 1)]), (0, [(4, 1)]), (0, [(5, 1)]), (0, [(6, 1)]), (0, [(7, 1)]), (0, []), (0, [])])], 8)])
theorem zd_d0_l {P : zq_Ty} {h : zq_H} {ak at_ as_ o g n Y z : Int} (a1 : 0 ≤ ak) (a2 : 0 ≤ at_) (a3 : 0 ≤ as_) (b1 : 0 ≤ ak → P (ak).toNat = some 30) (b2 : 0 ≤ at_ → P (at_).toNat = some 31) (b3 : 0 ≤ as_ → P (as_).toNat = some 32) : (zd_DC ak at_ as_ o g n Y z 0 0 P h) := by
  exact ⟨⟨a1, b1 a1⟩, ⟨a2, b2 a2⟩, ⟨a3, b3 a3⟩, by omega, by omega, zd_D_0⟩
theorem zd_d0_ok {w : zq_Wd} (x_DC : zj_is w 260 (fun q => zd_DC (q 0) (q 1) (q 2) (q 3) (q 4) (q 5) (q 6) (q 7) (q 8) (q 9))) : zq_okG1 w zd_d0 := by
  refine ⟨rfl, rfl, zu_fac ⟨rfl, by decide⟩ zq_fan, ?_⟩
  intro r P h H hM
  have q0 : zq_ev r (0, [(0, 1)]) = r 0 := zu_e1 _ _
  have q1 : zq_ev r (0, [(1, 1)]) = r 1 := zu_e1 _ _
  have q2 : zq_ev r (0, [(2, 1)]) = r 2 := zu_e1 _ _
  obtain ⟨hT, hC, hF, hS, -, hK⟩ := hM
  have c := hC.1
  have a1 := zq_all_1 c
  rw [q0] at a1
  have c := zq_all_t c
  have a2 := zq_all_1 c
  rw [q1] at a2
  have c := zq_all_t c
  have a3 := zq_all_1 c
  rw [q2] at a3
  have b1 : 0 ≤ r 0 → P (r 0).toNat = some 30 := fun z => by
    have z1 : 0 ≤ zq_ev r (0, [(0, 1)]) := by rw [q0]; exact z
    have z2 := zq_okF_1 (hF) z1
    simp only [q0] at z2
    exact z2
  have b2 : 0 ≤ r 1 → P (r 1).toNat = some 31 := fun z => by
    have z1 : 0 ≤ zq_ev r (0, [(1, 1)]) := by rw [q1]; exact z
    have z2 := zq_okF_1 (zq_okF_t (hF)) z1
    simp only [q1] at z2
    exact z2
  have b3 : 0 ≤ r 2 → P (r 2).toNat = some 32 := fun z => by
    have z1 : 0 ≤ zq_ev r (0, [(2, 1)]) := by rw [q2]; exact z
    have z2 := zq_okF_1 (zq_okF_t (zq_okF_t (hF))) z1
    simp only [q2] at z2
    exact z2
  obtain t1 := zd_d0_l (P := P) (h := h) (ak := r 0) (at_ := r 1) (as_ := r 2) (o := r 3) (g := r 4) (n := r 5) (Y := r 6) (z := r 7) a1 a2 a3 b1 b2 b3
  obtain ⟨rq, hr⟩ : ∃ rq : Nat → Int, (∀ i, i < 8 → rq i = r i) := ⟨r, fun i hi => rfl⟩
  have v0 : rq 0 = r 0 := hr 0 (by decide)
  have v1 : rq 1 = r 1 := hr 1 (by decide)
  have v2 : rq 2 = r 2 := hr 2 (by decide)
  have v3 : rq 3 = r 3 := hr 3 (by decide)
  have v4 : rq 4 = r 4 := hr 4 (by decide)
  have v5 : rq 5 = r 5 := hr 5 (by decide)
  have v6 : rq 6 = r 6 := hr 6 (by decide)
  have v7 : rq 7 = r 7 := hr 7 (by decide)
  have g0 : zq_ev rq (0, [(0, 1)]) = r 0 := zu_f1 v0
  have g1 : zq_ev rq (0, [(1, 1)]) = r 1 := zu_f1 v1
  have g2 : zq_ev rq (0, [(2, 1)]) = r 2 := zu_f1 v2
  have g3 : zq_ev rq (0, [(3, 1)]) = r 3 := zu_f1 v3
  have g4 : zq_ev rq (0, [(4, 1)]) = r 4 := zu_f1 v4
  have g5 : zq_ev rq (0, [(5, 1)]) = r 5 := zu_f1 v5
  have g6 : zq_ev rq (0, [(6, 1)]) = r 6 := zu_f1 v6
  have g7 : zq_ev rq (0, [(7, 1)]) = r 7 := zu_f1 v7
  have g8 : zq_ev rq (0, []) = 0 := zu_e0 _ _
  exact ⟨_, List.mem_cons_self .., rq, hr, zq_MeS_mk rfl hT (zq_all_nil) zq_fan (zq_fan) rfl (zu_fac ((x_DC _ _ _).mpr (by show zd_DC (zq_ev rq (0, [(0, 1)])) (zq_ev rq (0, [(1, 1)])) (zq_ev rq (0, [(2, 1)])) (zq_ev rq (0, [(3, 1)])) (zq_ev rq (0, [(4, 1)])) (zq_ev rq (0, [(5, 1)])) (zq_ev rq (0, [(6, 1)])) (zq_ev rq (0, [(7, 1)])) (zq_ev rq (0, [])) (zq_ev rq (0, [])) P h; simp only [g0, g1, g2, g3, g4, g5, g6, g7, g8]; exact t1)) zq_fan)⟩
noncomputable def zd_d1 : zq_S × List zq_S := (([], [], [(0, [(8, 1)]), (11, [(8, -1)])], [], [((0, [(0, 1)]), (0, [(8, 1)]), (0, [(12, 1)])), ((0, [(1, 1)]), (0, [(8, 1)]), (0, [(13, 1)])), ((0, [(2, 1)]), (0, [(8, 4)]), (0, [(14, 1)])), ((0, [(2, 1)]), (1, [(8, 4)]), (0, [(15, 1)])), ((0, [(2, 1)]), (2, [(8, 4)]), (0, [(16, 1)])), ((0, [(2, 1)]), (3, [(8, 4)]), (0, [(17, 1)]))], [], [(260, [(0, [(0, 1)]), (0, [(1, 1)]), (0, [(2, 1)]), (0, [(3, 1)]), (0, [(4, 1)]), (0, [(5, 1)]), (0, [(6, 1)]), (0, [(7, 1)]), (0, [(8, 1)]), (0, [(9, 1)])]), (259, [(0, [(3, 1)]), (0, [(4, 1)]), (0, [(5, 1)]), (0, [(6, 1)]), (0, [(7, 1)]), (0, [(12, 1)]), (0, [(13, 1)]), (0, [(14, 1)]), (0, [(15, 1)]), (0, [(16, 1)]), (0, [(9, 1)]), (0, [(10, 1)])]), (256, [(0, [(3, 1)]), (0, [(4, 1)]), (0, [(5, 1)]), (0, [(6, 1)]), (0, [(7, 1)]), (0, [(17, 1)]), (0, [(10, 1)]), (0, [(11, 1)])])], 18), [([], [], [], [], [], [], [(260, [(0, [(0, 1)]), (0, [(1, 1)]), (0, [(2, 1)]), (0, [(3, 1)]), (0, [(4, 1)]), (0, [(5, 1)]), (0, [(6, 1)]), (0, [(7, 1)]), (1, [(8, 1)]), (0, [(11, 1)])])], 18)])
theorem zd_d1_l {P : zq_Ty} {h : zq_H} {ak at_ as_ o g n Y z m i e p k t a b c d : Int} (a1 : 0 ≤ m) (a2 : 0 ≤ -m + 11) (s1 : 0 ≤ ak ∧ P (ak).toNat ≠ none ∧ h (ak).toNat m = k) (s2 : 0 ≤ at_ ∧ P (at_).toNat ≠ none ∧ h (at_).toNat m = t) (s3 : 0 ≤ as_ ∧ P (as_).toNat ≠ none ∧ h (as_).toNat (4 * m) = a) (s4 : 0 ≤ as_ ∧ P (as_).toNat ≠ none ∧ h (as_).toNat (4 * m + 1) = b) (s5 : 0 ≤ as_ ∧ P (as_).toNat ≠ none ∧ h (as_).toNat (4 * m + 2) = c) (s6 : 0 ≤ as_ ∧ P (as_).toNat ≠ none ∧ h (as_).toNat (4 * m + 3) = d) (k1 : zd_DC ak at_ as_ o g n Y z m i P h) (k2 : zd_CB o g n Y z k t a b c i e P h) (k3 : zd_CI o g n Y z d e p P h) : (zd_DC ak at_ as_ o g n Y z (m + 1) p P h) := by
  obtain ⟨q1, q2, q3, q4, q5, q6⟩ := k1
  refine ⟨q1, q2, q3, by omega, by omega, zd_D_1 q6 (by omega) ?_⟩
  rw [s1.2.2, s2.2.2, s3.2.2, s4.2.2, s5.2.2, s6.2.2]
  exact ⟨e, k2, k3⟩
theorem zd_d1_ok {w : zq_Wd} (x_DC : zj_is w 260 (fun q => zd_DC (q 0) (q 1) (q 2) (q 3) (q 4) (q 5) (q 6) (q 7) (q 8) (q 9))) (x_CB : zj_is w 259 (fun q => zd_CB (q 0) (q 1) (q 2) (q 3) (q 4) (q 5) (q 6) (q 7) (q 8) (q 9) (q 10) (q 11))) (x_CI : zj_is w 256 (fun q => zd_CI (q 0) (q 1) (q 2) (q 3) (q 4) (q 5) (q 6) (q 7))) : zq_okG1 w zd_d1 := by
  refine ⟨rfl, rfl, zu_fac ⟨rfl, by decide⟩ zq_fan, ?_⟩
  intro r P h H hM
  have q0 : zq_ev r (0, [(8, 1)]) = r 8 := zu_e1 _ _
  have q1 : zq_ev r (11, [(8, -1)]) = -r 8 + 11 := zu_e5 _ _ _
  have q2 : zq_ev r (0, [(0, 1)]) = r 0 := zu_e1 _ _
  have q3 : zq_ev r (0, [(12, 1)]) = r 12 := zu_e1 _ _
  have q4 : zq_ev r (0, [(1, 1)]) = r 1 := zu_e1 _ _
  have q5 : zq_ev r (0, [(13, 1)]) = r 13 := zu_e1 _ _
  have q6 : zq_ev r (0, [(2, 1)]) = r 2 := zu_e1 _ _
  have q7 : zq_ev r (0, [(8, 4)]) = 4 * r 8 := by simp only [zq_ev, zq_ts] <;> omega
  have q8 : zq_ev r (0, [(14, 1)]) = r 14 := zu_e1 _ _
  have q9 : zq_ev r (1, [(8, 4)]) = 4 * r 8 + 1 := by simp only [zq_ev, zq_ts] <;> omega
  have q10 : zq_ev r (0, [(15, 1)]) = r 15 := zu_e1 _ _
  have q11 : zq_ev r (2, [(8, 4)]) = 4 * r 8 + 2 := by simp only [zq_ev, zq_ts] <;> omega
  have q12 : zq_ev r (0, [(16, 1)]) = r 16 := zu_e1 _ _
  have q13 : zq_ev r (3, [(8, 4)]) = 4 * r 8 + 3 := by simp only [zq_ev, zq_ts] <;> omega
  have q14 : zq_ev r (0, [(17, 1)]) = r 17 := zu_e1 _ _
  have q15 : zq_ev r (0, [(3, 1)]) = r 3 := zu_e1 _ _
  have q16 : zq_ev r (0, [(4, 1)]) = r 4 := zu_e1 _ _
  have q17 : zq_ev r (0, [(5, 1)]) = r 5 := zu_e1 _ _
  have q18 : zq_ev r (0, [(6, 1)]) = r 6 := zu_e1 _ _
  have q19 : zq_ev r (0, [(7, 1)]) = r 7 := zu_e1 _ _
  have q20 : zq_ev r (0, [(9, 1)]) = r 9 := zu_e1 _ _
  have q21 : zq_ev r (0, [(10, 1)]) = r 10 := zu_e1 _ _
  have q22 : zq_ev r (0, [(11, 1)]) = r 11 := zu_e1 _ _
  obtain ⟨hT, hC, hF, hS, -, hK⟩ := hM
  have c := hC.1
  have a1 := zq_all_1 c
  rw [q0] at a1
  have c := zq_all_t c
  have a2 := zq_all_1 c
  rw [q1] at a2
  have s1 := zq_okS_1 (hS)
  simp only [q0, q2, q3] at s1
  have s2 := zq_okS_1 (zq_okS_t (hS))
  simp only [q0, q4, q5] at s2
  have s3 := zq_okS_1 (zq_okS_t (zq_okS_t (hS)))
  simp only [q6, q7, q8] at s3
  have s4 := zq_okS_1 (zq_okS_t (zq_okS_t (zq_okS_t (hS))))
  simp only [q10, q6, q9] at s4
  have s5 := zq_okS_1 (zq_okS_t (zq_okS_t (zq_okS_t (zq_okS_t (hS)))))
  simp only [q11, q12, q6] at s5
  have s6 := zq_okS_1 (zq_okS_t (zq_okS_t (zq_okS_t (zq_okS_t (zq_okS_t (hS))))))
  simp only [q13, q14, q6] at s6
  have k1 := zj_use x_DC (hK)
  have k1 : zd_DC (zq_ev r (0, [(0, 1)])) (zq_ev r (0, [(1, 1)])) (zq_ev r (0, [(2, 1)])) (zq_ev r (0, [(3, 1)])) (zq_ev r (0, [(4, 1)])) (zq_ev r (0, [(5, 1)])) (zq_ev r (0, [(6, 1)])) (zq_ev r (0, [(7, 1)])) (zq_ev r (0, [(8, 1)])) (zq_ev r (0, [(9, 1)])) P h := k1
  simp only [q0, q15, q16, q17, q18, q19, q2, q20, q4, q6] at k1
  have k2 := zj_use x_CB (zq_okX_t (hK))
  have k2 : zd_CB (zq_ev r (0, [(3, 1)])) (zq_ev r (0, [(4, 1)])) (zq_ev r (0, [(5, 1)])) (zq_ev r (0, [(6, 1)])) (zq_ev r (0, [(7, 1)])) (zq_ev r (0, [(12, 1)])) (zq_ev r (0, [(13, 1)])) (zq_ev r (0, [(14, 1)])) (zq_ev r (0, [(15, 1)])) (zq_ev r (0, [(16, 1)])) (zq_ev r (0, [(9, 1)])) (zq_ev r (0, [(10, 1)])) P h := k2
  simp only [q10, q12, q15, q16, q17, q18, q19, q20, q21, q3, q5, q8] at k2
  have k3 := zj_use x_CI (zq_okX_t (zq_okX_t (hK)))
  have k3 : zd_CI (zq_ev r (0, [(3, 1)])) (zq_ev r (0, [(4, 1)])) (zq_ev r (0, [(5, 1)])) (zq_ev r (0, [(6, 1)])) (zq_ev r (0, [(7, 1)])) (zq_ev r (0, [(17, 1)])) (zq_ev r (0, [(10, 1)])) (zq_ev r (0, [(11, 1)])) P h := k3
  simp only [q14, q15, q16, q17, q18, q19, q21, q22] at k3
  obtain t1 := zd_d1_l (P := P) (h := h) (ak := r 0) (at_ := r 1) (as_ := r 2) (o := r 3) (g := r 4) (n := r 5) (Y := r 6) (z := r 7) (m := r 8) (i := r 9) (e := r 10) (p := r 11) (k := r 12) (t := r 13) (a := r 14) (b := r 15) (c := r 16) (d := r 17) a1 a2 s1 s2 s3 s4 s5 s6 k1 k2 k3
  obtain ⟨rq, hr⟩ : ∃ rq : Nat → Int, (∀ i, i < 18 → rq i = r i) := ⟨r, fun i hi => rfl⟩
  have v0 : rq 0 = r 0 := hr 0 (by decide)
  have v1 : rq 1 = r 1 := hr 1 (by decide)
  have v2 : rq 2 = r 2 := hr 2 (by decide)
  have v3 : rq 3 = r 3 := hr 3 (by decide)
  have v4 : rq 4 = r 4 := hr 4 (by decide)
  have v5 : rq 5 = r 5 := hr 5 (by decide)
  have v6 : rq 6 = r 6 := hr 6 (by decide)
  have v7 : rq 7 = r 7 := hr 7 (by decide)
  have v8 : rq 8 = r 8 := hr 8 (by decide)
  have v11 : rq 11 = r 11 := hr 11 (by decide)
  have g0 : zq_ev rq (0, [(0, 1)]) = r 0 := zu_f1 v0
  have g1 : zq_ev rq (0, [(1, 1)]) = r 1 := zu_f1 v1
  have g2 : zq_ev rq (0, [(2, 1)]) = r 2 := zu_f1 v2
  have g3 : zq_ev rq (0, [(3, 1)]) = r 3 := zu_f1 v3
  have g4 : zq_ev rq (0, [(4, 1)]) = r 4 := zu_f1 v4
  have g5 : zq_ev rq (0, [(5, 1)]) = r 5 := zu_f1 v5
  have g6 : zq_ev rq (0, [(6, 1)]) = r 6 := zu_f1 v6
  have g7 : zq_ev rq (0, [(7, 1)]) = r 7 := zu_f1 v7
  have g8 : zq_ev rq (1, [(8, 1)]) = r 8 + 1 := zu_f2 v8 _
  have g9 : zq_ev rq (0, [(11, 1)]) = r 11 := zu_f1 v11
  exact ⟨_, List.mem_cons_self .., rq, hr, zq_MeS_mk rfl hT (zq_all_nil) zq_fan (zq_fan) rfl (zu_fac ((x_DC _ _ _).mpr (by show zd_DC (zq_ev rq (0, [(0, 1)])) (zq_ev rq (0, [(1, 1)])) (zq_ev rq (0, [(2, 1)])) (zq_ev rq (0, [(3, 1)])) (zq_ev rq (0, [(4, 1)])) (zq_ev rq (0, [(5, 1)])) (zq_ev rq (0, [(6, 1)])) (zq_ev rq (0, [(7, 1)])) (zq_ev rq (1, [(8, 1)])) (zq_ev rq (0, [(11, 1)])) P h; simp only [g0, g1, g2, g3, g4, g5, g6, g7, g8, g9]; exact t1)) zq_fan)⟩
noncomputable def zd_dx : zq_S × List zq_S := (([], [], [(-1, [(9, 1)]), (0, [(8, 1)]), (448, [(8, -1)]), (0, [(15, 1)]), (0, [(14, 1), (15, -1)]), (-1, [(10, 1), (15, -1)]), (1, [(10, -1), (15, 1)]), (-31, [(16, 1)]), (31, [(16, -1)])], [], [((0, [(11, 1)]), (0, [(15, 1)]), (0, [(16, 1)]))], [], [(260, [(0, [(0, 1)]), (0, [(1, 1)]), (0, [(2, 1)]), (0, [(4, 1)]), (0, [(5, 1)]), (0, [(6, 1)]), (0, [(7, 1)]), (0, [(8, 1)]), (0, [(9, 1)]), (0, [(10, 1)])]), (240, [(0, [(3, 1)]), (0, [(8, 1)]), (0, [(7, 1)])]), (105, [(0, [(11, 1)]), (0, [(12, 1)]), (0, [(13, 1)]), (0, [(5, 1)]), (0, [(6, 1)]), (0, [(14, 1)])])], 17), [([], [], [], [], [], [], [(261, [(0, [(0, 1)]), (0, [(1, 1)]), (0, [(2, 1)]), (0, [(3, 1)]), (0, [(4, 1)]), (0, [(5, 1)]), (0, [(6, 1)]), (0, [(9, 1)]), (0, [(8, 1)])])], 17)])
theorem zd_dx_l {P : zq_Ty} {h : zq_H} {ak at_ as_ ac o g n Y z m p co va pl t i c : Int} (a1 : 0 ≤ m - 1) (a2 : 0 ≤ z) (a3 : 0 ≤ -z + 448) (a4 : 0 ≤ i) (a5 : 0 ≤ t - i) (a6 : 0 ≤ p - i - 1) (a7 : 0 ≤ -p + i + 1) (a8 : 0 ≤ c - 31) (a9 : 0 ≤ -c + 31) (s1 : 0 ≤ co ∧ P (co).toNat ≠ none ∧ h (co).toNat i = c) (k1 : zd_DC ak at_ as_ o g n Y z m p P h) (k2 : zc_CA ac z Y P h) (k3 : zu_LXC co va pl g n t P h) : (zd_TX 30 31 32 33 ak at_ as_ ac o g n m z P h) := by
  obtain ⟨q1, q2, q3, q4, q5, q6⟩ := k1
  obtain ⟨r1, r2, r3⟩ := k2
  have e := zu_LX_end k3 a4 (show i ≤ t by omega) (show h co.toNat i = 31 by rw [s1.2.2]; omega)
  have e2 : p = ze_L g n + 1 := by unfold ze_L; omega
  rw [e2] at q6
  exact ⟨q1, q2, q3, r1, by omega, q5, by omega, by omega, Y, r3, q6⟩
theorem zd_dx_ok {w : zq_Wd} (x_DC : zj_is w 260 (fun q => zd_DC (q 0) (q 1) (q 2) (q 3) (q 4) (q 5) (q 6) (q 7) (q 8) (q 9))) (x_CA : zj_is w 240 (fun q => zc_CA (q 0) (q 1) (q 2))) (x_LXC : zj_is w 105 (fun q => zu_LXC (q 0) (q 1) (q 2) (q 3) (q 4) (q 5))) (x_XD : zj_is w 261 (fun q => zd_TX 30 31 32 33 (q 0) (q 1) (q 2) (q 3) (q 4) (q 5) (q 6) (q 7) (q 8))) : zq_okG1 w zd_dx := by
  refine ⟨rfl, rfl, zu_fac ⟨rfl, by decide⟩ zq_fan, ?_⟩
  intro r P h H hM
  have q0 : zq_ev r (-1, [(9, 1)]) = r 9 - 1 := zu_e3 _ _ _
  have q1 : zq_ev r (0, [(8, 1)]) = r 8 := zu_e1 _ _
  have q2 : zq_ev r (448, [(8, -1)]) = -r 8 + 448 := zu_e5 _ _ _
  have q3 : zq_ev r (0, [(15, 1)]) = r 15 := zu_e1 _ _
  have q4 : zq_ev r (0, [(14, 1), (15, -1)]) = r 14 - r 15 := by simp only [zq_ev, zq_ts] <;> omega
  have q5 : zq_ev r (-1, [(10, 1), (15, -1)]) = r 10 - r 15 - 1 := by simp only [zq_ev, zq_ts] <;> omega
  have q6 : zq_ev r (1, [(10, -1), (15, 1)]) = -r 10 + r 15 + 1 := by simp only [zq_ev, zq_ts] <;> omega
  have q7 : zq_ev r (-31, [(16, 1)]) = r 16 - 31 := zu_e3 _ _ _
  have q8 : zq_ev r (31, [(16, -1)]) = -r 16 + 31 := zu_e5 _ _ _
  have q9 : zq_ev r (0, [(11, 1)]) = r 11 := zu_e1 _ _
  have q10 : zq_ev r (0, [(16, 1)]) = r 16 := zu_e1 _ _
  have q11 : zq_ev r (0, [(0, 1)]) = r 0 := zu_e1 _ _
  have q12 : zq_ev r (0, [(1, 1)]) = r 1 := zu_e1 _ _
  have q13 : zq_ev r (0, [(2, 1)]) = r 2 := zu_e1 _ _
  have q14 : zq_ev r (0, [(4, 1)]) = r 4 := zu_e1 _ _
  have q15 : zq_ev r (0, [(5, 1)]) = r 5 := zu_e1 _ _
  have q16 : zq_ev r (0, [(6, 1)]) = r 6 := zu_e1 _ _
  have q17 : zq_ev r (0, [(7, 1)]) = r 7 := zu_e1 _ _
  have q18 : zq_ev r (0, [(9, 1)]) = r 9 := zu_e1 _ _
  have q19 : zq_ev r (0, [(10, 1)]) = r 10 := zu_e1 _ _
  have q20 : zq_ev r (0, [(3, 1)]) = r 3 := zu_e1 _ _
  have q21 : zq_ev r (0, [(12, 1)]) = r 12 := zu_e1 _ _
  have q22 : zq_ev r (0, [(13, 1)]) = r 13 := zu_e1 _ _
  have q23 : zq_ev r (0, [(14, 1)]) = r 14 := zu_e1 _ _
  obtain ⟨hT, hC, hF, hS, -, hK⟩ := hM
  have c := hC.1
  have a1 := zq_all_1 c
  rw [q0] at a1
  have c := zq_all_t c
  have a2 := zq_all_1 c
  rw [q1] at a2
  have c := zq_all_t c
  have a3 := zq_all_1 c
  rw [q2] at a3
  have c := zq_all_t c
  have a4 := zq_all_1 c
  rw [q3] at a4
  have c := zq_all_t c
  have a5 := zq_all_1 c
  rw [q4] at a5
  have c := zq_all_t c
  have a6 := zq_all_1 c
  rw [q5] at a6
  have c := zq_all_t c
  have a7 := zq_all_1 c
  rw [q6] at a7
  have c := zq_all_t c
  have a8 := zq_all_1 c
  rw [q7] at a8
  have c := zq_all_t c
  have a9 := zq_all_1 c
  rw [q8] at a9
  have s1 := zq_okS_1 (hS)
  simp only [q10, q3, q9] at s1
  have k1 := zj_use x_DC (hK)
  have k1 : zd_DC (zq_ev r (0, [(0, 1)])) (zq_ev r (0, [(1, 1)])) (zq_ev r (0, [(2, 1)])) (zq_ev r (0, [(4, 1)])) (zq_ev r (0, [(5, 1)])) (zq_ev r (0, [(6, 1)])) (zq_ev r (0, [(7, 1)])) (zq_ev r (0, [(8, 1)])) (zq_ev r (0, [(9, 1)])) (zq_ev r (0, [(10, 1)])) P h := k1
  simp only [q1, q11, q12, q13, q14, q15, q16, q17, q18, q19] at k1
  have k2 := zj_use x_CA (zq_okX_t (hK))
  have k2 : zc_CA (zq_ev r (0, [(3, 1)])) (zq_ev r (0, [(8, 1)])) (zq_ev r (0, [(7, 1)])) P h := k2
  simp only [q1, q17, q20] at k2
  have k3 := zj_use x_LXC (zq_okX_t (zq_okX_t (hK)))
  have k3 : zu_LXC (zq_ev r (0, [(11, 1)])) (zq_ev r (0, [(12, 1)])) (zq_ev r (0, [(13, 1)])) (zq_ev r (0, [(5, 1)])) (zq_ev r (0, [(6, 1)])) (zq_ev r (0, [(14, 1)])) P h := k3
  simp only [q15, q16, q21, q22, q23, q9] at k3
  obtain t1 := zd_dx_l (P := P) (h := h) (ak := r 0) (at_ := r 1) (as_ := r 2) (ac := r 3) (o := r 4) (g := r 5) (n := r 6) (Y := r 7) (z := r 8) (m := r 9) (p := r 10) (co := r 11) (va := r 12) (pl := r 13) (t := r 14) (i := r 15) (c := r 16) a1 a2 a3 a4 a5 a6 a7 a8 a9 s1 k1 k2 k3
  obtain ⟨rq, hr⟩ : ∃ rq : Nat → Int, (∀ i, i < 17 → rq i = r i) := ⟨r, fun i hi => rfl⟩
  have v0 : rq 0 = r 0 := hr 0 (by decide)
  have v1 : rq 1 = r 1 := hr 1 (by decide)
  have v2 : rq 2 = r 2 := hr 2 (by decide)
  have v3 : rq 3 = r 3 := hr 3 (by decide)
  have v4 : rq 4 = r 4 := hr 4 (by decide)
  have v5 : rq 5 = r 5 := hr 5 (by decide)
  have v6 : rq 6 = r 6 := hr 6 (by decide)
  have v8 : rq 8 = r 8 := hr 8 (by decide)
  have v9 : rq 9 = r 9 := hr 9 (by decide)
  have g0 : zq_ev rq (0, [(0, 1)]) = r 0 := zu_f1 v0
  have g1 : zq_ev rq (0, [(1, 1)]) = r 1 := zu_f1 v1
  have g2 : zq_ev rq (0, [(2, 1)]) = r 2 := zu_f1 v2
  have g3 : zq_ev rq (0, [(3, 1)]) = r 3 := zu_f1 v3
  have g4 : zq_ev rq (0, [(4, 1)]) = r 4 := zu_f1 v4
  have g5 : zq_ev rq (0, [(5, 1)]) = r 5 := zu_f1 v5
  have g6 : zq_ev rq (0, [(6, 1)]) = r 6 := zu_f1 v6
  have g7 : zq_ev rq (0, [(9, 1)]) = r 9 := zu_f1 v9
  have g8 : zq_ev rq (0, [(8, 1)]) = r 8 := zu_f1 v8
  exact ⟨_, List.mem_cons_self .., rq, hr, zq_MeS_mk rfl hT (zq_all_nil) zq_fan (zq_fan) rfl (zu_fac ((x_XD _ _ _).mpr (by show zd_TX 30 31 32 33 (zq_ev rq (0, [(0, 1)])) (zq_ev rq (0, [(1, 1)])) (zq_ev rq (0, [(2, 1)])) (zq_ev rq (0, [(3, 1)])) (zq_ev rq (0, [(4, 1)])) (zq_ev rq (0, [(5, 1)])) (zq_ev rq (0, [(6, 1)])) (zq_ev rq (0, [(9, 1)])) (zq_ev rq (0, [(8, 1)])) P h; simp only [g0, g1, g2, g3, g4, g5, g6, g7, g8]; exact t1)) zq_fan)⟩
noncomputable def zd_ag : zq_S × List zq_S := (([], [], [(0, [(3, -1), (4, 1)])], [], [], [], [(241, [(0, [(0, 1)]), (0, [(1, 1)]), (0, []), (0, [(3, 1)])]), (241, [(0, [(1, 1)]), (0, [(2, 1)]), (0, []), (0, [(4, 1)])])], 5), [([], [], [], [], [], [], [(241, [(0, [(0, 1)]), (0, [(2, 1)]), (0, []), (0, [(3, 1)])])], 5)])
theorem zd_ag_l {P : zq_Ty} {h : zq_H} {X Y Z u w : Int} (a1 : 0 ≤ -u + w) (k1 : zc_AG X Y 0 u P h) (k2 : zc_AG Y Z 0 w P h) : (zc_AG X Z 0 u P h) := by
  exact fun j x y => (k2 j x (by omega)).trans (k1 j x y)
theorem zd_ag_ok {w : zq_Wd} (x_AG : zj_is w 241 (fun q => zc_AG (q 0) (q 1) (q 2) (q 3))) : zq_okG1 w zd_ag := by
  refine ⟨rfl, rfl, zu_fac ⟨rfl, by decide⟩ zq_fan, ?_⟩
  intro r P h H hM
  have q0 : zq_ev r (0, [(3, -1), (4, 1)]) = -r 3 + r 4 := by simp only [zq_ev, zq_ts] <;> omega
  have q1 : zq_ev r (0, [(0, 1)]) = r 0 := zu_e1 _ _
  have q2 : zq_ev r (0, [(1, 1)]) = r 1 := zu_e1 _ _
  have q3 : zq_ev r (0, []) = 0 := zu_e0 _ _
  have q4 : zq_ev r (0, [(3, 1)]) = r 3 := zu_e1 _ _
  have q5 : zq_ev r (0, [(2, 1)]) = r 2 := zu_e1 _ _
  have q6 : zq_ev r (0, [(4, 1)]) = r 4 := zu_e1 _ _
  obtain ⟨hT, hC, hF, hS, -, hK⟩ := hM
  have c := hC.1
  have a1 := zq_all_1 c
  rw [q0] at a1
  have k1 := zj_use x_AG (hK)
  have k1 : zc_AG (zq_ev r (0, [(0, 1)])) (zq_ev r (0, [(1, 1)])) (zq_ev r (0, [])) (zq_ev r (0, [(3, 1)])) P h := k1
  simp only [q1, q2, q3, q4] at k1
  have k2 := zj_use x_AG (zq_okX_t (hK))
  have k2 : zc_AG (zq_ev r (0, [(1, 1)])) (zq_ev r (0, [(2, 1)])) (zq_ev r (0, [])) (zq_ev r (0, [(4, 1)])) P h := k2
  simp only [q2, q3, q5, q6] at k2
  obtain t1 := zd_ag_l (P := P) (h := h) (X := r 0) (Y := r 1) (Z := r 2) (u := r 3) (w := r 4) a1 k1 k2
  obtain ⟨rq, hr⟩ : ∃ rq : Nat → Int, (∀ i, i < 5 → rq i = r i) := ⟨r, fun i hi => rfl⟩
  have v0 : rq 0 = r 0 := hr 0 (by decide)
  have v2 : rq 2 = r 2 := hr 2 (by decide)
  have v3 : rq 3 = r 3 := hr 3 (by decide)
  have g0 : zq_ev rq (0, [(0, 1)]) = r 0 := zu_f1 v0
  have g1 : zq_ev rq (0, [(2, 1)]) = r 2 := zu_f1 v2
  have g2 : zq_ev rq (0, []) = 0 := zu_e0 _ _
  have g3 : zq_ev rq (0, [(3, 1)]) = r 3 := zu_f1 v3
  exact ⟨_, List.mem_cons_self .., rq, hr, zq_MeS_mk rfl hT (zq_all_nil) zq_fan (zq_fan) rfl (zu_fac ((x_AG _ _ _).mpr (by show zc_AG (zq_ev rq (0, [(0, 1)])) (zq_ev rq (0, [(2, 1)])) (zq_ev rq (0, [])) (zq_ev rq (0, [(3, 1)])) P h; simp only [g0, g1, g2, g3]; exact t1)) zq_fan)⟩
noncomputable def zd_ca : zq_S × List zq_S := (([], [], [(0, [(0, 1)])], [((0, [(0, 1)]), 33)], [], [], [], 1), [([], [], [], [], [], [], [(240, [(0, [(0, 1)]), (0, []), (0, [])])], 1)])
theorem zd_ca_l {P : zq_Ty} {h : zq_H} {ac : Int} (a1 : 0 ≤ ac) (b1 : 0 ≤ ac → P (ac).toNat = some 33) : (zc_CA ac 0 0 P h) := by
  exact ⟨⟨a1, b1 a1⟩, by omega, fun j x y => by omega⟩
theorem zd_ca_ok {w : zq_Wd} (x_CA : zj_is w 240 (fun q => zc_CA (q 0) (q 1) (q 2))) : zq_okG1 w zd_ca := by
  refine ⟨rfl, rfl, zu_fac ⟨rfl, by decide⟩ zq_fan, ?_⟩
  intro r P h H hM
  have q0 : zq_ev r (0, [(0, 1)]) = r 0 := zu_e1 _ _
  obtain ⟨hT, hC, hF, hS, -, hK⟩ := hM
  have c := hC.1
  have a1 := zq_all_1 c
  rw [q0] at a1
  have b1 : 0 ≤ r 0 → P (r 0).toNat = some 33 := fun z => by
    have z1 : 0 ≤ zq_ev r (0, [(0, 1)]) := by rw [q0]; exact z
    have z2 := zq_okF_1 (hF) z1
    simp only [q0] at z2
    exact z2
  obtain t1 := zd_ca_l (P := P) (h := h) (ac := r 0) a1 b1
  obtain ⟨rq, hr⟩ : ∃ rq : Nat → Int, (∀ i, i < 1 → rq i = r i) := ⟨r, fun i hi => rfl⟩
  have v0 : rq 0 = r 0 := hr 0 (by decide)
  have g0 : zq_ev rq (0, [(0, 1)]) = r 0 := zu_f1 v0
  have g1 : zq_ev rq (0, []) = 0 := zu_e0 _ _
  exact ⟨_, List.mem_cons_self .., rq, hr, zq_MeS_mk rfl hT (zq_all_nil) zq_fan (zq_fan) rfl (zu_fac ((x_CA _ _ _).mpr (by show zc_CA (zq_ev rq (0, [(0, 1)])) (zq_ev rq (0, [])) (zq_ev rq (0, [])) P h; simp only [g0, g1]; exact t1)) zq_fan)⟩
