/-! ORDERS: facts -/
noncomputable def zk_iy : zq_S × List zq_S := (([], [], [(0, [(5, 1)]), (448, [(4, -1)]), (-1, [(9, 1)]), (1, [(9, -1)])], [], [], [], [(256, [(1, []), (0, [(0, 1)]), (0, [(1, 1)]), (0, [(3, 1)]), (0, [(4, 1)]), (0, [(5, 1)]), (0, [(6, 1)]), (0, [(7, 1)])]), (266, [(0, [(8, 1)]), (0, [(3, 1)]), (0, [(4, 1)]), (0, [(5, 1)]), (0, []), (0, [(9, 1)])]), (279, [(0, [(8, 1)]), (0, [(2, 1)])])], 10), [([], [], [], [], [], [], [(272, [(1, []), (0, [(0, 1)]), (0, [(1, 1)]), (0, [(2, 1)]), (0, [(6, 1)]), (0, [(7, 1)]), (1, [])])], 10)])
theorem zk_iy_l {P : zq_Ty} {h : zq_H} {g n W Y z d e p v r : Int} (a1 : 0 ≤ d) (a2 : 0 ≤ -z + 448) (a3 : 0 ≤ r - 1) (a4 : 0 ≤ -r + 1) (k1 : zd_CI 1 g n Y z d e p P h) (k2 : zr_RK v Y z d 0 r P h) (k3 : zo_OW 102 v W P h) : (zr_IS 1 g n W e p 1 P h) := by
  have hw := zr_cw1 k3
  rcases k1 with ⟨h1, -⟩ | ⟨-, h1, f, h2, h3⟩
  · omega
  obtain ⟨x, t, hx, y1, y2⟩ := zr_T_run h2 (by omega) hw k2.2
  obtain ⟨z1, z2⟩ := y2 (by decide)
  rw [z1, z2, show r = 1 by omega] at hx
  exact Or.inl ⟨rfl, Or.inr ⟨h1, f, hx, h3⟩⟩
theorem zk_iy_ok {w : zq_Wd} (x_CI : zj_is w 256 (fun q => zd_CI (q 0) (q 1) (q 2) (q 3) (q 4) (q 5) (q 6) (q 7))) (x_RK : zj_is w 266 (fun q => zr_RK (q 0) (q 1) (q 2) (q 3) (q 4) (q 5))) (x_OW : zj_is w 279 (fun q => zo_OW 102 (q 0) (q 1))) (x_IS : zj_is w 272 (fun q => zr_IS (q 0) (q 1) (q 2) (q 3) (q 4) (q 5) (q 6))) : zq_okG1 w zk_iy := by
  refine ⟨rfl, rfl, zu_fac ⟨rfl, by decide⟩ zq_fan, ?_⟩
  intro r P h H hM
  have q0 : zq_ev r (0, [(5, 1)]) = r 5 := zu_e1 _ _
  have q1 : zq_ev r (448, [(4, -1)]) = -r 4 + 448 := zu_e5 _ _ _
  have q2 : zq_ev r (-1, [(9, 1)]) = r 9 - 1 := zu_e3 _ _ _
  have q3 : zq_ev r (1, [(9, -1)]) = -r 9 + 1 := zu_e5 _ _ _
  have q4 : zq_ev r (1, []) = 1 := zu_e0 _ _
  have q5 : zq_ev r (0, [(0, 1)]) = r 0 := zu_e1 _ _
  have q6 : zq_ev r (0, [(1, 1)]) = r 1 := zu_e1 _ _
  have q7 : zq_ev r (0, [(3, 1)]) = r 3 := zu_e1 _ _
  have q8 : zq_ev r (0, [(4, 1)]) = r 4 := zu_e1 _ _
  have q9 : zq_ev r (0, [(6, 1)]) = r 6 := zu_e1 _ _
  have q10 : zq_ev r (0, [(7, 1)]) = r 7 := zu_e1 _ _
  have q11 : zq_ev r (0, [(8, 1)]) = r 8 := zu_e1 _ _
  have q12 : zq_ev r (0, []) = 0 := zu_e0 _ _
  have q13 : zq_ev r (0, [(9, 1)]) = r 9 := zu_e1 _ _
  have q14 : zq_ev r (0, [(2, 1)]) = r 2 := zu_e1 _ _
  obtain ⟨hT, hC, hF, hS, -, hK⟩ := hM
  have c := hC.1
  have a1 := zq_all_1 c
  rw [q0] at a1
  have c := zq_all_t c
  have a2 := zq_all_1 c
  rw [q1] at a2
  have c := zq_all_t c
  have a3 := zq_all_1 c
  rw [q2] at a3
  have c := zq_all_t c
  have a4 := zq_all_1 c
  rw [q3] at a4
  have k1 := zj_use x_CI (hK)
  have k1 : zd_CI (zq_ev r (1, [])) (zq_ev r (0, [(0, 1)])) (zq_ev r (0, [(1, 1)])) (zq_ev r (0, [(3, 1)])) (zq_ev r (0, [(4, 1)])) (zq_ev r (0, [(5, 1)])) (zq_ev r (0, [(6, 1)])) (zq_ev r (0, [(7, 1)])) P h := k1
  simp only [q0, q10, q4, q5, q6, q7, q8, q9] at k1
  have k2 := zj_use x_RK (zq_okX_t (hK))
  have k2 : zr_RK (zq_ev r (0, [(8, 1)])) (zq_ev r (0, [(3, 1)])) (zq_ev r (0, [(4, 1)])) (zq_ev r (0, [(5, 1)])) (zq_ev r (0, [])) (zq_ev r (0, [(9, 1)])) P h := k2
  simp only [q0, q11, q12, q13, q7, q8] at k2
  have k3 := zj_use x_OW (zq_okX_t (zq_okX_t (hK)))
  have k3 : zo_OW 102 (zq_ev r (0, [(8, 1)])) (zq_ev r (0, [(2, 1)])) P h := k3
  simp only [q11, q14] at k3
  obtain t1 := zk_iy_l (P := P) (h := h) (g := r 0) (n := r 1) (W := r 2) (Y := r 3) (z := r 4) (d := r 5) (e := r 6) (p := r 7) (v := r 8) (r := r 9) a1 a2 a3 a4 k1 k2 k3
  obtain ⟨rq, hr⟩ : ∃ rq : Nat → Int, (∀ i, i < 10 → rq i = r i) := ⟨r, fun i hi => rfl⟩
  have v0 : rq 0 = r 0 := hr 0 (by decide)
  have v1 : rq 1 = r 1 := hr 1 (by decide)
  have v2 : rq 2 = r 2 := hr 2 (by decide)
  have v6 : rq 6 = r 6 := hr 6 (by decide)
  have v7 : rq 7 = r 7 := hr 7 (by decide)
  have g0 : zq_ev rq (1, []) = 1 := zu_e0 _ _
  have g1 : zq_ev rq (0, [(0, 1)]) = r 0 := zu_f1 v0
  have g2 : zq_ev rq (0, [(1, 1)]) = r 1 := zu_f1 v1
  have g3 : zq_ev rq (0, [(2, 1)]) = r 2 := zu_f1 v2
  have g4 : zq_ev rq (0, [(6, 1)]) = r 6 := zu_f1 v6
  have g5 : zq_ev rq (0, [(7, 1)]) = r 7 := zu_f1 v7
  exact ⟨_, List.mem_cons_self .., rq, hr, zq_MeS_mk rfl hT (zq_all_nil) zq_fan (zq_fan) rfl (zu_fac ((x_IS _ _ _).mpr (by show zr_IS (zq_ev rq (1, [])) (zq_ev rq (0, [(0, 1)])) (zq_ev rq (0, [(1, 1)])) (zq_ev rq (0, [(2, 1)])) (zq_ev rq (0, [(6, 1)])) (zq_ev rq (0, [(7, 1)])) (zq_ev rq (1, [])) P h; simp only [g0, g1, g2, g3, g4, g5]; exact t1)) zq_fan)⟩
noncomputable def zk_i0l : zq_S × List zq_S := (([], [], [(0, [(5, 1)]), (448, [(4, -1)]), (0, [(9, -1)])], [], [], [], [(256, [(1, []), (0, [(0, 1)]), (0, [(1, 1)]), (0, [(3, 1)]), (0, [(4, 1)]), (0, [(5, 1)]), (0, [(6, 1)]), (0, [(7, 1)])]), (266, [(0, [(8, 1)]), (0, [(3, 1)]), (0, [(4, 1)]), (0, [(5, 1)]), (0, []), (0, [(9, 1)])]), (279, [(0, [(8, 1)]), (0, [(2, 1)])])], 10), [([], [], [], [], [], [], [(272, [(1, []), (0, [(0, 1)]), (0, [(1, 1)]), (0, [(2, 1)]), (0, [(6, 1)]), (0, [(7, 1)]), (0, [])])], 10)])
theorem zk_i0l_l {P : zq_Ty} {h : zq_H} {g n W Y z d e p v r : Int} (a1 : 0 ≤ d) (a2 : 0 ≤ -z + 448) (a3 : 0 ≤ -r) (k1 : zd_CI 1 g n Y z d e p P h) (k2 : zr_RK v Y z d 0 r P h) (k3 : zo_OW 102 v W P h) : (zr_IS 1 g n W e p 0 P h) := by
  have hw := zr_cw1 k3
  rcases k1 with ⟨h1, -⟩ | ⟨-, h1, f, h2, h3⟩
  · omega
  obtain ⟨x, t, hx, y1, y2⟩ := zr_T_run h2 (by omega) hw k2.2
  obtain ⟨z1, z2⟩ := y2 (by decide)
  exact Or.inr ⟨rfl, h1, x, t, f, hx, fun q => by have := q.1; omega, h3⟩
theorem zk_i0l_ok {w : zq_Wd} (x_CI : zj_is w 256 (fun q => zd_CI (q 0) (q 1) (q 2) (q 3) (q 4) (q 5) (q 6) (q 7))) (x_RK : zj_is w 266 (fun q => zr_RK (q 0) (q 1) (q 2) (q 3) (q 4) (q 5))) (x_OW : zj_is w 279 (fun q => zo_OW 102 (q 0) (q 1))) (x_IS : zj_is w 272 (fun q => zr_IS (q 0) (q 1) (q 2) (q 3) (q 4) (q 5) (q 6))) : zq_okG1 w zk_i0l := by
  refine ⟨rfl, rfl, zu_fac ⟨rfl, by decide⟩ zq_fan, ?_⟩
  intro r P h H hM
  have q0 : zq_ev r (0, [(5, 1)]) = r 5 := zu_e1 _ _
  have q1 : zq_ev r (448, [(4, -1)]) = -r 4 + 448 := zu_e5 _ _ _
  have q2 : zq_ev r (0, [(9, -1)]) = -r 9 := zu_e4 _ _
  have q3 : zq_ev r (1, []) = 1 := zu_e0 _ _
  have q4 : zq_ev r (0, [(0, 1)]) = r 0 := zu_e1 _ _
  have q5 : zq_ev r (0, [(1, 1)]) = r 1 := zu_e1 _ _
  have q6 : zq_ev r (0, [(3, 1)]) = r 3 := zu_e1 _ _
  have q7 : zq_ev r (0, [(4, 1)]) = r 4 := zu_e1 _ _
  have q8 : zq_ev r (0, [(6, 1)]) = r 6 := zu_e1 _ _
  have q9 : zq_ev r (0, [(7, 1)]) = r 7 := zu_e1 _ _
  have q10 : zq_ev r (0, [(8, 1)]) = r 8 := zu_e1 _ _
  have q11 : zq_ev r (0, []) = 0 := zu_e0 _ _
  have q12 : zq_ev r (0, [(9, 1)]) = r 9 := zu_e1 _ _
  have q13 : zq_ev r (0, [(2, 1)]) = r 2 := zu_e1 _ _
  obtain ⟨hT, hC, hF, hS, -, hK⟩ := hM
  have c := hC.1
  have a1 := zq_all_1 c
  rw [q0] at a1
  have c := zq_all_t c
  have a2 := zq_all_1 c
  rw [q1] at a2
  have c := zq_all_t c
  have a3 := zq_all_1 c
  rw [q2] at a3
  have k1 := zj_use x_CI (hK)
  have k1 : zd_CI (zq_ev r (1, [])) (zq_ev r (0, [(0, 1)])) (zq_ev r (0, [(1, 1)])) (zq_ev r (0, [(3, 1)])) (zq_ev r (0, [(4, 1)])) (zq_ev r (0, [(5, 1)])) (zq_ev r (0, [(6, 1)])) (zq_ev r (0, [(7, 1)])) P h := k1
  simp only [q0, q3, q4, q5, q6, q7, q8, q9] at k1
  have k2 := zj_use x_RK (zq_okX_t (hK))
  have k2 : zr_RK (zq_ev r (0, [(8, 1)])) (zq_ev r (0, [(3, 1)])) (zq_ev r (0, [(4, 1)])) (zq_ev r (0, [(5, 1)])) (zq_ev r (0, [])) (zq_ev r (0, [(9, 1)])) P h := k2
  simp only [q0, q10, q11, q12, q6, q7] at k2
  have k3 := zj_use x_OW (zq_okX_t (zq_okX_t (hK)))
  have k3 : zo_OW 102 (zq_ev r (0, [(8, 1)])) (zq_ev r (0, [(2, 1)])) P h := k3
  simp only [q10, q13] at k3
  obtain t1 := zk_i0l_l (P := P) (h := h) (g := r 0) (n := r 1) (W := r 2) (Y := r 3) (z := r 4) (d := r 5) (e := r 6) (p := r 7) (v := r 8) (r := r 9) a1 a2 a3 k1 k2 k3
  obtain ⟨rq, hr⟩ : ∃ rq : Nat → Int, (∀ i, i < 10 → rq i = r i) := ⟨r, fun i hi => rfl⟩
  have v0 : rq 0 = r 0 := hr 0 (by decide)
  have v1 : rq 1 = r 1 := hr 1 (by decide)
  have v2 : rq 2 = r 2 := hr 2 (by decide)
  have v6 : rq 6 = r 6 := hr 6 (by decide)
  have v7 : rq 7 = r 7 := hr 7 (by decide)
  have g0 : zq_ev rq (1, []) = 1 := zu_e0 _ _
  have g1 : zq_ev rq (0, [(0, 1)]) = r 0 := zu_f1 v0
  have g2 : zq_ev rq (0, [(1, 1)]) = r 1 := zu_f1 v1
  have g3 : zq_ev rq (0, [(2, 1)]) = r 2 := zu_f1 v2
  have g4 : zq_ev rq (0, [(6, 1)]) = r 6 := zu_f1 v6
  have g5 : zq_ev rq (0, [(7, 1)]) = r 7 := zu_f1 v7
  have g6 : zq_ev rq (0, []) = 0 := zu_e0 _ _
  exact ⟨_, List.mem_cons_self .., rq, hr, zq_MeS_mk rfl hT (zq_all_nil) zq_fan (zq_fan) rfl (zu_fac ((x_IS _ _ _).mpr (by show zr_IS (zq_ev rq (1, [])) (zq_ev rq (0, [(0, 1)])) (zq_ev rq (0, [(1, 1)])) (zq_ev rq (0, [(2, 1)])) (zq_ev rq (0, [(6, 1)])) (zq_ev rq (0, [(7, 1)])) (zq_ev rq (0, [])) P h; simp only [g0, g1, g2, g3, g4, g5, g6]; exact t1)) zq_fan)⟩
noncomputable def zk_i0g : zq_S × List zq_S := (([], [], [(0, [(5, 1)]), (448, [(4, -1)]), (-2, [(9, 1)])], [], [], [], [(256, [(1, []), (0, [(0, 1)]), (0, [(1, 1)]), (0, [(3, 1)]), (0, [(4, 1)]), (0, [(5, 1)]), (0, [(6, 1)]), (0, [(7, 1)])]), (266, [(0, [(8, 1)]), (0, [(3, 1)]), (0, [(4, 1)]), (0, [(5, 1)]), (0, []), (0, [(9, 1)])]), (279, [(0, [(8, 1)]), (0, [(2, 1)])])], 10), [([], [], [], [], [], [], [(272, [(1, []), (0, [(0, 1)]), (0, [(1, 1)]), (0, [(2, 1)]), (0, [(6, 1)]), (0, [(7, 1)]), (0, [])])], 10)])
theorem zk_i0g_l {P : zq_Ty} {h : zq_H} {g n W Y z d e p v r : Int} (a1 : 0 ≤ d) (a2 : 0 ≤ -z + 448) (a3 : 0 ≤ r - 2) (k1 : zd_CI 1 g n Y z d e p P h) (k2 : zr_RK v Y z d 0 r P h) (k3 : zo_OW 102 v W P h) : (zr_IS 1 g n W e p 0 P h) := by
  have hw := zr_cw1 k3
  rcases k1 with ⟨h1, -⟩ | ⟨-, h1, f, h2, h3⟩
  · omega
  obtain ⟨x, t, hx, y1, y2⟩ := zr_T_run h2 (by omega) hw k2.2
  obtain ⟨z1, z2⟩ := y2 (by decide)
  exact Or.inr ⟨rfl, h1, x, t, f, hx, fun q => by have := q.1; omega, h3⟩
theorem zk_i0g_ok {w : zq_Wd} (x_CI : zj_is w 256 (fun q => zd_CI (q 0) (q 1) (q 2) (q 3) (q 4) (q 5) (q 6) (q 7))) (x_RK : zj_is w 266 (fun q => zr_RK (q 0) (q 1) (q 2) (q 3) (q 4) (q 5))) (x_OW : zj_is w 279 (fun q => zo_OW 102 (q 0) (q 1))) (x_IS : zj_is w 272 (fun q => zr_IS (q 0) (q 1) (q 2) (q 3) (q 4) (q 5) (q 6))) : zq_okG1 w zk_i0g := by
  refine ⟨rfl, rfl, zu_fac ⟨rfl, by decide⟩ zq_fan, ?_⟩
  intro r P h H hM
  have q0 : zq_ev r (0, [(5, 1)]) = r 5 := zu_e1 _ _
  have q1 : zq_ev r (448, [(4, -1)]) = -r 4 + 448 := zu_e5 _ _ _
  have q2 : zq_ev r (-2, [(9, 1)]) = r 9 - 2 := zu_e3 _ _ _
  have q3 : zq_ev r (1, []) = 1 := zu_e0 _ _
  have q4 : zq_ev r (0, [(0, 1)]) = r 0 := zu_e1 _ _
  have q5 : zq_ev r (0, [(1, 1)]) = r 1 := zu_e1 _ _
  have q6 : zq_ev r (0, [(3, 1)]) = r 3 := zu_e1 _ _
  have q7 : zq_ev r (0, [(4, 1)]) = r 4 := zu_e1 _ _
  have q8 : zq_ev r (0, [(6, 1)]) = r 6 := zu_e1 _ _
  have q9 : zq_ev r (0, [(7, 1)]) = r 7 := zu_e1 _ _
  have q10 : zq_ev r (0, [(8, 1)]) = r 8 := zu_e1 _ _
  have q11 : zq_ev r (0, []) = 0 := zu_e0 _ _
  have q12 : zq_ev r (0, [(9, 1)]) = r 9 := zu_e1 _ _
  have q13 : zq_ev r (0, [(2, 1)]) = r 2 := zu_e1 _ _
  obtain ⟨hT, hC, hF, hS, -, hK⟩ := hM
  have c := hC.1
  have a1 := zq_all_1 c
  rw [q0] at a1
  have c := zq_all_t c
  have a2 := zq_all_1 c
  rw [q1] at a2
  have c := zq_all_t c
  have a3 := zq_all_1 c
  rw [q2] at a3
  have k1 := zj_use x_CI (hK)
  have k1 : zd_CI (zq_ev r (1, [])) (zq_ev r (0, [(0, 1)])) (zq_ev r (0, [(1, 1)])) (zq_ev r (0, [(3, 1)])) (zq_ev r (0, [(4, 1)])) (zq_ev r (0, [(5, 1)])) (zq_ev r (0, [(6, 1)])) (zq_ev r (0, [(7, 1)])) P h := k1
  simp only [q0, q3, q4, q5, q6, q7, q8, q9] at k1
  have k2 := zj_use x_RK (zq_okX_t (hK))
  have k2 : zr_RK (zq_ev r (0, [(8, 1)])) (zq_ev r (0, [(3, 1)])) (zq_ev r (0, [(4, 1)])) (zq_ev r (0, [(5, 1)])) (zq_ev r (0, [])) (zq_ev r (0, [(9, 1)])) P h := k2
  simp only [q0, q10, q11, q12, q6, q7] at k2
  have k3 := zj_use x_OW (zq_okX_t (zq_okX_t (hK)))
  have k3 : zo_OW 102 (zq_ev r (0, [(8, 1)])) (zq_ev r (0, [(2, 1)])) P h := k3
  simp only [q10, q13] at k3
  obtain t1 := zk_i0g_l (P := P) (h := h) (g := r 0) (n := r 1) (W := r 2) (Y := r 3) (z := r 4) (d := r 5) (e := r 6) (p := r 7) (v := r 8) (r := r 9) a1 a2 a3 k1 k2 k3
  obtain ⟨rq, hr⟩ : ∃ rq : Nat → Int, (∀ i, i < 10 → rq i = r i) := ⟨r, fun i hi => rfl⟩
  have v0 : rq 0 = r 0 := hr 0 (by decide)
  have v1 : rq 1 = r 1 := hr 1 (by decide)
  have v2 : rq 2 = r 2 := hr 2 (by decide)
  have v6 : rq 6 = r 6 := hr 6 (by decide)
  have v7 : rq 7 = r 7 := hr 7 (by decide)
  have g0 : zq_ev rq (1, []) = 1 := zu_e0 _ _
  have g1 : zq_ev rq (0, [(0, 1)]) = r 0 := zu_f1 v0
  have g2 : zq_ev rq (0, [(1, 1)]) = r 1 := zu_f1 v1
  have g3 : zq_ev rq (0, [(2, 1)]) = r 2 := zu_f1 v2
  have g4 : zq_ev rq (0, [(6, 1)]) = r 6 := zu_f1 v6
  have g5 : zq_ev rq (0, [(7, 1)]) = r 7 := zu_f1 v7
  have g6 : zq_ev rq (0, []) = 0 := zu_e0 _ _
  exact ⟨_, List.mem_cons_self .., rq, hr, zq_MeS_mk rfl hT (zq_all_nil) zq_fan (zq_fan) rfl (zu_fac ((x_IS _ _ _).mpr (by show zr_IS (zq_ev rq (1, [])) (zq_ev rq (0, [(0, 1)])) (zq_ev rq (0, [(1, 1)])) (zq_ev rq (0, [(2, 1)])) (zq_ev rq (0, [(6, 1)])) (zq_ev rq (0, [(7, 1)])) (zq_ev rq (0, [])) P h; simp only [g0, g1, g2, g3, g4, g5, g6]; exact t1)) zq_fan)⟩
noncomputable def zk_ib : zq_S × List zq_S := (([], [], [(0, [(5, 1)]), (448, [(4, -1)])], [], [], [], [(256, [(1, []), (0, [(0, 1)]), (0, [(1, 1)]), (0, [(3, 1)]), (0, [(4, 1)]), (0, [(5, 1)]), (0, [(6, 1)]), (0, [(7, 1)])]), (266, [(0, [(8, 1)]), (0, [(3, 1)]), (0, [(4, 1)]), (0, [(5, 1)]), (1, []), (0, [(9, 1)])]), (279, [(0, [(8, 1)]), (0, [(2, 1)])])], 10), [([], [], [], [], [], [], [(272, [(1, []), (0, [(0, 1)]), (0, [(1, 1)]), (0, [(2, 1)]), (0, [(6, 1)]), (0, [(7, 1)]), (0, [])])], 10)])
theorem zk_ib_l {P : zq_Ty} {h : zq_H} {g n W Y z d e p v r : Int} (a1 : 0 ≤ d) (a2 : 0 ≤ -z + 448) (k1 : zd_CI 1 g n Y z d e p P h) (k2 : zr_RK v Y z d 1 r P h) (k3 : zo_OW 102 v W P h) : (zr_IS 1 g n W e p 0 P h) := by
  have hw := zr_cw1 k3
  rcases k1 with ⟨h1, -⟩ | ⟨-, h1, f, h2, h3⟩
  · omega
  obtain ⟨x, t, hx, y1, y2⟩ := zr_T_run h2 (by omega) hw k2.2
  have z1 := y1 rfl
  exact Or.inr ⟨rfl, h1, x, t, f, hx, fun q => by rw [z1] at q; exact absurd q.2 (by decide), h3⟩
theorem zk_ib_ok {w : zq_Wd} (x_CI : zj_is w 256 (fun q => zd_CI (q 0) (q 1) (q 2) (q 3) (q 4) (q 5) (q 6) (q 7))) (x_RK : zj_is w 266 (fun q => zr_RK (q 0) (q 1) (q 2) (q 3) (q 4) (q 5))) (x_OW : zj_is w 279 (fun q => zo_OW 102 (q 0) (q 1))) (x_IS : zj_is w 272 (fun q => zr_IS (q 0) (q 1) (q 2) (q 3) (q 4) (q 5) (q 6))) : zq_okG1 w zk_ib := by
  refine ⟨rfl, rfl, zu_fac ⟨rfl, by decide⟩ zq_fan, ?_⟩
  intro r P h H hM
  have q0 : zq_ev r (0, [(5, 1)]) = r 5 := zu_e1 _ _
  have q1 : zq_ev r (448, [(4, -1)]) = -r 4 + 448 := zu_e5 _ _ _
  have q2 : zq_ev r (1, []) = 1 := zu_e0 _ _
  have q3 : zq_ev r (0, [(0, 1)]) = r 0 := zu_e1 _ _
  have q4 : zq_ev r (0, [(1, 1)]) = r 1 := zu_e1 _ _
  have q5 : zq_ev r (0, [(3, 1)]) = r 3 := zu_e1 _ _
  have q6 : zq_ev r (0, [(4, 1)]) = r 4 := zu_e1 _ _
  have q7 : zq_ev r (0, [(6, 1)]) = r 6 := zu_e1 _ _
  have q8 : zq_ev r (0, [(7, 1)]) = r 7 := zu_e1 _ _
  have q9 : zq_ev r (0, [(8, 1)]) = r 8 := zu_e1 _ _
  have q10 : zq_ev r (0, [(9, 1)]) = r 9 := zu_e1 _ _
  have q11 : zq_ev r (0, [(2, 1)]) = r 2 := zu_e1 _ _
  obtain ⟨hT, hC, hF, hS, -, hK⟩ := hM
  have c := hC.1
  have a1 := zq_all_1 c
  rw [q0] at a1
  have c := zq_all_t c
  have a2 := zq_all_1 c
  rw [q1] at a2
  have k1 := zj_use x_CI (hK)
  have k1 : zd_CI (zq_ev r (1, [])) (zq_ev r (0, [(0, 1)])) (zq_ev r (0, [(1, 1)])) (zq_ev r (0, [(3, 1)])) (zq_ev r (0, [(4, 1)])) (zq_ev r (0, [(5, 1)])) (zq_ev r (0, [(6, 1)])) (zq_ev r (0, [(7, 1)])) P h := k1
  simp only [q0, q2, q3, q4, q5, q6, q7, q8] at k1
  have k2 := zj_use x_RK (zq_okX_t (hK))
  have k2 : zr_RK (zq_ev r (0, [(8, 1)])) (zq_ev r (0, [(3, 1)])) (zq_ev r (0, [(4, 1)])) (zq_ev r (0, [(5, 1)])) (zq_ev r (1, [])) (zq_ev r (0, [(9, 1)])) P h := k2
  simp only [q0, q10, q2, q5, q6, q9] at k2
  have k3 := zj_use x_OW (zq_okX_t (zq_okX_t (hK)))
  have k3 : zo_OW 102 (zq_ev r (0, [(8, 1)])) (zq_ev r (0, [(2, 1)])) P h := k3
  simp only [q11, q9] at k3
  obtain t1 := zk_ib_l (P := P) (h := h) (g := r 0) (n := r 1) (W := r 2) (Y := r 3) (z := r 4) (d := r 5) (e := r 6) (p := r 7) (v := r 8) (r := r 9) a1 a2 k1 k2 k3
  obtain ⟨rq, hr⟩ : ∃ rq : Nat → Int, (∀ i, i < 10 → rq i = r i) := ⟨r, fun i hi => rfl⟩
  have v0 : rq 0 = r 0 := hr 0 (by decide)
  have v1 : rq 1 = r 1 := hr 1 (by decide)
  have v2 : rq 2 = r 2 := hr 2 (by decide)
  have v6 : rq 6 = r 6 := hr 6 (by decide)
  have v7 : rq 7 = r 7 := hr 7 (by decide)
  have g0 : zq_ev rq (1, []) = 1 := zu_e0 _ _
  have g1 : zq_ev rq (0, [(0, 1)]) = r 0 := zu_f1 v0
  have g2 : zq_ev rq (0, [(1, 1)]) = r 1 := zu_f1 v1
  have g3 : zq_ev rq (0, [(2, 1)]) = r 2 := zu_f1 v2
  have g4 : zq_ev rq (0, [(6, 1)]) = r 6 := zu_f1 v6
  have g5 : zq_ev rq (0, [(7, 1)]) = r 7 := zu_f1 v7
  have g6 : zq_ev rq (0, []) = 0 := zu_e0 _ _
  exact ⟨_, List.mem_cons_self .., rq, hr, zq_MeS_mk rfl hT (zq_all_nil) zq_fan (zq_fan) rfl (zu_fac ((x_IS _ _ _).mpr (by show zr_IS (zq_ev rq (1, [])) (zq_ev rq (0, [(0, 1)])) (zq_ev rq (0, [(1, 1)])) (zq_ev rq (0, [(2, 1)])) (zq_ev rq (0, [(6, 1)])) (zq_ev rq (0, [(7, 1)])) (zq_ev rq (0, [])) P h; simp only [g0, g1, g2, g3, g4, g5, g6]; exact t1)) zq_fan)⟩
noncomputable def zk_e0 : zq_S × List zq_S := (([], [], [], [], [], [], [], 1), [([], [], [], [], [], [], [(321, [(0, [(0, 1)]), (0, []), (0, [])])], 1)])
theorem zk_e0_l {P : zq_Ty} {h : zq_H} {M : Int}  : (zo_EN M 0 0 P h) := by
  exact ⟨by decide, rfl⟩
theorem zk_e0_ok {w : zq_Wd} (x_EN : zj_is w 321 (fun q => zo_EN (q 0) (q 1) (q 2))) : zq_okG1 w zk_e0 := by
  refine ⟨rfl, rfl, zu_fac ⟨rfl, by decide⟩ zq_fan, ?_⟩
  intro r P h H hM
  obtain ⟨hT, hC, hF, hS, -, hK⟩ := hM
  have c := hC.1
  obtain t1 := zk_e0_l (P := P) (h := h) (M := r 0) 
  obtain ⟨rq, hr⟩ : ∃ rq : Nat → Int, (∀ i, i < 1 → rq i = r i) := ⟨r, fun i hi => rfl⟩
  have v0 : rq 0 = r 0 := hr 0 (by decide)
  have g0 : zq_ev rq (0, [(0, 1)]) = r 0 := zu_f1 v0
  have g1 : zq_ev rq (0, []) = 0 := zu_e0 _ _
  exact ⟨_, List.mem_cons_self .., rq, hr, zq_MeS_mk rfl hT (zq_all_nil) zq_fan (zq_fan) rfl (zu_fac ((x_EN _ _ _).mpr (by show zo_EN (zq_ev rq (0, [(0, 1)])) (zq_ev rq (0, [])) (zq_ev rq (0, [])) P h; simp only [g0, g1]; exact t1)) zq_fan)⟩
noncomputable def zk_e1p : zq_S × List zq_S := (([], [], [(-1, [(3, 1)])], [], [], [], [(321, [(0, [(0, 1)]), (0, [(1, 1)]), (0, [(2, 1)])]), (134, [(0, [(0, 1)]), (0, [(1, 1)]), (0, [(3, 1)])])], 4), [([], [], [], [], [], [], [(321, [(0, [(0, 1)]), (1, [(1, 1)]), (0, [(2, 1)])])], 4)])
theorem zk_e1p_l {P : zq_Ty} {h : zq_H} {M l s v : Int} (a1 : 0 ≤ v - 1) (k1 : zo_EN M l s P h) (k2 : zn_DG M l v P h) : (zo_EN M (l + 1) s P h) := by
  obtain ⟨w1, w2⟩ := k1
  have k2 : v = zn_dg M l := k2
  refine ⟨by omega, ?_⟩
  rw [show (l + 1).toNat = l.toNat + 1 by omega]
  show _ = zo_ev M l.toNat + (if zn_dg M (l.toNat : Int) = 0 then 1 else 0)
  rw [show ((l.toNat : Nat) : Int) = l by omega, ← k2]
  rw [if_neg (by omega)]; omega
theorem zk_e1p_ok {w : zq_Wd} (x_EN : zj_is w 321 (fun q => zo_EN (q 0) (q 1) (q 2))) (x_DG : zj_is w 134 (fun q => zn_DG (q 0) (q 1) (q 2))) : zq_okG1 w zk_e1p := by
  refine ⟨rfl, rfl, zu_fac ⟨rfl, by decide⟩ zq_fan, ?_⟩
  intro r P h H hM
  have q0 : zq_ev r (-1, [(3, 1)]) = r 3 - 1 := zu_e3 _ _ _
  have q1 : zq_ev r (0, [(0, 1)]) = r 0 := zu_e1 _ _
  have q2 : zq_ev r (0, [(1, 1)]) = r 1 := zu_e1 _ _
  have q3 : zq_ev r (0, [(2, 1)]) = r 2 := zu_e1 _ _
  have q4 : zq_ev r (0, [(3, 1)]) = r 3 := zu_e1 _ _
  obtain ⟨hT, hC, hF, hS, -, hK⟩ := hM
  have c := hC.1
  have a1 := zq_all_1 c
  rw [q0] at a1
  have k1 := zj_use x_EN (hK)
  have k1 : zo_EN (zq_ev r (0, [(0, 1)])) (zq_ev r (0, [(1, 1)])) (zq_ev r (0, [(2, 1)])) P h := k1
  simp only [q1, q2, q3] at k1
  have k2 := zj_use x_DG (zq_okX_t (hK))
  have k2 : zn_DG (zq_ev r (0, [(0, 1)])) (zq_ev r (0, [(1, 1)])) (zq_ev r (0, [(3, 1)])) P h := k2
  simp only [q1, q2, q4] at k2
  obtain t1 := zk_e1p_l (P := P) (h := h) (M := r 0) (l := r 1) (s := r 2) (v := r 3) a1 k1 k2
  obtain ⟨rq, hr⟩ : ∃ rq : Nat → Int, (∀ i, i < 4 → rq i = r i) := ⟨r, fun i hi => rfl⟩
  have v0 : rq 0 = r 0 := hr 0 (by decide)
  have v1 : rq 1 = r 1 := hr 1 (by decide)
  have v2 : rq 2 = r 2 := hr 2 (by decide)
  have g0 : zq_ev rq (0, [(0, 1)]) = r 0 := zu_f1 v0
  have g1 : zq_ev rq (1, [(1, 1)]) = r 1 + 1 := zu_f2 v1 _
  have g2 : zq_ev rq (0, [(2, 1)]) = r 2 := zu_f1 v2
  exact ⟨_, List.mem_cons_self .., rq, hr, zq_MeS_mk rfl hT (zq_all_nil) zq_fan (zq_fan) rfl (zu_fac ((x_EN _ _ _).mpr (by show zo_EN (zq_ev rq (0, [(0, 1)])) (zq_ev rq (1, [(1, 1)])) (zq_ev rq (0, [(2, 1)])) P h; simp only [g0, g1, g2]; exact t1)) zq_fan)⟩
noncomputable def zk_e1m : zq_S × List zq_S := (([], [], [(-1, [(3, -1)])], [], [], [], [(321, [(0, [(0, 1)]), (0, [(1, 1)]), (0, [(2, 1)])]), (134, [(0, [(0, 1)]), (0, [(1, 1)]), (0, [(3, 1)])])], 4), [([], [], [], [], [], [], [(321, [(0, [(0, 1)]), (1, [(1, 1)]), (0, [(2, 1)])])], 4)])
theorem zk_e1m_l {P : zq_Ty} {h : zq_H} {M l s v : Int} (a1 : 0 ≤ -v - 1) (k1 : zo_EN M l s P h) (k2 : zn_DG M l v P h) : (zo_EN M (l + 1) s P h) := by
  obtain ⟨w1, w2⟩ := k1
  have k2 : v = zn_dg M l := k2
  refine ⟨by omega, ?_⟩
  rw [show (l + 1).toNat = l.toNat + 1 by omega]
  show _ = zo_ev M l.toNat + (if zn_dg M (l.toNat : Int) = 0 then 1 else 0)
  rw [show ((l.toNat : Nat) : Int) = l by omega, ← k2]
  rw [if_neg (by omega)]; omega
theorem zk_e1m_ok {w : zq_Wd} (x_EN : zj_is w 321 (fun q => zo_EN (q 0) (q 1) (q 2))) (x_DG : zj_is w 134 (fun q => zn_DG (q 0) (q 1) (q 2))) : zq_okG1 w zk_e1m := by
  refine ⟨rfl, rfl, zu_fac ⟨rfl, by decide⟩ zq_fan, ?_⟩
  intro r P h H hM
  have q0 : zq_ev r (-1, [(3, -1)]) = -r 3 - 1 := zu_e6 _ _ _
  have q1 : zq_ev r (0, [(0, 1)]) = r 0 := zu_e1 _ _
  have q2 : zq_ev r (0, [(1, 1)]) = r 1 := zu_e1 _ _
  have q3 : zq_ev r (0, [(2, 1)]) = r 2 := zu_e1 _ _
  have q4 : zq_ev r (0, [(3, 1)]) = r 3 := zu_e1 _ _
  obtain ⟨hT, hC, hF, hS, -, hK⟩ := hM
  have c := hC.1
  have a1 := zq_all_1 c
  rw [q0] at a1
  have k1 := zj_use x_EN (hK)
  have k1 : zo_EN (zq_ev r (0, [(0, 1)])) (zq_ev r (0, [(1, 1)])) (zq_ev r (0, [(2, 1)])) P h := k1
  simp only [q1, q2, q3] at k1
  have k2 := zj_use x_DG (zq_okX_t (hK))
  have k2 : zn_DG (zq_ev r (0, [(0, 1)])) (zq_ev r (0, [(1, 1)])) (zq_ev r (0, [(3, 1)])) P h := k2
  simp only [q1, q2, q4] at k2
  obtain t1 := zk_e1m_l (P := P) (h := h) (M := r 0) (l := r 1) (s := r 2) (v := r 3) a1 k1 k2
  obtain ⟨rq, hr⟩ : ∃ rq : Nat → Int, (∀ i, i < 4 → rq i = r i) := ⟨r, fun i hi => rfl⟩
  have v0 : rq 0 = r 0 := hr 0 (by decide)
  have v1 : rq 1 = r 1 := hr 1 (by decide)
  have v2 : rq 2 = r 2 := hr 2 (by decide)
  have g0 : zq_ev rq (0, [(0, 1)]) = r 0 := zu_f1 v0
  have g1 : zq_ev rq (1, [(1, 1)]) = r 1 + 1 := zu_f2 v1 _
  have g2 : zq_ev rq (0, [(2, 1)]) = r 2 := zu_f1 v2
  exact ⟨_, List.mem_cons_self .., rq, hr, zq_MeS_mk rfl hT (zq_all_nil) zq_fan (zq_fan) rfl (zu_fac ((x_EN _ _ _).mpr (by show zo_EN (zq_ev rq (0, [(0, 1)])) (zq_ev rq (1, [(1, 1)])) (zq_ev rq (0, [(2, 1)])) P h; simp only [g0, g1, g2]; exact t1)) zq_fan)⟩
noncomputable def zk_e2 : zq_S × List zq_S := (([], [], [(0, [(3, 1)]), (0, [(3, -1)])], [], [], [], [(321, [(0, [(0, 1)]), (0, [(1, 1)]), (0, [(2, 1)])]), (134, [(0, [(0, 1)]), (0, [(1, 1)]), (0, [(3, 1)])])], 4), [([], [], [], [], [], [], [(321, [(0, [(0, 1)]), (1, [(1, 1)]), (1, [(2, 1)])])], 4)])
theorem zk_e2_l {P : zq_Ty} {h : zq_H} {M l s v : Int} (a1 : 0 ≤ v) (a2 : 0 ≤ -v) (k1 : zo_EN M l s P h) (k2 : zn_DG M l v P h) : (zo_EN M (l + 1) (s + 1) P h) := by
  obtain ⟨w1, w2⟩ := k1
  have k2 : v = zn_dg M l := k2
  refine ⟨by omega, ?_⟩
  rw [show (l + 1).toNat = l.toNat + 1 by omega]
  show _ = zo_ev M l.toNat + (if zn_dg M (l.toNat : Int) = 0 then 1 else 0)
  rw [show ((l.toNat : Nat) : Int) = l by omega, ← k2]
  rw [if_pos (by omega)]; omega
theorem zk_e2_ok {w : zq_Wd} (x_EN : zj_is w 321 (fun q => zo_EN (q 0) (q 1) (q 2))) (x_DG : zj_is w 134 (fun q => zn_DG (q 0) (q 1) (q 2))) : zq_okG1 w zk_e2 := by
  refine ⟨rfl, rfl, zu_fac ⟨rfl, by decide⟩ zq_fan, ?_⟩
  intro r P h H hM
  have q0 : zq_ev r (0, [(3, 1)]) = r 3 := zu_e1 _ _
  have q1 : zq_ev r (0, [(3, -1)]) = -r 3 := zu_e4 _ _
  have q2 : zq_ev r (0, [(0, 1)]) = r 0 := zu_e1 _ _
  have q3 : zq_ev r (0, [(1, 1)]) = r 1 := zu_e1 _ _
  have q4 : zq_ev r (0, [(2, 1)]) = r 2 := zu_e1 _ _
  obtain ⟨hT, hC, hF, hS, -, hK⟩ := hM
  have c := hC.1
  have a1 := zq_all_1 c
  rw [q0] at a1
  have c := zq_all_t c
  have a2 := zq_all_1 c
  rw [q1] at a2
  have k1 := zj_use x_EN (hK)
  have k1 : zo_EN (zq_ev r (0, [(0, 1)])) (zq_ev r (0, [(1, 1)])) (zq_ev r (0, [(2, 1)])) P h := k1
  simp only [q2, q3, q4] at k1
  have k2 := zj_use x_DG (zq_okX_t (hK))
  have k2 : zn_DG (zq_ev r (0, [(0, 1)])) (zq_ev r (0, [(1, 1)])) (zq_ev r (0, [(3, 1)])) P h := k2
  simp only [q0, q2, q3] at k2
  obtain t1 := zk_e2_l (P := P) (h := h) (M := r 0) (l := r 1) (s := r 2) (v := r 3) a1 a2 k1 k2
  obtain ⟨rq, hr⟩ : ∃ rq : Nat → Int, (∀ i, i < 4 → rq i = r i) := ⟨r, fun i hi => rfl⟩
  have v0 : rq 0 = r 0 := hr 0 (by decide)
  have v1 : rq 1 = r 1 := hr 1 (by decide)
  have v2 : rq 2 = r 2 := hr 2 (by decide)
  have g0 : zq_ev rq (0, [(0, 1)]) = r 0 := zu_f1 v0
  have g1 : zq_ev rq (1, [(1, 1)]) = r 1 + 1 := zu_f2 v1 _
  have g2 : zq_ev rq (1, [(2, 1)]) = r 2 + 1 := zu_f2 v2 _
  exact ⟨_, List.mem_cons_self .., rq, hr, zq_MeS_mk rfl hT (zq_all_nil) zq_fan (zq_fan) rfl (zu_fac ((x_EN _ _ _).mpr (by show zo_EN (zq_ev rq (0, [(0, 1)])) (zq_ev rq (1, [(1, 1)])) (zq_ev rq (1, [(2, 1)])) P h; simp only [g0, g1, g2]; exact t1)) zq_fan)⟩
noncomputable def zk_w0 : zq_S × List zq_S := (([], [], [(0, [(0, 1)])], [((0, [(0, 1)]), 102)], [], [], [], 3), [([], [], [], [], [], [], [(322, [(0, [(0, 1)]), (0, [(1, 1)]), (0, [(2, 1)]), (0, [])])], 3)])
theorem zk_w0_l {P : zq_Ty} {h : zq_H} {a p M : Int} (a1 : 0 ≤ a) (b1 : 0 ≤ a → P (a).toNat = some 102) : (zo_WB a p M 0 P h) := by
  exact ⟨⟨a1, b1 a1⟩, by omega, fun i x y => by omega⟩
theorem zk_w0_ok {w : zq_Wd} (x_WB : zj_is w 322 (fun q => zo_WB (q 0) (q 1) (q 2) (q 3))) : zq_okG1 w zk_w0 := by
  refine ⟨rfl, rfl, zu_fac ⟨rfl, by decide⟩ zq_fan, ?_⟩
  intro r P h H hM
  have q0 : zq_ev r (0, [(0, 1)]) = r 0 := zu_e1 _ _
  obtain ⟨hT, hC, hF, hS, -, hK⟩ := hM
  have c := hC.1
  have a1 := zq_all_1 c
  rw [q0] at a1
  have b1 : 0 ≤ r 0 → P (r 0).toNat = some 102 := fun z => by
    have z1 : 0 ≤ zq_ev r (0, [(0, 1)]) := by rw [q0]; exact z
    have z2 := zq_okF_1 (hF) z1
    simp only [q0] at z2
    exact z2
  obtain t1 := zk_w0_l (P := P) (h := h) (a := r 0) (p := r 1) (M := r 2) a1 b1
  obtain ⟨rq, hr⟩ : ∃ rq : Nat → Int, (∀ i, i < 3 → rq i = r i) := ⟨r, fun i hi => rfl⟩
  have v0 : rq 0 = r 0 := hr 0 (by decide)
  have v1 : rq 1 = r 1 := hr 1 (by decide)
  have v2 : rq 2 = r 2 := hr 2 (by decide)
  have g0 : zq_ev rq (0, [(0, 1)]) = r 0 := zu_f1 v0
  have g1 : zq_ev rq (0, [(1, 1)]) = r 1 := zu_f1 v1
  have g2 : zq_ev rq (0, [(2, 1)]) = r 2 := zu_f1 v2
  have g3 : zq_ev rq (0, []) = 0 := zu_e0 _ _
  exact ⟨_, List.mem_cons_self .., rq, hr, zq_MeS_mk rfl hT (zq_all_nil) zq_fan (zq_fan) rfl (zu_fac ((x_WB _ _ _).mpr (by show zo_WB (zq_ev rq (0, [(0, 1)])) (zq_ev rq (0, [(1, 1)])) (zq_ev rq (0, [(2, 1)])) (zq_ev rq (0, [])) P h; simp only [g0, g1, g2, g3]; exact t1)) zq_fan)⟩
noncomputable def zk_w1 : zq_S × List zq_S := (([], [], [(-1, [(1, 1), (3, -1)]), (5, [(3, -1)])], [], [((0, [(0, 1)]), (12, [(3, 1)]), (0, [(4, 1)]))], [], [(322, [(0, [(0, 1)]), (0, [(1, 1)]), (0, [(2, 1)]), (0, [(3, 1)])]), (134, [(0, [(2, 1)]), (0, [(3, 1)]), (0, [(4, 1)])])], 5), [([], [], [], [], [], [], [(322, [(0, [(0, 1)]), (0, [(1, 1)]), (0, [(2, 1)]), (1, [(3, 1)])])], 5)])
theorem zk_w1_l {P : zq_Ty} {h : zq_H} {a p M l v : Int} (a1 : 0 ≤ p - l - 1) (a2 : 0 ≤ -l + 5) (s1 : 0 ≤ a ∧ P (a).toNat ≠ none ∧ h (a).toNat (l + 12) = v) (k1 : zo_WB a p M l P h) (k2 : zn_DG M l v P h) : (zo_WB a p M (l + 1) P h) := by
  obtain ⟨w1, w2, w3⟩ := k1
  refine ⟨w1, by omega, fun i x y => ?_⟩
  by_cases e : i = l
  · rw [e, show 12 + l = l + 12 by omega, s1.2.2]
    rw [if_pos (by omega)]; exact k2
  · exact w3 i x (by omega)
theorem zk_w1_ok {w : zq_Wd} (x_WB : zj_is w 322 (fun q => zo_WB (q 0) (q 1) (q 2) (q 3))) (x_DG : zj_is w 134 (fun q => zn_DG (q 0) (q 1) (q 2))) : zq_okG1 w zk_w1 := by
  refine ⟨rfl, rfl, zu_fac ⟨rfl, by decide⟩ zq_fan, ?_⟩
  intro r P h H hM
  have q0 : zq_ev r (-1, [(1, 1), (3, -1)]) = r 1 - r 3 - 1 := by simp only [zq_ev, zq_ts] <;> omega
  have q1 : zq_ev r (5, [(3, -1)]) = -r 3 + 5 := zu_e5 _ _ _
  have q2 : zq_ev r (0, [(0, 1)]) = r 0 := zu_e1 _ _
  have q3 : zq_ev r (12, [(3, 1)]) = r 3 + 12 := zu_e2 _ _ _
  have q4 : zq_ev r (0, [(4, 1)]) = r 4 := zu_e1 _ _
  have q5 : zq_ev r (0, [(1, 1)]) = r 1 := zu_e1 _ _
  have q6 : zq_ev r (0, [(2, 1)]) = r 2 := zu_e1 _ _
  have q7 : zq_ev r (0, [(3, 1)]) = r 3 := zu_e1 _ _
  obtain ⟨hT, hC, hF, hS, -, hK⟩ := hM
  have c := hC.1
  have a1 := zq_all_1 c
  rw [q0] at a1
  have c := zq_all_t c
  have a2 := zq_all_1 c
  rw [q1] at a2
  have s1 := zq_okS_1 (hS)
  simp only [q2, q3, q4] at s1
  have k1 := zj_use x_WB (hK)
  have k1 : zo_WB (zq_ev r (0, [(0, 1)])) (zq_ev r (0, [(1, 1)])) (zq_ev r (0, [(2, 1)])) (zq_ev r (0, [(3, 1)])) P h := k1
  simp only [q2, q5, q6, q7] at k1
  have k2 := zj_use x_DG (zq_okX_t (hK))
  have k2 : zn_DG (zq_ev r (0, [(2, 1)])) (zq_ev r (0, [(3, 1)])) (zq_ev r (0, [(4, 1)])) P h := k2
  simp only [q4, q6, q7] at k2
  obtain t1 := zk_w1_l (P := P) (h := h) (a := r 0) (p := r 1) (M := r 2) (l := r 3) (v := r 4) a1 a2 s1 k1 k2
  obtain ⟨rq, hr⟩ : ∃ rq : Nat → Int, (∀ i, i < 5 → rq i = r i) := ⟨r, fun i hi => rfl⟩
  have v0 : rq 0 = r 0 := hr 0 (by decide)
  have v1 : rq 1 = r 1 := hr 1 (by decide)
  have v2 : rq 2 = r 2 := hr 2 (by decide)
  have v3 : rq 3 = r 3 := hr 3 (by decide)
  have g0 : zq_ev rq (0, [(0, 1)]) = r 0 := zu_f1 v0
  have g1 : zq_ev rq (0, [(1, 1)]) = r 1 := zu_f1 v1
  have g2 : zq_ev rq (0, [(2, 1)]) = r 2 := zu_f1 v2
  have g3 : zq_ev rq (1, [(3, 1)]) = r 3 + 1 := zu_f2 v3 _
  exact ⟨_, List.mem_cons_self .., rq, hr, zq_MeS_mk rfl hT (zq_all_nil) zq_fan (zq_fan) rfl (zu_fac ((x_WB _ _ _).mpr (by show zo_WB (zq_ev rq (0, [(0, 1)])) (zq_ev rq (0, [(1, 1)])) (zq_ev rq (0, [(2, 1)])) (zq_ev rq (1, [(3, 1)])) P h; simp only [g0, g1, g2, g3]; exact t1)) zq_fan)⟩
noncomputable def zk_w2 : zq_S × List zq_S := (([], [], [(0, [(1, -1), (3, 1)]), (1, [(4, 1)]), (-1, [(4, -1)]), (5, [(3, -1)])], [], [((0, [(0, 1)]), (12, [(3, 1)]), (0, [(4, 1)]))], [], [(322, [(0, [(0, 1)]), (0, [(1, 1)]), (0, [(2, 1)]), (0, [(3, 1)])])], 5), [([], [], [], [], [], [], [(322, [(0, [(0, 1)]), (0, [(1, 1)]), (0, [(2, 1)]), (1, [(3, 1)])])], 5)])
theorem zk_w2_l {P : zq_Ty} {h : zq_H} {a p M l v : Int} (a1 : 0 ≤ -p + l) (a2 : 0 ≤ v + 1) (a3 : 0 ≤ -v - 1) (a4 : 0 ≤ -l + 5) (s1 : 0 ≤ a ∧ P (a).toNat ≠ none ∧ h (a).toNat (l + 12) = v) (k1 : zo_WB a p M l P h) : (zo_WB a p M (l + 1) P h) := by
  obtain ⟨w1, w2, w3⟩ := k1
  refine ⟨w1, by omega, fun i x y => ?_⟩
  by_cases e : i = l
  · rw [e, show 12 + l = l + 12 by omega, s1.2.2]
    rw [if_neg (by omega)]; omega
  · exact w3 i x (by omega)
theorem zk_w2_ok {w : zq_Wd} (x_WB : zj_is w 322 (fun q => zo_WB (q 0) (q 1) (q 2) (q 3))) : zq_okG1 w zk_w2 := by
  refine ⟨rfl, rfl, zu_fac ⟨rfl, by decide⟩ zq_fan, ?_⟩
  intro r P h H hM
  have q0 : zq_ev r (0, [(1, -1), (3, 1)]) = -r 1 + r 3 := by simp only [zq_ev, zq_ts] <;> omega
  have q1 : zq_ev r (1, [(4, 1)]) = r 4 + 1 := zu_e2 _ _ _
  have q2 : zq_ev r (-1, [(4, -1)]) = -r 4 - 1 := zu_e6 _ _ _
  have q3 : zq_ev r (5, [(3, -1)]) = -r 3 + 5 := zu_e5 _ _ _
  have q4 : zq_ev r (0, [(0, 1)]) = r 0 := zu_e1 _ _
  have q5 : zq_ev r (12, [(3, 1)]) = r 3 + 12 := zu_e2 _ _ _
  have q6 : zq_ev r (0, [(4, 1)]) = r 4 := zu_e1 _ _
  have q7 : zq_ev r (0, [(1, 1)]) = r 1 := zu_e1 _ _
  have q8 : zq_ev r (0, [(2, 1)]) = r 2 := zu_e1 _ _
  have q9 : zq_ev r (0, [(3, 1)]) = r 3 := zu_e1 _ _
  obtain ⟨hT, hC, hF, hS, -, hK⟩ := hM
  have c := hC.1
  have a1 := zq_all_1 c
  rw [q0] at a1
  have c := zq_all_t c
  have a2 := zq_all_1 c
  rw [q1] at a2
  have c := zq_all_t c
  have a3 := zq_all_1 c
  rw [q2] at a3
  have c := zq_all_t c
  have a4 := zq_all_1 c
  rw [q3] at a4
  have s1 := zq_okS_1 (hS)
  simp only [q4, q5, q6] at s1
  have k1 := zj_use x_WB (hK)
  have k1 : zo_WB (zq_ev r (0, [(0, 1)])) (zq_ev r (0, [(1, 1)])) (zq_ev r (0, [(2, 1)])) (zq_ev r (0, [(3, 1)])) P h := k1
  simp only [q4, q7, q8, q9] at k1
  obtain t1 := zk_w2_l (P := P) (h := h) (a := r 0) (p := r 1) (M := r 2) (l := r 3) (v := r 4) a1 a2 a3 a4 s1 k1
  obtain ⟨rq, hr⟩ : ∃ rq : Nat → Int, (∀ i, i < 5 → rq i = r i) := ⟨r, fun i hi => rfl⟩
  have v0 : rq 0 = r 0 := hr 0 (by decide)
  have v1 : rq 1 = r 1 := hr 1 (by decide)
  have v2 : rq 2 = r 2 := hr 2 (by decide)
  have v3 : rq 3 = r 3 := hr 3 (by decide)
  have g0 : zq_ev rq (0, [(0, 1)]) = r 0 := zu_f1 v0
  have g1 : zq_ev rq (0, [(1, 1)]) = r 1 := zu_f1 v1
  have g2 : zq_ev rq (0, [(2, 1)]) = r 2 := zu_f1 v2
  have g3 : zq_ev rq (1, [(3, 1)]) = r 3 + 1 := zu_f2 v3 _
  exact ⟨_, List.mem_cons_self .., rq, hr, zq_MeS_mk rfl hT (zq_all_nil) zq_fan (zq_fan) rfl (zu_fac ((x_WB _ _ _).mpr (by show zo_WB (zq_ev rq (0, [(0, 1)])) (zq_ev rq (0, [(1, 1)])) (zq_ev rq (0, [(2, 1)])) (zq_ev rq (1, [(3, 1)])) P h; simp only [g0, g1, g2, g3]; exact t1)) zq_fan)⟩
noncomputable def zk_x0 : zq_S × List zq_S := (([], [], [(0, [(0, 1)])], [((0, [(0, 1)]), 102)], [], [], [], 2), [([], [], [], [], [], [], [(323, [(0, [(0, 1)]), (0, [(1, 1)]), (0, [])])], 2)])
theorem zk_x0_l {P : zq_Ty} {h : zq_H} {a M : Int} (a1 : 0 ≤ a) (b1 : 0 ≤ a → P (a).toNat = some 102) : (zo_WC a M 0 P h) := by
  exact ⟨⟨a1, b1 a1⟩, by omega, fun i x y => by omega⟩
theorem zk_x0_ok {w : zq_Wd} (x_WC : zj_is w 323 (fun q => zo_WC (q 0) (q 1) (q 2))) : zq_okG1 w zk_x0 := by
  refine ⟨rfl, rfl, zu_fac ⟨rfl, by decide⟩ zq_fan, ?_⟩
  intro r P h H hM
  have q0 : zq_ev r (0, [(0, 1)]) = r 0 := zu_e1 _ _
  obtain ⟨hT, hC, hF, hS, -, hK⟩ := hM
  have c := hC.1
  have a1 := zq_all_1 c
  rw [q0] at a1
  have b1 : 0 ≤ r 0 → P (r 0).toNat = some 102 := fun z => by
    have z1 : 0 ≤ zq_ev r (0, [(0, 1)]) := by rw [q0]; exact z
    have z2 := zq_okF_1 (hF) z1
    simp only [q0] at z2
    exact z2
  obtain t1 := zk_x0_l (P := P) (h := h) (a := r 0) (M := r 1) a1 b1
  obtain ⟨rq, hr⟩ : ∃ rq : Nat → Int, (∀ i, i < 2 → rq i = r i) := ⟨r, fun i hi => rfl⟩
  have v0 : rq 0 = r 0 := hr 0 (by decide)
  have v1 : rq 1 = r 1 := hr 1 (by decide)
  have g0 : zq_ev rq (0, [(0, 1)]) = r 0 := zu_f1 v0
  have g1 : zq_ev rq (0, [(1, 1)]) = r 1 := zu_f1 v1
  have g2 : zq_ev rq (0, []) = 0 := zu_e0 _ _
  exact ⟨_, List.mem_cons_self .., rq, hr, zq_MeS_mk rfl hT (zq_all_nil) zq_fan (zq_fan) rfl (zu_fac ((x_WC _ _ _).mpr (by show zo_WC (zq_ev rq (0, [(0, 1)])) (zq_ev rq (0, [(1, 1)])) (zq_ev rq (0, [])) P h; simp only [g0, g1, g2]; exact t1)) zq_fan)⟩
noncomputable def zk_x1 : zq_S × List zq_S := (([], [], [(3, [(2, -1)])], [], [((0, [(0, 1)]), (18, [(2, 1)]), (0, [(3, 1)]))], [], [(323, [(0, [(0, 1)]), (0, [(1, 1)]), (0, [(2, 1)])]), (134, [(0, [(1, 1)]), (6, [(2, 1)]), (0, [(3, 1)])])], 4), [([], [], [], [], [], [], [(323, [(0, [(0, 1)]), (0, [(1, 1)]), (1, [(2, 1)])])], 4)])
theorem zk_x1_l {P : zq_Ty} {h : zq_H} {a M l v : Int} (a1 : 0 ≤ -l + 3) (s1 : 0 ≤ a ∧ P (a).toNat ≠ none ∧ h (a).toNat (l + 18) = v) (k1 : zo_WC a M l P h) (k2 : zn_DG M (l + 6) v P h) : (zo_WC a M (l + 1) P h) := by
  obtain ⟨w1, w2, w3⟩ := k1
  refine ⟨w1, by omega, fun i x y => ?_⟩
  by_cases e : i = l
  · rw [e, show 18 + l = l + 18 by omega, s1.2.2, show 6 + l = l + 6 by omega]; exact k2
  · exact w3 i x (by omega)
theorem zk_x1_ok {w : zq_Wd} (x_WC : zj_is w 323 (fun q => zo_WC (q 0) (q 1) (q 2))) (x_DG : zj_is w 134 (fun q => zn_DG (q 0) (q 1) (q 2))) : zq_okG1 w zk_x1 := by
  refine ⟨rfl, rfl, zu_fac ⟨rfl, by decide⟩ zq_fan, ?_⟩
  intro r P h H hM
  have q0 : zq_ev r (3, [(2, -1)]) = -r 2 + 3 := zu_e5 _ _ _
  have q1 : zq_ev r (0, [(0, 1)]) = r 0 := zu_e1 _ _
  have q2 : zq_ev r (18, [(2, 1)]) = r 2 + 18 := zu_e2 _ _ _
  have q3 : zq_ev r (0, [(3, 1)]) = r 3 := zu_e1 _ _
  have q4 : zq_ev r (0, [(1, 1)]) = r 1 := zu_e1 _ _
  have q5 : zq_ev r (0, [(2, 1)]) = r 2 := zu_e1 _ _
  have q6 : zq_ev r (6, [(2, 1)]) = r 2 + 6 := zu_e2 _ _ _
  obtain ⟨hT, hC, hF, hS, -, hK⟩ := hM
  have c := hC.1
  have a1 := zq_all_1 c
  rw [q0] at a1
  have s1 := zq_okS_1 (hS)
  simp only [q1, q2, q3] at s1
  have k1 := zj_use x_WC (hK)
  have k1 : zo_WC (zq_ev r (0, [(0, 1)])) (zq_ev r (0, [(1, 1)])) (zq_ev r (0, [(2, 1)])) P h := k1
  simp only [q1, q4, q5] at k1
  have k2 := zj_use x_DG (zq_okX_t (hK))
  have k2 : zn_DG (zq_ev r (0, [(1, 1)])) (zq_ev r (6, [(2, 1)])) (zq_ev r (0, [(3, 1)])) P h := k2
  simp only [q3, q4, q6] at k2
  obtain t1 := zk_x1_l (P := P) (h := h) (a := r 0) (M := r 1) (l := r 2) (v := r 3) a1 s1 k1 k2
  obtain ⟨rq, hr⟩ : ∃ rq : Nat → Int, (∀ i, i < 4 → rq i = r i) := ⟨r, fun i hi => rfl⟩
  have v0 : rq 0 = r 0 := hr 0 (by decide)
  have v1 : rq 1 = r 1 := hr 1 (by decide)
  have v2 : rq 2 = r 2 := hr 2 (by decide)
  have g0 : zq_ev rq (0, [(0, 1)]) = r 0 := zu_f1 v0
  have g1 : zq_ev rq (0, [(1, 1)]) = r 1 := zu_f1 v1
  have g2 : zq_ev rq (1, [(2, 1)]) = r 2 + 1 := zu_f2 v2 _
  exact ⟨_, List.mem_cons_self .., rq, hr, zq_MeS_mk rfl hT (zq_all_nil) zq_fan (zq_fan) rfl (zu_fac ((x_WC _ _ _).mpr (by show zo_WC (zq_ev rq (0, [(0, 1)])) (zq_ev rq (0, [(1, 1)])) (zq_ev rq (1, [(2, 1)])) P h; simp only [g0, g1, g2]; exact t1)) zq_fan)⟩
noncomputable def zk_w9 : zq_S × List zq_S := (([], [], [(0, [(1, 1)]), (6, [(1, -1)]), (2147483648, [(4, 1)]), (2147483647, [(4, -1)]), (2147483648, [(5, 1)]), (2147483647, [(5, -1)]), (-6, [(7, 1)]), (6, [(7, -1)]), (-4, [(8, 1)]), (4, [(8, -1)])], [], [((0, [(0, 1)]), (8, []), (0, [(3, 1)])), ((0, [(0, 1)]), (9, []), (0, [(4, 1)])), ((0, [(0, 1)]), (10, []), (0, [(5, 1)])), ((0, [(0, 1)]), (11, []), (0, [(6, 1)]))], [], [(322, [(0, [(0, 1)]), (0, [(1, 1)]), (0, [(2, 1)]), (0, [(7, 1)])]), (323, [(0, [(0, 1)]), (0, [(2, 1)]), (0, [(8, 1)])]), (321, [(0, [(2, 1)]), (0, [(1, 1)]), (0, [(6, 1)])]), (134, [(0, [(2, 1)]), (10, []), (0, [(3, 1)])])], 9), [([], [], [], [], [], [], [(279, [(0, [(0, 1)]), (0, [(9, 1)])]), (324, [(0, [(9, 1)]), (0, [(1, 1)]), (0, [(2, 1)]), (0, [(4, 1)]), (0, [(5, 1)])])], 10)])
theorem zk_w9_l {P : zq_Ty} {h : zq_H} {a p M d D L s u v : Int} (a1 : 0 ≤ p) (a2 : 0 ≤ -p + 6) (a3 : 0 ≤ D + 2147483648) (a4 : 0 ≤ -D + 2147483647) (a5 : 0 ≤ L + 2147483648) (a6 : 0 ≤ -L + 2147483647) (a7 : 0 ≤ u - 6) (a8 : 0 ≤ -u + 6) (a9 : 0 ≤ v - 4) (a10 : 0 ≤ -v + 4) (s1 : 0 ≤ a ∧ P (a).toNat ≠ none ∧ h (a).toNat 8 = d) (s2 : 0 ≤ a ∧ P (a).toNat ≠ none ∧ h (a).toNat 9 = D) (s3 : 0 ≤ a ∧ P (a).toNat ≠ none ∧ h (a).toNat 10 = L) (s4 : 0 ≤ a ∧ P (a).toNat ≠ none ∧ h (a).toNat 11 = s) (k1 : zo_WB a p M u P h) (k2 : zo_WC a M v P h) (k3 : zo_EN M p s P h) (k4 : zn_DG M 10 d P h) : (∃ W : Int, zo_OW 102 a W P h ∧ zo_OD W p M D L P h) := by
  obtain ⟨w1, w2, w3⟩ := k1
  obtain ⟨x1, x2, x3⟩ := k2
  obtain ⟨y1, y2⟩ := k3
  have k4 : d = zn_dg M 10 := k4
  refine ⟨zo_W p M D L, ⟨w1, fun j h1 h2 => ?_⟩, rfl⟩
  rw [zo_W_dg (by omega) (by unfold zn_in; omega) (by unfold zn_in; omega) (by omega) (by omega)]
  unfold zo_wd
  by_cases e0 : j = 8
  · subst e0; rw [if_pos (by decide), s1.2.2]; exact k4
  rw [if_neg (by omega)]
  by_cases e1 : j = 9
  · subst e1; rw [if_pos (by decide)]; exact s2.2.2
  rw [if_neg (by omega)]
  by_cases e2 : j = 10
  · subst e2; rw [if_pos (by decide)]; exact s3.2.2
  rw [if_neg (by omega)]
  by_cases e3 : j = 11
  · subst e3; rw [if_pos (by decide), s4.2.2]; exact y2
  rw [if_neg (by omega)]
  by_cases e4 : j < 18
  · rw [if_pos (by omega)]
    have q := w3 (j - 12) (by omega) (by omega)
    rw [show 12 + (j - 12) = j by omega] at q
    rw [q, show j - 8 - 4 = j - 12 by omega]
  · rw [if_neg (by omega)]
    have q := x3 (j - 18) (by omega) (by omega)
    rw [show 18 + (j - 18) = j by omega] at q
    rw [q, show 6 + (j - 18) = j - 8 - 4 by omega]
theorem zk_w9_ok {w : zq_Wd} (x_WB : zj_is w 322 (fun q => zo_WB (q 0) (q 1) (q 2) (q 3))) (x_WC : zj_is w 323 (fun q => zo_WC (q 0) (q 1) (q 2))) (x_EN : zj_is w 321 (fun q => zo_EN (q 0) (q 1) (q 2))) (x_DG : zj_is w 134 (fun q => zn_DG (q 0) (q 1) (q 2))) (x_OW : zj_is w 279 (fun q => zo_OW 102 (q 0) (q 1))) (x_OD : zj_is w 324 (fun q => zo_OD (q 0) (q 1) (q 2) (q 3) (q 4))) : zq_okG1 w zk_w9 := by
  refine ⟨rfl, rfl, zu_fac ⟨rfl, by decide⟩ zq_fan, ?_⟩
  intro r P h H hM
  have q0 : zq_ev r (0, [(1, 1)]) = r 1 := zu_e1 _ _
  have q1 : zq_ev r (6, [(1, -1)]) = -r 1 + 6 := zu_e5 _ _ _
  have q2 : zq_ev r (2147483648, [(4, 1)]) = r 4 + 2147483648 := zu_e2 _ _ _
  have q3 : zq_ev r (2147483647, [(4, -1)]) = -r 4 + 2147483647 := zu_e5 _ _ _
  have q4 : zq_ev r (2147483648, [(5, 1)]) = r 5 + 2147483648 := zu_e2 _ _ _
  have q5 : zq_ev r (2147483647, [(5, -1)]) = -r 5 + 2147483647 := zu_e5 _ _ _
  have q6 : zq_ev r (-6, [(7, 1)]) = r 7 - 6 := zu_e3 _ _ _
  have q7 : zq_ev r (6, [(7, -1)]) = -r 7 + 6 := zu_e5 _ _ _
  have q8 : zq_ev r (-4, [(8, 1)]) = r 8 - 4 := zu_e3 _ _ _
  have q9 : zq_ev r (4, [(8, -1)]) = -r 8 + 4 := zu_e5 _ _ _
  have q10 : zq_ev r (0, [(0, 1)]) = r 0 := zu_e1 _ _
  have q11 : zq_ev r (8, []) = 8 := zu_e0 _ _
  have q12 : zq_ev r (0, [(3, 1)]) = r 3 := zu_e1 _ _
  have q13 : zq_ev r (9, []) = 9 := zu_e0 _ _
  have q14 : zq_ev r (0, [(4, 1)]) = r 4 := zu_e1 _ _
  have q15 : zq_ev r (10, []) = 10 := zu_e0 _ _
  have q16 : zq_ev r (0, [(5, 1)]) = r 5 := zu_e1 _ _
  have q17 : zq_ev r (11, []) = 11 := zu_e0 _ _
  have q18 : zq_ev r (0, [(6, 1)]) = r 6 := zu_e1 _ _
  have q19 : zq_ev r (0, [(2, 1)]) = r 2 := zu_e1 _ _
  have q20 : zq_ev r (0, [(7, 1)]) = r 7 := zu_e1 _ _
  have q21 : zq_ev r (0, [(8, 1)]) = r 8 := zu_e1 _ _
  obtain ⟨hT, hC, hF, hS, -, hK⟩ := hM
  have c := hC.1
  have a1 := zq_all_1 c
  rw [q0] at a1
  have c := zq_all_t c
  have a2 := zq_all_1 c
  rw [q1] at a2
  have c := zq_all_t c
  have a3 := zq_all_1 c
  rw [q2] at a3
  have c := zq_all_t c
  have a4 := zq_all_1 c
  rw [q3] at a4
  have c := zq_all_t c
  have a5 := zq_all_1 c
  rw [q4] at a5
  have c := zq_all_t c
  have a6 := zq_all_1 c
  rw [q5] at a6
  have c := zq_all_t c
  have a7 := zq_all_1 c
  rw [q6] at a7
  have c := zq_all_t c
  have a8 := zq_all_1 c
  rw [q7] at a8
  have c := zq_all_t c
  have a9 := zq_all_1 c
  rw [q8] at a9
  have c := zq_all_t c
  have a10 := zq_all_1 c
  rw [q9] at a10
  have s1 := zq_okS_1 (hS)
  simp only [q10, q11, q12] at s1
  have s2 := zq_okS_1 (zq_okS_t (hS))
  simp only [q10, q13, q14] at s2
  have s3 := zq_okS_1 (zq_okS_t (zq_okS_t (hS)))
  simp only [q10, q15, q16] at s3
  have s4 := zq_okS_1 (zq_okS_t (zq_okS_t (zq_okS_t (hS))))
  simp only [q10, q17, q18] at s4
  have k1 := zj_use x_WB (hK)
  have k1 : zo_WB (zq_ev r (0, [(0, 1)])) (zq_ev r (0, [(1, 1)])) (zq_ev r (0, [(2, 1)])) (zq_ev r (0, [(7, 1)])) P h := k1
  simp only [q0, q10, q19, q20] at k1
  have k2 := zj_use x_WC (zq_okX_t (hK))
  have k2 : zo_WC (zq_ev r (0, [(0, 1)])) (zq_ev r (0, [(2, 1)])) (zq_ev r (0, [(8, 1)])) P h := k2
  simp only [q10, q19, q21] at k2
  have k3 := zj_use x_EN (zq_okX_t (zq_okX_t (hK)))
  have k3 : zo_EN (zq_ev r (0, [(2, 1)])) (zq_ev r (0, [(1, 1)])) (zq_ev r (0, [(6, 1)])) P h := k3
  simp only [q0, q18, q19] at k3
  have k4 := zj_use x_DG (zq_okX_t (zq_okX_t (zq_okX_t (hK))))
  have k4 : zn_DG (zq_ev r (0, [(2, 1)])) (zq_ev r (10, [])) (zq_ev r (0, [(3, 1)])) P h := k4
  simp only [q12, q15, q19] at k4
  obtain ⟨y_0, t1, t2⟩ := zk_w9_l (P := P) (h := h) (a := r 0) (p := r 1) (M := r 2) (d := r 3) (D := r 4) (L := r 5) (s := r 6) (u := r 7) (v := r 8) a1 a2 a3 a4 a5 a6 a7 a8 a9 a10 s1 s2 s3 s4 k1 k2 k3 k4
  obtain ⟨rq, hr, w9⟩ : ∃ rq : Nat → Int, (∀ i, i < 9 → rq i = r i) ∧ rq 9 = y_0 := ⟨zq_up r 9 y_0, fun i hi => by rw [zu_up_ne (by omega)], rfl⟩
  have v0 : rq 0 = r 0 := hr 0 (by decide)
  have v1 : rq 1 = r 1 := hr 1 (by decide)
  have v2 : rq 2 = r 2 := hr 2 (by decide)
  have v4 : rq 4 = r 4 := hr 4 (by decide)
  have v5 : rq 5 = r 5 := hr 5 (by decide)
  have g0 : zq_ev rq (0, [(9, 1)]) = y_0 := zu_f1 w9
  have g1 : zq_ev rq (0, [(1, 1)]) = r 1 := zu_f1 v1
  have g2 : zq_ev rq (0, [(2, 1)]) = r 2 := zu_f1 v2
  have g3 : zq_ev rq (0, [(4, 1)]) = r 4 := zu_f1 v4
  have g4 : zq_ev rq (0, [(5, 1)]) = r 5 := zu_f1 v5
  have g5 : zq_ev rq (0, [(0, 1)]) = r 0 := zu_f1 v0
  exact ⟨_, List.mem_cons_self .., rq, hr, zq_MeS_mk rfl hT (zq_all_nil) zq_fan (zq_fan) rfl (zu_fac ((x_OW _ _ _).mpr (by show zo_OW 102 (zq_ev rq (0, [(0, 1)])) (zq_ev rq (0, [(9, 1)])) P h; simp only [g0, g5]; exact t1)) (zu_fac ((x_OD _ _ _).mpr (by show zo_OD (zq_ev rq (0, [(9, 1)])) (zq_ev rq (0, [(1, 1)])) (zq_ev rq (0, [(2, 1)])) (zq_ev rq (0, [(4, 1)])) (zq_ev rq (0, [(5, 1)])) P h; simp only [g0, g1, g2, g3, g4]; exact t2)) zq_fan))⟩
noncomputable def zk_ov16 : zq_S × List zq_S := (([], [], [(0, [(1, 1)]), (6, [(1, -1)]), (2147483648, [(3, 1)]), (2147483647, [(3, -1)]), (2147483648, [(4, 1)]), (2147483647, [(4, -1)]), (-16, [(5, 1)]), (16, [(5, -1)])], [], [], [], [(324, [(0, [(0, 1)]), (0, [(1, 1)]), (0, [(2, 1)]), (0, [(3, 1)]), (0, [(4, 1)])]), (134, [(0, [(2, 1)]), (10, []), (0, [(7, 1)])])], 8), [([], [], [], [], [], [], [(332, [(0, [(0, 1)]), (0, [(5, 1)]), (0, [(6, 1)]), (0, [(7, 1)])])], 8)])
theorem zk_ov16_l {P : zq_Ty} {h : zq_H} {W p M D L c k v : Int} (a1 : 0 ≤ p) (a2 : 0 ≤ -p + 6) (a3 : 0 ≤ D + 2147483648) (a4 : 0 ≤ -D + 2147483647) (a5 : 0 ≤ L + 2147483648) (a6 : 0 ≤ -L + 2147483647) (a7 : 0 ≤ c - 16) (a8 : 0 ≤ -c + 16) (k1 : zo_OD W p M D L P h) (k2 : zn_DG M 10 v P h) : (zo_OV W c k v P h) := by
  have hW : W = zo_W p M D L := k1
  have key : ∀ j : Int, 0 ≤ j → j < 14 → zn_dg W j = zo_wd p M D L j := fun j x y => by rw [hW]; exact zo_W_dg (by omega) (by unfold zn_in; omega) (by unfold zn_in; omega) x y
  show v = ze_w 1 W c k
  rw [ze_w1]
  rw [if_neg (by omega), if_neg (by omega), show c - 16 = 0 by omega, key _ (by decide) (by decide)]
  unfold zo_wd
  rw [if_pos rfl]; exact k2
theorem zk_ov16_ok {w : zq_Wd} (x_OD : zj_is w 324 (fun q => zo_OD (q 0) (q 1) (q 2) (q 3) (q 4))) (x_DG : zj_is w 134 (fun q => zn_DG (q 0) (q 1) (q 2))) (x_OV : zj_is w 332 (fun q => zo_OV (q 0) (q 1) (q 2) (q 3))) : zq_okG1 w zk_ov16 := by
  refine ⟨rfl, rfl, zu_fac ⟨rfl, by decide⟩ zq_fan, ?_⟩
  intro r P h H hM
  have q0 : zq_ev r (0, [(1, 1)]) = r 1 := zu_e1 _ _
  have q1 : zq_ev r (6, [(1, -1)]) = -r 1 + 6 := zu_e5 _ _ _
  have q2 : zq_ev r (2147483648, [(3, 1)]) = r 3 + 2147483648 := zu_e2 _ _ _
  have q3 : zq_ev r (2147483647, [(3, -1)]) = -r 3 + 2147483647 := zu_e5 _ _ _
  have q4 : zq_ev r (2147483648, [(4, 1)]) = r 4 + 2147483648 := zu_e2 _ _ _
  have q5 : zq_ev r (2147483647, [(4, -1)]) = -r 4 + 2147483647 := zu_e5 _ _ _
  have q6 : zq_ev r (-16, [(5, 1)]) = r 5 - 16 := zu_e3 _ _ _
  have q7 : zq_ev r (16, [(5, -1)]) = -r 5 + 16 := zu_e5 _ _ _
  have q8 : zq_ev r (0, [(0, 1)]) = r 0 := zu_e1 _ _
  have q9 : zq_ev r (0, [(2, 1)]) = r 2 := zu_e1 _ _
  have q10 : zq_ev r (0, [(3, 1)]) = r 3 := zu_e1 _ _
  have q11 : zq_ev r (0, [(4, 1)]) = r 4 := zu_e1 _ _
  have q12 : zq_ev r (10, []) = 10 := zu_e0 _ _
  have q13 : zq_ev r (0, [(7, 1)]) = r 7 := zu_e1 _ _
  obtain ⟨hT, hC, hF, hS, -, hK⟩ := hM
  have c := hC.1
  have a1 := zq_all_1 c
  rw [q0] at a1
  have c := zq_all_t c
  have a2 := zq_all_1 c
  rw [q1] at a2
  have c := zq_all_t c
  have a3 := zq_all_1 c
  rw [q2] at a3
  have c := zq_all_t c
  have a4 := zq_all_1 c
  rw [q3] at a4
  have c := zq_all_t c
  have a5 := zq_all_1 c
  rw [q4] at a5
  have c := zq_all_t c
  have a6 := zq_all_1 c
  rw [q5] at a6
  have c := zq_all_t c
  have a7 := zq_all_1 c
  rw [q6] at a7
  have c := zq_all_t c
  have a8 := zq_all_1 c
  rw [q7] at a8
  have k1 := zj_use x_OD (hK)
  have k1 : zo_OD (zq_ev r (0, [(0, 1)])) (zq_ev r (0, [(1, 1)])) (zq_ev r (0, [(2, 1)])) (zq_ev r (0, [(3, 1)])) (zq_ev r (0, [(4, 1)])) P h := k1
  simp only [q0, q10, q11, q8, q9] at k1
  have k2 := zj_use x_DG (zq_okX_t (hK))
  have k2 : zn_DG (zq_ev r (0, [(2, 1)])) (zq_ev r (10, [])) (zq_ev r (0, [(7, 1)])) P h := k2
  simp only [q12, q13, q9] at k2
  obtain t1 := zk_ov16_l (P := P) (h := h) (W := r 0) (p := r 1) (M := r 2) (D := r 3) (L := r 4) (c := r 5) (k := r 6) (v := r 7) a1 a2 a3 a4 a5 a6 a7 a8 k1 k2
  obtain ⟨rq, hr⟩ : ∃ rq : Nat → Int, (∀ i, i < 8 → rq i = r i) := ⟨r, fun i hi => rfl⟩
  have v0 : rq 0 = r 0 := hr 0 (by decide)
  have v5 : rq 5 = r 5 := hr 5 (by decide)
  have v6 : rq 6 = r 6 := hr 6 (by decide)
  have v7 : rq 7 = r 7 := hr 7 (by decide)
  have g0 : zq_ev rq (0, [(0, 1)]) = r 0 := zu_f1 v0
  have g1 : zq_ev rq (0, [(5, 1)]) = r 5 := zu_f1 v5
  have g2 : zq_ev rq (0, [(6, 1)]) = r 6 := zu_f1 v6
  have g3 : zq_ev rq (0, [(7, 1)]) = r 7 := zu_f1 v7
  exact ⟨_, List.mem_cons_self .., rq, hr, zq_MeS_mk rfl hT (zq_all_nil) zq_fan (zq_fan) rfl (zu_fac ((x_OV _ _ _).mpr (by show zo_OV (zq_ev rq (0, [(0, 1)])) (zq_ev rq (0, [(5, 1)])) (zq_ev rq (0, [(6, 1)])) (zq_ev rq (0, [(7, 1)])) P h; simp only [g0, g1, g2, g3]; exact t1)) zq_fan)⟩
noncomputable def zk_ov17 : zq_S × List zq_S := (([], [], [(0, [(1, 1)]), (6, [(1, -1)]), (2147483648, [(3, 1)]), (2147483647, [(3, -1)]), (2147483648, [(4, 1)]), (2147483647, [(4, -1)]), (-17, [(5, 1)]), (17, [(5, -1)]), (0, [(3, -1), (7, 1)]), (0, [(3, 1), (7, -1)])], [], [], [], [(324, [(0, [(0, 1)]), (0, [(1, 1)]), (0, [(2, 1)]), (0, [(3, 1)]), (0, [(4, 1)])])], 8), [([], [], [], [], [], [], [(332, [(0, [(0, 1)]), (0, [(5, 1)]), (0, [(6, 1)]), (0, [(7, 1)])])], 8)])
theorem zk_ov17_l {P : zq_Ty} {h : zq_H} {W p M D L c k v : Int} (a1 : 0 ≤ p) (a2 : 0 ≤ -p + 6) (a3 : 0 ≤ D + 2147483648) (a4 : 0 ≤ -D + 2147483647) (a5 : 0 ≤ L + 2147483648) (a6 : 0 ≤ -L + 2147483647) (a7 : 0 ≤ c - 17) (a8 : 0 ≤ -c + 17) (a9 : 0 ≤ -D + v) (a10 : 0 ≤ D - v) (k1 : zo_OD W p M D L P h) : (zo_OV W c k v P h) := by
  have hW : W = zo_W p M D L := k1
  have key : ∀ j : Int, 0 ≤ j → j < 14 → zn_dg W j = zo_wd p M D L j := fun j x y => by rw [hW]; exact zo_W_dg (by omega) (by unfold zn_in; omega) (by unfold zn_in; omega) x y
  show v = ze_w 1 W c k
  rw [ze_w1]
  rw [if_neg (by omega), if_neg (by omega), show c - 16 = 1 by omega, key _ (by decide) (by decide)]
  unfold zo_wd
  rw [if_neg (by decide), if_pos rfl]; omega
theorem zk_ov17_ok {w : zq_Wd} (x_OD : zj_is w 324 (fun q => zo_OD (q 0) (q 1) (q 2) (q 3) (q 4))) (x_OV : zj_is w 332 (fun q => zo_OV (q 0) (q 1) (q 2) (q 3))) : zq_okG1 w zk_ov17 := by
  refine ⟨rfl, rfl, zu_fac ⟨rfl, by decide⟩ zq_fan, ?_⟩
  intro r P h H hM
  have q0 : zq_ev r (0, [(1, 1)]) = r 1 := zu_e1 _ _
  have q1 : zq_ev r (6, [(1, -1)]) = -r 1 + 6 := zu_e5 _ _ _
  have q2 : zq_ev r (2147483648, [(3, 1)]) = r 3 + 2147483648 := zu_e2 _ _ _
  have q3 : zq_ev r (2147483647, [(3, -1)]) = -r 3 + 2147483647 := zu_e5 _ _ _
  have q4 : zq_ev r (2147483648, [(4, 1)]) = r 4 + 2147483648 := zu_e2 _ _ _
  have q5 : zq_ev r (2147483647, [(4, -1)]) = -r 4 + 2147483647 := zu_e5 _ _ _
  have q6 : zq_ev r (-17, [(5, 1)]) = r 5 - 17 := zu_e3 _ _ _
  have q7 : zq_ev r (17, [(5, -1)]) = -r 5 + 17 := zu_e5 _ _ _
  have q8 : zq_ev r (0, [(3, -1), (7, 1)]) = -r 3 + r 7 := by simp only [zq_ev, zq_ts] <;> omega
  have q9 : zq_ev r (0, [(3, 1), (7, -1)]) = r 3 - r 7 := by simp only [zq_ev, zq_ts] <;> omega
  have q10 : zq_ev r (0, [(0, 1)]) = r 0 := zu_e1 _ _
  have q11 : zq_ev r (0, [(2, 1)]) = r 2 := zu_e1 _ _
  have q12 : zq_ev r (0, [(3, 1)]) = r 3 := zu_e1 _ _
  have q13 : zq_ev r (0, [(4, 1)]) = r 4 := zu_e1 _ _
  obtain ⟨hT, hC, hF, hS, -, hK⟩ := hM
  have c := hC.1
  have a1 := zq_all_1 c
  rw [q0] at a1
  have c := zq_all_t c
  have a2 := zq_all_1 c
  rw [q1] at a2
  have c := zq_all_t c
  have a3 := zq_all_1 c
  rw [q2] at a3
  have c := zq_all_t c
  have a4 := zq_all_1 c
  rw [q3] at a4
  have c := zq_all_t c
  have a5 := zq_all_1 c
  rw [q4] at a5
  have c := zq_all_t c
  have a6 := zq_all_1 c
  rw [q5] at a6
  have c := zq_all_t c
  have a7 := zq_all_1 c
  rw [q6] at a7
  have c := zq_all_t c
  have a8 := zq_all_1 c
  rw [q7] at a8
  have c := zq_all_t c
  have a9 := zq_all_1 c
  rw [q8] at a9
  have c := zq_all_t c
  have a10 := zq_all_1 c
  rw [q9] at a10
  have k1 := zj_use x_OD (hK)
  have k1 : zo_OD (zq_ev r (0, [(0, 1)])) (zq_ev r (0, [(1, 1)])) (zq_ev r (0, [(2, 1)])) (zq_ev r (0, [(3, 1)])) (zq_ev r (0, [(4, 1)])) P h := k1
  simp only [q0, q10, q11, q12, q13] at k1
  obtain t1 := zk_ov17_l (P := P) (h := h) (W := r 0) (p := r 1) (M := r 2) (D := r 3) (L := r 4) (c := r 5) (k := r 6) (v := r 7) a1 a2 a3 a4 a5 a6 a7 a8 a9 a10 k1
  obtain ⟨rq, hr⟩ : ∃ rq : Nat → Int, (∀ i, i < 8 → rq i = r i) := ⟨r, fun i hi => rfl⟩
  have v0 : rq 0 = r 0 := hr 0 (by decide)
  have v5 : rq 5 = r 5 := hr 5 (by decide)
  have v6 : rq 6 = r 6 := hr 6 (by decide)
  have v7 : rq 7 = r 7 := hr 7 (by decide)
  have g0 : zq_ev rq (0, [(0, 1)]) = r 0 := zu_f1 v0
  have g1 : zq_ev rq (0, [(5, 1)]) = r 5 := zu_f1 v5
  have g2 : zq_ev rq (0, [(6, 1)]) = r 6 := zu_f1 v6
  have g3 : zq_ev rq (0, [(7, 1)]) = r 7 := zu_f1 v7
  exact ⟨_, List.mem_cons_self .., rq, hr, zq_MeS_mk rfl hT (zq_all_nil) zq_fan (zq_fan) rfl (zu_fac ((x_OV _ _ _).mpr (by show zo_OV (zq_ev rq (0, [(0, 1)])) (zq_ev rq (0, [(5, 1)])) (zq_ev rq (0, [(6, 1)])) (zq_ev rq (0, [(7, 1)])) P h; simp only [g0, g1, g2, g3]; exact t1)) zq_fan)⟩
noncomputable def zk_ov18 : zq_S × List zq_S := (([], [], [(0, [(1, 1)]), (6, [(1, -1)]), (2147483648, [(3, 1)]), (2147483647, [(3, -1)]), (2147483648, [(4, 1)]), (2147483647, [(4, -1)]), (-18, [(5, 1)]), (18, [(5, -1)]), (0, [(4, -1), (7, 1)]), (0, [(4, 1), (7, -1)])], [], [], [], [(324, [(0, [(0, 1)]), (0, [(1, 1)]), (0, [(2, 1)]), (0, [(3, 1)]), (0, [(4, 1)])])], 8), [([], [], [], [], [], [], [(332, [(0, [(0, 1)]), (0, [(5, 1)]), (0, [(6, 1)]), (0, [(7, 1)])])], 8)])
theorem zk_ov18_l {P : zq_Ty} {h : zq_H} {W p M D L c k v : Int} (a1 : 0 ≤ p) (a2 : 0 ≤ -p + 6) (a3 : 0 ≤ D + 2147483648) (a4 : 0 ≤ -D + 2147483647) (a5 : 0 ≤ L + 2147483648) (a6 : 0 ≤ -L + 2147483647) (a7 : 0 ≤ c - 18) (a8 : 0 ≤ -c + 18) (a9 : 0 ≤ -L + v) (a10 : 0 ≤ L - v) (k1 : zo_OD W p M D L P h) : (zo_OV W c k v P h) := by
  have hW : W = zo_W p M D L := k1
  have key : ∀ j : Int, 0 ≤ j → j < 14 → zn_dg W j = zo_wd p M D L j := fun j x y => by rw [hW]; exact zo_W_dg (by omega) (by unfold zn_in; omega) (by unfold zn_in; omega) x y
  show v = ze_w 1 W c k
  rw [ze_w1]
  rw [if_neg (by omega), if_neg (by omega), show c - 16 = 2 by omega, key _ (by decide) (by decide)]
  unfold zo_wd
  rw [if_neg (by decide), if_neg (by decide), if_pos rfl]; omega
theorem zk_ov18_ok {w : zq_Wd} (x_OD : zj_is w 324 (fun q => zo_OD (q 0) (q 1) (q 2) (q 3) (q 4))) (x_OV : zj_is w 332 (fun q => zo_OV (q 0) (q 1) (q 2) (q 3))) : zq_okG1 w zk_ov18 := by
  refine ⟨rfl, rfl, zu_fac ⟨rfl, by decide⟩ zq_fan, ?_⟩
  intro r P h H hM
  have q0 : zq_ev r (0, [(1, 1)]) = r 1 := zu_e1 _ _
  have q1 : zq_ev r (6, [(1, -1)]) = -r 1 + 6 := zu_e5 _ _ _
  have q2 : zq_ev r (2147483648, [(3, 1)]) = r 3 + 2147483648 := zu_e2 _ _ _
  have q3 : zq_ev r (2147483647, [(3, -1)]) = -r 3 + 2147483647 := zu_e5 _ _ _
  have q4 : zq_ev r (2147483648, [(4, 1)]) = r 4 + 2147483648 := zu_e2 _ _ _
  have q5 : zq_ev r (2147483647, [(4, -1)]) = -r 4 + 2147483647 := zu_e5 _ _ _
  have q6 : zq_ev r (-18, [(5, 1)]) = r 5 - 18 := zu_e3 _ _ _
  have q7 : zq_ev r (18, [(5, -1)]) = -r 5 + 18 := zu_e5 _ _ _
  have q8 : zq_ev r (0, [(4, -1), (7, 1)]) = -r 4 + r 7 := by simp only [zq_ev, zq_ts] <;> omega
  have q9 : zq_ev r (0, [(4, 1), (7, -1)]) = r 4 - r 7 := by simp only [zq_ev, zq_ts] <;> omega
  have q10 : zq_ev r (0, [(0, 1)]) = r 0 := zu_e1 _ _
  have q11 : zq_ev r (0, [(2, 1)]) = r 2 := zu_e1 _ _
  have q12 : zq_ev r (0, [(3, 1)]) = r 3 := zu_e1 _ _
  have q13 : zq_ev r (0, [(4, 1)]) = r 4 := zu_e1 _ _
  obtain ⟨hT, hC, hF, hS, -, hK⟩ := hM
  have c := hC.1
  have a1 := zq_all_1 c
  rw [q0] at a1
  have c := zq_all_t c
  have a2 := zq_all_1 c
  rw [q1] at a2
  have c := zq_all_t c
  have a3 := zq_all_1 c
  rw [q2] at a3
  have c := zq_all_t c
  have a4 := zq_all_1 c
  rw [q3] at a4
  have c := zq_all_t c
  have a5 := zq_all_1 c
  rw [q4] at a5
  have c := zq_all_t c
  have a6 := zq_all_1 c
  rw [q5] at a6
  have c := zq_all_t c
  have a7 := zq_all_1 c
  rw [q6] at a7
  have c := zq_all_t c
  have a8 := zq_all_1 c
  rw [q7] at a8
  have c := zq_all_t c
  have a9 := zq_all_1 c
  rw [q8] at a9
  have c := zq_all_t c
  have a10 := zq_all_1 c
  rw [q9] at a10
  have k1 := zj_use x_OD (hK)
  have k1 : zo_OD (zq_ev r (0, [(0, 1)])) (zq_ev r (0, [(1, 1)])) (zq_ev r (0, [(2, 1)])) (zq_ev r (0, [(3, 1)])) (zq_ev r (0, [(4, 1)])) P h := k1
  simp only [q0, q10, q11, q12, q13] at k1
  obtain t1 := zk_ov18_l (P := P) (h := h) (W := r 0) (p := r 1) (M := r 2) (D := r 3) (L := r 4) (c := r 5) (k := r 6) (v := r 7) a1 a2 a3 a4 a5 a6 a7 a8 a9 a10 k1
  obtain ⟨rq, hr⟩ : ∃ rq : Nat → Int, (∀ i, i < 8 → rq i = r i) := ⟨r, fun i hi => rfl⟩
  have v0 : rq 0 = r 0 := hr 0 (by decide)
  have v5 : rq 5 = r 5 := hr 5 (by decide)
  have v6 : rq 6 = r 6 := hr 6 (by decide)
  have v7 : rq 7 = r 7 := hr 7 (by decide)
  have g0 : zq_ev rq (0, [(0, 1)]) = r 0 := zu_f1 v0
  have g1 : zq_ev rq (0, [(5, 1)]) = r 5 := zu_f1 v5
  have g2 : zq_ev rq (0, [(6, 1)]) = r 6 := zu_f1 v6
  have g3 : zq_ev rq (0, [(7, 1)]) = r 7 := zu_f1 v7
  exact ⟨_, List.mem_cons_self .., rq, hr, zq_MeS_mk rfl hT (zq_all_nil) zq_fan (zq_fan) rfl (zu_fac ((x_OV _ _ _).mpr (by show zo_OV (zq_ev rq (0, [(0, 1)])) (zq_ev rq (0, [(5, 1)])) (zq_ev rq (0, [(6, 1)])) (zq_ev rq (0, [(7, 1)])) P h; simp only [g0, g1, g2, g3]; exact t1)) zq_fan)⟩
noncomputable def zk_ov19 : zq_S × List zq_S := (([], [], [(0, [(1, 1)]), (6, [(1, -1)]), (2147483648, [(3, 1)]), (2147483647, [(3, -1)]), (2147483648, [(4, 1)]), (2147483647, [(4, -1)]), (-19, [(5, 1)]), (19, [(5, -1)])], [], [], [], [(324, [(0, [(0, 1)]), (0, [(1, 1)]), (0, [(2, 1)]), (0, [(3, 1)]), (0, [(4, 1)])]), (321, [(0, [(2, 1)]), (0, [(1, 1)]), (0, [(7, 1)])])], 8), [([], [], [], [], [], [], [(332, [(0, [(0, 1)]), (0, [(5, 1)]), (0, [(6, 1)]), (0, [(7, 1)])])], 8)])
theorem zk_ov19_l {P : zq_Ty} {h : zq_H} {W p M D L c k v : Int} (a1 : 0 ≤ p) (a2 : 0 ≤ -p + 6) (a3 : 0 ≤ D + 2147483648) (a4 : 0 ≤ -D + 2147483647) (a5 : 0 ≤ L + 2147483648) (a6 : 0 ≤ -L + 2147483647) (a7 : 0 ≤ c - 19) (a8 : 0 ≤ -c + 19) (k1 : zo_OD W p M D L P h) (k2 : zo_EN M p v P h) : (zo_OV W c k v P h) := by
  have hW : W = zo_W p M D L := k1
  have key : ∀ j : Int, 0 ≤ j → j < 14 → zn_dg W j = zo_wd p M D L j := fun j x y => by rw [hW]; exact zo_W_dg (by omega) (by unfold zn_in; omega) (by unfold zn_in; omega) x y
  show v = ze_w 1 W c k
  rw [ze_w1]
  rw [if_neg (by omega), if_neg (by omega), show c - 16 = 3 by omega, key _ (by decide) (by decide)]
  unfold zo_wd
  rw [if_neg (by decide), if_neg (by decide), if_neg (by decide), if_pos rfl]; exact k2.2
theorem zk_ov19_ok {w : zq_Wd} (x_OD : zj_is w 324 (fun q => zo_OD (q 0) (q 1) (q 2) (q 3) (q 4))) (x_EN : zj_is w 321 (fun q => zo_EN (q 0) (q 1) (q 2))) (x_OV : zj_is w 332 (fun q => zo_OV (q 0) (q 1) (q 2) (q 3))) : zq_okG1 w zk_ov19 := by
  refine ⟨rfl, rfl, zu_fac ⟨rfl, by decide⟩ zq_fan, ?_⟩
  intro r P h H hM
  have q0 : zq_ev r (0, [(1, 1)]) = r 1 := zu_e1 _ _
  have q1 : zq_ev r (6, [(1, -1)]) = -r 1 + 6 := zu_e5 _ _ _
  have q2 : zq_ev r (2147483648, [(3, 1)]) = r 3 + 2147483648 := zu_e2 _ _ _
  have q3 : zq_ev r (2147483647, [(3, -1)]) = -r 3 + 2147483647 := zu_e5 _ _ _
  have q4 : zq_ev r (2147483648, [(4, 1)]) = r 4 + 2147483648 := zu_e2 _ _ _
  have q5 : zq_ev r (2147483647, [(4, -1)]) = -r 4 + 2147483647 := zu_e5 _ _ _
  have q6 : zq_ev r (-19, [(5, 1)]) = r 5 - 19 := zu_e3 _ _ _
  have q7 : zq_ev r (19, [(5, -1)]) = -r 5 + 19 := zu_e5 _ _ _
  have q8 : zq_ev r (0, [(0, 1)]) = r 0 := zu_e1 _ _
  have q9 : zq_ev r (0, [(2, 1)]) = r 2 := zu_e1 _ _
  have q10 : zq_ev r (0, [(3, 1)]) = r 3 := zu_e1 _ _
  have q11 : zq_ev r (0, [(4, 1)]) = r 4 := zu_e1 _ _
  have q12 : zq_ev r (0, [(7, 1)]) = r 7 := zu_e1 _ _
  obtain ⟨hT, hC, hF, hS, -, hK⟩ := hM
  have c := hC.1
  have a1 := zq_all_1 c
  rw [q0] at a1
  have c := zq_all_t c
  have a2 := zq_all_1 c
  rw [q1] at a2
  have c := zq_all_t c
  have a3 := zq_all_1 c
  rw [q2] at a3
  have c := zq_all_t c
  have a4 := zq_all_1 c
  rw [q3] at a4
  have c := zq_all_t c
  have a5 := zq_all_1 c
  rw [q4] at a5
  have c := zq_all_t c
  have a6 := zq_all_1 c
  rw [q5] at a6
  have c := zq_all_t c
  have a7 := zq_all_1 c
  rw [q6] at a7
  have c := zq_all_t c
  have a8 := zq_all_1 c
  rw [q7] at a8
  have k1 := zj_use x_OD (hK)
  have k1 : zo_OD (zq_ev r (0, [(0, 1)])) (zq_ev r (0, [(1, 1)])) (zq_ev r (0, [(2, 1)])) (zq_ev r (0, [(3, 1)])) (zq_ev r (0, [(4, 1)])) P h := k1
  simp only [q0, q10, q11, q8, q9] at k1
  have k2 := zj_use x_EN (zq_okX_t (hK))
  have k2 : zo_EN (zq_ev r (0, [(2, 1)])) (zq_ev r (0, [(1, 1)])) (zq_ev r (0, [(7, 1)])) P h := k2
  simp only [q0, q12, q9] at k2
  obtain t1 := zk_ov19_l (P := P) (h := h) (W := r 0) (p := r 1) (M := r 2) (D := r 3) (L := r 4) (c := r 5) (k := r 6) (v := r 7) a1 a2 a3 a4 a5 a6 a7 a8 k1 k2
  obtain ⟨rq, hr⟩ : ∃ rq : Nat → Int, (∀ i, i < 8 → rq i = r i) := ⟨r, fun i hi => rfl⟩
  have v0 : rq 0 = r 0 := hr 0 (by decide)
  have v5 : rq 5 = r 5 := hr 5 (by decide)
  have v6 : rq 6 = r 6 := hr 6 (by decide)
  have v7 : rq 7 = r 7 := hr 7 (by decide)
  have g0 : zq_ev rq (0, [(0, 1)]) = r 0 := zu_f1 v0
  have g1 : zq_ev rq (0, [(5, 1)]) = r 5 := zu_f1 v5
  have g2 : zq_ev rq (0, [(6, 1)]) = r 6 := zu_f1 v6
  have g3 : zq_ev rq (0, [(7, 1)]) = r 7 := zu_f1 v7
  exact ⟨_, List.mem_cons_self .., rq, hr, zq_MeS_mk rfl hT (zq_all_nil) zq_fan (zq_fan) rfl (zu_fac ((x_OV _ _ _).mpr (by show zo_OV (zq_ev rq (0, [(0, 1)])) (zq_ev rq (0, [(5, 1)])) (zq_ev rq (0, [(6, 1)])) (zq_ev rq (0, [(7, 1)])) P h; simp only [g0, g1, g2, g3]; exact t1)) zq_fan)⟩
noncomputable def zk_ov20 : zq_S × List zq_S := (([], [], [(0, [(1, 1)]), (6, [(1, -1)]), (2147483648, [(3, 1)]), (2147483647, [(3, -1)]), (2147483648, [(4, 1)]), (2147483647, [(4, -1)]), (-20, [(5, 1)]), (20, [(5, -1)]), (0, [(6, 1)]), (5, [(6, -1)]), (-1, [(1, 1), (6, -1)])], [], [], [], [(324, [(0, [(0, 1)]), (0, [(1, 1)]), (0, [(2, 1)]), (0, [(3, 1)]), (0, [(4, 1)])]), (134, [(0, [(2, 1)]), (0, [(6, 1)]), (0, [(7, 1)])])], 8), [([], [], [], [], [], [], [(332, [(0, [(0, 1)]), (0, [(5, 1)]), (0, [(6, 1)]), (0, [(7, 1)])])], 8)])
theorem zk_ov20_l {P : zq_Ty} {h : zq_H} {W p M D L c k v : Int} (a1 : 0 ≤ p) (a2 : 0 ≤ -p + 6) (a3 : 0 ≤ D + 2147483648) (a4 : 0 ≤ -D + 2147483647) (a5 : 0 ≤ L + 2147483648) (a6 : 0 ≤ -L + 2147483647) (a7 : 0 ≤ c - 20) (a8 : 0 ≤ -c + 20) (a9 : 0 ≤ k) (a10 : 0 ≤ -k + 5) (a11 : 0 ≤ p - k - 1) (k1 : zo_OD W p M D L P h) (k2 : zn_DG M k v P h) : (zo_OV W c k v P h) := by
  have hW : W = zo_W p M D L := k1
  have key : ∀ j : Int, 0 ≤ j → j < 14 → zn_dg W j = zo_wd p M D L j := fun j x y => by rw [hW]; exact zo_W_dg (by omega) (by unfold zn_in; omega) (by unfold zn_in; omega) x y
  show v = ze_w 1 W c k
  rw [ze_w1]
  rw [if_pos (by omega), key _ (by omega) (by omega)]
  unfold zo_wd
  rw [if_neg (by omega), if_neg (by omega), if_neg (by omega), if_neg (by omega), if_pos (by omega), show 4 + k - 4 = k by omega]
  rw [if_pos (by omega)]; exact k2
theorem zk_ov20_ok {w : zq_Wd} (x_OD : zj_is w 324 (fun q => zo_OD (q 0) (q 1) (q 2) (q 3) (q 4))) (x_DG : zj_is w 134 (fun q => zn_DG (q 0) (q 1) (q 2))) (x_OV : zj_is w 332 (fun q => zo_OV (q 0) (q 1) (q 2) (q 3))) : zq_okG1 w zk_ov20 := by
  refine ⟨rfl, rfl, zu_fac ⟨rfl, by decide⟩ zq_fan, ?_⟩
  intro r P h H hM
  have q0 : zq_ev r (0, [(1, 1)]) = r 1 := zu_e1 _ _
  have q1 : zq_ev r (6, [(1, -1)]) = -r 1 + 6 := zu_e5 _ _ _
  have q2 : zq_ev r (2147483648, [(3, 1)]) = r 3 + 2147483648 := zu_e2 _ _ _
  have q3 : zq_ev r (2147483647, [(3, -1)]) = -r 3 + 2147483647 := zu_e5 _ _ _
  have q4 : zq_ev r (2147483648, [(4, 1)]) = r 4 + 2147483648 := zu_e2 _ _ _
  have q5 : zq_ev r (2147483647, [(4, -1)]) = -r 4 + 2147483647 := zu_e5 _ _ _
  have q6 : zq_ev r (-20, [(5, 1)]) = r 5 - 20 := zu_e3 _ _ _
  have q7 : zq_ev r (20, [(5, -1)]) = -r 5 + 20 := zu_e5 _ _ _
  have q8 : zq_ev r (0, [(6, 1)]) = r 6 := zu_e1 _ _
  have q9 : zq_ev r (5, [(6, -1)]) = -r 6 + 5 := zu_e5 _ _ _
  have q10 : zq_ev r (-1, [(1, 1), (6, -1)]) = r 1 - r 6 - 1 := by simp only [zq_ev, zq_ts] <;> omega
  have q11 : zq_ev r (0, [(0, 1)]) = r 0 := zu_e1 _ _
  have q12 : zq_ev r (0, [(2, 1)]) = r 2 := zu_e1 _ _
  have q13 : zq_ev r (0, [(3, 1)]) = r 3 := zu_e1 _ _
  have q14 : zq_ev r (0, [(4, 1)]) = r 4 := zu_e1 _ _
  have q15 : zq_ev r (0, [(7, 1)]) = r 7 := zu_e1 _ _
  obtain ⟨hT, hC, hF, hS, -, hK⟩ := hM
  have c := hC.1
  have a1 := zq_all_1 c
  rw [q0] at a1
  have c := zq_all_t c
  have a2 := zq_all_1 c
  rw [q1] at a2
  have c := zq_all_t c
  have a3 := zq_all_1 c
  rw [q2] at a3
  have c := zq_all_t c
  have a4 := zq_all_1 c
  rw [q3] at a4
  have c := zq_all_t c
  have a5 := zq_all_1 c
  rw [q4] at a5
  have c := zq_all_t c
  have a6 := zq_all_1 c
  rw [q5] at a6
  have c := zq_all_t c
  have a7 := zq_all_1 c
  rw [q6] at a7
  have c := zq_all_t c
  have a8 := zq_all_1 c
  rw [q7] at a8
  have c := zq_all_t c
  have a9 := zq_all_1 c
  rw [q8] at a9
  have c := zq_all_t c
  have a10 := zq_all_1 c
  rw [q9] at a10
  have c := zq_all_t c
  have a11 := zq_all_1 c
  rw [q10] at a11
  have k1 := zj_use x_OD (hK)
  have k1 : zo_OD (zq_ev r (0, [(0, 1)])) (zq_ev r (0, [(1, 1)])) (zq_ev r (0, [(2, 1)])) (zq_ev r (0, [(3, 1)])) (zq_ev r (0, [(4, 1)])) P h := k1
  simp only [q0, q11, q12, q13, q14] at k1
  have k2 := zj_use x_DG (zq_okX_t (hK))
  have k2 : zn_DG (zq_ev r (0, [(2, 1)])) (zq_ev r (0, [(6, 1)])) (zq_ev r (0, [(7, 1)])) P h := k2
  simp only [q12, q15, q8] at k2
  obtain t1 := zk_ov20_l (P := P) (h := h) (W := r 0) (p := r 1) (M := r 2) (D := r 3) (L := r 4) (c := r 5) (k := r 6) (v := r 7) a1 a2 a3 a4 a5 a6 a7 a8 a9 a10 a11 k1 k2
  obtain ⟨rq, hr⟩ : ∃ rq : Nat → Int, (∀ i, i < 8 → rq i = r i) := ⟨r, fun i hi => rfl⟩
  have v0 : rq 0 = r 0 := hr 0 (by decide)
  have v5 : rq 5 = r 5 := hr 5 (by decide)
  have v6 : rq 6 = r 6 := hr 6 (by decide)
  have v7 : rq 7 = r 7 := hr 7 (by decide)
  have g0 : zq_ev rq (0, [(0, 1)]) = r 0 := zu_f1 v0
  have g1 : zq_ev rq (0, [(5, 1)]) = r 5 := zu_f1 v5
  have g2 : zq_ev rq (0, [(6, 1)]) = r 6 := zu_f1 v6
  have g3 : zq_ev rq (0, [(7, 1)]) = r 7 := zu_f1 v7
  exact ⟨_, List.mem_cons_self .., rq, hr, zq_MeS_mk rfl hT (zq_all_nil) zq_fan (zq_fan) rfl (zu_fac ((x_OV _ _ _).mpr (by show zo_OV (zq_ev rq (0, [(0, 1)])) (zq_ev rq (0, [(5, 1)])) (zq_ev rq (0, [(6, 1)])) (zq_ev rq (0, [(7, 1)])) P h; simp only [g0, g1, g2, g3]; exact t1)) zq_fan)⟩
noncomputable def zk_ov2n : zq_S × List zq_S := (([], [], [(0, [(1, 1)]), (6, [(1, -1)]), (2147483648, [(3, 1)]), (2147483647, [(3, -1)]), (2147483648, [(4, 1)]), (2147483647, [(4, -1)]), (-20, [(5, 1)]), (20, [(5, -1)]), (0, [(6, 1)]), (5, [(6, -1)]), (0, [(1, -1), (6, 1)]), (1, [(7, 1)]), (-1, [(7, -1)])], [], [], [], [(324, [(0, [(0, 1)]), (0, [(1, 1)]), (0, [(2, 1)]), (0, [(3, 1)]), (0, [(4, 1)])])], 8), [([], [], [], [], [], [], [(332, [(0, [(0, 1)]), (0, [(5, 1)]), (0, [(6, 1)]), (0, [(7, 1)])])], 8)])
theorem zk_ov2n_l {P : zq_Ty} {h : zq_H} {W p M D L c k v : Int} (a1 : 0 ≤ p) (a2 : 0 ≤ -p + 6) (a3 : 0 ≤ D + 2147483648) (a4 : 0 ≤ -D + 2147483647) (a5 : 0 ≤ L + 2147483648) (a6 : 0 ≤ -L + 2147483647) (a7 : 0 ≤ c - 20) (a8 : 0 ≤ -c + 20) (a9 : 0 ≤ k) (a10 : 0 ≤ -k + 5) (a11 : 0 ≤ -p + k) (a12 : 0 ≤ v + 1) (a13 : 0 ≤ -v - 1) (k1 : zo_OD W p M D L P h) : (zo_OV W c k v P h) := by
  have hW : W = zo_W p M D L := k1
  have key : ∀ j : Int, 0 ≤ j → j < 14 → zn_dg W j = zo_wd p M D L j := fun j x y => by rw [hW]; exact zo_W_dg (by omega) (by unfold zn_in; omega) (by unfold zn_in; omega) x y
  show v = ze_w 1 W c k
  rw [ze_w1]
  rw [if_pos (by omega), key _ (by omega) (by omega)]
  unfold zo_wd
  rw [if_neg (by omega), if_neg (by omega), if_neg (by omega), if_neg (by omega), if_pos (by omega), show 4 + k - 4 = k by omega]
  rw [if_neg (by omega)]; omega
theorem zk_ov2n_ok {w : zq_Wd} (x_OD : zj_is w 324 (fun q => zo_OD (q 0) (q 1) (q 2) (q 3) (q 4))) (x_OV : zj_is w 332 (fun q => zo_OV (q 0) (q 1) (q 2) (q 3))) : zq_okG1 w zk_ov2n := by
  refine ⟨rfl, rfl, zu_fac ⟨rfl, by decide⟩ zq_fan, ?_⟩
  intro r P h H hM
  have q0 : zq_ev r (0, [(1, 1)]) = r 1 := zu_e1 _ _
  have q1 : zq_ev r (6, [(1, -1)]) = -r 1 + 6 := zu_e5 _ _ _
  have q2 : zq_ev r (2147483648, [(3, 1)]) = r 3 + 2147483648 := zu_e2 _ _ _
  have q3 : zq_ev r (2147483647, [(3, -1)]) = -r 3 + 2147483647 := zu_e5 _ _ _
  have q4 : zq_ev r (2147483648, [(4, 1)]) = r 4 + 2147483648 := zu_e2 _ _ _
  have q5 : zq_ev r (2147483647, [(4, -1)]) = -r 4 + 2147483647 := zu_e5 _ _ _
  have q6 : zq_ev r (-20, [(5, 1)]) = r 5 - 20 := zu_e3 _ _ _
  have q7 : zq_ev r (20, [(5, -1)]) = -r 5 + 20 := zu_e5 _ _ _
  have q8 : zq_ev r (0, [(6, 1)]) = r 6 := zu_e1 _ _
  have q9 : zq_ev r (5, [(6, -1)]) = -r 6 + 5 := zu_e5 _ _ _
  have q10 : zq_ev r (0, [(1, -1), (6, 1)]) = -r 1 + r 6 := by simp only [zq_ev, zq_ts] <;> omega
  have q11 : zq_ev r (1, [(7, 1)]) = r 7 + 1 := zu_e2 _ _ _
  have q12 : zq_ev r (-1, [(7, -1)]) = -r 7 - 1 := zu_e6 _ _ _
  have q13 : zq_ev r (0, [(0, 1)]) = r 0 := zu_e1 _ _
  have q14 : zq_ev r (0, [(2, 1)]) = r 2 := zu_e1 _ _
  have q15 : zq_ev r (0, [(3, 1)]) = r 3 := zu_e1 _ _
  have q16 : zq_ev r (0, [(4, 1)]) = r 4 := zu_e1 _ _
  obtain ⟨hT, hC, hF, hS, -, hK⟩ := hM
  have c := hC.1
  have a1 := zq_all_1 c
  rw [q0] at a1
  have c := zq_all_t c
  have a2 := zq_all_1 c
  rw [q1] at a2
  have c := zq_all_t c
  have a3 := zq_all_1 c
  rw [q2] at a3
  have c := zq_all_t c
  have a4 := zq_all_1 c
  rw [q3] at a4
  have c := zq_all_t c
  have a5 := zq_all_1 c
  rw [q4] at a5
  have c := zq_all_t c
  have a6 := zq_all_1 c
  rw [q5] at a6
  have c := zq_all_t c
  have a7 := zq_all_1 c
  rw [q6] at a7
  have c := zq_all_t c
  have a8 := zq_all_1 c
  rw [q7] at a8
  have c := zq_all_t c
  have a9 := zq_all_1 c
  rw [q8] at a9
  have c := zq_all_t c
  have a10 := zq_all_1 c
  rw [q9] at a10
  have c := zq_all_t c
  have a11 := zq_all_1 c
  rw [q10] at a11
  have c := zq_all_t c
  have a12 := zq_all_1 c
  rw [q11] at a12
  have c := zq_all_t c
  have a13 := zq_all_1 c
  rw [q12] at a13
  have k1 := zj_use x_OD (hK)
  have k1 : zo_OD (zq_ev r (0, [(0, 1)])) (zq_ev r (0, [(1, 1)])) (zq_ev r (0, [(2, 1)])) (zq_ev r (0, [(3, 1)])) (zq_ev r (0, [(4, 1)])) P h := k1
  simp only [q0, q13, q14, q15, q16] at k1
  obtain t1 := zk_ov2n_l (P := P) (h := h) (W := r 0) (p := r 1) (M := r 2) (D := r 3) (L := r 4) (c := r 5) (k := r 6) (v := r 7) a1 a2 a3 a4 a5 a6 a7 a8 a9 a10 a11 a12 a13 k1
  obtain ⟨rq, hr⟩ : ∃ rq : Nat → Int, (∀ i, i < 8 → rq i = r i) := ⟨r, fun i hi => rfl⟩
  have v0 : rq 0 = r 0 := hr 0 (by decide)
  have v5 : rq 5 = r 5 := hr 5 (by decide)
  have v6 : rq 6 = r 6 := hr 6 (by decide)
  have v7 : rq 7 = r 7 := hr 7 (by decide)
  have g0 : zq_ev rq (0, [(0, 1)]) = r 0 := zu_f1 v0
  have g1 : zq_ev rq (0, [(5, 1)]) = r 5 := zu_f1 v5
  have g2 : zq_ev rq (0, [(6, 1)]) = r 6 := zu_f1 v6
  have g3 : zq_ev rq (0, [(7, 1)]) = r 7 := zu_f1 v7
  exact ⟨_, List.mem_cons_self .., rq, hr, zq_MeS_mk rfl hT (zq_all_nil) zq_fan (zq_fan) rfl (zu_fac ((x_OV _ _ _).mpr (by show zo_OV (zq_ev rq (0, [(0, 1)])) (zq_ev rq (0, [(5, 1)])) (zq_ev rq (0, [(6, 1)])) (zq_ev rq (0, [(7, 1)])) P h; simp only [g0, g1, g2, g3]; exact t1)) zq_fan)⟩
noncomputable def zk_ov21 : zq_S × List zq_S := (([], [], [(0, [(1, 1)]), (6, [(1, -1)]), (2147483648, [(3, 1)]), (2147483647, [(3, -1)]), (2147483648, [(4, 1)]), (2147483647, [(4, -1)]), (-21, [(5, 1)]), (21, [(5, -1)]), (0, [(6, 1)]), (3, [(6, -1)])], [], [], [], [(324, [(0, [(0, 1)]), (0, [(1, 1)]), (0, [(2, 1)]), (0, [(3, 1)]), (0, [(4, 1)])]), (134, [(0, [(2, 1)]), (6, [(6, 1)]), (0, [(7, 1)])])], 8), [([], [], [], [], [], [], [(332, [(0, [(0, 1)]), (0, [(5, 1)]), (0, [(6, 1)]), (0, [(7, 1)])])], 8)])
theorem zk_ov21_l {P : zq_Ty} {h : zq_H} {W p M D L c k v : Int} (a1 : 0 ≤ p) (a2 : 0 ≤ -p + 6) (a3 : 0 ≤ D + 2147483648) (a4 : 0 ≤ -D + 2147483647) (a5 : 0 ≤ L + 2147483648) (a6 : 0 ≤ -L + 2147483647) (a7 : 0 ≤ c - 21) (a8 : 0 ≤ -c + 21) (a9 : 0 ≤ k) (a10 : 0 ≤ -k + 3) (k1 : zo_OD W p M D L P h) (k2 : zn_DG M (k + 6) v P h) : (zo_OV W c k v P h) := by
  have hW : W = zo_W p M D L := k1
  have key : ∀ j : Int, 0 ≤ j → j < 14 → zn_dg W j = zo_wd p M D L j := fun j x y => by rw [hW]; exact zo_W_dg (by omega) (by unfold zn_in; omega) (by unfold zn_in; omega) x y
  show v = ze_w 1 W c k
  rw [ze_w1]
  rw [if_neg (by omega), if_pos (by omega), key _ (by omega) (by omega)]
  unfold zo_wd
  rw [if_neg (by omega), if_neg (by omega), if_neg (by omega), if_neg (by omega), if_neg (by omega), show 10 + k - 4 = k + 6 by omega]; exact k2
theorem zk_ov21_ok {w : zq_Wd} (x_OD : zj_is w 324 (fun q => zo_OD (q 0) (q 1) (q 2) (q 3) (q 4))) (x_DG : zj_is w 134 (fun q => zn_DG (q 0) (q 1) (q 2))) (x_OV : zj_is w 332 (fun q => zo_OV (q 0) (q 1) (q 2) (q 3))) : zq_okG1 w zk_ov21 := by
  refine ⟨rfl, rfl, zu_fac ⟨rfl, by decide⟩ zq_fan, ?_⟩
  intro r P h H hM
  have q0 : zq_ev r (0, [(1, 1)]) = r 1 := zu_e1 _ _
  have q1 : zq_ev r (6, [(1, -1)]) = -r 1 + 6 := zu_e5 _ _ _
  have q2 : zq_ev r (2147483648, [(3, 1)]) = r 3 + 2147483648 := zu_e2 _ _ _
  have q3 : zq_ev r (2147483647, [(3, -1)]) = -r 3 + 2147483647 := zu_e5 _ _ _
  have q4 : zq_ev r (2147483648, [(4, 1)]) = r 4 + 2147483648 := zu_e2 _ _ _
  have q5 : zq_ev r (2147483647, [(4, -1)]) = -r 4 + 2147483647 := zu_e5 _ _ _
  have q6 : zq_ev r (-21, [(5, 1)]) = r 5 - 21 := zu_e3 _ _ _
  have q7 : zq_ev r (21, [(5, -1)]) = -r 5 + 21 := zu_e5 _ _ _
  have q8 : zq_ev r (0, [(6, 1)]) = r 6 := zu_e1 _ _
  have q9 : zq_ev r (3, [(6, -1)]) = -r 6 + 3 := zu_e5 _ _ _
  have q10 : zq_ev r (0, [(0, 1)]) = r 0 := zu_e1 _ _
  have q11 : zq_ev r (0, [(2, 1)]) = r 2 := zu_e1 _ _
  have q12 : zq_ev r (0, [(3, 1)]) = r 3 := zu_e1 _ _
  have q13 : zq_ev r (0, [(4, 1)]) = r 4 := zu_e1 _ _
  have q14 : zq_ev r (6, [(6, 1)]) = r 6 + 6 := zu_e2 _ _ _
  have q15 : zq_ev r (0, [(7, 1)]) = r 7 := zu_e1 _ _
  obtain ⟨hT, hC, hF, hS, -, hK⟩ := hM
  have c := hC.1
  have a1 := zq_all_1 c
  rw [q0] at a1
  have c := zq_all_t c
  have a2 := zq_all_1 c
  rw [q1] at a2
  have c := zq_all_t c
  have a3 := zq_all_1 c
  rw [q2] at a3
  have c := zq_all_t c
  have a4 := zq_all_1 c
  rw [q3] at a4
  have c := zq_all_t c
  have a5 := zq_all_1 c
  rw [q4] at a5
  have c := zq_all_t c
  have a6 := zq_all_1 c
  rw [q5] at a6
  have c := zq_all_t c
  have a7 := zq_all_1 c
  rw [q6] at a7
  have c := zq_all_t c
  have a8 := zq_all_1 c
  rw [q7] at a8
  have c := zq_all_t c
  have a9 := zq_all_1 c
  rw [q8] at a9
  have c := zq_all_t c
  have a10 := zq_all_1 c
  rw [q9] at a10
  have k1 := zj_use x_OD (hK)
  have k1 : zo_OD (zq_ev r (0, [(0, 1)])) (zq_ev r (0, [(1, 1)])) (zq_ev r (0, [(2, 1)])) (zq_ev r (0, [(3, 1)])) (zq_ev r (0, [(4, 1)])) P h := k1
  simp only [q0, q10, q11, q12, q13] at k1
  have k2 := zj_use x_DG (zq_okX_t (hK))
  have k2 : zn_DG (zq_ev r (0, [(2, 1)])) (zq_ev r (6, [(6, 1)])) (zq_ev r (0, [(7, 1)])) P h := k2
  simp only [q11, q14, q15] at k2
  obtain t1 := zk_ov21_l (P := P) (h := h) (W := r 0) (p := r 1) (M := r 2) (D := r 3) (L := r 4) (c := r 5) (k := r 6) (v := r 7) a1 a2 a3 a4 a5 a6 a7 a8 a9 a10 k1 k2
  obtain ⟨rq, hr⟩ : ∃ rq : Nat → Int, (∀ i, i < 8 → rq i = r i) := ⟨r, fun i hi => rfl⟩
  have v0 : rq 0 = r 0 := hr 0 (by decide)
  have v5 : rq 5 = r 5 := hr 5 (by decide)
  have v6 : rq 6 = r 6 := hr 6 (by decide)
  have v7 : rq 7 = r 7 := hr 7 (by decide)
  have g0 : zq_ev rq (0, [(0, 1)]) = r 0 := zu_f1 v0
  have g1 : zq_ev rq (0, [(5, 1)]) = r 5 := zu_f1 v5
  have g2 : zq_ev rq (0, [(6, 1)]) = r 6 := zu_f1 v6
  have g3 : zq_ev rq (0, [(7, 1)]) = r 7 := zu_f1 v7
  exact ⟨_, List.mem_cons_self .., rq, hr, zq_MeS_mk rfl hT (zq_all_nil) zq_fan (zq_fan) rfl (zu_fac ((x_OV _ _ _).mpr (by show zo_OV (zq_ev rq (0, [(0, 1)])) (zq_ev rq (0, [(5, 1)])) (zq_ev rq (0, [(6, 1)])) (zq_ev rq (0, [(7, 1)])) P h; simp only [g0, g1, g2, g3]; exact t1)) zq_fan)⟩
noncomputable def zk_od1 : zq_S × List zq_S := (([], [], [(-16, [(1, 1)]), (19, [(1, -1)])], [], [], [], [(332, [(0, [(0, 1)]), (0, [(1, 1)]), (0, [(2, 1)]), (0, [(3, 1)])])], 4), [([], [], [], [], [], [], [(134, [(0, [(0, 1)]), (-16, [(1, 1)]), (0, [(3, 1)])])], 4)])
theorem zk_od1_l {P : zq_Ty} {h : zq_H} {W c k v : Int} (a1 : 0 ≤ c - 16) (a2 : 0 ≤ -c + 19) (k1 : zo_OV W c k v P h) : (zn_DG W (c - 16) v P h) := by
  have k1 : v = ze_w 1 W c k := k1
  rw [ze_w1, if_neg (by omega), if_neg (by omega)] at k1
  exact k1
theorem zk_od1_ok {w : zq_Wd} (x_OV : zj_is w 332 (fun q => zo_OV (q 0) (q 1) (q 2) (q 3))) (x_DG : zj_is w 134 (fun q => zn_DG (q 0) (q 1) (q 2))) : zq_okG1 w zk_od1 := by
  refine ⟨rfl, rfl, zu_fac ⟨rfl, by decide⟩ zq_fan, ?_⟩
  intro r P h H hM
  have q0 : zq_ev r (-16, [(1, 1)]) = r 1 - 16 := zu_e3 _ _ _
  have q1 : zq_ev r (19, [(1, -1)]) = -r 1 + 19 := zu_e5 _ _ _
  have q2 : zq_ev r (0, [(0, 1)]) = r 0 := zu_e1 _ _
  have q3 : zq_ev r (0, [(1, 1)]) = r 1 := zu_e1 _ _
  have q4 : zq_ev r (0, [(2, 1)]) = r 2 := zu_e1 _ _
  have q5 : zq_ev r (0, [(3, 1)]) = r 3 := zu_e1 _ _
  obtain ⟨hT, hC, hF, hS, -, hK⟩ := hM
  have c := hC.1
  have a1 := zq_all_1 c
  rw [q0] at a1
  have c := zq_all_t c
  have a2 := zq_all_1 c
  rw [q1] at a2
  have k1 := zj_use x_OV (hK)
  have k1 : zo_OV (zq_ev r (0, [(0, 1)])) (zq_ev r (0, [(1, 1)])) (zq_ev r (0, [(2, 1)])) (zq_ev r (0, [(3, 1)])) P h := k1
  simp only [q2, q3, q4, q5] at k1
  obtain t1 := zk_od1_l (P := P) (h := h) (W := r 0) (c := r 1) (k := r 2) (v := r 3) a1 a2 k1
  obtain ⟨rq, hr⟩ : ∃ rq : Nat → Int, (∀ i, i < 4 → rq i = r i) := ⟨r, fun i hi => rfl⟩
  have v0 : rq 0 = r 0 := hr 0 (by decide)
  have v1 : rq 1 = r 1 := hr 1 (by decide)
  have v3 : rq 3 = r 3 := hr 3 (by decide)
  have g0 : zq_ev rq (0, [(0, 1)]) = r 0 := zu_f1 v0
  have g1 : zq_ev rq (-16, [(1, 1)]) = r 1 - 16 := zu_f3 v1 _
  have g2 : zq_ev rq (0, [(3, 1)]) = r 3 := zu_f1 v3
  exact ⟨_, List.mem_cons_self .., rq, hr, zq_MeS_mk rfl hT (zq_all_nil) zq_fan (zq_fan) rfl (zu_fac ((x_DG _ _ _).mpr (by show zn_DG (zq_ev rq (0, [(0, 1)])) (zq_ev rq (-16, [(1, 1)])) (zq_ev rq (0, [(3, 1)])) P h; simp only [g0, g1, g2]; exact t1)) zq_fan)⟩
noncomputable def zk_od20 : zq_S × List zq_S := (([], [], [(-20, [(1, 1)]), (20, [(1, -1)])], [], [], [], [(332, [(0, [(0, 1)]), (0, [(1, 1)]), (0, [(2, 1)]), (0, [(3, 1)])])], 4), [([], [], [], [], [], [], [(134, [(0, [(0, 1)]), (4, [(2, 1)]), (0, [(3, 1)])])], 4)])
theorem zk_od20_l {P : zq_Ty} {h : zq_H} {W c k v : Int} (a1 : 0 ≤ c - 20) (a2 : 0 ≤ -c + 20) (k1 : zo_OV W c k v P h) : (zn_DG W (k + 4) v P h) := by
  have k1 : v = ze_w 1 W c k := k1
  rw [ze_w1, if_pos (by omega)] at k1
  show v = zn_dg W (k + 4)
  rw [show k + 4 = 4 + k by omega]
  exact k1
theorem zk_od20_ok {w : zq_Wd} (x_OV : zj_is w 332 (fun q => zo_OV (q 0) (q 1) (q 2) (q 3))) (x_DG : zj_is w 134 (fun q => zn_DG (q 0) (q 1) (q 2))) : zq_okG1 w zk_od20 := by
  refine ⟨rfl, rfl, zu_fac ⟨rfl, by decide⟩ zq_fan, ?_⟩
  intro r P h H hM
  have q0 : zq_ev r (-20, [(1, 1)]) = r 1 - 20 := zu_e3 _ _ _
  have q1 : zq_ev r (20, [(1, -1)]) = -r 1 + 20 := zu_e5 _ _ _
  have q2 : zq_ev r (0, [(0, 1)]) = r 0 := zu_e1 _ _
  have q3 : zq_ev r (0, [(1, 1)]) = r 1 := zu_e1 _ _
  have q4 : zq_ev r (0, [(2, 1)]) = r 2 := zu_e1 _ _
  have q5 : zq_ev r (0, [(3, 1)]) = r 3 := zu_e1 _ _
  obtain ⟨hT, hC, hF, hS, -, hK⟩ := hM
  have c := hC.1
  have a1 := zq_all_1 c
  rw [q0] at a1
  have c := zq_all_t c
  have a2 := zq_all_1 c
  rw [q1] at a2
  have k1 := zj_use x_OV (hK)
  have k1 : zo_OV (zq_ev r (0, [(0, 1)])) (zq_ev r (0, [(1, 1)])) (zq_ev r (0, [(2, 1)])) (zq_ev r (0, [(3, 1)])) P h := k1
  simp only [q2, q3, q4, q5] at k1
  obtain t1 := zk_od20_l (P := P) (h := h) (W := r 0) (c := r 1) (k := r 2) (v := r 3) a1 a2 k1
  obtain ⟨rq, hr⟩ : ∃ rq : Nat → Int, (∀ i, i < 4 → rq i = r i) := ⟨r, fun i hi => rfl⟩
  have v0 : rq 0 = r 0 := hr 0 (by decide)
  have v2 : rq 2 = r 2 := hr 2 (by decide)
  have v3 : rq 3 = r 3 := hr 3 (by decide)
  have g0 : zq_ev rq (0, [(0, 1)]) = r 0 := zu_f1 v0
  have g1 : zq_ev rq (4, [(2, 1)]) = r 2 + 4 := zu_f2 v2 _
  have g2 : zq_ev rq (0, [(3, 1)]) = r 3 := zu_f1 v3
  exact ⟨_, List.mem_cons_self .., rq, hr, zq_MeS_mk rfl hT (zq_all_nil) zq_fan (zq_fan) rfl (zu_fac ((x_DG _ _ _).mpr (by show zn_DG (zq_ev rq (0, [(0, 1)])) (zq_ev rq (4, [(2, 1)])) (zq_ev rq (0, [(3, 1)])) P h; simp only [g0, g1, g2]; exact t1)) zq_fan)⟩
noncomputable def zk_od21 : zq_S × List zq_S := (([], [], [(-21, [(1, 1)]), (21, [(1, -1)])], [], [], [], [(332, [(0, [(0, 1)]), (0, [(1, 1)]), (0, [(2, 1)]), (0, [(3, 1)])])], 4), [([], [], [], [], [], [], [(134, [(0, [(0, 1)]), (10, [(2, 1)]), (0, [(3, 1)])])], 4)])
theorem zk_od21_l {P : zq_Ty} {h : zq_H} {W c k v : Int} (a1 : 0 ≤ c - 21) (a2 : 0 ≤ -c + 21) (k1 : zo_OV W c k v P h) : (zn_DG W (k + 10) v P h) := by
  have k1 : v = ze_w 1 W c k := k1
  rw [ze_w1, if_neg (by omega), if_pos (by omega)] at k1
  show v = zn_dg W (k + 10)
  rw [show k + 10 = 10 + k by omega]
  exact k1
theorem zk_od21_ok {w : zq_Wd} (x_OV : zj_is w 332 (fun q => zo_OV (q 0) (q 1) (q 2) (q 3))) (x_DG : zj_is w 134 (fun q => zn_DG (q 0) (q 1) (q 2))) : zq_okG1 w zk_od21 := by
  refine ⟨rfl, rfl, zu_fac ⟨rfl, by decide⟩ zq_fan, ?_⟩
  intro r P h H hM
  have q0 : zq_ev r (-21, [(1, 1)]) = r 1 - 21 := zu_e3 _ _ _
  have q1 : zq_ev r (21, [(1, -1)]) = -r 1 + 21 := zu_e5 _ _ _
  have q2 : zq_ev r (0, [(0, 1)]) = r 0 := zu_e1 _ _
  have q3 : zq_ev r (0, [(1, 1)]) = r 1 := zu_e1 _ _
  have q4 : zq_ev r (0, [(2, 1)]) = r 2 := zu_e1 _ _
  have q5 : zq_ev r (0, [(3, 1)]) = r 3 := zu_e1 _ _
  obtain ⟨hT, hC, hF, hS, -, hK⟩ := hM
  have c := hC.1
  have a1 := zq_all_1 c
  rw [q0] at a1
  have c := zq_all_t c
  have a2 := zq_all_1 c
  rw [q1] at a2
  have k1 := zj_use x_OV (hK)
  have k1 : zo_OV (zq_ev r (0, [(0, 1)])) (zq_ev r (0, [(1, 1)])) (zq_ev r (0, [(2, 1)])) (zq_ev r (0, [(3, 1)])) P h := k1
  simp only [q2, q3, q4, q5] at k1
  obtain t1 := zk_od21_l (P := P) (h := h) (W := r 0) (c := r 1) (k := r 2) (v := r 3) a1 a2 k1
  obtain ⟨rq, hr⟩ : ∃ rq : Nat → Int, (∀ i, i < 4 → rq i = r i) := ⟨r, fun i hi => rfl⟩
  have v0 : rq 0 = r 0 := hr 0 (by decide)
  have v2 : rq 2 = r 2 := hr 2 (by decide)
  have v3 : rq 3 = r 3 := hr 3 (by decide)
  have g0 : zq_ev rq (0, [(0, 1)]) = r 0 := zu_f1 v0
  have g1 : zq_ev rq (10, [(2, 1)]) = r 2 + 10 := zu_f2 v2 _
  have g2 : zq_ev rq (0, [(3, 1)]) = r 3 := zu_f1 v3
  exact ⟨_, List.mem_cons_self .., rq, hr, zq_MeS_mk rfl hT (zq_all_nil) zq_fan (zq_fan) rfl (zu_fac ((x_DG _ _ _).mpr (by show zn_DG (zq_ev rq (0, [(0, 1)])) (zq_ev rq (10, [(2, 1)])) (zq_ev rq (0, [(3, 1)])) P h; simp only [g0, g1, g2]; exact t1)) zq_fan)⟩
noncomputable def zk_cl : zq_S × List zq_S := (([], [], [], [], [], [], [(259, [(1, []), (0, [(0, 1)]), (0, [(1, 1)]), (0, [(2, 1)]), (0, [(3, 1)]), (0, [(4, 1)]), (0, [(5, 1)]), (0, [(6, 1)]), (0, [(7, 1)]), (0, [(8, 1)]), (0, [(9, 1)]), (0, [(10, 1)])]), (256, [(1, []), (0, [(0, 1)]), (0, [(1, 1)]), (0, [(2, 1)]), (0, [(3, 1)]), (0, [(11, 1)]), (0, [(10, 1)]), (0, [(12, 1)])])], 13), [([], [], [], [], [], [], [(325, [(0, [(0, 1)]), (0, [(1, 1)]), (0, [(9, 1)]), (0, [(5, 1)]), (0, [(12, 1)])])], 13)])
theorem zk_cl_l {P : zq_Ty} {h : zq_H} {g l Y z k t a b c i e d q : Int} (k1 : zd_CB 1 g l Y z k t a b c i e P h) (k2 : zd_CI 1 g l Y z d e q P h) : (zo_CLt g l i t q P h) := by
  rcases k1 with ⟨h0, _⟩ | ⟨_, f, u1, u2⟩
  · exact absurd h0 (by decide)
  refine ⟨f, e, zo_PT_of u1, u2, ?_⟩
  rcases k2 with ⟨_, h1, h2⟩ | ⟨_, h1, y, h3, h4⟩
  · exact Or.inl ⟨h1, h2⟩
  · exact Or.inr ⟨h1, y, zd_T_T h3, h4⟩
theorem zk_cl_ok {w : zq_Wd} (x_CB : zj_is w 259 (fun q => zd_CB (q 0) (q 1) (q 2) (q 3) (q 4) (q 5) (q 6) (q 7) (q 8) (q 9) (q 10) (q 11))) (x_CI : zj_is w 256 (fun q => zd_CI (q 0) (q 1) (q 2) (q 3) (q 4) (q 5) (q 6) (q 7))) (x_CL : zj_is w 325 (fun q => zo_CLt (q 0) (q 1) (q 2) (q 3) (q 4))) : zq_okG1 w zk_cl := by
  refine ⟨rfl, rfl, zu_fac ⟨rfl, by decide⟩ zq_fan, ?_⟩
  intro r P h H hM
  have q0 : zq_ev r (1, []) = 1 := zu_e0 _ _
  have q1 : zq_ev r (0, [(0, 1)]) = r 0 := zu_e1 _ _
  have q2 : zq_ev r (0, [(1, 1)]) = r 1 := zu_e1 _ _
  have q3 : zq_ev r (0, [(2, 1)]) = r 2 := zu_e1 _ _
  have q4 : zq_ev r (0, [(3, 1)]) = r 3 := zu_e1 _ _
  have q5 : zq_ev r (0, [(4, 1)]) = r 4 := zu_e1 _ _
  have q6 : zq_ev r (0, [(5, 1)]) = r 5 := zu_e1 _ _
  have q7 : zq_ev r (0, [(6, 1)]) = r 6 := zu_e1 _ _
  have q8 : zq_ev r (0, [(7, 1)]) = r 7 := zu_e1 _ _
  have q9 : zq_ev r (0, [(8, 1)]) = r 8 := zu_e1 _ _
  have q10 : zq_ev r (0, [(9, 1)]) = r 9 := zu_e1 _ _
  have q11 : zq_ev r (0, [(10, 1)]) = r 10 := zu_e1 _ _
  have q12 : zq_ev r (0, [(11, 1)]) = r 11 := zu_e1 _ _
  have q13 : zq_ev r (0, [(12, 1)]) = r 12 := zu_e1 _ _
  obtain ⟨hT, hC, hF, hS, -, hK⟩ := hM
  have c := hC.1
  have k1 := zj_use x_CB (hK)
  have k1 : zd_CB (zq_ev r (1, [])) (zq_ev r (0, [(0, 1)])) (zq_ev r (0, [(1, 1)])) (zq_ev r (0, [(2, 1)])) (zq_ev r (0, [(3, 1)])) (zq_ev r (0, [(4, 1)])) (zq_ev r (0, [(5, 1)])) (zq_ev r (0, [(6, 1)])) (zq_ev r (0, [(7, 1)])) (zq_ev r (0, [(8, 1)])) (zq_ev r (0, [(9, 1)])) (zq_ev r (0, [(10, 1)])) P h := k1
  simp only [q0, q1, q10, q11, q2, q3, q4, q5, q6, q7, q8, q9] at k1
  have k2 := zj_use x_CI (zq_okX_t (hK))
  have k2 : zd_CI (zq_ev r (1, [])) (zq_ev r (0, [(0, 1)])) (zq_ev r (0, [(1, 1)])) (zq_ev r (0, [(2, 1)])) (zq_ev r (0, [(3, 1)])) (zq_ev r (0, [(11, 1)])) (zq_ev r (0, [(10, 1)])) (zq_ev r (0, [(12, 1)])) P h := k2
  simp only [q0, q1, q11, q12, q13, q2, q3, q4] at k2
  obtain t1 := zk_cl_l (P := P) (h := h) (g := r 0) (l := r 1) (Y := r 2) (z := r 3) (k := r 4) (t := r 5) (a := r 6) (b := r 7) (c := r 8) (i := r 9) (e := r 10) (d := r 11) (q := r 12) k1 k2
  obtain ⟨rq, hr⟩ : ∃ rq : Nat → Int, (∀ i, i < 13 → rq i = r i) := ⟨r, fun i hi => rfl⟩
  have v0 : rq 0 = r 0 := hr 0 (by decide)
  have v1 : rq 1 = r 1 := hr 1 (by decide)
  have v5 : rq 5 = r 5 := hr 5 (by decide)
  have v9 : rq 9 = r 9 := hr 9 (by decide)
  have v12 : rq 12 = r 12 := hr 12 (by decide)
  have g0 : zq_ev rq (0, [(0, 1)]) = r 0 := zu_f1 v0
  have g1 : zq_ev rq (0, [(1, 1)]) = r 1 := zu_f1 v1
  have g2 : zq_ev rq (0, [(9, 1)]) = r 9 := zu_f1 v9
  have g3 : zq_ev rq (0, [(5, 1)]) = r 5 := zu_f1 v5
  have g4 : zq_ev rq (0, [(12, 1)]) = r 12 := zu_f1 v12
  exact ⟨_, List.mem_cons_self .., rq, hr, zq_MeS_mk rfl hT (zq_all_nil) zq_fan (zq_fan) rfl (zu_fac ((x_CL _ _ _).mpr (by show zo_CLt (zq_ev rq (0, [(0, 1)])) (zq_ev rq (0, [(1, 1)])) (zq_ev rq (0, [(9, 1)])) (zq_ev rq (0, [(5, 1)])) (zq_ev rq (0, [(12, 1)])) P h; simp only [g0, g1, g2, g3, g4]; exact t1)) zq_fan)⟩
noncomputable def zk_h17 : zq_S × List zq_S := (([], [], [(-17, [(4, 1)]), (17, [(4, -1)])], [], [], [], [(259, [(1, []), (0, [(0, 1)]), (0, [(1, 1)]), (0, [(2, 1)]), (0, [(3, 1)]), (0, [(4, 1)]), (0, [(5, 1)]), (0, [(6, 1)]), (0, [(7, 1)]), (0, [(8, 1)]), (0, [(9, 1)]), (0, [(10, 1)])])], 11), [([], [], [], [], [], [], [(224, [(0, [(0, 1)]), (0, [(1, 1)]), (0, [(9, 1)]), (22, [])])], 11)])
theorem zk_h17_l {P : zq_Ty} {h : zq_H} {g l Y z k t a b c i e : Int} (a1 : 0 ≤ k - 17) (a2 : 0 ≤ -k + 17) (k1 : zd_CB 1 g l Y z k t a b c i e P h) : (ze_CD g l i 22 P h) := by
  rcases k1 with ⟨h0, _⟩ | ⟨_, f, u1, u2⟩
  · exact absurd h0 (by decide)
  show (22 : Int) = ze_c g l i
  rcases u1 with ⟨h1, h2, _⟩ | ⟨h1, h2, _⟩ | ⟨h1, h2, _⟩ | ⟨h1, h2, _⟩ <;> omega
theorem zk_h17_ok {w : zq_Wd} (x_CB : zj_is w 259 (fun q => zd_CB (q 0) (q 1) (q 2) (q 3) (q 4) (q 5) (q 6) (q 7) (q 8) (q 9) (q 10) (q 11))) (x_CD : zj_is w 224 (fun q => ze_CD (q 0) (q 1) (q 2) (q 3))) : zq_okG1 w zk_h17 := by
  refine ⟨rfl, rfl, zu_fac ⟨rfl, by decide⟩ zq_fan, ?_⟩
  intro r P h H hM
  have q0 : zq_ev r (-17, [(4, 1)]) = r 4 - 17 := zu_e3 _ _ _
  have q1 : zq_ev r (17, [(4, -1)]) = -r 4 + 17 := zu_e5 _ _ _
  have q2 : zq_ev r (1, []) = 1 := zu_e0 _ _
  have q3 : zq_ev r (0, [(0, 1)]) = r 0 := zu_e1 _ _
  have q4 : zq_ev r (0, [(1, 1)]) = r 1 := zu_e1 _ _
  have q5 : zq_ev r (0, [(2, 1)]) = r 2 := zu_e1 _ _
  have q6 : zq_ev r (0, [(3, 1)]) = r 3 := zu_e1 _ _
  have q7 : zq_ev r (0, [(4, 1)]) = r 4 := zu_e1 _ _
  have q8 : zq_ev r (0, [(5, 1)]) = r 5 := zu_e1 _ _
  have q9 : zq_ev r (0, [(6, 1)]) = r 6 := zu_e1 _ _
  have q10 : zq_ev r (0, [(7, 1)]) = r 7 := zu_e1 _ _
  have q11 : zq_ev r (0, [(8, 1)]) = r 8 := zu_e1 _ _
  have q12 : zq_ev r (0, [(9, 1)]) = r 9 := zu_e1 _ _
  have q13 : zq_ev r (0, [(10, 1)]) = r 10 := zu_e1 _ _
  obtain ⟨hT, hC, hF, hS, -, hK⟩ := hM
  have c := hC.1
  have a1 := zq_all_1 c
  rw [q0] at a1
  have c := zq_all_t c
  have a2 := zq_all_1 c
  rw [q1] at a2
  have k1 := zj_use x_CB (hK)
  have k1 : zd_CB (zq_ev r (1, [])) (zq_ev r (0, [(0, 1)])) (zq_ev r (0, [(1, 1)])) (zq_ev r (0, [(2, 1)])) (zq_ev r (0, [(3, 1)])) (zq_ev r (0, [(4, 1)])) (zq_ev r (0, [(5, 1)])) (zq_ev r (0, [(6, 1)])) (zq_ev r (0, [(7, 1)])) (zq_ev r (0, [(8, 1)])) (zq_ev r (0, [(9, 1)])) (zq_ev r (0, [(10, 1)])) P h := k1
  simp only [q10, q11, q12, q13, q2, q3, q4, q5, q6, q7, q8, q9] at k1
  obtain t1 := zk_h17_l (P := P) (h := h) (g := r 0) (l := r 1) (Y := r 2) (z := r 3) (k := r 4) (t := r 5) (a := r 6) (b := r 7) (c := r 8) (i := r 9) (e := r 10) a1 a2 k1
  obtain ⟨rq, hr⟩ : ∃ rq : Nat → Int, (∀ i, i < 11 → rq i = r i) := ⟨r, fun i hi => rfl⟩
  have v0 : rq 0 = r 0 := hr 0 (by decide)
  have v1 : rq 1 = r 1 := hr 1 (by decide)
  have v9 : rq 9 = r 9 := hr 9 (by decide)
  have g0 : zq_ev rq (0, [(0, 1)]) = r 0 := zu_f1 v0
  have g1 : zq_ev rq (0, [(1, 1)]) = r 1 := zu_f1 v1
  have g2 : zq_ev rq (0, [(9, 1)]) = r 9 := zu_f1 v9
  have g3 : zq_ev rq (22, []) = 22 := zu_e0 _ _
  exact ⟨_, List.mem_cons_self .., rq, hr, zq_MeS_mk rfl hT (zq_all_nil) zq_fan (zq_fan) rfl (zu_fac ((x_CD _ _ _).mpr (by show ze_CD (zq_ev rq (0, [(0, 1)])) (zq_ev rq (0, [(1, 1)])) (zq_ev rq (0, [(9, 1)])) (zq_ev rq (22, [])) P h; simp only [g0, g1, g2, g3]; exact t1)) zq_fan)⟩
noncomputable def zk_h18 : zq_S × List zq_S := (([], [], [(-18, [(4, 1)]), (18, [(4, -1)])], [], [], [], [(259, [(1, []), (0, [(0, 1)]), (0, [(1, 1)]), (0, [(2, 1)]), (0, [(3, 1)]), (0, [(4, 1)]), (0, [(5, 1)]), (0, [(6, 1)]), (0, [(7, 1)]), (0, [(8, 1)]), (0, [(9, 1)]), (0, [(10, 1)])])], 11), [([], [], [], [], [], [], [(224, [(0, [(0, 1)]), (0, [(1, 1)]), (0, [(9, 1)]), (25, [])])], 11)])
theorem zk_h18_l {P : zq_Ty} {h : zq_H} {g l Y z k t a b c i e : Int} (a1 : 0 ≤ k - 18) (a2 : 0 ≤ -k + 18) (k1 : zd_CB 1 g l Y z k t a b c i e P h) : (ze_CD g l i 25 P h) := by
  rcases k1 with ⟨h0, _⟩ | ⟨_, f, u1, u2⟩
  · exact absurd h0 (by decide)
  show (25 : Int) = ze_c g l i
  rcases u1 with ⟨h1, h2, _⟩ | ⟨h1, h2, _⟩ | ⟨h1, h2, _⟩ | ⟨h1, h2, _⟩ <;> omega
theorem zk_h18_ok {w : zq_Wd} (x_CB : zj_is w 259 (fun q => zd_CB (q 0) (q 1) (q 2) (q 3) (q 4) (q 5) (q 6) (q 7) (q 8) (q 9) (q 10) (q 11))) (x_CD : zj_is w 224 (fun q => ze_CD (q 0) (q 1) (q 2) (q 3))) : zq_okG1 w zk_h18 := by
  refine ⟨rfl, rfl, zu_fac ⟨rfl, by decide⟩ zq_fan, ?_⟩
  intro r P h H hM
  have q0 : zq_ev r (-18, [(4, 1)]) = r 4 - 18 := zu_e3 _ _ _
  have q1 : zq_ev r (18, [(4, -1)]) = -r 4 + 18 := zu_e5 _ _ _
  have q2 : zq_ev r (1, []) = 1 := zu_e0 _ _
  have q3 : zq_ev r (0, [(0, 1)]) = r 0 := zu_e1 _ _
  have q4 : zq_ev r (0, [(1, 1)]) = r 1 := zu_e1 _ _
  have q5 : zq_ev r (0, [(2, 1)]) = r 2 := zu_e1 _ _
  have q6 : zq_ev r (0, [(3, 1)]) = r 3 := zu_e1 _ _
  have q7 : zq_ev r (0, [(4, 1)]) = r 4 := zu_e1 _ _
  have q8 : zq_ev r (0, [(5, 1)]) = r 5 := zu_e1 _ _
  have q9 : zq_ev r (0, [(6, 1)]) = r 6 := zu_e1 _ _
  have q10 : zq_ev r (0, [(7, 1)]) = r 7 := zu_e1 _ _
  have q11 : zq_ev r (0, [(8, 1)]) = r 8 := zu_e1 _ _
  have q12 : zq_ev r (0, [(9, 1)]) = r 9 := zu_e1 _ _
  have q13 : zq_ev r (0, [(10, 1)]) = r 10 := zu_e1 _ _
  obtain ⟨hT, hC, hF, hS, -, hK⟩ := hM
  have c := hC.1
  have a1 := zq_all_1 c
  rw [q0] at a1
  have c := zq_all_t c
  have a2 := zq_all_1 c
  rw [q1] at a2
  have k1 := zj_use x_CB (hK)
  have k1 : zd_CB (zq_ev r (1, [])) (zq_ev r (0, [(0, 1)])) (zq_ev r (0, [(1, 1)])) (zq_ev r (0, [(2, 1)])) (zq_ev r (0, [(3, 1)])) (zq_ev r (0, [(4, 1)])) (zq_ev r (0, [(5, 1)])) (zq_ev r (0, [(6, 1)])) (zq_ev r (0, [(7, 1)])) (zq_ev r (0, [(8, 1)])) (zq_ev r (0, [(9, 1)])) (zq_ev r (0, [(10, 1)])) P h := k1
  simp only [q10, q11, q12, q13, q2, q3, q4, q5, q6, q7, q8, q9] at k1
  obtain t1 := zk_h18_l (P := P) (h := h) (g := r 0) (l := r 1) (Y := r 2) (z := r 3) (k := r 4) (t := r 5) (a := r 6) (b := r 7) (c := r 8) (i := r 9) (e := r 10) a1 a2 k1
  obtain ⟨rq, hr⟩ : ∃ rq : Nat → Int, (∀ i, i < 11 → rq i = r i) := ⟨r, fun i hi => rfl⟩
  have v0 : rq 0 = r 0 := hr 0 (by decide)
  have v1 : rq 1 = r 1 := hr 1 (by decide)
  have v9 : rq 9 = r 9 := hr 9 (by decide)
  have g0 : zq_ev rq (0, [(0, 1)]) = r 0 := zu_f1 v0
  have g1 : zq_ev rq (0, [(1, 1)]) = r 1 := zu_f1 v1
  have g2 : zq_ev rq (0, [(9, 1)]) = r 9 := zu_f1 v9
  have g3 : zq_ev rq (25, []) = 25 := zu_e0 _ _
  exact ⟨_, List.mem_cons_self .., rq, hr, zq_MeS_mk rfl hT (zq_all_nil) zq_fan (zq_fan) rfl (zu_fac ((x_CD _ _ _).mpr (by show ze_CD (zq_ev rq (0, [(0, 1)])) (zq_ev rq (0, [(1, 1)])) (zq_ev rq (0, [(9, 1)])) (zq_ev rq (25, [])) P h; simp only [g0, g1, g2, g3]; exact t1)) zq_fan)⟩
noncomputable def zk_h19 : zq_S × List zq_S := (([], [], [(-19, [(4, 1)]), (19, [(4, -1)])], [], [], [], [(259, [(1, []), (0, [(0, 1)]), (0, [(1, 1)]), (0, [(2, 1)]), (0, [(3, 1)]), (0, [(4, 1)]), (0, [(5, 1)]), (0, [(6, 1)]), (0, [(7, 1)]), (0, [(8, 1)]), (0, [(9, 1)]), (0, [(10, 1)])])], 11), [([], [], [], [], [], [], [(224, [(0, [(0, 1)]), (0, [(1, 1)]), (0, [(9, 1)]), (27, [])])], 11)])
theorem zk_h19_l {P : zq_Ty} {h : zq_H} {g l Y z k t a b c i e : Int} (a1 : 0 ≤ k - 19) (a2 : 0 ≤ -k + 19) (k1 : zd_CB 1 g l Y z k t a b c i e P h) : (ze_CD g l i 27 P h) := by
  rcases k1 with ⟨h0, _⟩ | ⟨_, f, u1, u2⟩
  · exact absurd h0 (by decide)
  show (27 : Int) = ze_c g l i
  rcases u1 with ⟨h1, h2, _⟩ | ⟨h1, h2, _⟩ | ⟨h1, h2, _⟩ | ⟨h1, h2, _⟩ <;> omega
theorem zk_h19_ok {w : zq_Wd} (x_CB : zj_is w 259 (fun q => zd_CB (q 0) (q 1) (q 2) (q 3) (q 4) (q 5) (q 6) (q 7) (q 8) (q 9) (q 10) (q 11))) (x_CD : zj_is w 224 (fun q => ze_CD (q 0) (q 1) (q 2) (q 3))) : zq_okG1 w zk_h19 := by
  refine ⟨rfl, rfl, zu_fac ⟨rfl, by decide⟩ zq_fan, ?_⟩
  intro r P h H hM
  have q0 : zq_ev r (-19, [(4, 1)]) = r 4 - 19 := zu_e3 _ _ _
  have q1 : zq_ev r (19, [(4, -1)]) = -r 4 + 19 := zu_e5 _ _ _
  have q2 : zq_ev r (1, []) = 1 := zu_e0 _ _
  have q3 : zq_ev r (0, [(0, 1)]) = r 0 := zu_e1 _ _
  have q4 : zq_ev r (0, [(1, 1)]) = r 1 := zu_e1 _ _
  have q5 : zq_ev r (0, [(2, 1)]) = r 2 := zu_e1 _ _
  have q6 : zq_ev r (0, [(3, 1)]) = r 3 := zu_e1 _ _
  have q7 : zq_ev r (0, [(4, 1)]) = r 4 := zu_e1 _ _
  have q8 : zq_ev r (0, [(5, 1)]) = r 5 := zu_e1 _ _
  have q9 : zq_ev r (0, [(6, 1)]) = r 6 := zu_e1 _ _
  have q10 : zq_ev r (0, [(7, 1)]) = r 7 := zu_e1 _ _
  have q11 : zq_ev r (0, [(8, 1)]) = r 8 := zu_e1 _ _
  have q12 : zq_ev r (0, [(9, 1)]) = r 9 := zu_e1 _ _
  have q13 : zq_ev r (0, [(10, 1)]) = r 10 := zu_e1 _ _
  obtain ⟨hT, hC, hF, hS, -, hK⟩ := hM
  have c := hC.1
  have a1 := zq_all_1 c
  rw [q0] at a1
  have c := zq_all_t c
  have a2 := zq_all_1 c
  rw [q1] at a2
  have k1 := zj_use x_CB (hK)
  have k1 : zd_CB (zq_ev r (1, [])) (zq_ev r (0, [(0, 1)])) (zq_ev r (0, [(1, 1)])) (zq_ev r (0, [(2, 1)])) (zq_ev r (0, [(3, 1)])) (zq_ev r (0, [(4, 1)])) (zq_ev r (0, [(5, 1)])) (zq_ev r (0, [(6, 1)])) (zq_ev r (0, [(7, 1)])) (zq_ev r (0, [(8, 1)])) (zq_ev r (0, [(9, 1)])) (zq_ev r (0, [(10, 1)])) P h := k1
  simp only [q10, q11, q12, q13, q2, q3, q4, q5, q6, q7, q8, q9] at k1
  obtain t1 := zk_h19_l (P := P) (h := h) (g := r 0) (l := r 1) (Y := r 2) (z := r 3) (k := r 4) (t := r 5) (a := r 6) (b := r 7) (c := r 8) (i := r 9) (e := r 10) a1 a2 k1
  obtain ⟨rq, hr⟩ : ∃ rq : Nat → Int, (∀ i, i < 11 → rq i = r i) := ⟨r, fun i hi => rfl⟩
  have v0 : rq 0 = r 0 := hr 0 (by decide)
  have v1 : rq 1 = r 1 := hr 1 (by decide)
  have v9 : rq 9 = r 9 := hr 9 (by decide)
  have g0 : zq_ev rq (0, [(0, 1)]) = r 0 := zu_f1 v0
  have g1 : zq_ev rq (0, [(1, 1)]) = r 1 := zu_f1 v1
  have g2 : zq_ev rq (0, [(9, 1)]) = r 9 := zu_f1 v9
  have g3 : zq_ev rq (27, []) = 27 := zu_e0 _ _
  exact ⟨_, List.mem_cons_self .., rq, hr, zq_MeS_mk rfl hT (zq_all_nil) zq_fan (zq_fan) rfl (zu_fac ((x_CD _ _ _).mpr (by show ze_CD (zq_ev rq (0, [(0, 1)])) (zq_ev rq (0, [(1, 1)])) (zq_ev rq (0, [(9, 1)])) (zq_ev rq (27, [])) P h; simp only [g0, g1, g2, g3]; exact t1)) zq_fan)⟩
noncomputable def zk_h20 : zq_S × List zq_S := (([], [], [(-20, [(4, 1)]), (20, [(4, -1)])], [], [], [], [(259, [(1, []), (0, [(0, 1)]), (0, [(1, 1)]), (0, [(2, 1)]), (0, [(3, 1)]), (0, [(4, 1)]), (0, [(5, 1)]), (0, [(6, 1)]), (0, [(7, 1)]), (0, [(8, 1)]), (0, [(9, 1)]), (0, [(10, 1)])])], 11), [([], [], [], [], [], [], [(224, [(0, [(0, 1)]), (0, [(1, 1)]), (0, [(9, 1)]), (28, [])])], 11)])
theorem zk_h20_l {P : zq_Ty} {h : zq_H} {g l Y z k t a b c i e : Int} (a1 : 0 ≤ k - 20) (a2 : 0 ≤ -k + 20) (k1 : zd_CB 1 g l Y z k t a b c i e P h) : (ze_CD g l i 28 P h) := by
  rcases k1 with ⟨h0, _⟩ | ⟨_, f, u1, u2⟩
  · exact absurd h0 (by decide)
  show (28 : Int) = ze_c g l i
  rcases u1 with ⟨h1, h2, _⟩ | ⟨h1, h2, _⟩ | ⟨h1, h2, _⟩ | ⟨h1, h2, _⟩ <;> omega
theorem zk_h20_ok {w : zq_Wd} (x_CB : zj_is w 259 (fun q => zd_CB (q 0) (q 1) (q 2) (q 3) (q 4) (q 5) (q 6) (q 7) (q 8) (q 9) (q 10) (q 11))) (x_CD : zj_is w 224 (fun q => ze_CD (q 0) (q 1) (q 2) (q 3))) : zq_okG1 w zk_h20 := by
  refine ⟨rfl, rfl, zu_fac ⟨rfl, by decide⟩ zq_fan, ?_⟩
  intro r P h H hM
  have q0 : zq_ev r (-20, [(4, 1)]) = r 4 - 20 := zu_e3 _ _ _
  have q1 : zq_ev r (20, [(4, -1)]) = -r 4 + 20 := zu_e5 _ _ _
  have q2 : zq_ev r (1, []) = 1 := zu_e0 _ _
  have q3 : zq_ev r (0, [(0, 1)]) = r 0 := zu_e1 _ _
  have q4 : zq_ev r (0, [(1, 1)]) = r 1 := zu_e1 _ _
  have q5 : zq_ev r (0, [(2, 1)]) = r 2 := zu_e1 _ _
  have q6 : zq_ev r (0, [(3, 1)]) = r 3 := zu_e1 _ _
  have q7 : zq_ev r (0, [(4, 1)]) = r 4 := zu_e1 _ _
  have q8 : zq_ev r (0, [(5, 1)]) = r 5 := zu_e1 _ _
  have q9 : zq_ev r (0, [(6, 1)]) = r 6 := zu_e1 _ _
  have q10 : zq_ev r (0, [(7, 1)]) = r 7 := zu_e1 _ _
  have q11 : zq_ev r (0, [(8, 1)]) = r 8 := zu_e1 _ _
  have q12 : zq_ev r (0, [(9, 1)]) = r 9 := zu_e1 _ _
  have q13 : zq_ev r (0, [(10, 1)]) = r 10 := zu_e1 _ _
  obtain ⟨hT, hC, hF, hS, -, hK⟩ := hM
  have c := hC.1
  have a1 := zq_all_1 c
  rw [q0] at a1
  have c := zq_all_t c
  have a2 := zq_all_1 c
  rw [q1] at a2
  have k1 := zj_use x_CB (hK)
  have k1 : zd_CB (zq_ev r (1, [])) (zq_ev r (0, [(0, 1)])) (zq_ev r (0, [(1, 1)])) (zq_ev r (0, [(2, 1)])) (zq_ev r (0, [(3, 1)])) (zq_ev r (0, [(4, 1)])) (zq_ev r (0, [(5, 1)])) (zq_ev r (0, [(6, 1)])) (zq_ev r (0, [(7, 1)])) (zq_ev r (0, [(8, 1)])) (zq_ev r (0, [(9, 1)])) (zq_ev r (0, [(10, 1)])) P h := k1
  simp only [q10, q11, q12, q13, q2, q3, q4, q5, q6, q7, q8, q9] at k1
  obtain t1 := zk_h20_l (P := P) (h := h) (g := r 0) (l := r 1) (Y := r 2) (z := r 3) (k := r 4) (t := r 5) (a := r 6) (b := r 7) (c := r 8) (i := r 9) (e := r 10) a1 a2 k1
  obtain ⟨rq, hr⟩ : ∃ rq : Nat → Int, (∀ i, i < 11 → rq i = r i) := ⟨r, fun i hi => rfl⟩
  have v0 : rq 0 = r 0 := hr 0 (by decide)
  have v1 : rq 1 = r 1 := hr 1 (by decide)
  have v9 : rq 9 = r 9 := hr 9 (by decide)
  have g0 : zq_ev rq (0, [(0, 1)]) = r 0 := zu_f1 v0
  have g1 : zq_ev rq (0, [(1, 1)]) = r 1 := zu_f1 v1
  have g2 : zq_ev rq (0, [(9, 1)]) = r 9 := zu_f1 v9
  have g3 : zq_ev rq (28, []) = 28 := zu_e0 _ _
  exact ⟨_, List.mem_cons_self .., rq, hr, zq_MeS_mk rfl hT (zq_all_nil) zq_fan (zq_fan) rfl (zu_fac ((x_CD _ _ _).mpr (by show ze_CD (zq_ev rq (0, [(0, 1)])) (zq_ev rq (0, [(1, 1)])) (zq_ev rq (0, [(9, 1)])) (zq_ev rq (28, [])) P h; simp only [g0, g1, g2, g3]; exact t1)) zq_fan)⟩
noncomputable def zk_hx : zq_S × List zq_S := (([], [], [], [], [], [], [(259, [(1, []), (0, [(0, 1)]), (0, [(1, 1)]), (0, [(2, 1)]), (0, [(3, 1)]), (0, [(4, 1)]), (0, [(5, 1)]), (0, [(6, 1)]), (0, [(7, 1)]), (0, [(8, 1)]), (0, [(9, 1)]), (0, [(10, 1)])])], 11), [([], [], [(-22, [(11, 1)])], [], [], [], [(224, [(0, [(0, 1)]), (0, [(1, 1)]), (0, [(9, 1)]), (0, [(11, 1)])])], 12)])
theorem zk_hx_l {P : zq_Ty} {h : zq_H} {g l Y z k t a b c i e : Int} (k1 : zd_CB 1 g l Y z k t a b c i e P h) : (∃ w : Int, 0 ≤ w - 22 ∧ ze_CD g l i w P h) := by
  rcases k1 with ⟨h0, _⟩ | ⟨_, f, u1, u2⟩
  · exact absurd h0 (by decide)
  refine ⟨ze_c g l i, ?_, rfl⟩
  rcases u1 with ⟨h1, h2, _⟩ | ⟨h1, h2, _⟩ | ⟨h1, h2, _⟩ | ⟨h1, h2, _⟩ <;> omega
theorem zk_hx_ok {w : zq_Wd} (x_CB : zj_is w 259 (fun q => zd_CB (q 0) (q 1) (q 2) (q 3) (q 4) (q 5) (q 6) (q 7) (q 8) (q 9) (q 10) (q 11))) (x_CD : zj_is w 224 (fun q => ze_CD (q 0) (q 1) (q 2) (q 3))) : zq_okG1 w zk_hx := by
  refine ⟨rfl, rfl, zu_fac ⟨rfl, by decide⟩ zq_fan, ?_⟩
  intro r P h H hM
  have q0 : zq_ev r (1, []) = 1 := zu_e0 _ _
  have q1 : zq_ev r (0, [(0, 1)]) = r 0 := zu_e1 _ _
  have q2 : zq_ev r (0, [(1, 1)]) = r 1 := zu_e1 _ _
  have q3 : zq_ev r (0, [(2, 1)]) = r 2 := zu_e1 _ _
  have q4 : zq_ev r (0, [(3, 1)]) = r 3 := zu_e1 _ _
  have q5 : zq_ev r (0, [(4, 1)]) = r 4 := zu_e1 _ _
  have q6 : zq_ev r (0, [(5, 1)]) = r 5 := zu_e1 _ _
  have q7 : zq_ev r (0, [(6, 1)]) = r 6 := zu_e1 _ _
  have q8 : zq_ev r (0, [(7, 1)]) = r 7 := zu_e1 _ _
  have q9 : zq_ev r (0, [(8, 1)]) = r 8 := zu_e1 _ _
  have q10 : zq_ev r (0, [(9, 1)]) = r 9 := zu_e1 _ _
  have q11 : zq_ev r (0, [(10, 1)]) = r 10 := zu_e1 _ _
  obtain ⟨hT, hC, hF, hS, -, hK⟩ := hM
  have c := hC.1
  have k1 := zj_use x_CB (hK)
  have k1 : zd_CB (zq_ev r (1, [])) (zq_ev r (0, [(0, 1)])) (zq_ev r (0, [(1, 1)])) (zq_ev r (0, [(2, 1)])) (zq_ev r (0, [(3, 1)])) (zq_ev r (0, [(4, 1)])) (zq_ev r (0, [(5, 1)])) (zq_ev r (0, [(6, 1)])) (zq_ev r (0, [(7, 1)])) (zq_ev r (0, [(8, 1)])) (zq_ev r (0, [(9, 1)])) (zq_ev r (0, [(10, 1)])) P h := k1
  simp only [q0, q1, q10, q11, q2, q3, q4, q5, q6, q7, q8, q9] at k1
  obtain ⟨y_0, c1, t1⟩ := zk_hx_l (P := P) (h := h) (g := r 0) (l := r 1) (Y := r 2) (z := r 3) (k := r 4) (t := r 5) (a := r 6) (b := r 7) (c := r 8) (i := r 9) (e := r 10) k1
  obtain ⟨rq, hr, w11⟩ : ∃ rq : Nat → Int, (∀ i, i < 11 → rq i = r i) ∧ rq 11 = y_0 := ⟨zq_up r 11 y_0, fun i hi => by rw [zu_up_ne (by omega)], rfl⟩
  have v0 : rq 0 = r 0 := hr 0 (by decide)
  have v1 : rq 1 = r 1 := hr 1 (by decide)
  have v9 : rq 9 = r 9 := hr 9 (by decide)
  have g0 : zq_ev rq (-22, [(11, 1)]) = y_0 - 22 := zu_f3 w11 _
  have g1 : zq_ev rq (0, [(0, 1)]) = r 0 := zu_f1 v0
  have g2 : zq_ev rq (0, [(1, 1)]) = r 1 := zu_f1 v1
  have g3 : zq_ev rq (0, [(9, 1)]) = r 9 := zu_f1 v9
  have g4 : zq_ev rq (0, [(11, 1)]) = y_0 := zu_f1 w11
  exact ⟨_, List.mem_cons_self .., rq, hr, zq_MeS_mk rfl hT (zq_all_cons (by rw [g0]; exact c1) (zq_all_nil)) zq_fan (zq_fan) rfl (zu_fac ((x_CD _ _ _).mpr (by show ze_CD (zq_ev rq (0, [(0, 1)])) (zq_ev rq (0, [(1, 1)])) (zq_ev rq (0, [(9, 1)])) (zq_ev rq (0, [(11, 1)])) P h; simp only [g1, g2, g3, g4]; exact t1)) zq_fan)⟩
noncomputable def zk_p17 : zq_S × List zq_S := (([], [], [(-17, [(4, 1)]), (17, [(4, -1)])], [], [], [], [(259, [(1, []), (0, [(0, 1)]), (0, [(1, 1)]), (0, [(2, 1)]), (0, [(3, 1)]), (0, [(4, 1)]), (0, [(5, 1)]), (0, [(6, 1)]), (0, [(7, 1)]), (0, [(8, 1)]), (0, [(9, 1)]), (0, [(10, 1)])])], 11), [([], [], [(0, [(6, 1)]), (0, [(7, 1)]), (0, [(8, 1)])], [], [], [], [], 11)])
theorem zk_p17_l {P : zq_Ty} {h : zq_H} {g l Y z k t a b c i e : Int} (a1 : 0 ≤ k - 17) (a2 : 0 ≤ -k + 17) (k1 : zd_CB 1 g l Y z k t a b c i e P h) : (0 ≤ a ∧ 0 ≤ b ∧ 0 ≤ c) := by
  rcases k1 with ⟨h0, _⟩ | ⟨_, f, u1, u2⟩
  · exact absurd h0 (by decide)
  rcases u1 with ⟨h1, h2, h3, h4, h5, _⟩ | ⟨h1, h2, h3, h4, h5, _⟩ | ⟨h1, h2, h3, h4, h5, _⟩ | ⟨h1, h2, h3, h4, h5, _⟩ <;> omega
theorem zk_p17_ok {w : zq_Wd} (x_CB : zj_is w 259 (fun q => zd_CB (q 0) (q 1) (q 2) (q 3) (q 4) (q 5) (q 6) (q 7) (q 8) (q 9) (q 10) (q 11))) : zq_okG1 w zk_p17 := by
  refine ⟨rfl, rfl, zu_fac ⟨rfl, by decide⟩ zq_fan, ?_⟩
  intro r P h H hM
  have q0 : zq_ev r (-17, [(4, 1)]) = r 4 - 17 := zu_e3 _ _ _
  have q1 : zq_ev r (17, [(4, -1)]) = -r 4 + 17 := zu_e5 _ _ _
  have q2 : zq_ev r (1, []) = 1 := zu_e0 _ _
  have q3 : zq_ev r (0, [(0, 1)]) = r 0 := zu_e1 _ _
  have q4 : zq_ev r (0, [(1, 1)]) = r 1 := zu_e1 _ _
  have q5 : zq_ev r (0, [(2, 1)]) = r 2 := zu_e1 _ _
  have q6 : zq_ev r (0, [(3, 1)]) = r 3 := zu_e1 _ _
  have q7 : zq_ev r (0, [(4, 1)]) = r 4 := zu_e1 _ _
  have q8 : zq_ev r (0, [(5, 1)]) = r 5 := zu_e1 _ _
  have q9 : zq_ev r (0, [(6, 1)]) = r 6 := zu_e1 _ _
  have q10 : zq_ev r (0, [(7, 1)]) = r 7 := zu_e1 _ _
  have q11 : zq_ev r (0, [(8, 1)]) = r 8 := zu_e1 _ _
  have q12 : zq_ev r (0, [(9, 1)]) = r 9 := zu_e1 _ _
  have q13 : zq_ev r (0, [(10, 1)]) = r 10 := zu_e1 _ _
  obtain ⟨hT, hC, hF, hS, -, hK⟩ := hM
  have c := hC.1
  have a1 := zq_all_1 c
  rw [q0] at a1
  have c := zq_all_t c
  have a2 := zq_all_1 c
  rw [q1] at a2
  have k1 := zj_use x_CB (hK)
  have k1 : zd_CB (zq_ev r (1, [])) (zq_ev r (0, [(0, 1)])) (zq_ev r (0, [(1, 1)])) (zq_ev r (0, [(2, 1)])) (zq_ev r (0, [(3, 1)])) (zq_ev r (0, [(4, 1)])) (zq_ev r (0, [(5, 1)])) (zq_ev r (0, [(6, 1)])) (zq_ev r (0, [(7, 1)])) (zq_ev r (0, [(8, 1)])) (zq_ev r (0, [(9, 1)])) (zq_ev r (0, [(10, 1)])) P h := k1
  simp only [q10, q11, q12, q13, q2, q3, q4, q5, q6, q7, q8, q9] at k1
  obtain ⟨c1, c2, c3⟩ := zk_p17_l (P := P) (h := h) (g := r 0) (l := r 1) (Y := r 2) (z := r 3) (k := r 4) (t := r 5) (a := r 6) (b := r 7) (c := r 8) (i := r 9) (e := r 10) a1 a2 k1
  obtain ⟨rq, hr⟩ : ∃ rq : Nat → Int, (∀ i, i < 11 → rq i = r i) := ⟨r, fun i hi => rfl⟩
  have v6 : rq 6 = r 6 := hr 6 (by decide)
  have v7 : rq 7 = r 7 := hr 7 (by decide)
  have v8 : rq 8 = r 8 := hr 8 (by decide)
  have g0 : zq_ev rq (0, [(8, 1)]) = r 8 := zu_f1 v8
  have g1 : zq_ev rq (0, [(7, 1)]) = r 7 := zu_f1 v7
  have g2 : zq_ev rq (0, [(6, 1)]) = r 6 := zu_f1 v6
  exact ⟨_, List.mem_cons_self .., rq, hr, zq_MeS_mk rfl hT (zq_all_cons (by rw [g2]; exact c1) (zq_all_cons (by rw [g1]; exact c2) (zq_all_cons (by rw [g0]; exact c3) (zq_all_nil)))) zq_fan (zq_fan) rfl zq_fan⟩
noncomputable def zk_p18 : zq_S × List zq_S := (([], [], [(-18, [(4, 1)]), (18, [(4, -1)])], [], [], [], [(259, [(1, []), (0, [(0, 1)]), (0, [(1, 1)]), (0, [(2, 1)]), (0, [(3, 1)]), (0, [(4, 1)]), (0, [(5, 1)]), (0, [(6, 1)]), (0, [(7, 1)]), (0, [(8, 1)]), (0, [(9, 1)]), (0, [(10, 1)])])], 11), [([], [], [(0, [(6, 1)]), (0, [(7, 1)]), (1, [(8, 1)]), (-1, [(8, -1)])], [], [], [], [], 11)])
theorem zk_p18_l {P : zq_Ty} {h : zq_H} {g l Y z k t a b c i e : Int} (a1 : 0 ≤ k - 18) (a2 : 0 ≤ -k + 18) (k1 : zd_CB 1 g l Y z k t a b c i e P h) : (0 ≤ a ∧ 0 ≤ b ∧ 0 ≤ c + 1 ∧ 0 ≤ -c - 1) := by
  rcases k1 with ⟨h0, _⟩ | ⟨_, f, u1, u2⟩
  · exact absurd h0 (by decide)
  rcases u1 with ⟨h1, h2, h3, h4, h5, _⟩ | ⟨h1, h2, h3, h4, h5, _⟩ | ⟨h1, h2, h3, h4, h5, _⟩ | ⟨h1, h2, h3, h4, h5, _⟩ <;> omega
theorem zk_p18_ok {w : zq_Wd} (x_CB : zj_is w 259 (fun q => zd_CB (q 0) (q 1) (q 2) (q 3) (q 4) (q 5) (q 6) (q 7) (q 8) (q 9) (q 10) (q 11))) : zq_okG1 w zk_p18 := by
  refine ⟨rfl, rfl, zu_fac ⟨rfl, by decide⟩ zq_fan, ?_⟩
  intro r P h H hM
  have q0 : zq_ev r (-18, [(4, 1)]) = r 4 - 18 := zu_e3 _ _ _
  have q1 : zq_ev r (18, [(4, -1)]) = -r 4 + 18 := zu_e5 _ _ _
  have q2 : zq_ev r (1, []) = 1 := zu_e0 _ _
  have q3 : zq_ev r (0, [(0, 1)]) = r 0 := zu_e1 _ _
  have q4 : zq_ev r (0, [(1, 1)]) = r 1 := zu_e1 _ _
  have q5 : zq_ev r (0, [(2, 1)]) = r 2 := zu_e1 _ _
  have q6 : zq_ev r (0, [(3, 1)]) = r 3 := zu_e1 _ _
  have q7 : zq_ev r (0, [(4, 1)]) = r 4 := zu_e1 _ _
  have q8 : zq_ev r (0, [(5, 1)]) = r 5 := zu_e1 _ _
  have q9 : zq_ev r (0, [(6, 1)]) = r 6 := zu_e1 _ _
  have q10 : zq_ev r (0, [(7, 1)]) = r 7 := zu_e1 _ _
  have q11 : zq_ev r (0, [(8, 1)]) = r 8 := zu_e1 _ _
  have q12 : zq_ev r (0, [(9, 1)]) = r 9 := zu_e1 _ _
  have q13 : zq_ev r (0, [(10, 1)]) = r 10 := zu_e1 _ _
  obtain ⟨hT, hC, hF, hS, -, hK⟩ := hM
  have c := hC.1
  have a1 := zq_all_1 c
  rw [q0] at a1
  have c := zq_all_t c
  have a2 := zq_all_1 c
  rw [q1] at a2
  have k1 := zj_use x_CB (hK)
  have k1 : zd_CB (zq_ev r (1, [])) (zq_ev r (0, [(0, 1)])) (zq_ev r (0, [(1, 1)])) (zq_ev r (0, [(2, 1)])) (zq_ev r (0, [(3, 1)])) (zq_ev r (0, [(4, 1)])) (zq_ev r (0, [(5, 1)])) (zq_ev r (0, [(6, 1)])) (zq_ev r (0, [(7, 1)])) (zq_ev r (0, [(8, 1)])) (zq_ev r (0, [(9, 1)])) (zq_ev r (0, [(10, 1)])) P h := k1
  simp only [q10, q11, q12, q13, q2, q3, q4, q5, q6, q7, q8, q9] at k1
  obtain ⟨c1, c2, c3, c4⟩ := zk_p18_l (P := P) (h := h) (g := r 0) (l := r 1) (Y := r 2) (z := r 3) (k := r 4) (t := r 5) (a := r 6) (b := r 7) (c := r 8) (i := r 9) (e := r 10) a1 a2 k1
  obtain ⟨rq, hr⟩ : ∃ rq : Nat → Int, (∀ i, i < 11 → rq i = r i) := ⟨r, fun i hi => rfl⟩
  have v6 : rq 6 = r 6 := hr 6 (by decide)
  have v7 : rq 7 = r 7 := hr 7 (by decide)
  have v8 : rq 8 = r 8 := hr 8 (by decide)
  have g0 : zq_ev rq (-1, [(8, -1)]) = -r 8 - 1 := zu_f6 v8 _
  have g1 : zq_ev rq (1, [(8, 1)]) = r 8 + 1 := zu_f2 v8 _
  have g2 : zq_ev rq (0, [(7, 1)]) = r 7 := zu_f1 v7
  have g3 : zq_ev rq (0, [(6, 1)]) = r 6 := zu_f1 v6
  exact ⟨_, List.mem_cons_self .., rq, hr, zq_MeS_mk rfl hT (zq_all_cons (by rw [g3]; exact c1) (zq_all_cons (by rw [g2]; exact c2) (zq_all_cons (by rw [g1]; exact c3) (zq_all_cons (by rw [g0]; exact c4) (zq_all_nil))))) zq_fan (zq_fan) rfl zq_fan⟩
noncomputable def zk_p19 : zq_S × List zq_S := (([], [], [(-19, [(4, 1)]), (19, [(4, -1)])], [], [], [], [(259, [(1, []), (0, [(0, 1)]), (0, [(1, 1)]), (0, [(2, 1)]), (0, [(3, 1)]), (0, [(4, 1)]), (0, [(5, 1)]), (0, [(6, 1)]), (0, [(7, 1)]), (0, [(8, 1)]), (0, [(9, 1)]), (0, [(10, 1)])])], 11), [([], [], [(0, [(6, 1)]), (1, [(7, 1)]), (-1, [(7, -1)]), (1, [(8, 1)]), (-1, [(8, -1)])], [], [], [], [], 11)])
theorem zk_p19_l {P : zq_Ty} {h : zq_H} {g l Y z k t a b c i e : Int} (a1 : 0 ≤ k - 19) (a2 : 0 ≤ -k + 19) (k1 : zd_CB 1 g l Y z k t a b c i e P h) : (0 ≤ a ∧ 0 ≤ b + 1 ∧ 0 ≤ -b - 1 ∧ 0 ≤ c + 1 ∧ 0 ≤ -c - 1) := by
  rcases k1 with ⟨h0, _⟩ | ⟨_, f, u1, u2⟩
  · exact absurd h0 (by decide)
  rcases u1 with ⟨h1, h2, h3, h4, h5, _⟩ | ⟨h1, h2, h3, h4, h5, _⟩ | ⟨h1, h2, h3, h4, h5, _⟩ | ⟨h1, h2, h3, h4, h5, _⟩ <;> omega
theorem zk_p19_ok {w : zq_Wd} (x_CB : zj_is w 259 (fun q => zd_CB (q 0) (q 1) (q 2) (q 3) (q 4) (q 5) (q 6) (q 7) (q 8) (q 9) (q 10) (q 11))) : zq_okG1 w zk_p19 := by
  refine ⟨rfl, rfl, zu_fac ⟨rfl, by decide⟩ zq_fan, ?_⟩
  intro r P h H hM
  have q0 : zq_ev r (-19, [(4, 1)]) = r 4 - 19 := zu_e3 _ _ _
  have q1 : zq_ev r (19, [(4, -1)]) = -r 4 + 19 := zu_e5 _ _ _
  have q2 : zq_ev r (1, []) = 1 := zu_e0 _ _
  have q3 : zq_ev r (0, [(0, 1)]) = r 0 := zu_e1 _ _
  have q4 : zq_ev r (0, [(1, 1)]) = r 1 := zu_e1 _ _
  have q5 : zq_ev r (0, [(2, 1)]) = r 2 := zu_e1 _ _
  have q6 : zq_ev r (0, [(3, 1)]) = r 3 := zu_e1 _ _
  have q7 : zq_ev r (0, [(4, 1)]) = r 4 := zu_e1 _ _
  have q8 : zq_ev r (0, [(5, 1)]) = r 5 := zu_e1 _ _
  have q9 : zq_ev r (0, [(6, 1)]) = r 6 := zu_e1 _ _
  have q10 : zq_ev r (0, [(7, 1)]) = r 7 := zu_e1 _ _
  have q11 : zq_ev r (0, [(8, 1)]) = r 8 := zu_e1 _ _
  have q12 : zq_ev r (0, [(9, 1)]) = r 9 := zu_e1 _ _
  have q13 : zq_ev r (0, [(10, 1)]) = r 10 := zu_e1 _ _
  obtain ⟨hT, hC, hF, hS, -, hK⟩ := hM
  have c := hC.1
  have a1 := zq_all_1 c
  rw [q0] at a1
  have c := zq_all_t c
  have a2 := zq_all_1 c
  rw [q1] at a2
  have k1 := zj_use x_CB (hK)
  have k1 : zd_CB (zq_ev r (1, [])) (zq_ev r (0, [(0, 1)])) (zq_ev r (0, [(1, 1)])) (zq_ev r (0, [(2, 1)])) (zq_ev r (0, [(3, 1)])) (zq_ev r (0, [(4, 1)])) (zq_ev r (0, [(5, 1)])) (zq_ev r (0, [(6, 1)])) (zq_ev r (0, [(7, 1)])) (zq_ev r (0, [(8, 1)])) (zq_ev r (0, [(9, 1)])) (zq_ev r (0, [(10, 1)])) P h := k1
  simp only [q10, q11, q12, q13, q2, q3, q4, q5, q6, q7, q8, q9] at k1
  obtain ⟨c1, c2, c3, c4, c5⟩ := zk_p19_l (P := P) (h := h) (g := r 0) (l := r 1) (Y := r 2) (z := r 3) (k := r 4) (t := r 5) (a := r 6) (b := r 7) (c := r 8) (i := r 9) (e := r 10) a1 a2 k1
  obtain ⟨rq, hr⟩ : ∃ rq : Nat → Int, (∀ i, i < 11 → rq i = r i) := ⟨r, fun i hi => rfl⟩
  have v6 : rq 6 = r 6 := hr 6 (by decide)
  have v7 : rq 7 = r 7 := hr 7 (by decide)
  have v8 : rq 8 = r 8 := hr 8 (by decide)
  have g0 : zq_ev rq (-1, [(8, -1)]) = -r 8 - 1 := zu_f6 v8 _
  have g1 : zq_ev rq (1, [(8, 1)]) = r 8 + 1 := zu_f2 v8 _
  have g2 : zq_ev rq (-1, [(7, -1)]) = -r 7 - 1 := zu_f6 v7 _
  have g3 : zq_ev rq (1, [(7, 1)]) = r 7 + 1 := zu_f2 v7 _
  have g4 : zq_ev rq (0, [(6, 1)]) = r 6 := zu_f1 v6
  exact ⟨_, List.mem_cons_self .., rq, hr, zq_MeS_mk rfl hT (zq_all_cons (by rw [g4]; exact c1) (zq_all_cons (by rw [g3]; exact c2) (zq_all_cons (by rw [g2]; exact c3) (zq_all_cons (by rw [g1]; exact c4) (zq_all_cons (by rw [g0]; exact c5) (zq_all_nil)))))) zq_fan (zq_fan) rfl zq_fan⟩
noncomputable def zk_p20 : zq_S × List zq_S := (([], [], [(-20, [(4, 1)]), (20, [(4, -1)])], [], [], [], [(259, [(1, []), (0, [(0, 1)]), (0, [(1, 1)]), (0, [(2, 1)]), (0, [(3, 1)]), (0, [(4, 1)]), (0, [(5, 1)]), (0, [(6, 1)]), (0, [(7, 1)]), (0, [(8, 1)]), (0, [(9, 1)]), (0, [(10, 1)])])], 11), [([], [], [(1, [(6, 1)]), (-1, [(6, -1)]), (1, [(7, 1)]), (-1, [(7, -1)]), (1, [(8, 1)]), (-1, [(8, -1)])], [], [], [], [], 11)])
theorem zk_p20_l {P : zq_Ty} {h : zq_H} {g l Y z k t a b c i e : Int} (a1 : 0 ≤ k - 20) (a2 : 0 ≤ -k + 20) (k1 : zd_CB 1 g l Y z k t a b c i e P h) : (0 ≤ a + 1 ∧ 0 ≤ -a - 1 ∧ 0 ≤ b + 1 ∧ 0 ≤ -b - 1 ∧ 0 ≤ c + 1 ∧ 0 ≤ -c - 1) := by
  rcases k1 with ⟨h0, _⟩ | ⟨_, f, u1, u2⟩
  · exact absurd h0 (by decide)
  rcases u1 with ⟨h1, h2, h3, h4, h5, _⟩ | ⟨h1, h2, h3, h4, h5, _⟩ | ⟨h1, h2, h3, h4, h5, _⟩ | ⟨h1, h2, h3, h4, h5, _⟩ <;> omega
theorem zk_p20_ok {w : zq_Wd} (x_CB : zj_is w 259 (fun q => zd_CB (q 0) (q 1) (q 2) (q 3) (q 4) (q 5) (q 6) (q 7) (q 8) (q 9) (q 10) (q 11))) : zq_okG1 w zk_p20 := by
  refine ⟨rfl, rfl, zu_fac ⟨rfl, by decide⟩ zq_fan, ?_⟩
  intro r P h H hM
  have q0 : zq_ev r (-20, [(4, 1)]) = r 4 - 20 := zu_e3 _ _ _
  have q1 : zq_ev r (20, [(4, -1)]) = -r 4 + 20 := zu_e5 _ _ _
  have q2 : zq_ev r (1, []) = 1 := zu_e0 _ _
  have q3 : zq_ev r (0, [(0, 1)]) = r 0 := zu_e1 _ _
  have q4 : zq_ev r (0, [(1, 1)]) = r 1 := zu_e1 _ _
  have q5 : zq_ev r (0, [(2, 1)]) = r 2 := zu_e1 _ _
  have q6 : zq_ev r (0, [(3, 1)]) = r 3 := zu_e1 _ _
  have q7 : zq_ev r (0, [(4, 1)]) = r 4 := zu_e1 _ _
  have q8 : zq_ev r (0, [(5, 1)]) = r 5 := zu_e1 _ _
  have q9 : zq_ev r (0, [(6, 1)]) = r 6 := zu_e1 _ _
  have q10 : zq_ev r (0, [(7, 1)]) = r 7 := zu_e1 _ _
  have q11 : zq_ev r (0, [(8, 1)]) = r 8 := zu_e1 _ _
  have q12 : zq_ev r (0, [(9, 1)]) = r 9 := zu_e1 _ _
  have q13 : zq_ev r (0, [(10, 1)]) = r 10 := zu_e1 _ _
  obtain ⟨hT, hC, hF, hS, -, hK⟩ := hM
  have c := hC.1
  have a1 := zq_all_1 c
  rw [q0] at a1
  have c := zq_all_t c
  have a2 := zq_all_1 c
  rw [q1] at a2
  have k1 := zj_use x_CB (hK)
  have k1 : zd_CB (zq_ev r (1, [])) (zq_ev r (0, [(0, 1)])) (zq_ev r (0, [(1, 1)])) (zq_ev r (0, [(2, 1)])) (zq_ev r (0, [(3, 1)])) (zq_ev r (0, [(4, 1)])) (zq_ev r (0, [(5, 1)])) (zq_ev r (0, [(6, 1)])) (zq_ev r (0, [(7, 1)])) (zq_ev r (0, [(8, 1)])) (zq_ev r (0, [(9, 1)])) (zq_ev r (0, [(10, 1)])) P h := k1
  simp only [q10, q11, q12, q13, q2, q3, q4, q5, q6, q7, q8, q9] at k1
  obtain ⟨c1, c2, c3, c4, c5, c6⟩ := zk_p20_l (P := P) (h := h) (g := r 0) (l := r 1) (Y := r 2) (z := r 3) (k := r 4) (t := r 5) (a := r 6) (b := r 7) (c := r 8) (i := r 9) (e := r 10) a1 a2 k1
  obtain ⟨rq, hr⟩ : ∃ rq : Nat → Int, (∀ i, i < 11 → rq i = r i) := ⟨r, fun i hi => rfl⟩
  have v6 : rq 6 = r 6 := hr 6 (by decide)
  have v7 : rq 7 = r 7 := hr 7 (by decide)
  have v8 : rq 8 = r 8 := hr 8 (by decide)
  have g0 : zq_ev rq (-1, [(8, -1)]) = -r 8 - 1 := zu_f6 v8 _
  have g1 : zq_ev rq (1, [(8, 1)]) = r 8 + 1 := zu_f2 v8 _
  have g2 : zq_ev rq (-1, [(7, -1)]) = -r 7 - 1 := zu_f6 v7 _
  have g3 : zq_ev rq (1, [(7, 1)]) = r 7 + 1 := zu_f2 v7 _
  have g4 : zq_ev rq (-1, [(6, -1)]) = -r 6 - 1 := zu_f6 v6 _
  have g5 : zq_ev rq (1, [(6, 1)]) = r 6 + 1 := zu_f2 v6 _
  exact ⟨_, List.mem_cons_self .., rq, hr, zq_MeS_mk rfl hT (zq_all_cons (by rw [g5]; exact c1) (zq_all_cons (by rw [g4]; exact c2) (zq_all_cons (by rw [g3]; exact c3) (zq_all_cons (by rw [g2]; exact c4) (zq_all_cons (by rw [g1]; exact c5) (zq_all_cons (by rw [g0]; exact c6) (zq_all_nil))))))) zq_fan (zq_fan) rfl zq_fan⟩
noncomputable def zk_n : zq_S × List zq_S := (([], [], [], [], [], [], [(259, [(1, []), (0, [(0, 1)]), (0, [(1, 1)]), (0, [(2, 1)]), (0, [(3, 1)]), (0, [(4, 1)]), (0, [(5, 1)]), (0, [(6, 1)]), (0, [(7, 1)]), (0, [(8, 1)]), (0, [(9, 1)]), (0, [(10, 1)])]), (272, [(1, []), (0, [(0, 1)]), (0, [(1, 1)]), (0, [(11, 1)]), (0, [(10, 1)]), (0, [(12, 1)]), (0, [])])], 13), [([], [], [], [], [], [], [(326, [(0, [(0, 1)]), (0, [(1, 1)]), (0, [(11, 1)]), (0, [(9, 1)]), (0, [(13, 1)]), (0, [(14, 1)]), (0, [(15, 1)]), (0, [(16, 1)]), (0, [])])], 17)])
theorem zk_n_l {P : zq_Ty} {h : zq_H} {g l Y z k t a b c i e W q : Int} (k1 : zd_CB 1 g l Y z k t a b c i e P h) (k2 : zr_IS 1 g l W e q 0 P h) : (∃ x0 x1 x2 bk : Int, zo_EV g l W i x0 x1 x2 bk 0 P h) := by
  rcases k1 with ⟨h0, _⟩ | ⟨_, f, u1, u2⟩
  · exact absurd h0 (by decide)
  obtain ⟨x0, x1, x2, bk, v⟩ := zo_VP_any (W := W) u1
  exact ⟨x0, x1, x2, bk, f, t, e, q, v, u2, k2⟩
theorem zk_n_ok {w : zq_Wd} (x_CB : zj_is w 259 (fun q => zd_CB (q 0) (q 1) (q 2) (q 3) (q 4) (q 5) (q 6) (q 7) (q 8) (q 9) (q 10) (q 11))) (x_IS : zj_is w 272 (fun q => zr_IS (q 0) (q 1) (q 2) (q 3) (q 4) (q 5) (q 6))) (x_EVo : zj_is w 326 (fun q => zo_EV (q 0) (q 1) (q 2) (q 3) (q 4) (q 5) (q 6) (q 7) (q 8))) : zq_okG1 w zk_n := by
  refine ⟨rfl, rfl, zu_fac ⟨rfl, by decide⟩ zq_fan, ?_⟩
  intro r P h H hM
  have q0 : zq_ev r (1, []) = 1 := zu_e0 _ _
  have q1 : zq_ev r (0, [(0, 1)]) = r 0 := zu_e1 _ _
  have q2 : zq_ev r (0, [(1, 1)]) = r 1 := zu_e1 _ _
  have q3 : zq_ev r (0, [(2, 1)]) = r 2 := zu_e1 _ _
  have q4 : zq_ev r (0, [(3, 1)]) = r 3 := zu_e1 _ _
  have q5 : zq_ev r (0, [(4, 1)]) = r 4 := zu_e1 _ _
  have q6 : zq_ev r (0, [(5, 1)]) = r 5 := zu_e1 _ _
  have q7 : zq_ev r (0, [(6, 1)]) = r 6 := zu_e1 _ _
  have q8 : zq_ev r (0, [(7, 1)]) = r 7 := zu_e1 _ _
  have q9 : zq_ev r (0, [(8, 1)]) = r 8 := zu_e1 _ _
  have q10 : zq_ev r (0, [(9, 1)]) = r 9 := zu_e1 _ _
  have q11 : zq_ev r (0, [(10, 1)]) = r 10 := zu_e1 _ _
  have q12 : zq_ev r (0, [(11, 1)]) = r 11 := zu_e1 _ _
  have q13 : zq_ev r (0, [(12, 1)]) = r 12 := zu_e1 _ _
  have q14 : zq_ev r (0, []) = 0 := zu_e0 _ _
  obtain ⟨hT, hC, hF, hS, -, hK⟩ := hM
  have c := hC.1
  have k1 := zj_use x_CB (hK)
  have k1 : zd_CB (zq_ev r (1, [])) (zq_ev r (0, [(0, 1)])) (zq_ev r (0, [(1, 1)])) (zq_ev r (0, [(2, 1)])) (zq_ev r (0, [(3, 1)])) (zq_ev r (0, [(4, 1)])) (zq_ev r (0, [(5, 1)])) (zq_ev r (0, [(6, 1)])) (zq_ev r (0, [(7, 1)])) (zq_ev r (0, [(8, 1)])) (zq_ev r (0, [(9, 1)])) (zq_ev r (0, [(10, 1)])) P h := k1
  simp only [q0, q1, q10, q11, q2, q3, q4, q5, q6, q7, q8, q9] at k1
  have k2 := zj_use x_IS (zq_okX_t (hK))
  have k2 : zr_IS (zq_ev r (1, [])) (zq_ev r (0, [(0, 1)])) (zq_ev r (0, [(1, 1)])) (zq_ev r (0, [(11, 1)])) (zq_ev r (0, [(10, 1)])) (zq_ev r (0, [(12, 1)])) (zq_ev r (0, [])) P h := k2
  simp only [q0, q1, q11, q12, q13, q14, q2] at k2
  obtain ⟨y_0, y_1, y_2, y_3, t1⟩ := zk_n_l (P := P) (h := h) (g := r 0) (l := r 1) (Y := r 2) (z := r 3) (k := r 4) (t := r 5) (a := r 6) (b := r 7) (c := r 8) (i := r 9) (e := r 10) (W := r 11) (q := r 12) k1 k2
  obtain ⟨rq, hr, w13, w14, w15, w16⟩ : ∃ rq : Nat → Int, (∀ i, i < 13 → rq i = r i) ∧ rq 13 = y_0 ∧ rq 14 = y_1 ∧ rq 15 = y_2 ∧ rq 16 = y_3 := ⟨zq_up (zq_up (zq_up (zq_up r 13 y_0) 14 y_1) 15 y_2) 16 y_3, fun i hi => by rw [zu_up_ne (by omega)]; rw [zu_up_ne (by omega)]; rw [zu_up_ne (by omega)]; rw [zu_up_ne (by omega)], rfl, rfl, rfl, rfl⟩
  have v0 : rq 0 = r 0 := hr 0 (by decide)
  have v1 : rq 1 = r 1 := hr 1 (by decide)
  have v9 : rq 9 = r 9 := hr 9 (by decide)
  have v11 : rq 11 = r 11 := hr 11 (by decide)
  have g0 : zq_ev rq (0, [(0, 1)]) = r 0 := zu_f1 v0
  have g1 : zq_ev rq (0, [(1, 1)]) = r 1 := zu_f1 v1
  have g2 : zq_ev rq (0, [(11, 1)]) = r 11 := zu_f1 v11
  have g3 : zq_ev rq (0, [(9, 1)]) = r 9 := zu_f1 v9
  have g4 : zq_ev rq (0, [(13, 1)]) = y_0 := zu_f1 w13
  have g5 : zq_ev rq (0, [(14, 1)]) = y_1 := zu_f1 w14
  have g6 : zq_ev rq (0, [(15, 1)]) = y_2 := zu_f1 w15
  have g7 : zq_ev rq (0, [(16, 1)]) = y_3 := zu_f1 w16
  have g8 : zq_ev rq (0, []) = 0 := zu_e0 _ _
  exact ⟨_, List.mem_cons_self .., rq, hr, zq_MeS_mk rfl hT (zq_all_nil) zq_fan (zq_fan) rfl (zu_fac ((x_EVo _ _ _).mpr (by show zo_EV (zq_ev rq (0, [(0, 1)])) (zq_ev rq (0, [(1, 1)])) (zq_ev rq (0, [(11, 1)])) (zq_ev rq (0, [(9, 1)])) (zq_ev rq (0, [(13, 1)])) (zq_ev rq (0, [(14, 1)])) (zq_ev rq (0, [(15, 1)])) (zq_ev rq (0, [(16, 1)])) (zq_ev rq (0, [])) P h; simp only [g0, g1, g2, g3, g4, g5, g6, g7, g8]; exact t1)) zq_fan)⟩
noncomputable def zk_v28 : zq_S × List zq_S := (([], [], [(-20, [(4, 1)]), (20, [(4, -1)])], [], [], [], [(259, [(1, []), (0, [(0, 1)]), (0, [(1, 1)]), (0, [(2, 1)]), (0, [(3, 1)]), (0, [(4, 1)]), (0, [(5, 1)]), (0, [(6, 1)]), (0, [(7, 1)]), (0, [(8, 1)]), (0, [(9, 1)]), (0, [(10, 1)])]), (272, [(1, []), (0, [(0, 1)]), (0, [(1, 1)]), (0, [(11, 1)]), (0, [(10, 1)]), (0, [(12, 1)]), (1, [])])], 13), [([], [], [], [], [], [], [(326, [(0, [(0, 1)]), (0, [(1, 1)]), (0, [(11, 1)]), (0, [(9, 1)]), (0, []), (0, []), (0, []), (0, []), (1, [])])], 13)])
theorem zk_v28_l {P : zq_Ty} {h : zq_H} {g l Y z k t a b c i e W q : Int} (a1 : 0 ≤ k - 20) (a2 : 0 ≤ -k + 20) (k1 : zd_CB 1 g l Y z k t a b c i e P h) (k2 : zr_IS 1 g l W e q 1 P h) : (zo_EV g l W i 0 0 0 0 1 P h) := by
  rcases k1 with ⟨h0, _⟩ | ⟨_, f, u1, u2⟩
  · exact absurd h0 (by decide)
  rcases u1 with ⟨h1, _⟩ | ⟨h1, _⟩ | ⟨h1, _⟩ | ⟨h1, h2, _, _, _, h6⟩
  · exfalso; omega
  · exfalso; omega
  · exfalso; omega
  · exact ⟨f, t, e, q, Or.inl ⟨h2, rfl, rfl, rfl, rfl, h6⟩, u2, k2⟩
theorem zk_v28_ok {w : zq_Wd} (x_CB : zj_is w 259 (fun q => zd_CB (q 0) (q 1) (q 2) (q 3) (q 4) (q 5) (q 6) (q 7) (q 8) (q 9) (q 10) (q 11))) (x_IS : zj_is w 272 (fun q => zr_IS (q 0) (q 1) (q 2) (q 3) (q 4) (q 5) (q 6))) (x_EVo : zj_is w 326 (fun q => zo_EV (q 0) (q 1) (q 2) (q 3) (q 4) (q 5) (q 6) (q 7) (q 8))) : zq_okG1 w zk_v28 := by
  refine ⟨rfl, rfl, zu_fac ⟨rfl, by decide⟩ zq_fan, ?_⟩
  intro r P h H hM
  have q0 : zq_ev r (-20, [(4, 1)]) = r 4 - 20 := zu_e3 _ _ _
  have q1 : zq_ev r (20, [(4, -1)]) = -r 4 + 20 := zu_e5 _ _ _
  have q2 : zq_ev r (1, []) = 1 := zu_e0 _ _
  have q3 : zq_ev r (0, [(0, 1)]) = r 0 := zu_e1 _ _
  have q4 : zq_ev r (0, [(1, 1)]) = r 1 := zu_e1 _ _
  have q5 : zq_ev r (0, [(2, 1)]) = r 2 := zu_e1 _ _
  have q6 : zq_ev r (0, [(3, 1)]) = r 3 := zu_e1 _ _
  have q7 : zq_ev r (0, [(4, 1)]) = r 4 := zu_e1 _ _
  have q8 : zq_ev r (0, [(5, 1)]) = r 5 := zu_e1 _ _
  have q9 : zq_ev r (0, [(6, 1)]) = r 6 := zu_e1 _ _
  have q10 : zq_ev r (0, [(7, 1)]) = r 7 := zu_e1 _ _
  have q11 : zq_ev r (0, [(8, 1)]) = r 8 := zu_e1 _ _
  have q12 : zq_ev r (0, [(9, 1)]) = r 9 := zu_e1 _ _
  have q13 : zq_ev r (0, [(10, 1)]) = r 10 := zu_e1 _ _
  have q14 : zq_ev r (0, [(11, 1)]) = r 11 := zu_e1 _ _
  have q15 : zq_ev r (0, [(12, 1)]) = r 12 := zu_e1 _ _
  obtain ⟨hT, hC, hF, hS, -, hK⟩ := hM
  have c := hC.1
  have a1 := zq_all_1 c
  rw [q0] at a1
  have c := zq_all_t c
  have a2 := zq_all_1 c
  rw [q1] at a2
  have k1 := zj_use x_CB (hK)
  have k1 : zd_CB (zq_ev r (1, [])) (zq_ev r (0, [(0, 1)])) (zq_ev r (0, [(1, 1)])) (zq_ev r (0, [(2, 1)])) (zq_ev r (0, [(3, 1)])) (zq_ev r (0, [(4, 1)])) (zq_ev r (0, [(5, 1)])) (zq_ev r (0, [(6, 1)])) (zq_ev r (0, [(7, 1)])) (zq_ev r (0, [(8, 1)])) (zq_ev r (0, [(9, 1)])) (zq_ev r (0, [(10, 1)])) P h := k1
  simp only [q10, q11, q12, q13, q2, q3, q4, q5, q6, q7, q8, q9] at k1
  have k2 := zj_use x_IS (zq_okX_t (hK))
  have k2 : zr_IS (zq_ev r (1, [])) (zq_ev r (0, [(0, 1)])) (zq_ev r (0, [(1, 1)])) (zq_ev r (0, [(11, 1)])) (zq_ev r (0, [(10, 1)])) (zq_ev r (0, [(12, 1)])) (zq_ev r (1, [])) P h := k2
  simp only [q13, q14, q15, q2, q3, q4] at k2
  obtain t1 := zk_v28_l (P := P) (h := h) (g := r 0) (l := r 1) (Y := r 2) (z := r 3) (k := r 4) (t := r 5) (a := r 6) (b := r 7) (c := r 8) (i := r 9) (e := r 10) (W := r 11) (q := r 12) a1 a2 k1 k2
  obtain ⟨rq, hr⟩ : ∃ rq : Nat → Int, (∀ i, i < 13 → rq i = r i) := ⟨r, fun i hi => rfl⟩
  have v0 : rq 0 = r 0 := hr 0 (by decide)
  have v1 : rq 1 = r 1 := hr 1 (by decide)
  have v9 : rq 9 = r 9 := hr 9 (by decide)
  have v11 : rq 11 = r 11 := hr 11 (by decide)
  have g0 : zq_ev rq (0, [(0, 1)]) = r 0 := zu_f1 v0
  have g1 : zq_ev rq (0, [(1, 1)]) = r 1 := zu_f1 v1
  have g2 : zq_ev rq (0, [(11, 1)]) = r 11 := zu_f1 v11
  have g3 : zq_ev rq (0, [(9, 1)]) = r 9 := zu_f1 v9
  have g4 : zq_ev rq (0, []) = 0 := zu_e0 _ _
  have g5 : zq_ev rq (1, []) = 1 := zu_e0 _ _
  exact ⟨_, List.mem_cons_self .., rq, hr, zq_MeS_mk rfl hT (zq_all_nil) zq_fan (zq_fan) rfl (zu_fac ((x_EVo _ _ _).mpr (by show zo_EV (zq_ev rq (0, [(0, 1)])) (zq_ev rq (0, [(1, 1)])) (zq_ev rq (0, [(11, 1)])) (zq_ev rq (0, [(9, 1)])) (zq_ev rq (0, [])) (zq_ev rq (0, [])) (zq_ev rq (0, [])) (zq_ev rq (0, [])) (zq_ev rq (1, [])) P h; simp only [g0, g1, g2, g3, g4, g5]; exact t1)) zq_fan)⟩
noncomputable def zk_v27g : zq_S × List zq_S := (([], [], [(-19, [(4, 1)]), (19, [(4, -1)]), (448, [(3, -1)])], [], [], [], [(259, [(1, []), (0, [(0, 1)]), (0, [(1, 1)]), (0, [(2, 1)]), (0, [(3, 1)]), (0, [(4, 1)]), (0, [(5, 1)]), (0, [(6, 1)]), (0, [(7, 1)]), (0, [(8, 1)]), (0, [(9, 1)]), (0, [(10, 1)])]), (272, [(1, []), (0, [(0, 1)]), (0, [(1, 1)]), (0, [(11, 1)]), (0, [(10, 1)]), (0, [(12, 1)]), (1, [])]), (279, [(0, [(13, 1)]), (0, [(11, 1)])]), (266, [(0, [(13, 1)]), (0, [(2, 1)]), (0, [(3, 1)]), (0, [(6, 1)]), (0, []), (0, [(14, 1)])])], 15), [([], [], [], [], [], [], [(326, [(0, [(0, 1)]), (0, [(1, 1)]), (0, [(11, 1)]), (0, [(9, 1)]), (0, [(14, 1)]), (0, []), (0, []), (0, []), (1, [])])], 15)])
theorem zk_v27g_l {P : zq_Ty} {h : zq_H} {g l Y z k t a b c i e W q v r0 : Int} (a1 : 0 ≤ k - 19) (a2 : 0 ≤ -k + 19) (a3 : 0 ≤ -z + 448) (k1 : zd_CB 1 g l Y z k t a b c i e P h) (k2 : zr_IS 1 g l W e q 1 P h) (k3 : zo_OW 102 v W P h) (k4 : zr_RK v Y z a 0 r0 P h) : (zo_EV g l W i r0 0 0 0 1 P h) := by
  rcases k1 with ⟨h0, _⟩ | ⟨_, f, u1, u2⟩
  · exact absurd h0 (by decide)
  have hk : k = 19 := by omega
  subst hk
  obtain ⟨x0, x1, x2⟩ := zo_VP_1 u1 (by omega) (zr_cw1 k3) k4.2
  rw [x2 (by decide), if_neg (by decide)] at x1
  exact ⟨f, t, e, q, x1, u2, k2⟩
theorem zk_v27g_ok {w : zq_Wd} (x_CB : zj_is w 259 (fun q => zd_CB (q 0) (q 1) (q 2) (q 3) (q 4) (q 5) (q 6) (q 7) (q 8) (q 9) (q 10) (q 11))) (x_IS : zj_is w 272 (fun q => zr_IS (q 0) (q 1) (q 2) (q 3) (q 4) (q 5) (q 6))) (x_OW : zj_is w 279 (fun q => zo_OW 102 (q 0) (q 1))) (x_RK : zj_is w 266 (fun q => zr_RK (q 0) (q 1) (q 2) (q 3) (q 4) (q 5))) (x_EVo : zj_is w 326 (fun q => zo_EV (q 0) (q 1) (q 2) (q 3) (q 4) (q 5) (q 6) (q 7) (q 8))) : zq_okG1 w zk_v27g := by
  refine ⟨rfl, rfl, zu_fac ⟨rfl, by decide⟩ zq_fan, ?_⟩
  intro r P h H hM
  have q0 : zq_ev r (-19, [(4, 1)]) = r 4 - 19 := zu_e3 _ _ _
  have q1 : zq_ev r (19, [(4, -1)]) = -r 4 + 19 := zu_e5 _ _ _
  have q2 : zq_ev r (448, [(3, -1)]) = -r 3 + 448 := zu_e5 _ _ _
  have q3 : zq_ev r (1, []) = 1 := zu_e0 _ _
  have q4 : zq_ev r (0, [(0, 1)]) = r 0 := zu_e1 _ _
  have q5 : zq_ev r (0, [(1, 1)]) = r 1 := zu_e1 _ _
  have q6 : zq_ev r (0, [(2, 1)]) = r 2 := zu_e1 _ _
  have q7 : zq_ev r (0, [(3, 1)]) = r 3 := zu_e1 _ _
  have q8 : zq_ev r (0, [(4, 1)]) = r 4 := zu_e1 _ _
  have q9 : zq_ev r (0, [(5, 1)]) = r 5 := zu_e1 _ _
  have q10 : zq_ev r (0, [(6, 1)]) = r 6 := zu_e1 _ _
  have q11 : zq_ev r (0, [(7, 1)]) = r 7 := zu_e1 _ _
  have q12 : zq_ev r (0, [(8, 1)]) = r 8 := zu_e1 _ _
  have q13 : zq_ev r (0, [(9, 1)]) = r 9 := zu_e1 _ _
  have q14 : zq_ev r (0, [(10, 1)]) = r 10 := zu_e1 _ _
  have q15 : zq_ev r (0, [(11, 1)]) = r 11 := zu_e1 _ _
  have q16 : zq_ev r (0, [(12, 1)]) = r 12 := zu_e1 _ _
  have q17 : zq_ev r (0, [(13, 1)]) = r 13 := zu_e1 _ _
  have q18 : zq_ev r (0, []) = 0 := zu_e0 _ _
  have q19 : zq_ev r (0, [(14, 1)]) = r 14 := zu_e1 _ _
  obtain ⟨hT, hC, hF, hS, -, hK⟩ := hM
  have c := hC.1
  have a1 := zq_all_1 c
  rw [q0] at a1
  have c := zq_all_t c
  have a2 := zq_all_1 c
  rw [q1] at a2
  have c := zq_all_t c
  have a3 := zq_all_1 c
  rw [q2] at a3
  have k1 := zj_use x_CB (hK)
  have k1 : zd_CB (zq_ev r (1, [])) (zq_ev r (0, [(0, 1)])) (zq_ev r (0, [(1, 1)])) (zq_ev r (0, [(2, 1)])) (zq_ev r (0, [(3, 1)])) (zq_ev r (0, [(4, 1)])) (zq_ev r (0, [(5, 1)])) (zq_ev r (0, [(6, 1)])) (zq_ev r (0, [(7, 1)])) (zq_ev r (0, [(8, 1)])) (zq_ev r (0, [(9, 1)])) (zq_ev r (0, [(10, 1)])) P h := k1
  simp only [q10, q11, q12, q13, q14, q3, q4, q5, q6, q7, q8, q9] at k1
  have k2 := zj_use x_IS (zq_okX_t (hK))
  have k2 : zr_IS (zq_ev r (1, [])) (zq_ev r (0, [(0, 1)])) (zq_ev r (0, [(1, 1)])) (zq_ev r (0, [(11, 1)])) (zq_ev r (0, [(10, 1)])) (zq_ev r (0, [(12, 1)])) (zq_ev r (1, [])) P h := k2
  simp only [q14, q15, q16, q3, q4, q5] at k2
  have k3 := zj_use x_OW (zq_okX_t (zq_okX_t (hK)))
  have k3 : zo_OW 102 (zq_ev r (0, [(13, 1)])) (zq_ev r (0, [(11, 1)])) P h := k3
  simp only [q15, q17] at k3
  have k4 := zj_use x_RK (zq_okX_t (zq_okX_t (zq_okX_t (hK))))
  have k4 : zr_RK (zq_ev r (0, [(13, 1)])) (zq_ev r (0, [(2, 1)])) (zq_ev r (0, [(3, 1)])) (zq_ev r (0, [(6, 1)])) (zq_ev r (0, [])) (zq_ev r (0, [(14, 1)])) P h := k4
  simp only [q10, q17, q18, q19, q6, q7] at k4
  obtain t1 := zk_v27g_l (P := P) (h := h) (g := r 0) (l := r 1) (Y := r 2) (z := r 3) (k := r 4) (t := r 5) (a := r 6) (b := r 7) (c := r 8) (i := r 9) (e := r 10) (W := r 11) (q := r 12) (v := r 13) (r0 := r 14) a1 a2 a3 k1 k2 k3 k4
  obtain ⟨rq, hr⟩ : ∃ rq : Nat → Int, (∀ i, i < 15 → rq i = r i) := ⟨r, fun i hi => rfl⟩
  have v0 : rq 0 = r 0 := hr 0 (by decide)
  have v1 : rq 1 = r 1 := hr 1 (by decide)
  have v9 : rq 9 = r 9 := hr 9 (by decide)
  have v11 : rq 11 = r 11 := hr 11 (by decide)
  have v14 : rq 14 = r 14 := hr 14 (by decide)
  have g0 : zq_ev rq (0, [(0, 1)]) = r 0 := zu_f1 v0
  have g1 : zq_ev rq (0, [(1, 1)]) = r 1 := zu_f1 v1
  have g2 : zq_ev rq (0, [(11, 1)]) = r 11 := zu_f1 v11
  have g3 : zq_ev rq (0, [(9, 1)]) = r 9 := zu_f1 v9
  have g4 : zq_ev rq (0, [(14, 1)]) = r 14 := zu_f1 v14
  have g5 : zq_ev rq (0, []) = 0 := zu_e0 _ _
  have g6 : zq_ev rq (1, []) = 1 := zu_e0 _ _
  exact ⟨_, List.mem_cons_self .., rq, hr, zq_MeS_mk rfl hT (zq_all_nil) zq_fan (zq_fan) rfl (zu_fac ((x_EVo _ _ _).mpr (by show zo_EV (zq_ev rq (0, [(0, 1)])) (zq_ev rq (0, [(1, 1)])) (zq_ev rq (0, [(11, 1)])) (zq_ev rq (0, [(9, 1)])) (zq_ev rq (0, [(14, 1)])) (zq_ev rq (0, [])) (zq_ev rq (0, [])) (zq_ev rq (0, [])) (zq_ev rq (1, [])) P h; simp only [g0, g1, g2, g3, g4, g5, g6]; exact t1)) zq_fan)⟩
noncomputable def zk_v27b : zq_S × List zq_S := (([], [], [(-19, [(4, 1)]), (19, [(4, -1)]), (448, [(3, -1)])], [], [], [], [(259, [(1, []), (0, [(0, 1)]), (0, [(1, 1)]), (0, [(2, 1)]), (0, [(3, 1)]), (0, [(4, 1)]), (0, [(5, 1)]), (0, [(6, 1)]), (0, [(7, 1)]), (0, [(8, 1)]), (0, [(9, 1)]), (0, [(10, 1)])]), (272, [(1, []), (0, [(0, 1)]), (0, [(1, 1)]), (0, [(11, 1)]), (0, [(10, 1)]), (0, [(12, 1)]), (1, [])]), (279, [(0, [(13, 1)]), (0, [(11, 1)])]), (266, [(0, [(13, 1)]), (0, [(2, 1)]), (0, [(3, 1)]), (0, [(6, 1)]), (1, []), (0, [(14, 1)])])], 15), [([], [], [], [], [], [], [(326, [(0, [(0, 1)]), (0, [(1, 1)]), (0, [(11, 1)]), (0, [(9, 1)]), (0, [(15, 1)]), (0, []), (0, []), (1, []), (1, [])])], 16)])
theorem zk_v27b_l {P : zq_Ty} {h : zq_H} {g l Y z k t a b c i e W q v r0 : Int} (a1 : 0 ≤ k - 19) (a2 : 0 ≤ -k + 19) (a3 : 0 ≤ -z + 448) (k1 : zd_CB 1 g l Y z k t a b c i e P h) (k2 : zr_IS 1 g l W e q 1 P h) (k3 : zo_OW 102 v W P h) (k4 : zr_RK v Y z a 1 r0 P h) : (∃ x0 : Int, zo_EV g l W i x0 0 0 1 1 P h) := by
  rcases k1 with ⟨h0, _⟩ | ⟨_, f, u1, u2⟩
  · exact absurd h0 (by decide)
  have hk : k = 19 := by omega
  subst hk
  obtain ⟨x0, x1, x2⟩ := zo_VP_1 u1 (by omega) (zr_cw1 k3) k4.2
  rw [if_pos rfl] at x1
  exact ⟨x0, f, t, e, q, x1, u2, k2⟩
theorem zk_v27b_ok {w : zq_Wd} (x_CB : zj_is w 259 (fun q => zd_CB (q 0) (q 1) (q 2) (q 3) (q 4) (q 5) (q 6) (q 7) (q 8) (q 9) (q 10) (q 11))) (x_IS : zj_is w 272 (fun q => zr_IS (q 0) (q 1) (q 2) (q 3) (q 4) (q 5) (q 6))) (x_OW : zj_is w 279 (fun q => zo_OW 102 (q 0) (q 1))) (x_RK : zj_is w 266 (fun q => zr_RK (q 0) (q 1) (q 2) (q 3) (q 4) (q 5))) (x_EVo : zj_is w 326 (fun q => zo_EV (q 0) (q 1) (q 2) (q 3) (q 4) (q 5) (q 6) (q 7) (q 8))) : zq_okG1 w zk_v27b := by
  refine ⟨rfl, rfl, zu_fac ⟨rfl, by decide⟩ zq_fan, ?_⟩
  intro r P h H hM
  have q0 : zq_ev r (-19, [(4, 1)]) = r 4 - 19 := zu_e3 _ _ _
  have q1 : zq_ev r (19, [(4, -1)]) = -r 4 + 19 := zu_e5 _ _ _
  have q2 : zq_ev r (448, [(3, -1)]) = -r 3 + 448 := zu_e5 _ _ _
  have q3 : zq_ev r (1, []) = 1 := zu_e0 _ _
  have q4 : zq_ev r (0, [(0, 1)]) = r 0 := zu_e1 _ _
  have q5 : zq_ev r (0, [(1, 1)]) = r 1 := zu_e1 _ _
  have q6 : zq_ev r (0, [(2, 1)]) = r 2 := zu_e1 _ _
  have q7 : zq_ev r (0, [(3, 1)]) = r 3 := zu_e1 _ _
  have q8 : zq_ev r (0, [(4, 1)]) = r 4 := zu_e1 _ _
  have q9 : zq_ev r (0, [(5, 1)]) = r 5 := zu_e1 _ _
  have q10 : zq_ev r (0, [(6, 1)]) = r 6 := zu_e1 _ _
  have q11 : zq_ev r (0, [(7, 1)]) = r 7 := zu_e1 _ _
  have q12 : zq_ev r (0, [(8, 1)]) = r 8 := zu_e1 _ _
  have q13 : zq_ev r (0, [(9, 1)]) = r 9 := zu_e1 _ _
  have q14 : zq_ev r (0, [(10, 1)]) = r 10 := zu_e1 _ _
  have q15 : zq_ev r (0, [(11, 1)]) = r 11 := zu_e1 _ _
  have q16 : zq_ev r (0, [(12, 1)]) = r 12 := zu_e1 _ _
  have q17 : zq_ev r (0, [(13, 1)]) = r 13 := zu_e1 _ _
  have q18 : zq_ev r (0, [(14, 1)]) = r 14 := zu_e1 _ _
  obtain ⟨hT, hC, hF, hS, -, hK⟩ := hM
  have c := hC.1
  have a1 := zq_all_1 c
  rw [q0] at a1
  have c := zq_all_t c
  have a2 := zq_all_1 c
  rw [q1] at a2
  have c := zq_all_t c
  have a3 := zq_all_1 c
  rw [q2] at a3
  have k1 := zj_use x_CB (hK)
  have k1 : zd_CB (zq_ev r (1, [])) (zq_ev r (0, [(0, 1)])) (zq_ev r (0, [(1, 1)])) (zq_ev r (0, [(2, 1)])) (zq_ev r (0, [(3, 1)])) (zq_ev r (0, [(4, 1)])) (zq_ev r (0, [(5, 1)])) (zq_ev r (0, [(6, 1)])) (zq_ev r (0, [(7, 1)])) (zq_ev r (0, [(8, 1)])) (zq_ev r (0, [(9, 1)])) (zq_ev r (0, [(10, 1)])) P h := k1
  simp only [q10, q11, q12, q13, q14, q3, q4, q5, q6, q7, q8, q9] at k1
  have k2 := zj_use x_IS (zq_okX_t (hK))
  have k2 : zr_IS (zq_ev r (1, [])) (zq_ev r (0, [(0, 1)])) (zq_ev r (0, [(1, 1)])) (zq_ev r (0, [(11, 1)])) (zq_ev r (0, [(10, 1)])) (zq_ev r (0, [(12, 1)])) (zq_ev r (1, [])) P h := k2
  simp only [q14, q15, q16, q3, q4, q5] at k2
  have k3 := zj_use x_OW (zq_okX_t (zq_okX_t (hK)))
  have k3 : zo_OW 102 (zq_ev r (0, [(13, 1)])) (zq_ev r (0, [(11, 1)])) P h := k3
  simp only [q15, q17] at k3
  have k4 := zj_use x_RK (zq_okX_t (zq_okX_t (zq_okX_t (hK))))
  have k4 : zr_RK (zq_ev r (0, [(13, 1)])) (zq_ev r (0, [(2, 1)])) (zq_ev r (0, [(3, 1)])) (zq_ev r (0, [(6, 1)])) (zq_ev r (1, [])) (zq_ev r (0, [(14, 1)])) P h := k4
  simp only [q10, q17, q18, q3, q6, q7] at k4
  obtain ⟨y_0, t1⟩ := zk_v27b_l (P := P) (h := h) (g := r 0) (l := r 1) (Y := r 2) (z := r 3) (k := r 4) (t := r 5) (a := r 6) (b := r 7) (c := r 8) (i := r 9) (e := r 10) (W := r 11) (q := r 12) (v := r 13) (r0 := r 14) a1 a2 a3 k1 k2 k3 k4
  obtain ⟨rq, hr, w15⟩ : ∃ rq : Nat → Int, (∀ i, i < 15 → rq i = r i) ∧ rq 15 = y_0 := ⟨zq_up r 15 y_0, fun i hi => by rw [zu_up_ne (by omega)], rfl⟩
  have v0 : rq 0 = r 0 := hr 0 (by decide)
  have v1 : rq 1 = r 1 := hr 1 (by decide)
  have v9 : rq 9 = r 9 := hr 9 (by decide)
  have v11 : rq 11 = r 11 := hr 11 (by decide)
  have g0 : zq_ev rq (0, [(0, 1)]) = r 0 := zu_f1 v0
  have g1 : zq_ev rq (0, [(1, 1)]) = r 1 := zu_f1 v1
  have g2 : zq_ev rq (0, [(11, 1)]) = r 11 := zu_f1 v11
  have g3 : zq_ev rq (0, [(9, 1)]) = r 9 := zu_f1 v9
  have g4 : zq_ev rq (0, [(15, 1)]) = y_0 := zu_f1 w15
  have g5 : zq_ev rq (0, []) = 0 := zu_e0 _ _
  have g6 : zq_ev rq (1, []) = 1 := zu_e0 _ _
  exact ⟨_, List.mem_cons_self .., rq, hr, zq_MeS_mk rfl hT (zq_all_nil) zq_fan (zq_fan) rfl (zu_fac ((x_EVo _ _ _).mpr (by show zo_EV (zq_ev rq (0, [(0, 1)])) (zq_ev rq (0, [(1, 1)])) (zq_ev rq (0, [(11, 1)])) (zq_ev rq (0, [(9, 1)])) (zq_ev rq (0, [(15, 1)])) (zq_ev rq (0, [])) (zq_ev rq (0, [])) (zq_ev rq (1, [])) (zq_ev rq (1, [])) P h; simp only [g0, g1, g2, g3, g4, g5, g6]; exact t1)) zq_fan)⟩
noncomputable def zk_v25g : zq_S × List zq_S := (([], [], [(-18, [(4, 1)]), (18, [(4, -1)]), (448, [(3, -1)])], [], [], [], [(259, [(1, []), (0, [(0, 1)]), (0, [(1, 1)]), (0, [(2, 1)]), (0, [(3, 1)]), (0, [(4, 1)]), (0, [(5, 1)]), (0, [(6, 1)]), (0, [(7, 1)]), (0, [(8, 1)]), (0, [(9, 1)]), (0, [(10, 1)])]), (272, [(1, []), (0, [(0, 1)]), (0, [(1, 1)]), (0, [(11, 1)]), (0, [(10, 1)]), (0, [(12, 1)]), (1, [])]), (279, [(0, [(13, 1)]), (0, [(11, 1)])]), (266, [(0, [(13, 1)]), (0, [(2, 1)]), (0, [(3, 1)]), (0, [(6, 1)]), (0, []), (0, [(14, 1)])]), (266, [(0, [(13, 1)]), (0, [(2, 1)]), (0, [(3, 1)]), (0, [(7, 1)]), (0, []), (0, [(15, 1)])])], 16), [([], [], [], [], [], [], [(326, [(0, [(0, 1)]), (0, [(1, 1)]), (0, [(11, 1)]), (0, [(9, 1)]), (0, [(14, 1)]), (0, [(15, 1)]), (0, []), (0, []), (1, [])])], 16)])
theorem zk_v25g_l {P : zq_Ty} {h : zq_H} {g l Y z k t a b c i e W q v r0 r1 : Int} (a1 : 0 ≤ k - 18) (a2 : 0 ≤ -k + 18) (a3 : 0 ≤ -z + 448) (k1 : zd_CB 1 g l Y z k t a b c i e P h) (k2 : zr_IS 1 g l W e q 1 P h) (k3 : zo_OW 102 v W P h) (k4 : zr_RK v Y z a 0 r0 P h) (k5 : zr_RK v Y z b 0 r1 P h) : (zo_EV g l W i r0 r1 0 0 1 P h) := by
  rcases k1 with ⟨h0, _⟩ | ⟨_, f, u1, u2⟩
  · exact absurd h0 (by decide)
  have hk : k = 18 := by omega
  subst hk
  obtain ⟨x0, x1, x2, x3⟩ := zo_VP_2 (B0 := 0) (B1 := 0) u1 (by omega) (zr_cw1 k3) k4.2 (fun _ => k5.2)
  obtain ⟨x4, x5⟩ := x3 (by decide) (by decide)
  rw [x4, x5, if_neg (by decide)] at x2
  exact ⟨f, t, e, q, x2, u2, k2⟩
theorem zk_v25g_ok {w : zq_Wd} (x_CB : zj_is w 259 (fun q => zd_CB (q 0) (q 1) (q 2) (q 3) (q 4) (q 5) (q 6) (q 7) (q 8) (q 9) (q 10) (q 11))) (x_IS : zj_is w 272 (fun q => zr_IS (q 0) (q 1) (q 2) (q 3) (q 4) (q 5) (q 6))) (x_OW : zj_is w 279 (fun q => zo_OW 102 (q 0) (q 1))) (x_RK : zj_is w 266 (fun q => zr_RK (q 0) (q 1) (q 2) (q 3) (q 4) (q 5))) (x_EVo : zj_is w 326 (fun q => zo_EV (q 0) (q 1) (q 2) (q 3) (q 4) (q 5) (q 6) (q 7) (q 8))) : zq_okG1 w zk_v25g := by
  refine ⟨rfl, rfl, zu_fac ⟨rfl, by decide⟩ zq_fan, ?_⟩
  intro r P h H hM
  have q0 : zq_ev r (-18, [(4, 1)]) = r 4 - 18 := zu_e3 _ _ _
  have q1 : zq_ev r (18, [(4, -1)]) = -r 4 + 18 := zu_e5 _ _ _
  have q2 : zq_ev r (448, [(3, -1)]) = -r 3 + 448 := zu_e5 _ _ _
  have q3 : zq_ev r (1, []) = 1 := zu_e0 _ _
  have q4 : zq_ev r (0, [(0, 1)]) = r 0 := zu_e1 _ _
  have q5 : zq_ev r (0, [(1, 1)]) = r 1 := zu_e1 _ _
  have q6 : zq_ev r (0, [(2, 1)]) = r 2 := zu_e1 _ _
  have q7 : zq_ev r (0, [(3, 1)]) = r 3 := zu_e1 _ _
  have q8 : zq_ev r (0, [(4, 1)]) = r 4 := zu_e1 _ _
  have q9 : zq_ev r (0, [(5, 1)]) = r 5 := zu_e1 _ _
  have q10 : zq_ev r (0, [(6, 1)]) = r 6 := zu_e1 _ _
  have q11 : zq_ev r (0, [(7, 1)]) = r 7 := zu_e1 _ _
  have q12 : zq_ev r (0, [(8, 1)]) = r 8 := zu_e1 _ _
  have q13 : zq_ev r (0, [(9, 1)]) = r 9 := zu_e1 _ _
  have q14 : zq_ev r (0, [(10, 1)]) = r 10 := zu_e1 _ _
  have q15 : zq_ev r (0, [(11, 1)]) = r 11 := zu_e1 _ _
  have q16 : zq_ev r (0, [(12, 1)]) = r 12 := zu_e1 _ _
  have q17 : zq_ev r (0, [(13, 1)]) = r 13 := zu_e1 _ _
  have q18 : zq_ev r (0, []) = 0 := zu_e0 _ _
  have q19 : zq_ev r (0, [(14, 1)]) = r 14 := zu_e1 _ _
  have q20 : zq_ev r (0, [(15, 1)]) = r 15 := zu_e1 _ _
  obtain ⟨hT, hC, hF, hS, -, hK⟩ := hM
  have c := hC.1
  have a1 := zq_all_1 c
  rw [q0] at a1
  have c := zq_all_t c
  have a2 := zq_all_1 c
  rw [q1] at a2
  have c := zq_all_t c
  have a3 := zq_all_1 c
  rw [q2] at a3
  have k1 := zj_use x_CB (hK)
  have k1 : zd_CB (zq_ev r (1, [])) (zq_ev r (0, [(0, 1)])) (zq_ev r (0, [(1, 1)])) (zq_ev r (0, [(2, 1)])) (zq_ev r (0, [(3, 1)])) (zq_ev r (0, [(4, 1)])) (zq_ev r (0, [(5, 1)])) (zq_ev r (0, [(6, 1)])) (zq_ev r (0, [(7, 1)])) (zq_ev r (0, [(8, 1)])) (zq_ev r (0, [(9, 1)])) (zq_ev r (0, [(10, 1)])) P h := k1
  simp only [q10, q11, q12, q13, q14, q3, q4, q5, q6, q7, q8, q9] at k1
  have k2 := zj_use x_IS (zq_okX_t (hK))
  have k2 : zr_IS (zq_ev r (1, [])) (zq_ev r (0, [(0, 1)])) (zq_ev r (0, [(1, 1)])) (zq_ev r (0, [(11, 1)])) (zq_ev r (0, [(10, 1)])) (zq_ev r (0, [(12, 1)])) (zq_ev r (1, [])) P h := k2
  simp only [q14, q15, q16, q3, q4, q5] at k2
  have k3 := zj_use x_OW (zq_okX_t (zq_okX_t (hK)))
  have k3 : zo_OW 102 (zq_ev r (0, [(13, 1)])) (zq_ev r (0, [(11, 1)])) P h := k3
  simp only [q15, q17] at k3
  have k4 := zj_use x_RK (zq_okX_t (zq_okX_t (zq_okX_t (hK))))
  have k4 : zr_RK (zq_ev r (0, [(13, 1)])) (zq_ev r (0, [(2, 1)])) (zq_ev r (0, [(3, 1)])) (zq_ev r (0, [(6, 1)])) (zq_ev r (0, [])) (zq_ev r (0, [(14, 1)])) P h := k4
  simp only [q10, q17, q18, q19, q6, q7] at k4
  have k5 := zj_use x_RK (zq_okX_t (zq_okX_t (zq_okX_t (zq_okX_t (hK)))))
  have k5 : zr_RK (zq_ev r (0, [(13, 1)])) (zq_ev r (0, [(2, 1)])) (zq_ev r (0, [(3, 1)])) (zq_ev r (0, [(7, 1)])) (zq_ev r (0, [])) (zq_ev r (0, [(15, 1)])) P h := k5
  simp only [q11, q17, q18, q20, q6, q7] at k5
  obtain t1 := zk_v25g_l (P := P) (h := h) (g := r 0) (l := r 1) (Y := r 2) (z := r 3) (k := r 4) (t := r 5) (a := r 6) (b := r 7) (c := r 8) (i := r 9) (e := r 10) (W := r 11) (q := r 12) (v := r 13) (r0 := r 14) (r1 := r 15) a1 a2 a3 k1 k2 k3 k4 k5
  obtain ⟨rq, hr⟩ : ∃ rq : Nat → Int, (∀ i, i < 16 → rq i = r i) := ⟨r, fun i hi => rfl⟩
  have v0 : rq 0 = r 0 := hr 0 (by decide)
  have v1 : rq 1 = r 1 := hr 1 (by decide)
  have v9 : rq 9 = r 9 := hr 9 (by decide)
  have v11 : rq 11 = r 11 := hr 11 (by decide)
  have v14 : rq 14 = r 14 := hr 14 (by decide)
  have v15 : rq 15 = r 15 := hr 15 (by decide)
  have g0 : zq_ev rq (0, [(0, 1)]) = r 0 := zu_f1 v0
  have g1 : zq_ev rq (0, [(1, 1)]) = r 1 := zu_f1 v1
  have g2 : zq_ev rq (0, [(11, 1)]) = r 11 := zu_f1 v11
  have g3 : zq_ev rq (0, [(9, 1)]) = r 9 := zu_f1 v9
  have g4 : zq_ev rq (0, [(14, 1)]) = r 14 := zu_f1 v14
  have g5 : zq_ev rq (0, [(15, 1)]) = r 15 := zu_f1 v15
  have g6 : zq_ev rq (0, []) = 0 := zu_e0 _ _
  have g7 : zq_ev rq (1, []) = 1 := zu_e0 _ _
  exact ⟨_, List.mem_cons_self .., rq, hr, zq_MeS_mk rfl hT (zq_all_nil) zq_fan (zq_fan) rfl (zu_fac ((x_EVo _ _ _).mpr (by show zo_EV (zq_ev rq (0, [(0, 1)])) (zq_ev rq (0, [(1, 1)])) (zq_ev rq (0, [(11, 1)])) (zq_ev rq (0, [(9, 1)])) (zq_ev rq (0, [(14, 1)])) (zq_ev rq (0, [(15, 1)])) (zq_ev rq (0, [])) (zq_ev rq (0, [])) (zq_ev rq (1, [])) P h; simp only [g0, g1, g2, g3, g4, g5, g6, g7]; exact t1)) zq_fan)⟩
noncomputable def zk_v25a : zq_S × List zq_S := (([], [], [(-18, [(4, 1)]), (18, [(4, -1)]), (448, [(3, -1)])], [], [], [], [(259, [(1, []), (0, [(0, 1)]), (0, [(1, 1)]), (0, [(2, 1)]), (0, [(3, 1)]), (0, [(4, 1)]), (0, [(5, 1)]), (0, [(6, 1)]), (0, [(7, 1)]), (0, [(8, 1)]), (0, [(9, 1)]), (0, [(10, 1)])]), (272, [(1, []), (0, [(0, 1)]), (0, [(1, 1)]), (0, [(11, 1)]), (0, [(10, 1)]), (0, [(12, 1)]), (1, [])]), (279, [(0, [(13, 1)]), (0, [(11, 1)])]), (266, [(0, [(13, 1)]), (0, [(2, 1)]), (0, [(3, 1)]), (0, [(6, 1)]), (1, []), (0, [(14, 1)])])], 15), [([], [], [], [], [], [], [(326, [(0, [(0, 1)]), (0, [(1, 1)]), (0, [(11, 1)]), (0, [(9, 1)]), (0, [(15, 1)]), (0, [(16, 1)]), (0, []), (1, []), (1, [])])], 17)])
theorem zk_v25a_l {P : zq_Ty} {h : zq_H} {g l Y z k t a b c i e W q v r0 : Int} (a1 : 0 ≤ k - 18) (a2 : 0 ≤ -k + 18) (a3 : 0 ≤ -z + 448) (k1 : zd_CB 1 g l Y z k t a b c i e P h) (k2 : zr_IS 1 g l W e q 1 P h) (k3 : zo_OW 102 v W P h) (k4 : zr_RK v Y z a 1 r0 P h) : (∃ x0 x1 : Int, zo_EV g l W i x0 x1 0 1 1 P h) := by
  rcases k1 with ⟨h0, _⟩ | ⟨_, f, u1, u2⟩
  · exact absurd h0 (by decide)
  have hk : k = 18 := by omega
  subst hk
  obtain ⟨x0, x1, x2, x3⟩ := zo_VP_2 (B0 := 1) (B1 := 1) (r1 := 0) u1 (by omega) (zr_cw1 k3) k4.2 (fun z => absurd rfl z)
  rw [if_pos (by decide)] at x2
  exact ⟨x0, x1, f, t, e, q, x2, u2, k2⟩
theorem zk_v25a_ok {w : zq_Wd} (x_CB : zj_is w 259 (fun q => zd_CB (q 0) (q 1) (q 2) (q 3) (q 4) (q 5) (q 6) (q 7) (q 8) (q 9) (q 10) (q 11))) (x_IS : zj_is w 272 (fun q => zr_IS (q 0) (q 1) (q 2) (q 3) (q 4) (q 5) (q 6))) (x_OW : zj_is w 279 (fun q => zo_OW 102 (q 0) (q 1))) (x_RK : zj_is w 266 (fun q => zr_RK (q 0) (q 1) (q 2) (q 3) (q 4) (q 5))) (x_EVo : zj_is w 326 (fun q => zo_EV (q 0) (q 1) (q 2) (q 3) (q 4) (q 5) (q 6) (q 7) (q 8))) : zq_okG1 w zk_v25a := by
  refine ⟨rfl, rfl, zu_fac ⟨rfl, by decide⟩ zq_fan, ?_⟩
  intro r P h H hM
  have q0 : zq_ev r (-18, [(4, 1)]) = r 4 - 18 := zu_e3 _ _ _
  have q1 : zq_ev r (18, [(4, -1)]) = -r 4 + 18 := zu_e5 _ _ _
  have q2 : zq_ev r (448, [(3, -1)]) = -r 3 + 448 := zu_e5 _ _ _
  have q3 : zq_ev r (1, []) = 1 := zu_e0 _ _
  have q4 : zq_ev r (0, [(0, 1)]) = r 0 := zu_e1 _ _
  have q5 : zq_ev r (0, [(1, 1)]) = r 1 := zu_e1 _ _
  have q6 : zq_ev r (0, [(2, 1)]) = r 2 := zu_e1 _ _
  have q7 : zq_ev r (0, [(3, 1)]) = r 3 := zu_e1 _ _
  have q8 : zq_ev r (0, [(4, 1)]) = r 4 := zu_e1 _ _
  have q9 : zq_ev r (0, [(5, 1)]) = r 5 := zu_e1 _ _
  have q10 : zq_ev r (0, [(6, 1)]) = r 6 := zu_e1 _ _
  have q11 : zq_ev r (0, [(7, 1)]) = r 7 := zu_e1 _ _
  have q12 : zq_ev r (0, [(8, 1)]) = r 8 := zu_e1 _ _
  have q13 : zq_ev r (0, [(9, 1)]) = r 9 := zu_e1 _ _
  have q14 : zq_ev r (0, [(10, 1)]) = r 10 := zu_e1 _ _
  have q15 : zq_ev r (0, [(11, 1)]) = r 11 := zu_e1 _ _
  have q16 : zq_ev r (0, [(12, 1)]) = r 12 := zu_e1 _ _
  have q17 : zq_ev r (0, [(13, 1)]) = r 13 := zu_e1 _ _
  have q18 : zq_ev r (0, [(14, 1)]) = r 14 := zu_e1 _ _
  obtain ⟨hT, hC, hF, hS, -, hK⟩ := hM
  have c := hC.1
  have a1 := zq_all_1 c
  rw [q0] at a1
  have c := zq_all_t c
  have a2 := zq_all_1 c
  rw [q1] at a2
  have c := zq_all_t c
  have a3 := zq_all_1 c
  rw [q2] at a3
  have k1 := zj_use x_CB (hK)
  have k1 : zd_CB (zq_ev r (1, [])) (zq_ev r (0, [(0, 1)])) (zq_ev r (0, [(1, 1)])) (zq_ev r (0, [(2, 1)])) (zq_ev r (0, [(3, 1)])) (zq_ev r (0, [(4, 1)])) (zq_ev r (0, [(5, 1)])) (zq_ev r (0, [(6, 1)])) (zq_ev r (0, [(7, 1)])) (zq_ev r (0, [(8, 1)])) (zq_ev r (0, [(9, 1)])) (zq_ev r (0, [(10, 1)])) P h := k1
  simp only [q10, q11, q12, q13, q14, q3, q4, q5, q6, q7, q8, q9] at k1
  have k2 := zj_use x_IS (zq_okX_t (hK))
  have k2 : zr_IS (zq_ev r (1, [])) (zq_ev r (0, [(0, 1)])) (zq_ev r (0, [(1, 1)])) (zq_ev r (0, [(11, 1)])) (zq_ev r (0, [(10, 1)])) (zq_ev r (0, [(12, 1)])) (zq_ev r (1, [])) P h := k2
  simp only [q14, q15, q16, q3, q4, q5] at k2
  have k3 := zj_use x_OW (zq_okX_t (zq_okX_t (hK)))
  have k3 : zo_OW 102 (zq_ev r (0, [(13, 1)])) (zq_ev r (0, [(11, 1)])) P h := k3
  simp only [q15, q17] at k3
  have k4 := zj_use x_RK (zq_okX_t (zq_okX_t (zq_okX_t (hK))))
  have k4 : zr_RK (zq_ev r (0, [(13, 1)])) (zq_ev r (0, [(2, 1)])) (zq_ev r (0, [(3, 1)])) (zq_ev r (0, [(6, 1)])) (zq_ev r (1, [])) (zq_ev r (0, [(14, 1)])) P h := k4
  simp only [q10, q17, q18, q3, q6, q7] at k4
  obtain ⟨y_0, y_1, t1⟩ := zk_v25a_l (P := P) (h := h) (g := r 0) (l := r 1) (Y := r 2) (z := r 3) (k := r 4) (t := r 5) (a := r 6) (b := r 7) (c := r 8) (i := r 9) (e := r 10) (W := r 11) (q := r 12) (v := r 13) (r0 := r 14) a1 a2 a3 k1 k2 k3 k4
  obtain ⟨rq, hr, w15, w16⟩ : ∃ rq : Nat → Int, (∀ i, i < 15 → rq i = r i) ∧ rq 15 = y_0 ∧ rq 16 = y_1 := ⟨zq_up (zq_up r 15 y_0) 16 y_1, fun i hi => by rw [zu_up_ne (by omega)]; rw [zu_up_ne (by omega)], rfl, rfl⟩
  have v0 : rq 0 = r 0 := hr 0 (by decide)
  have v1 : rq 1 = r 1 := hr 1 (by decide)
  have v9 : rq 9 = r 9 := hr 9 (by decide)
  have v11 : rq 11 = r 11 := hr 11 (by decide)
  have g0 : zq_ev rq (0, [(0, 1)]) = r 0 := zu_f1 v0
  have g1 : zq_ev rq (0, [(1, 1)]) = r 1 := zu_f1 v1
  have g2 : zq_ev rq (0, [(11, 1)]) = r 11 := zu_f1 v11
  have g3 : zq_ev rq (0, [(9, 1)]) = r 9 := zu_f1 v9
  have g4 : zq_ev rq (0, [(15, 1)]) = y_0 := zu_f1 w15
  have g5 : zq_ev rq (0, [(16, 1)]) = y_1 := zu_f1 w16
  have g6 : zq_ev rq (0, []) = 0 := zu_e0 _ _
  have g7 : zq_ev rq (1, []) = 1 := zu_e0 _ _
  exact ⟨_, List.mem_cons_self .., rq, hr, zq_MeS_mk rfl hT (zq_all_nil) zq_fan (zq_fan) rfl (zu_fac ((x_EVo _ _ _).mpr (by show zo_EV (zq_ev rq (0, [(0, 1)])) (zq_ev rq (0, [(1, 1)])) (zq_ev rq (0, [(11, 1)])) (zq_ev rq (0, [(9, 1)])) (zq_ev rq (0, [(15, 1)])) (zq_ev rq (0, [(16, 1)])) (zq_ev rq (0, [])) (zq_ev rq (1, [])) (zq_ev rq (1, [])) P h; simp only [g0, g1, g2, g3, g4, g5, g6, g7]; exact t1)) zq_fan)⟩
noncomputable def zk_v25b : zq_S × List zq_S := (([], [], [(-18, [(4, 1)]), (18, [(4, -1)]), (448, [(3, -1)])], [], [], [], [(259, [(1, []), (0, [(0, 1)]), (0, [(1, 1)]), (0, [(2, 1)]), (0, [(3, 1)]), (0, [(4, 1)]), (0, [(5, 1)]), (0, [(6, 1)]), (0, [(7, 1)]), (0, [(8, 1)]), (0, [(9, 1)]), (0, [(10, 1)])]), (272, [(1, []), (0, [(0, 1)]), (0, [(1, 1)]), (0, [(11, 1)]), (0, [(10, 1)]), (0, [(12, 1)]), (1, [])]), (279, [(0, [(13, 1)]), (0, [(11, 1)])]), (266, [(0, [(13, 1)]), (0, [(2, 1)]), (0, [(3, 1)]), (0, [(6, 1)]), (0, []), (0, [(14, 1)])]), (266, [(0, [(13, 1)]), (0, [(2, 1)]), (0, [(3, 1)]), (0, [(7, 1)]), (1, []), (0, [(15, 1)])])], 16), [([], [], [], [], [], [], [(326, [(0, [(0, 1)]), (0, [(1, 1)]), (0, [(11, 1)]), (0, [(9, 1)]), (0, [(16, 1)]), (0, [(17, 1)]), (0, []), (1, []), (1, [])])], 18)])
theorem zk_v25b_l {P : zq_Ty} {h : zq_H} {g l Y z k t a b c i e W q v r0 r1 : Int} (a1 : 0 ≤ k - 18) (a2 : 0 ≤ -k + 18) (a3 : 0 ≤ -z + 448) (k1 : zd_CB 1 g l Y z k t a b c i e P h) (k2 : zr_IS 1 g l W e q 1 P h) (k3 : zo_OW 102 v W P h) (k4 : zr_RK v Y z a 0 r0 P h) (k5 : zr_RK v Y z b 1 r1 P h) : (∃ x0 x1 : Int, zo_EV g l W i x0 x1 0 1 1 P h) := by
  rcases k1 with ⟨h0, _⟩ | ⟨_, f, u1, u2⟩
  · exact absurd h0 (by decide)
  have hk : k = 18 := by omega
  subst hk
  obtain ⟨x0, x1, x2, x3⟩ := zo_VP_2 (B0 := 0) (B1 := 1) u1 (by omega) (zr_cw1 k3) k4.2 (fun _ => k5.2)
  rw [if_pos (by decide)] at x2
  exact ⟨x0, x1, f, t, e, q, x2, u2, k2⟩
theorem zk_v25b_ok {w : zq_Wd} (x_CB : zj_is w 259 (fun q => zd_CB (q 0) (q 1) (q 2) (q 3) (q 4) (q 5) (q 6) (q 7) (q 8) (q 9) (q 10) (q 11))) (x_IS : zj_is w 272 (fun q => zr_IS (q 0) (q 1) (q 2) (q 3) (q 4) (q 5) (q 6))) (x_OW : zj_is w 279 (fun q => zo_OW 102 (q 0) (q 1))) (x_RK : zj_is w 266 (fun q => zr_RK (q 0) (q 1) (q 2) (q 3) (q 4) (q 5))) (x_EVo : zj_is w 326 (fun q => zo_EV (q 0) (q 1) (q 2) (q 3) (q 4) (q 5) (q 6) (q 7) (q 8))) : zq_okG1 w zk_v25b := by
  refine ⟨rfl, rfl, zu_fac ⟨rfl, by decide⟩ zq_fan, ?_⟩
  intro r P h H hM
  have q0 : zq_ev r (-18, [(4, 1)]) = r 4 - 18 := zu_e3 _ _ _
  have q1 : zq_ev r (18, [(4, -1)]) = -r 4 + 18 := zu_e5 _ _ _
  have q2 : zq_ev r (448, [(3, -1)]) = -r 3 + 448 := zu_e5 _ _ _
  have q3 : zq_ev r (1, []) = 1 := zu_e0 _ _
  have q4 : zq_ev r (0, [(0, 1)]) = r 0 := zu_e1 _ _
  have q5 : zq_ev r (0, [(1, 1)]) = r 1 := zu_e1 _ _
  have q6 : zq_ev r (0, [(2, 1)]) = r 2 := zu_e1 _ _
  have q7 : zq_ev r (0, [(3, 1)]) = r 3 := zu_e1 _ _
  have q8 : zq_ev r (0, [(4, 1)]) = r 4 := zu_e1 _ _
  have q9 : zq_ev r (0, [(5, 1)]) = r 5 := zu_e1 _ _
  have q10 : zq_ev r (0, [(6, 1)]) = r 6 := zu_e1 _ _
  have q11 : zq_ev r (0, [(7, 1)]) = r 7 := zu_e1 _ _
  have q12 : zq_ev r (0, [(8, 1)]) = r 8 := zu_e1 _ _
  have q13 : zq_ev r (0, [(9, 1)]) = r 9 := zu_e1 _ _
  have q14 : zq_ev r (0, [(10, 1)]) = r 10 := zu_e1 _ _
  have q15 : zq_ev r (0, [(11, 1)]) = r 11 := zu_e1 _ _
  have q16 : zq_ev r (0, [(12, 1)]) = r 12 := zu_e1 _ _
  have q17 : zq_ev r (0, [(13, 1)]) = r 13 := zu_e1 _ _
  have q18 : zq_ev r (0, []) = 0 := zu_e0 _ _
  have q19 : zq_ev r (0, [(14, 1)]) = r 14 := zu_e1 _ _
  have q20 : zq_ev r (0, [(15, 1)]) = r 15 := zu_e1 _ _
  obtain ⟨hT, hC, hF, hS, -, hK⟩ := hM
  have c := hC.1
  have a1 := zq_all_1 c
  rw [q0] at a1
  have c := zq_all_t c
  have a2 := zq_all_1 c
  rw [q1] at a2
  have c := zq_all_t c
  have a3 := zq_all_1 c
  rw [q2] at a3
  have k1 := zj_use x_CB (hK)
  have k1 : zd_CB (zq_ev r (1, [])) (zq_ev r (0, [(0, 1)])) (zq_ev r (0, [(1, 1)])) (zq_ev r (0, [(2, 1)])) (zq_ev r (0, [(3, 1)])) (zq_ev r (0, [(4, 1)])) (zq_ev r (0, [(5, 1)])) (zq_ev r (0, [(6, 1)])) (zq_ev r (0, [(7, 1)])) (zq_ev r (0, [(8, 1)])) (zq_ev r (0, [(9, 1)])) (zq_ev r (0, [(10, 1)])) P h := k1
  simp only [q10, q11, q12, q13, q14, q3, q4, q5, q6, q7, q8, q9] at k1
  have k2 := zj_use x_IS (zq_okX_t (hK))
  have k2 : zr_IS (zq_ev r (1, [])) (zq_ev r (0, [(0, 1)])) (zq_ev r (0, [(1, 1)])) (zq_ev r (0, [(11, 1)])) (zq_ev r (0, [(10, 1)])) (zq_ev r (0, [(12, 1)])) (zq_ev r (1, [])) P h := k2
  simp only [q14, q15, q16, q3, q4, q5] at k2
  have k3 := zj_use x_OW (zq_okX_t (zq_okX_t (hK)))
  have k3 : zo_OW 102 (zq_ev r (0, [(13, 1)])) (zq_ev r (0, [(11, 1)])) P h := k3
  simp only [q15, q17] at k3
  have k4 := zj_use x_RK (zq_okX_t (zq_okX_t (zq_okX_t (hK))))
  have k4 : zr_RK (zq_ev r (0, [(13, 1)])) (zq_ev r (0, [(2, 1)])) (zq_ev r (0, [(3, 1)])) (zq_ev r (0, [(6, 1)])) (zq_ev r (0, [])) (zq_ev r (0, [(14, 1)])) P h := k4
  simp only [q10, q17, q18, q19, q6, q7] at k4
  have k5 := zj_use x_RK (zq_okX_t (zq_okX_t (zq_okX_t (zq_okX_t (hK)))))
  have k5 : zr_RK (zq_ev r (0, [(13, 1)])) (zq_ev r (0, [(2, 1)])) (zq_ev r (0, [(3, 1)])) (zq_ev r (0, [(7, 1)])) (zq_ev r (1, [])) (zq_ev r (0, [(15, 1)])) P h := k5
  simp only [q11, q17, q20, q3, q6, q7] at k5
  obtain ⟨y_0, y_1, t1⟩ := zk_v25b_l (P := P) (h := h) (g := r 0) (l := r 1) (Y := r 2) (z := r 3) (k := r 4) (t := r 5) (a := r 6) (b := r 7) (c := r 8) (i := r 9) (e := r 10) (W := r 11) (q := r 12) (v := r 13) (r0 := r 14) (r1 := r 15) a1 a2 a3 k1 k2 k3 k4 k5
  obtain ⟨rq, hr, w16, w17⟩ : ∃ rq : Nat → Int, (∀ i, i < 16 → rq i = r i) ∧ rq 16 = y_0 ∧ rq 17 = y_1 := ⟨zq_up (zq_up r 16 y_0) 17 y_1, fun i hi => by rw [zu_up_ne (by omega)]; rw [zu_up_ne (by omega)], rfl, rfl⟩
  have v0 : rq 0 = r 0 := hr 0 (by decide)
  have v1 : rq 1 = r 1 := hr 1 (by decide)
  have v9 : rq 9 = r 9 := hr 9 (by decide)
  have v11 : rq 11 = r 11 := hr 11 (by decide)
  have g0 : zq_ev rq (0, [(0, 1)]) = r 0 := zu_f1 v0
  have g1 : zq_ev rq (0, [(1, 1)]) = r 1 := zu_f1 v1
  have g2 : zq_ev rq (0, [(11, 1)]) = r 11 := zu_f1 v11
  have g3 : zq_ev rq (0, [(9, 1)]) = r 9 := zu_f1 v9
  have g4 : zq_ev rq (0, [(16, 1)]) = y_0 := zu_f1 w16
  have g5 : zq_ev rq (0, [(17, 1)]) = y_1 := zu_f1 w17
  have g6 : zq_ev rq (0, []) = 0 := zu_e0 _ _
  have g7 : zq_ev rq (1, []) = 1 := zu_e0 _ _
  exact ⟨_, List.mem_cons_self .., rq, hr, zq_MeS_mk rfl hT (zq_all_nil) zq_fan (zq_fan) rfl (zu_fac ((x_EVo _ _ _).mpr (by show zo_EV (zq_ev rq (0, [(0, 1)])) (zq_ev rq (0, [(1, 1)])) (zq_ev rq (0, [(11, 1)])) (zq_ev rq (0, [(9, 1)])) (zq_ev rq (0, [(16, 1)])) (zq_ev rq (0, [(17, 1)])) (zq_ev rq (0, [])) (zq_ev rq (1, [])) (zq_ev rq (1, [])) P h; simp only [g0, g1, g2, g3, g4, g5, g6, g7]; exact t1)) zq_fan)⟩
noncomputable def zk_v22g : zq_S × List zq_S := (([], [], [(-17, [(4, 1)]), (17, [(4, -1)]), (448, [(3, -1)])], [], [], [], [(259, [(1, []), (0, [(0, 1)]), (0, [(1, 1)]), (0, [(2, 1)]), (0, [(3, 1)]), (0, [(4, 1)]), (0, [(5, 1)]), (0, [(6, 1)]), (0, [(7, 1)]), (0, [(8, 1)]), (0, [(9, 1)]), (0, [(10, 1)])]), (272, [(1, []), (0, [(0, 1)]), (0, [(1, 1)]), (0, [(11, 1)]), (0, [(10, 1)]), (0, [(12, 1)]), (1, [])]), (279, [(0, [(13, 1)]), (0, [(11, 1)])]), (266, [(0, [(13, 1)]), (0, [(2, 1)]), (0, [(3, 1)]), (0, [(6, 1)]), (0, []), (0, [(14, 1)])]), (266, [(0, [(13, 1)]), (0, [(2, 1)]), (0, [(3, 1)]), (0, [(7, 1)]), (0, []), (0, [(15, 1)])]), (266, [(0, [(13, 1)]), (0, [(2, 1)]), (0, [(3, 1)]), (0, [(8, 1)]), (0, []), (0, [(16, 1)])])], 17), [([], [], [], [], [], [], [(326, [(0, [(0, 1)]), (0, [(1, 1)]), (0, [(11, 1)]), (0, [(9, 1)]), (0, [(14, 1)]), (0, [(15, 1)]), (0, [(16, 1)]), (0, []), (1, [])])], 17)])
theorem zk_v22g_l {P : zq_Ty} {h : zq_H} {g l Y z k t a b c i e W q v r0 r1 r2 : Int} (a1 : 0 ≤ k - 17) (a2 : 0 ≤ -k + 17) (a3 : 0 ≤ -z + 448) (k1 : zd_CB 1 g l Y z k t a b c i e P h) (k2 : zr_IS 1 g l W e q 1 P h) (k3 : zo_OW 102 v W P h) (k4 : zr_RK v Y z a 0 r0 P h) (k5 : zr_RK v Y z b 0 r1 P h) (k6 : zr_RK v Y z c 0 r2 P h) : (zo_EV g l W i r0 r1 r2 0 1 P h) := by
  rcases k1 with ⟨h0, _⟩ | ⟨_, f, u1, u2⟩
  · exact absurd h0 (by decide)
  have hk : k = 17 := by omega
  subst hk
  obtain ⟨x0, x1, x2, x3⟩ := zo_VP_3 (B0 := 0) (B1 := 0) (B2 := 0) u1 (by omega) (zr_cw1 k3) k4.2 (fun _ => k5.2) (fun _ _ => k6.2)
  rcases x3 with ⟨x4, x5⟩ | ⟨x4, _⟩
  · obtain ⟨x6, x7, x8⟩ := x5 (by decide) (by decide) (by decide)
    rw [x6, x7, x8, if_neg (by decide)] at x4
    exact ⟨f, t, e, q, x4, u2, k2⟩
  · exact absurd x4 (by decide)
theorem zk_v22g_ok {w : zq_Wd} (x_CB : zj_is w 259 (fun q => zd_CB (q 0) (q 1) (q 2) (q 3) (q 4) (q 5) (q 6) (q 7) (q 8) (q 9) (q 10) (q 11))) (x_IS : zj_is w 272 (fun q => zr_IS (q 0) (q 1) (q 2) (q 3) (q 4) (q 5) (q 6))) (x_OW : zj_is w 279 (fun q => zo_OW 102 (q 0) (q 1))) (x_RK : zj_is w 266 (fun q => zr_RK (q 0) (q 1) (q 2) (q 3) (q 4) (q 5))) (x_EVo : zj_is w 326 (fun q => zo_EV (q 0) (q 1) (q 2) (q 3) (q 4) (q 5) (q 6) (q 7) (q 8))) : zq_okG1 w zk_v22g := by
  refine ⟨rfl, rfl, zu_fac ⟨rfl, by decide⟩ zq_fan, ?_⟩
  intro r P h H hM
  have q0 : zq_ev r (-17, [(4, 1)]) = r 4 - 17 := zu_e3 _ _ _
  have q1 : zq_ev r (17, [(4, -1)]) = -r 4 + 17 := zu_e5 _ _ _
  have q2 : zq_ev r (448, [(3, -1)]) = -r 3 + 448 := zu_e5 _ _ _
  have q3 : zq_ev r (1, []) = 1 := zu_e0 _ _
  have q4 : zq_ev r (0, [(0, 1)]) = r 0 := zu_e1 _ _
  have q5 : zq_ev r (0, [(1, 1)]) = r 1 := zu_e1 _ _
  have q6 : zq_ev r (0, [(2, 1)]) = r 2 := zu_e1 _ _
  have q7 : zq_ev r (0, [(3, 1)]) = r 3 := zu_e1 _ _
  have q8 : zq_ev r (0, [(4, 1)]) = r 4 := zu_e1 _ _
  have q9 : zq_ev r (0, [(5, 1)]) = r 5 := zu_e1 _ _
  have q10 : zq_ev r (0, [(6, 1)]) = r 6 := zu_e1 _ _
  have q11 : zq_ev r (0, [(7, 1)]) = r 7 := zu_e1 _ _
  have q12 : zq_ev r (0, [(8, 1)]) = r 8 := zu_e1 _ _
  have q13 : zq_ev r (0, [(9, 1)]) = r 9 := zu_e1 _ _
  have q14 : zq_ev r (0, [(10, 1)]) = r 10 := zu_e1 _ _
  have q15 : zq_ev r (0, [(11, 1)]) = r 11 := zu_e1 _ _
  have q16 : zq_ev r (0, [(12, 1)]) = r 12 := zu_e1 _ _
  have q17 : zq_ev r (0, [(13, 1)]) = r 13 := zu_e1 _ _
  have q18 : zq_ev r (0, []) = 0 := zu_e0 _ _
  have q19 : zq_ev r (0, [(14, 1)]) = r 14 := zu_e1 _ _
  have q20 : zq_ev r (0, [(15, 1)]) = r 15 := zu_e1 _ _
  have q21 : zq_ev r (0, [(16, 1)]) = r 16 := zu_e1 _ _
  obtain ⟨hT, hC, hF, hS, -, hK⟩ := hM
  have c := hC.1
  have a1 := zq_all_1 c
  rw [q0] at a1
  have c := zq_all_t c
  have a2 := zq_all_1 c
  rw [q1] at a2
  have c := zq_all_t c
  have a3 := zq_all_1 c
  rw [q2] at a3
  have k1 := zj_use x_CB (hK)
  have k1 : zd_CB (zq_ev r (1, [])) (zq_ev r (0, [(0, 1)])) (zq_ev r (0, [(1, 1)])) (zq_ev r (0, [(2, 1)])) (zq_ev r (0, [(3, 1)])) (zq_ev r (0, [(4, 1)])) (zq_ev r (0, [(5, 1)])) (zq_ev r (0, [(6, 1)])) (zq_ev r (0, [(7, 1)])) (zq_ev r (0, [(8, 1)])) (zq_ev r (0, [(9, 1)])) (zq_ev r (0, [(10, 1)])) P h := k1
  simp only [q10, q11, q12, q13, q14, q3, q4, q5, q6, q7, q8, q9] at k1
  have k2 := zj_use x_IS (zq_okX_t (hK))
  have k2 : zr_IS (zq_ev r (1, [])) (zq_ev r (0, [(0, 1)])) (zq_ev r (0, [(1, 1)])) (zq_ev r (0, [(11, 1)])) (zq_ev r (0, [(10, 1)])) (zq_ev r (0, [(12, 1)])) (zq_ev r (1, [])) P h := k2
  simp only [q14, q15, q16, q3, q4, q5] at k2
  have k3 := zj_use x_OW (zq_okX_t (zq_okX_t (hK)))
  have k3 : zo_OW 102 (zq_ev r (0, [(13, 1)])) (zq_ev r (0, [(11, 1)])) P h := k3
  simp only [q15, q17] at k3
  have k4 := zj_use x_RK (zq_okX_t (zq_okX_t (zq_okX_t (hK))))
  have k4 : zr_RK (zq_ev r (0, [(13, 1)])) (zq_ev r (0, [(2, 1)])) (zq_ev r (0, [(3, 1)])) (zq_ev r (0, [(6, 1)])) (zq_ev r (0, [])) (zq_ev r (0, [(14, 1)])) P h := k4
  simp only [q10, q17, q18, q19, q6, q7] at k4
  have k5 := zj_use x_RK (zq_okX_t (zq_okX_t (zq_okX_t (zq_okX_t (hK)))))
  have k5 : zr_RK (zq_ev r (0, [(13, 1)])) (zq_ev r (0, [(2, 1)])) (zq_ev r (0, [(3, 1)])) (zq_ev r (0, [(7, 1)])) (zq_ev r (0, [])) (zq_ev r (0, [(15, 1)])) P h := k5
  simp only [q11, q17, q18, q20, q6, q7] at k5
  have k6 := zj_use x_RK (zq_okX_t (zq_okX_t (zq_okX_t (zq_okX_t (zq_okX_t (hK))))))
  have k6 : zr_RK (zq_ev r (0, [(13, 1)])) (zq_ev r (0, [(2, 1)])) (zq_ev r (0, [(3, 1)])) (zq_ev r (0, [(8, 1)])) (zq_ev r (0, [])) (zq_ev r (0, [(16, 1)])) P h := k6
  simp only [q12, q17, q18, q21, q6, q7] at k6
  obtain t1 := zk_v22g_l (P := P) (h := h) (g := r 0) (l := r 1) (Y := r 2) (z := r 3) (k := r 4) (t := r 5) (a := r 6) (b := r 7) (c := r 8) (i := r 9) (e := r 10) (W := r 11) (q := r 12) (v := r 13) (r0 := r 14) (r1 := r 15) (r2 := r 16) a1 a2 a3 k1 k2 k3 k4 k5 k6
  obtain ⟨rq, hr⟩ : ∃ rq : Nat → Int, (∀ i, i < 17 → rq i = r i) := ⟨r, fun i hi => rfl⟩
  have v0 : rq 0 = r 0 := hr 0 (by decide)
  have v1 : rq 1 = r 1 := hr 1 (by decide)
  have v9 : rq 9 = r 9 := hr 9 (by decide)
  have v11 : rq 11 = r 11 := hr 11 (by decide)
  have v14 : rq 14 = r 14 := hr 14 (by decide)
  have v15 : rq 15 = r 15 := hr 15 (by decide)
  have v16 : rq 16 = r 16 := hr 16 (by decide)
  have g0 : zq_ev rq (0, [(0, 1)]) = r 0 := zu_f1 v0
  have g1 : zq_ev rq (0, [(1, 1)]) = r 1 := zu_f1 v1
  have g2 : zq_ev rq (0, [(11, 1)]) = r 11 := zu_f1 v11
  have g3 : zq_ev rq (0, [(9, 1)]) = r 9 := zu_f1 v9
  have g4 : zq_ev rq (0, [(14, 1)]) = r 14 := zu_f1 v14
  have g5 : zq_ev rq (0, [(15, 1)]) = r 15 := zu_f1 v15
  have g6 : zq_ev rq (0, [(16, 1)]) = r 16 := zu_f1 v16
  have g7 : zq_ev rq (0, []) = 0 := zu_e0 _ _
  have g8 : zq_ev rq (1, []) = 1 := zu_e0 _ _
  exact ⟨_, List.mem_cons_self .., rq, hr, zq_MeS_mk rfl hT (zq_all_nil) zq_fan (zq_fan) rfl (zu_fac ((x_EVo _ _ _).mpr (by show zo_EV (zq_ev rq (0, [(0, 1)])) (zq_ev rq (0, [(1, 1)])) (zq_ev rq (0, [(11, 1)])) (zq_ev rq (0, [(9, 1)])) (zq_ev rq (0, [(14, 1)])) (zq_ev rq (0, [(15, 1)])) (zq_ev rq (0, [(16, 1)])) (zq_ev rq (0, [])) (zq_ev rq (1, [])) P h; simp only [g0, g1, g2, g3, g4, g5, g6, g7, g8]; exact t1)) zq_fan)⟩
noncomputable def zk_v22a : zq_S × List zq_S := (([], [], [(-17, [(4, 1)]), (17, [(4, -1)]), (448, [(3, -1)])], [], [], [], [(259, [(1, []), (0, [(0, 1)]), (0, [(1, 1)]), (0, [(2, 1)]), (0, [(3, 1)]), (0, [(4, 1)]), (0, [(5, 1)]), (0, [(6, 1)]), (0, [(7, 1)]), (0, [(8, 1)]), (0, [(9, 1)]), (0, [(10, 1)])]), (272, [(1, []), (0, [(0, 1)]), (0, [(1, 1)]), (0, [(11, 1)]), (0, [(10, 1)]), (0, [(12, 1)]), (1, [])]), (279, [(0, [(13, 1)]), (0, [(11, 1)])]), (266, [(0, [(13, 1)]), (0, [(2, 1)]), (0, [(3, 1)]), (0, [(6, 1)]), (1, []), (0, [(14, 1)])])], 15), [([], [], [], [], [], [], [(326, [(0, [(0, 1)]), (0, [(1, 1)]), (0, [(11, 1)]), (0, [(9, 1)]), (0, [(15, 1)]), (0, [(16, 1)]), (0, [(17, 1)]), (1, []), (1, [])])], 18)])
theorem zk_v22a_l {P : zq_Ty} {h : zq_H} {g l Y z k t a b c i e W q v r0 : Int} (a1 : 0 ≤ k - 17) (a2 : 0 ≤ -k + 17) (a3 : 0 ≤ -z + 448) (k1 : zd_CB 1 g l Y z k t a b c i e P h) (k2 : zr_IS 1 g l W e q 1 P h) (k3 : zo_OW 102 v W P h) (k4 : zr_RK v Y z a 1 r0 P h) : (∃ x0 x1 x2 : Int, zo_EV g l W i x0 x1 x2 1 1 P h) := by
  rcases k1 with ⟨h0, _⟩ | ⟨_, f, u1, u2⟩
  · exact absurd h0 (by decide)
  have hk : k = 17 := by omega
  subst hk
  obtain ⟨x0, x1, x2, x3⟩ := zo_VP_3 (B0 := 1) (B1 := 1) (B2 := 1) (r1 := 0) (r2 := 0) u1 (by omega) (zr_cw1 k3) k4.2 (fun z => absurd rfl z) (fun z _ => absurd rfl z)
  rcases x3 with ⟨x4, _⟩ | ⟨_, x4⟩
  · rw [if_pos (by decide)] at x4
    exact ⟨x0, x1, x2, f, t, e, q, x4, u2, k2⟩
  · exact ⟨x0, x1, x2, f, t, e, q, x4, u2, k2⟩
theorem zk_v22a_ok {w : zq_Wd} (x_CB : zj_is w 259 (fun q => zd_CB (q 0) (q 1) (q 2) (q 3) (q 4) (q 5) (q 6) (q 7) (q 8) (q 9) (q 10) (q 11))) (x_IS : zj_is w 272 (fun q => zr_IS (q 0) (q 1) (q 2) (q 3) (q 4) (q 5) (q 6))) (x_OW : zj_is w 279 (fun q => zo_OW 102 (q 0) (q 1))) (x_RK : zj_is w 266 (fun q => zr_RK (q 0) (q 1) (q 2) (q 3) (q 4) (q 5))) (x_EVo : zj_is w 326 (fun q => zo_EV (q 0) (q 1) (q 2) (q 3) (q 4) (q 5) (q 6) (q 7) (q 8))) : zq_okG1 w zk_v22a := by
  refine ⟨rfl, rfl, zu_fac ⟨rfl, by decide⟩ zq_fan, ?_⟩
  intro r P h H hM
  have q0 : zq_ev r (-17, [(4, 1)]) = r 4 - 17 := zu_e3 _ _ _
  have q1 : zq_ev r (17, [(4, -1)]) = -r 4 + 17 := zu_e5 _ _ _
  have q2 : zq_ev r (448, [(3, -1)]) = -r 3 + 448 := zu_e5 _ _ _
  have q3 : zq_ev r (1, []) = 1 := zu_e0 _ _
  have q4 : zq_ev r (0, [(0, 1)]) = r 0 := zu_e1 _ _
  have q5 : zq_ev r (0, [(1, 1)]) = r 1 := zu_e1 _ _
  have q6 : zq_ev r (0, [(2, 1)]) = r 2 := zu_e1 _ _
  have q7 : zq_ev r (0, [(3, 1)]) = r 3 := zu_e1 _ _
  have q8 : zq_ev r (0, [(4, 1)]) = r 4 := zu_e1 _ _
  have q9 : zq_ev r (0, [(5, 1)]) = r 5 := zu_e1 _ _
  have q10 : zq_ev r (0, [(6, 1)]) = r 6 := zu_e1 _ _
  have q11 : zq_ev r (0, [(7, 1)]) = r 7 := zu_e1 _ _
  have q12 : zq_ev r (0, [(8, 1)]) = r 8 := zu_e1 _ _
  have q13 : zq_ev r (0, [(9, 1)]) = r 9 := zu_e1 _ _
  have q14 : zq_ev r (0, [(10, 1)]) = r 10 := zu_e1 _ _
  have q15 : zq_ev r (0, [(11, 1)]) = r 11 := zu_e1 _ _
  have q16 : zq_ev r (0, [(12, 1)]) = r 12 := zu_e1 _ _
  have q17 : zq_ev r (0, [(13, 1)]) = r 13 := zu_e1 _ _
  have q18 : zq_ev r (0, [(14, 1)]) = r 14 := zu_e1 _ _
  obtain ⟨hT, hC, hF, hS, -, hK⟩ := hM
  have c := hC.1
  have a1 := zq_all_1 c
  rw [q0] at a1
  have c := zq_all_t c
  have a2 := zq_all_1 c
  rw [q1] at a2
  have c := zq_all_t c
  have a3 := zq_all_1 c
  rw [q2] at a3
  have k1 := zj_use x_CB (hK)
  have k1 : zd_CB (zq_ev r (1, [])) (zq_ev r (0, [(0, 1)])) (zq_ev r (0, [(1, 1)])) (zq_ev r (0, [(2, 1)])) (zq_ev r (0, [(3, 1)])) (zq_ev r (0, [(4, 1)])) (zq_ev r (0, [(5, 1)])) (zq_ev r (0, [(6, 1)])) (zq_ev r (0, [(7, 1)])) (zq_ev r (0, [(8, 1)])) (zq_ev r (0, [(9, 1)])) (zq_ev r (0, [(10, 1)])) P h := k1
  simp only [q10, q11, q12, q13, q14, q3, q4, q5, q6, q7, q8, q9] at k1
  have k2 := zj_use x_IS (zq_okX_t (hK))
  have k2 : zr_IS (zq_ev r (1, [])) (zq_ev r (0, [(0, 1)])) (zq_ev r (0, [(1, 1)])) (zq_ev r (0, [(11, 1)])) (zq_ev r (0, [(10, 1)])) (zq_ev r (0, [(12, 1)])) (zq_ev r (1, [])) P h := k2
  simp only [q14, q15, q16, q3, q4, q5] at k2
  have k3 := zj_use x_OW (zq_okX_t (zq_okX_t (hK)))
  have k3 : zo_OW 102 (zq_ev r (0, [(13, 1)])) (zq_ev r (0, [(11, 1)])) P h := k3
  simp only [q15, q17] at k3
  have k4 := zj_use x_RK (zq_okX_t (zq_okX_t (zq_okX_t (hK))))
  have k4 : zr_RK (zq_ev r (0, [(13, 1)])) (zq_ev r (0, [(2, 1)])) (zq_ev r (0, [(3, 1)])) (zq_ev r (0, [(6, 1)])) (zq_ev r (1, [])) (zq_ev r (0, [(14, 1)])) P h := k4
  simp only [q10, q17, q18, q3, q6, q7] at k4
  obtain ⟨y_0, y_1, y_2, t1⟩ := zk_v22a_l (P := P) (h := h) (g := r 0) (l := r 1) (Y := r 2) (z := r 3) (k := r 4) (t := r 5) (a := r 6) (b := r 7) (c := r 8) (i := r 9) (e := r 10) (W := r 11) (q := r 12) (v := r 13) (r0 := r 14) a1 a2 a3 k1 k2 k3 k4
  obtain ⟨rq, hr, w15, w16, w17⟩ : ∃ rq : Nat → Int, (∀ i, i < 15 → rq i = r i) ∧ rq 15 = y_0 ∧ rq 16 = y_1 ∧ rq 17 = y_2 := ⟨zq_up (zq_up (zq_up r 15 y_0) 16 y_1) 17 y_2, fun i hi => by rw [zu_up_ne (by omega)]; rw [zu_up_ne (by omega)]; rw [zu_up_ne (by omega)], rfl, rfl, rfl⟩
  have v0 : rq 0 = r 0 := hr 0 (by decide)
  have v1 : rq 1 = r 1 := hr 1 (by decide)
  have v9 : rq 9 = r 9 := hr 9 (by decide)
  have v11 : rq 11 = r 11 := hr 11 (by decide)
  have g0 : zq_ev rq (0, [(0, 1)]) = r 0 := zu_f1 v0
  have g1 : zq_ev rq (0, [(1, 1)]) = r 1 := zu_f1 v1
  have g2 : zq_ev rq (0, [(11, 1)]) = r 11 := zu_f1 v11
  have g3 : zq_ev rq (0, [(9, 1)]) = r 9 := zu_f1 v9
  have g4 : zq_ev rq (0, [(15, 1)]) = y_0 := zu_f1 w15
  have g5 : zq_ev rq (0, [(16, 1)]) = y_1 := zu_f1 w16
  have g6 : zq_ev rq (0, [(17, 1)]) = y_2 := zu_f1 w17
  have g7 : zq_ev rq (1, []) = 1 := zu_e0 _ _
  exact ⟨_, List.mem_cons_self .., rq, hr, zq_MeS_mk rfl hT (zq_all_nil) zq_fan (zq_fan) rfl (zu_fac ((x_EVo _ _ _).mpr (by show zo_EV (zq_ev rq (0, [(0, 1)])) (zq_ev rq (0, [(1, 1)])) (zq_ev rq (0, [(11, 1)])) (zq_ev rq (0, [(9, 1)])) (zq_ev rq (0, [(15, 1)])) (zq_ev rq (0, [(16, 1)])) (zq_ev rq (0, [(17, 1)])) (zq_ev rq (1, [])) (zq_ev rq (1, [])) P h; simp only [g0, g1, g2, g3, g4, g5, g6, g7]; exact t1)) zq_fan)⟩
noncomputable def zk_v22b : zq_S × List zq_S := (([], [], [(-17, [(4, 1)]), (17, [(4, -1)]), (448, [(3, -1)])], [], [], [], [(259, [(1, []), (0, [(0, 1)]), (0, [(1, 1)]), (0, [(2, 1)]), (0, [(3, 1)]), (0, [(4, 1)]), (0, [(5, 1)]), (0, [(6, 1)]), (0, [(7, 1)]), (0, [(8, 1)]), (0, [(9, 1)]), (0, [(10, 1)])]), (272, [(1, []), (0, [(0, 1)]), (0, [(1, 1)]), (0, [(11, 1)]), (0, [(10, 1)]), (0, [(12, 1)]), (1, [])]), (279, [(0, [(13, 1)]), (0, [(11, 1)])]), (266, [(0, [(13, 1)]), (0, [(2, 1)]), (0, [(3, 1)]), (0, [(6, 1)]), (0, []), (0, [(14, 1)])]), (266, [(0, [(13, 1)]), (0, [(2, 1)]), (0, [(3, 1)]), (0, [(7, 1)]), (1, []), (0, [(15, 1)])])], 16), [([], [], [], [], [], [], [(326, [(0, [(0, 1)]), (0, [(1, 1)]), (0, [(11, 1)]), (0, [(9, 1)]), (0, [(16, 1)]), (0, [(17, 1)]), (0, [(18, 1)]), (1, []), (1, [])])], 19)])
theorem zk_v22b_l {P : zq_Ty} {h : zq_H} {g l Y z k t a b c i e W q v r0 r1 : Int} (a1 : 0 ≤ k - 17) (a2 : 0 ≤ -k + 17) (a3 : 0 ≤ -z + 448) (k1 : zd_CB 1 g l Y z k t a b c i e P h) (k2 : zr_IS 1 g l W e q 1 P h) (k3 : zo_OW 102 v W P h) (k4 : zr_RK v Y z a 0 r0 P h) (k5 : zr_RK v Y z b 1 r1 P h) : (∃ x0 x1 x2 : Int, zo_EV g l W i x0 x1 x2 1 1 P h) := by
  rcases k1 with ⟨h0, _⟩ | ⟨_, f, u1, u2⟩
  · exact absurd h0 (by decide)
  have hk : k = 17 := by omega
  subst hk
  obtain ⟨x0, x1, x2, x3⟩ := zo_VP_3 (B0 := 0) (B1 := 1) (B2 := 1) (r2 := 0) u1 (by omega) (zr_cw1 k3) k4.2 (fun _ => k5.2) (fun _ z => absurd rfl z)
  rcases x3 with ⟨x4, _⟩ | ⟨_, x4⟩
  · rw [if_pos (by decide)] at x4
    exact ⟨x0, x1, x2, f, t, e, q, x4, u2, k2⟩
  · exact ⟨x0, x1, x2, f, t, e, q, x4, u2, k2⟩
theorem zk_v22b_ok {w : zq_Wd} (x_CB : zj_is w 259 (fun q => zd_CB (q 0) (q 1) (q 2) (q 3) (q 4) (q 5) (q 6) (q 7) (q 8) (q 9) (q 10) (q 11))) (x_IS : zj_is w 272 (fun q => zr_IS (q 0) (q 1) (q 2) (q 3) (q 4) (q 5) (q 6))) (x_OW : zj_is w 279 (fun q => zo_OW 102 (q 0) (q 1))) (x_RK : zj_is w 266 (fun q => zr_RK (q 0) (q 1) (q 2) (q 3) (q 4) (q 5))) (x_EVo : zj_is w 326 (fun q => zo_EV (q 0) (q 1) (q 2) (q 3) (q 4) (q 5) (q 6) (q 7) (q 8))) : zq_okG1 w zk_v22b := by
  refine ⟨rfl, rfl, zu_fac ⟨rfl, by decide⟩ zq_fan, ?_⟩
  intro r P h H hM
  have q0 : zq_ev r (-17, [(4, 1)]) = r 4 - 17 := zu_e3 _ _ _
  have q1 : zq_ev r (17, [(4, -1)]) = -r 4 + 17 := zu_e5 _ _ _
  have q2 : zq_ev r (448, [(3, -1)]) = -r 3 + 448 := zu_e5 _ _ _
  have q3 : zq_ev r (1, []) = 1 := zu_e0 _ _
  have q4 : zq_ev r (0, [(0, 1)]) = r 0 := zu_e1 _ _
  have q5 : zq_ev r (0, [(1, 1)]) = r 1 := zu_e1 _ _
  have q6 : zq_ev r (0, [(2, 1)]) = r 2 := zu_e1 _ _
  have q7 : zq_ev r (0, [(3, 1)]) = r 3 := zu_e1 _ _
  have q8 : zq_ev r (0, [(4, 1)]) = r 4 := zu_e1 _ _
  have q9 : zq_ev r (0, [(5, 1)]) = r 5 := zu_e1 _ _
  have q10 : zq_ev r (0, [(6, 1)]) = r 6 := zu_e1 _ _
  have q11 : zq_ev r (0, [(7, 1)]) = r 7 := zu_e1 _ _
  have q12 : zq_ev r (0, [(8, 1)]) = r 8 := zu_e1 _ _
  have q13 : zq_ev r (0, [(9, 1)]) = r 9 := zu_e1 _ _
  have q14 : zq_ev r (0, [(10, 1)]) = r 10 := zu_e1 _ _
  have q15 : zq_ev r (0, [(11, 1)]) = r 11 := zu_e1 _ _
  have q16 : zq_ev r (0, [(12, 1)]) = r 12 := zu_e1 _ _
  have q17 : zq_ev r (0, [(13, 1)]) = r 13 := zu_e1 _ _
  have q18 : zq_ev r (0, []) = 0 := zu_e0 _ _
  have q19 : zq_ev r (0, [(14, 1)]) = r 14 := zu_e1 _ _
  have q20 : zq_ev r (0, [(15, 1)]) = r 15 := zu_e1 _ _
  obtain ⟨hT, hC, hF, hS, -, hK⟩ := hM
  have c := hC.1
  have a1 := zq_all_1 c
  rw [q0] at a1
  have c := zq_all_t c
  have a2 := zq_all_1 c
  rw [q1] at a2
  have c := zq_all_t c
  have a3 := zq_all_1 c
  rw [q2] at a3
  have k1 := zj_use x_CB (hK)
  have k1 : zd_CB (zq_ev r (1, [])) (zq_ev r (0, [(0, 1)])) (zq_ev r (0, [(1, 1)])) (zq_ev r (0, [(2, 1)])) (zq_ev r (0, [(3, 1)])) (zq_ev r (0, [(4, 1)])) (zq_ev r (0, [(5, 1)])) (zq_ev r (0, [(6, 1)])) (zq_ev r (0, [(7, 1)])) (zq_ev r (0, [(8, 1)])) (zq_ev r (0, [(9, 1)])) (zq_ev r (0, [(10, 1)])) P h := k1
  simp only [q10, q11, q12, q13, q14, q3, q4, q5, q6, q7, q8, q9] at k1
  have k2 := zj_use x_IS (zq_okX_t (hK))
  have k2 : zr_IS (zq_ev r (1, [])) (zq_ev r (0, [(0, 1)])) (zq_ev r (0, [(1, 1)])) (zq_ev r (0, [(11, 1)])) (zq_ev r (0, [(10, 1)])) (zq_ev r (0, [(12, 1)])) (zq_ev r (1, [])) P h := k2
  simp only [q14, q15, q16, q3, q4, q5] at k2
  have k3 := zj_use x_OW (zq_okX_t (zq_okX_t (hK)))
  have k3 : zo_OW 102 (zq_ev r (0, [(13, 1)])) (zq_ev r (0, [(11, 1)])) P h := k3
  simp only [q15, q17] at k3
  have k4 := zj_use x_RK (zq_okX_t (zq_okX_t (zq_okX_t (hK))))
  have k4 : zr_RK (zq_ev r (0, [(13, 1)])) (zq_ev r (0, [(2, 1)])) (zq_ev r (0, [(3, 1)])) (zq_ev r (0, [(6, 1)])) (zq_ev r (0, [])) (zq_ev r (0, [(14, 1)])) P h := k4
  simp only [q10, q17, q18, q19, q6, q7] at k4
  have k5 := zj_use x_RK (zq_okX_t (zq_okX_t (zq_okX_t (zq_okX_t (hK)))))
  have k5 : zr_RK (zq_ev r (0, [(13, 1)])) (zq_ev r (0, [(2, 1)])) (zq_ev r (0, [(3, 1)])) (zq_ev r (0, [(7, 1)])) (zq_ev r (1, [])) (zq_ev r (0, [(15, 1)])) P h := k5
  simp only [q11, q17, q20, q3, q6, q7] at k5
  obtain ⟨y_0, y_1, y_2, t1⟩ := zk_v22b_l (P := P) (h := h) (g := r 0) (l := r 1) (Y := r 2) (z := r 3) (k := r 4) (t := r 5) (a := r 6) (b := r 7) (c := r 8) (i := r 9) (e := r 10) (W := r 11) (q := r 12) (v := r 13) (r0 := r 14) (r1 := r 15) a1 a2 a3 k1 k2 k3 k4 k5
  obtain ⟨rq, hr, w16, w17, w18⟩ : ∃ rq : Nat → Int, (∀ i, i < 16 → rq i = r i) ∧ rq 16 = y_0 ∧ rq 17 = y_1 ∧ rq 18 = y_2 := ⟨zq_up (zq_up (zq_up r 16 y_0) 17 y_1) 18 y_2, fun i hi => by rw [zu_up_ne (by omega)]; rw [zu_up_ne (by omega)]; rw [zu_up_ne (by omega)], rfl, rfl, rfl⟩
  have v0 : rq 0 = r 0 := hr 0 (by decide)
  have v1 : rq 1 = r 1 := hr 1 (by decide)
  have v9 : rq 9 = r 9 := hr 9 (by decide)
  have v11 : rq 11 = r 11 := hr 11 (by decide)
  have g0 : zq_ev rq (0, [(0, 1)]) = r 0 := zu_f1 v0
  have g1 : zq_ev rq (0, [(1, 1)]) = r 1 := zu_f1 v1
  have g2 : zq_ev rq (0, [(11, 1)]) = r 11 := zu_f1 v11
  have g3 : zq_ev rq (0, [(9, 1)]) = r 9 := zu_f1 v9
  have g4 : zq_ev rq (0, [(16, 1)]) = y_0 := zu_f1 w16
  have g5 : zq_ev rq (0, [(17, 1)]) = y_1 := zu_f1 w17
  have g6 : zq_ev rq (0, [(18, 1)]) = y_2 := zu_f1 w18
  have g7 : zq_ev rq (1, []) = 1 := zu_e0 _ _
  exact ⟨_, List.mem_cons_self .., rq, hr, zq_MeS_mk rfl hT (zq_all_nil) zq_fan (zq_fan) rfl (zu_fac ((x_EVo _ _ _).mpr (by show zo_EV (zq_ev rq (0, [(0, 1)])) (zq_ev rq (0, [(1, 1)])) (zq_ev rq (0, [(11, 1)])) (zq_ev rq (0, [(9, 1)])) (zq_ev rq (0, [(16, 1)])) (zq_ev rq (0, [(17, 1)])) (zq_ev rq (0, [(18, 1)])) (zq_ev rq (1, [])) (zq_ev rq (1, [])) P h; simp only [g0, g1, g2, g3, g4, g5, g6, g7]; exact t1)) zq_fan)⟩
noncomputable def zk_v22c : zq_S × List zq_S := (([], [], [(-17, [(4, 1)]), (17, [(4, -1)]), (448, [(3, -1)])], [], [], [], [(259, [(1, []), (0, [(0, 1)]), (0, [(1, 1)]), (0, [(2, 1)]), (0, [(3, 1)]), (0, [(4, 1)]), (0, [(5, 1)]), (0, [(6, 1)]), (0, [(7, 1)]), (0, [(8, 1)]), (0, [(9, 1)]), (0, [(10, 1)])]), (272, [(1, []), (0, [(0, 1)]), (0, [(1, 1)]), (0, [(11, 1)]), (0, [(10, 1)]), (0, [(12, 1)]), (1, [])]), (279, [(0, [(13, 1)]), (0, [(11, 1)])]), (266, [(0, [(13, 1)]), (0, [(2, 1)]), (0, [(3, 1)]), (0, [(6, 1)]), (0, []), (0, [(14, 1)])]), (266, [(0, [(13, 1)]), (0, [(2, 1)]), (0, [(3, 1)]), (0, [(7, 1)]), (0, []), (0, [(15, 1)])]), (266, [(0, [(13, 1)]), (0, [(2, 1)]), (0, [(3, 1)]), (0, [(8, 1)]), (1, []), (0, [(16, 1)])])], 17), [([], [], [], [], [], [], [(326, [(0, [(0, 1)]), (0, [(1, 1)]), (0, [(11, 1)]), (0, [(9, 1)]), (0, [(17, 1)]), (0, [(18, 1)]), (0, [(19, 1)]), (1, []), (1, [])])], 20)])
theorem zk_v22c_l {P : zq_Ty} {h : zq_H} {g l Y z k t a b c i e W q v r0 r1 r2 : Int} (a1 : 0 ≤ k - 17) (a2 : 0 ≤ -k + 17) (a3 : 0 ≤ -z + 448) (k1 : zd_CB 1 g l Y z k t a b c i e P h) (k2 : zr_IS 1 g l W e q 1 P h) (k3 : zo_OW 102 v W P h) (k4 : zr_RK v Y z a 0 r0 P h) (k5 : zr_RK v Y z b 0 r1 P h) (k6 : zr_RK v Y z c 1 r2 P h) : (∃ x0 x1 x2 : Int, zo_EV g l W i x0 x1 x2 1 1 P h) := by
  rcases k1 with ⟨h0, _⟩ | ⟨_, f, u1, u2⟩
  · exact absurd h0 (by decide)
  have hk : k = 17 := by omega
  subst hk
  obtain ⟨x0, x1, x2, x3⟩ := zo_VP_3 (B0 := 0) (B1 := 0) (B2 := 1) u1 (by omega) (zr_cw1 k3) k4.2 (fun _ => k5.2) (fun _ _ => k6.2)
  rcases x3 with ⟨x4, _⟩ | ⟨_, x4⟩
  · rw [if_pos (by decide)] at x4
    exact ⟨x0, x1, x2, f, t, e, q, x4, u2, k2⟩
  · exact ⟨x0, x1, x2, f, t, e, q, x4, u2, k2⟩
theorem zk_v22c_ok {w : zq_Wd} (x_CB : zj_is w 259 (fun q => zd_CB (q 0) (q 1) (q 2) (q 3) (q 4) (q 5) (q 6) (q 7) (q 8) (q 9) (q 10) (q 11))) (x_IS : zj_is w 272 (fun q => zr_IS (q 0) (q 1) (q 2) (q 3) (q 4) (q 5) (q 6))) (x_OW : zj_is w 279 (fun q => zo_OW 102 (q 0) (q 1))) (x_RK : zj_is w 266 (fun q => zr_RK (q 0) (q 1) (q 2) (q 3) (q 4) (q 5))) (x_EVo : zj_is w 326 (fun q => zo_EV (q 0) (q 1) (q 2) (q 3) (q 4) (q 5) (q 6) (q 7) (q 8))) : zq_okG1 w zk_v22c := by
  refine ⟨rfl, rfl, zu_fac ⟨rfl, by decide⟩ zq_fan, ?_⟩
  intro r P h H hM
  have q0 : zq_ev r (-17, [(4, 1)]) = r 4 - 17 := zu_e3 _ _ _
  have q1 : zq_ev r (17, [(4, -1)]) = -r 4 + 17 := zu_e5 _ _ _
  have q2 : zq_ev r (448, [(3, -1)]) = -r 3 + 448 := zu_e5 _ _ _
  have q3 : zq_ev r (1, []) = 1 := zu_e0 _ _
  have q4 : zq_ev r (0, [(0, 1)]) = r 0 := zu_e1 _ _
  have q5 : zq_ev r (0, [(1, 1)]) = r 1 := zu_e1 _ _
  have q6 : zq_ev r (0, [(2, 1)]) = r 2 := zu_e1 _ _
  have q7 : zq_ev r (0, [(3, 1)]) = r 3 := zu_e1 _ _
  have q8 : zq_ev r (0, [(4, 1)]) = r 4 := zu_e1 _ _
  have q9 : zq_ev r (0, [(5, 1)]) = r 5 := zu_e1 _ _
  have q10 : zq_ev r (0, [(6, 1)]) = r 6 := zu_e1 _ _
  have q11 : zq_ev r (0, [(7, 1)]) = r 7 := zu_e1 _ _
  have q12 : zq_ev r (0, [(8, 1)]) = r 8 := zu_e1 _ _
  have q13 : zq_ev r (0, [(9, 1)]) = r 9 := zu_e1 _ _
  have q14 : zq_ev r (0, [(10, 1)]) = r 10 := zu_e1 _ _
  have q15 : zq_ev r (0, [(11, 1)]) = r 11 := zu_e1 _ _
  have q16 : zq_ev r (0, [(12, 1)]) = r 12 := zu_e1 _ _
  have q17 : zq_ev r (0, [(13, 1)]) = r 13 := zu_e1 _ _
  have q18 : zq_ev r (0, []) = 0 := zu_e0 _ _
  have q19 : zq_ev r (0, [(14, 1)]) = r 14 := zu_e1 _ _
  have q20 : zq_ev r (0, [(15, 1)]) = r 15 := zu_e1 _ _
  have q21 : zq_ev r (0, [(16, 1)]) = r 16 := zu_e1 _ _
  obtain ⟨hT, hC, hF, hS, -, hK⟩ := hM
  have c := hC.1
  have a1 := zq_all_1 c
  rw [q0] at a1
  have c := zq_all_t c
  have a2 := zq_all_1 c
  rw [q1] at a2
  have c := zq_all_t c
  have a3 := zq_all_1 c
  rw [q2] at a3
  have k1 := zj_use x_CB (hK)
  have k1 : zd_CB (zq_ev r (1, [])) (zq_ev r (0, [(0, 1)])) (zq_ev r (0, [(1, 1)])) (zq_ev r (0, [(2, 1)])) (zq_ev r (0, [(3, 1)])) (zq_ev r (0, [(4, 1)])) (zq_ev r (0, [(5, 1)])) (zq_ev r (0, [(6, 1)])) (zq_ev r (0, [(7, 1)])) (zq_ev r (0, [(8, 1)])) (zq_ev r (0, [(9, 1)])) (zq_ev r (0, [(10, 1)])) P h := k1
  simp only [q10, q11, q12, q13, q14, q3, q4, q5, q6, q7, q8, q9] at k1
  have k2 := zj_use x_IS (zq_okX_t (hK))
  have k2 : zr_IS (zq_ev r (1, [])) (zq_ev r (0, [(0, 1)])) (zq_ev r (0, [(1, 1)])) (zq_ev r (0, [(11, 1)])) (zq_ev r (0, [(10, 1)])) (zq_ev r (0, [(12, 1)])) (zq_ev r (1, [])) P h := k2
  simp only [q14, q15, q16, q3, q4, q5] at k2
  have k3 := zj_use x_OW (zq_okX_t (zq_okX_t (hK)))
  have k3 : zo_OW 102 (zq_ev r (0, [(13, 1)])) (zq_ev r (0, [(11, 1)])) P h := k3
  simp only [q15, q17] at k3
  have k4 := zj_use x_RK (zq_okX_t (zq_okX_t (zq_okX_t (hK))))
  have k4 : zr_RK (zq_ev r (0, [(13, 1)])) (zq_ev r (0, [(2, 1)])) (zq_ev r (0, [(3, 1)])) (zq_ev r (0, [(6, 1)])) (zq_ev r (0, [])) (zq_ev r (0, [(14, 1)])) P h := k4
  simp only [q10, q17, q18, q19, q6, q7] at k4
  have k5 := zj_use x_RK (zq_okX_t (zq_okX_t (zq_okX_t (zq_okX_t (hK)))))
  have k5 : zr_RK (zq_ev r (0, [(13, 1)])) (zq_ev r (0, [(2, 1)])) (zq_ev r (0, [(3, 1)])) (zq_ev r (0, [(7, 1)])) (zq_ev r (0, [])) (zq_ev r (0, [(15, 1)])) P h := k5
  simp only [q11, q17, q18, q20, q6, q7] at k5
  have k6 := zj_use x_RK (zq_okX_t (zq_okX_t (zq_okX_t (zq_okX_t (zq_okX_t (hK))))))
  have k6 : zr_RK (zq_ev r (0, [(13, 1)])) (zq_ev r (0, [(2, 1)])) (zq_ev r (0, [(3, 1)])) (zq_ev r (0, [(8, 1)])) (zq_ev r (1, [])) (zq_ev r (0, [(16, 1)])) P h := k6
  simp only [q12, q17, q21, q3, q6, q7] at k6
  obtain ⟨y_0, y_1, y_2, t1⟩ := zk_v22c_l (P := P) (h := h) (g := r 0) (l := r 1) (Y := r 2) (z := r 3) (k := r 4) (t := r 5) (a := r 6) (b := r 7) (c := r 8) (i := r 9) (e := r 10) (W := r 11) (q := r 12) (v := r 13) (r0 := r 14) (r1 := r 15) (r2 := r 16) a1 a2 a3 k1 k2 k3 k4 k5 k6
  obtain ⟨rq, hr, w17, w18, w19⟩ : ∃ rq : Nat → Int, (∀ i, i < 17 → rq i = r i) ∧ rq 17 = y_0 ∧ rq 18 = y_1 ∧ rq 19 = y_2 := ⟨zq_up (zq_up (zq_up r 17 y_0) 18 y_1) 19 y_2, fun i hi => by rw [zu_up_ne (by omega)]; rw [zu_up_ne (by omega)]; rw [zu_up_ne (by omega)], rfl, rfl, rfl⟩
  have v0 : rq 0 = r 0 := hr 0 (by decide)
  have v1 : rq 1 = r 1 := hr 1 (by decide)
  have v9 : rq 9 = r 9 := hr 9 (by decide)
  have v11 : rq 11 = r 11 := hr 11 (by decide)
  have g0 : zq_ev rq (0, [(0, 1)]) = r 0 := zu_f1 v0
  have g1 : zq_ev rq (0, [(1, 1)]) = r 1 := zu_f1 v1
  have g2 : zq_ev rq (0, [(11, 1)]) = r 11 := zu_f1 v11
  have g3 : zq_ev rq (0, [(9, 1)]) = r 9 := zu_f1 v9
  have g4 : zq_ev rq (0, [(17, 1)]) = y_0 := zu_f1 w17
  have g5 : zq_ev rq (0, [(18, 1)]) = y_1 := zu_f1 w18
  have g6 : zq_ev rq (0, [(19, 1)]) = y_2 := zu_f1 w19
  have g7 : zq_ev rq (1, []) = 1 := zu_e0 _ _
  exact ⟨_, List.mem_cons_self .., rq, hr, zq_MeS_mk rfl hT (zq_all_nil) zq_fan (zq_fan) rfl (zu_fac ((x_EVo _ _ _).mpr (by show zo_EV (zq_ev rq (0, [(0, 1)])) (zq_ev rq (0, [(1, 1)])) (zq_ev rq (0, [(11, 1)])) (zq_ev rq (0, [(9, 1)])) (zq_ev rq (0, [(17, 1)])) (zq_ev rq (0, [(18, 1)])) (zq_ev rq (0, [(19, 1)])) (zq_ev rq (1, [])) (zq_ev rq (1, [])) P h; simp only [g0, g1, g2, g3, g4, g5, g6, g7]; exact t1)) zq_fan)⟩
noncomputable def zk_xc : zq_S × List zq_S := (([], [], [(-1, [(7, 1), (10, -1)]), (-1, [(4, 1)]), (1, [(4, -1)])], [], [((0, [(1, 1)]), (0, [(10, 1)]), (0, [(12, 1)]))], [], [(274, [(0, [(0, 1)]), (0, [(1, 1)]), (0, [(2, 1)]), (0, [(3, 1)]), (0, [(4, 1)]), (0, [(5, 1)]), (0, [(6, 1)]), (0, [(7, 1)]), (0, [(8, 1)]), (0, [(9, 1)]), (0, [(10, 1)]), (0, [(11, 1)])])], 13), [([], [], [(-17, [(13, 1)]), (20, [(13, -1)]), (1, [(17, 1)]), (448, [(17, -1)]), (1, [(14, 1)]), (448, [(14, -1)]), (1, [(15, 1)]), (448, [(15, -1)]), (1, [(16, 1)]), (448, [(16, -1)])], [], [((0, [(0, 1)]), (0, [(10, 1)]), (0, [(13, 1)])), ((0, [(2, 1)]), (0, [(10, 4)]), (0, [(14, 1)])), ((0, [(2, 1)]), (1, [(10, 4)]), (0, [(15, 1)])), ((0, [(2, 1)]), (2, [(10, 4)]), (0, [(16, 1)])), ((0, [(2, 1)]), (3, [(10, 4)]), (0, [(17, 1)]))], [], [(259, [(0, [(4, 1)]), (0, [(5, 1)]), (0, [(6, 1)]), (0, [(9, 1)]), (0, [(8, 1)]), (0, [(13, 1)]), (0, [(12, 1)]), (0, [(14, 1)]), (0, [(15, 1)]), (0, [(16, 1)]), (0, [(11, 1)]), (0, [(18, 1)])]), (256, [(0, [(4, 1)]), (0, [(5, 1)]), (0, [(6, 1)]), (0, [(9, 1)]), (0, [(8, 1)]), (0, [(17, 1)]), (0, [(18, 1)]), (0, [(19, 1)])]), (274, [(0, [(0, 1)]), (0, [(1, 1)]), (0, [(2, 1)]), (0, [(3, 1)]), (0, [(4, 1)]), (0, [(5, 1)]), (0, [(6, 1)]), (0, [(7, 1)]), (0, [(8, 1)]), (0, [(9, 1)]), (1, [(10, 1)]), (0, [(19, 1)])])], 20)])
theorem zk_xc_l {P : zq_Ty} {h : zq_H} {ak at_ as_ ac o g n m z Y c p t : Int} (a1 : 0 ≤ m - c - 1) (a2 : 0 ≤ o - 1) (a3 : 0 ≤ -o + 1) (s1 : 0 ≤ at_ ∧ P (at_).toNat ≠ none ∧ h (at_).toNat c = t) (k1 : zr_XP 30 31 32 33 ak at_ as_ ac o g n m z Y c p P h) : (∃ k a b e d f w : Int, 0 ≤ k - 17 ∧ 0 ≤ -k + 20 ∧ 0 ≤ d + 1 ∧ 0 ≤ -d + 448 ∧ 0 ≤ a + 1 ∧ 0 ≤ -a + 448 ∧ 0 ≤ b + 1 ∧ 0 ≤ -b + 448 ∧ 0 ≤ e + 1 ∧ 0 ≤ -e + 448 ∧ (0 ≤ ak ∧ P (ak).toNat ≠ none ∧ h (ak).toNat c = k) ∧ (0 ≤ as_ ∧ P (as_).toNat ≠ none ∧ h (as_).toNat (4 * c) = a) ∧ (0 ≤ as_ ∧ P (as_).toNat ≠ none ∧ h (as_).toNat (4 * c + 1) = b) ∧ (0 ≤ as_ ∧ P (as_).toNat ≠ none ∧ h (as_).toNat (4 * c + 2) = e) ∧ (0 ≤ as_ ∧ P (as_).toNat ≠ none ∧ h (as_).toNat (4 * c + 3) = d) ∧ zd_CB o g n Y z k t a b e p f P h ∧ zd_CI o g n Y z d f w P h ∧ zr_XP 30 31 32 33 ak at_ as_ ac o g n m z Y (c + 1) w P h) := by
  obtain ⟨q1, q2, q3, q4, b1_, b2_, b3_, b4_, b5_, c1, ps, d1, d2, d3, d4⟩ := k1
  have q := d4 c b1_ (by omega)
  rw [d3, s1.2.2] at q
  obtain ⟨f, u1, u2⟩ := q
  have ha : ∀ {s i j : Int}, zd_S 1 g n Y z s i j → s ≤ 448 := fun h => by
    obtain ⟨t', h1, _, h3⟩ := h
    have := h1.2.1
    omega
  have hk : 17 ≤ h ak.toNat c ∧ h ak.toNat c ≤ 20 ∧ (-1 ≤ h as_.toNat (4 * c) ∧ h as_.toNat (4 * c) ≤ 448) ∧ (-1 ≤ h as_.toNat (4 * c + 1) ∧ h as_.toNat (4 * c + 1) ≤ 448) ∧ (-1 ≤ h as_.toNat (4 * c + 2) ∧ h as_.toNat (4 * c + 2) ≤ 448) := by
    rcases u1 with ⟨_, _, ⟨h1, _⟩ | ⟨h1, _⟩⟩ | ⟨_, _, ⟨h1, _, h2, h3, h4, _, _, h5, _, h6, _, h7⟩ | ⟨h1, _, h2, h3, h4, _, h5, _, h6⟩ | ⟨h1, _, h2, h3, h4, h5⟩ | ⟨h1, _, h2, h3, h4, _⟩, _⟩
    · omega
    · omega
    · have := ha h5; have := ha h6; have := ha h7; omega
    · have := ha h5; have := ha h6; omega
    · have := ha h5; omega
    · omega
  have hd : -1 ≤ h as_.toNat (4 * c + 3) ∧ h as_.toNat (4 * c + 3) ≤ 448 := by
    rcases u2 with ⟨h1, _⟩ | ⟨h1, _, e, ⟨t', h2, _, h3⟩, _⟩
    · omega
    · have := h2.1.2.1
      omega
  have pn : ∀ {x : Int} {k : Nat}, zn_on x k P → P x.toNat ≠ none := fun z => by rw [z.2]; exact Option.some_ne_none _
  exact ⟨h ak.toNat c, h as_.toNat (4 * c), h as_.toNat (4 * c + 1), h as_.toNat (4 * c + 2), h as_.toNat (4 * c + 3), f, ps (c + 1), by omega, by omega, by omega, by omega, by omega, by omega, by omega, by omega, by omega, by omega, ⟨q1.1, pn q1, rfl⟩, ⟨q3.1, pn q3, rfl⟩, ⟨q3.1, pn q3, rfl⟩, ⟨q3.1, pn q3, rfl⟩, ⟨q3.1, pn q3, rfl⟩, u1, u2, q1, q2, q3, q4, by omega, by omega, b3_, b4_, b5_, c1, ps, d1, d2, rfl, d4⟩
theorem zk_xc_ok {w : zq_Wd} (x_XO : zj_is w 274 (fun q => zr_XP 30 31 32 33 (q 0) (q 1) (q 2) (q 3) (q 4) (q 5) (q 6) (q 7) (q 8) (q 9) (q 10) (q 11))) (x_CB : zj_is w 259 (fun q => zd_CB (q 0) (q 1) (q 2) (q 3) (q 4) (q 5) (q 6) (q 7) (q 8) (q 9) (q 10) (q 11))) (x_CI : zj_is w 256 (fun q => zd_CI (q 0) (q 1) (q 2) (q 3) (q 4) (q 5) (q 6) (q 7))) : zq_okG1 w zk_xc := by
  refine ⟨rfl, rfl, zu_fac ⟨rfl, by decide⟩ zq_fan, ?_⟩
  intro r P h H hM
  have q0 : zq_ev r (-1, [(7, 1), (10, -1)]) = r 7 - r 10 - 1 := by simp only [zq_ev, zq_ts] <;> omega
  have q1 : zq_ev r (-1, [(4, 1)]) = r 4 - 1 := zu_e3 _ _ _
  have q2 : zq_ev r (1, [(4, -1)]) = -r 4 + 1 := zu_e5 _ _ _
  have q3 : zq_ev r (0, [(1, 1)]) = r 1 := zu_e1 _ _
  have q4 : zq_ev r (0, [(10, 1)]) = r 10 := zu_e1 _ _
  have q5 : zq_ev r (0, [(12, 1)]) = r 12 := zu_e1 _ _
  have q6 : zq_ev r (0, [(0, 1)]) = r 0 := zu_e1 _ _
  have q7 : zq_ev r (0, [(2, 1)]) = r 2 := zu_e1 _ _
  have q8 : zq_ev r (0, [(3, 1)]) = r 3 := zu_e1 _ _
  have q9 : zq_ev r (0, [(4, 1)]) = r 4 := zu_e1 _ _
  have q10 : zq_ev r (0, [(5, 1)]) = r 5 := zu_e1 _ _
  have q11 : zq_ev r (0, [(6, 1)]) = r 6 := zu_e1 _ _
  have q12 : zq_ev r (0, [(7, 1)]) = r 7 := zu_e1 _ _
  have q13 : zq_ev r (0, [(8, 1)]) = r 8 := zu_e1 _ _
  have q14 : zq_ev r (0, [(9, 1)]) = r 9 := zu_e1 _ _
  have q15 : zq_ev r (0, [(11, 1)]) = r 11 := zu_e1 _ _
  obtain ⟨hT, hC, hF, hS, -, hK⟩ := hM
  have c := hC.1
  have a1 := zq_all_1 c
  rw [q0] at a1
  have c := zq_all_t c
  have a2 := zq_all_1 c
  rw [q1] at a2
  have c := zq_all_t c
  have a3 := zq_all_1 c
  rw [q2] at a3
  have s1 := zq_okS_1 (hS)
  simp only [q3, q4, q5] at s1
  have k1 := zj_use x_XO (hK)
  have k1 : zr_XP 30 31 32 33 (zq_ev r (0, [(0, 1)])) (zq_ev r (0, [(1, 1)])) (zq_ev r (0, [(2, 1)])) (zq_ev r (0, [(3, 1)])) (zq_ev r (0, [(4, 1)])) (zq_ev r (0, [(5, 1)])) (zq_ev r (0, [(6, 1)])) (zq_ev r (0, [(7, 1)])) (zq_ev r (0, [(8, 1)])) (zq_ev r (0, [(9, 1)])) (zq_ev r (0, [(10, 1)])) (zq_ev r (0, [(11, 1)])) P h := k1
  simp only [q10, q11, q12, q13, q14, q15, q3, q4, q6, q7, q8, q9] at k1
  obtain ⟨y_0, y_1, y_2, y_3, y_4, y_5, y_6, c1, c2, c3, c4, c5, c6, c7, c8, c9, c10, d1, d2, d3, d4, d5, t1, t2, t3⟩ := zk_xc_l (P := P) (h := h) (ak := r 0) (at_ := r 1) (as_ := r 2) (ac := r 3) (o := r 4) (g := r 5) (n := r 6) (m := r 7) (z := r 8) (Y := r 9) (c := r 10) (p := r 11) (t := r 12) a1 a2 a3 s1 k1
  obtain ⟨rq, hr, w13, w14, w15, w16, w17, w18, w19⟩ : ∃ rq : Nat → Int, (∀ i, i < 13 → rq i = r i) ∧ rq 13 = y_0 ∧ rq 14 = y_1 ∧ rq 15 = y_2 ∧ rq 16 = y_3 ∧ rq 17 = y_4 ∧ rq 18 = y_5 ∧ rq 19 = y_6 := ⟨zq_up (zq_up (zq_up (zq_up (zq_up (zq_up (zq_up r 13 y_0) 14 y_1) 15 y_2) 16 y_3) 17 y_4) 18 y_5) 19 y_6, fun i hi => by rw [zu_up_ne (by omega)]; rw [zu_up_ne (by omega)]; rw [zu_up_ne (by omega)]; rw [zu_up_ne (by omega)]; rw [zu_up_ne (by omega)]; rw [zu_up_ne (by omega)]; rw [zu_up_ne (by omega)], rfl, rfl, rfl, rfl, rfl, rfl, rfl⟩
  have v0 : rq 0 = r 0 := hr 0 (by decide)
  have v1 : rq 1 = r 1 := hr 1 (by decide)
  have v2 : rq 2 = r 2 := hr 2 (by decide)
  have v3 : rq 3 = r 3 := hr 3 (by decide)
  have v4 : rq 4 = r 4 := hr 4 (by decide)
  have v5 : rq 5 = r 5 := hr 5 (by decide)
  have v6 : rq 6 = r 6 := hr 6 (by decide)
  have v7 : rq 7 = r 7 := hr 7 (by decide)
  have v8 : rq 8 = r 8 := hr 8 (by decide)
  have v9 : rq 9 = r 9 := hr 9 (by decide)
  have v10 : rq 10 = r 10 := hr 10 (by decide)
  have v11 : rq 11 = r 11 := hr 11 (by decide)
  have v12 : rq 12 = r 12 := hr 12 (by decide)
  have g0 : zq_ev rq (448, [(16, -1)]) = -y_3 + 448 := zu_f5 w16 _
  have g1 : zq_ev rq (1, [(16, 1)]) = y_3 + 1 := zu_f2 w16 _
  have g2 : zq_ev rq (448, [(15, -1)]) = -y_2 + 448 := zu_f5 w15 _
  have g3 : zq_ev rq (1, [(15, 1)]) = y_2 + 1 := zu_f2 w15 _
  have g4 : zq_ev rq (448, [(14, -1)]) = -y_1 + 448 := zu_f5 w14 _
  have g5 : zq_ev rq (1, [(14, 1)]) = y_1 + 1 := zu_f2 w14 _
  have g6 : zq_ev rq (448, [(17, -1)]) = -y_4 + 448 := zu_f5 w17 _
  have g7 : zq_ev rq (1, [(17, 1)]) = y_4 + 1 := zu_f2 w17 _
  have g8 : zq_ev rq (20, [(13, -1)]) = -y_0 + 20 := zu_f5 w13 _
  have g9 : zq_ev rq (-17, [(13, 1)]) = y_0 - 17 := zu_f3 w13 _
  have g10 : zq_ev rq (0, [(2, 1)]) = r 2 := zu_f1 v2
  have g11 : zq_ev rq (3, [(10, 4)]) = 4 * r 10 + 3 := by simp only [zq_ev, zq_ts, v0, v1, v2, v3, v4, v5, v6, v7, v8, v9, v10, v11, v12, w13, w14, w15, w16, w17, w18, w19] <;> omega
  have g12 : zq_ev rq (0, [(17, 1)]) = y_4 := zu_f1 w17
  have g13 : zq_ev rq (2, [(10, 4)]) = 4 * r 10 + 2 := by simp only [zq_ev, zq_ts, v0, v1, v2, v3, v4, v5, v6, v7, v8, v9, v10, v11, v12, w13, w14, w15, w16, w17, w18, w19] <;> omega
  have g14 : zq_ev rq (0, [(16, 1)]) = y_3 := zu_f1 w16
  have g15 : zq_ev rq (1, [(10, 4)]) = 4 * r 10 + 1 := by simp only [zq_ev, zq_ts, v0, v1, v2, v3, v4, v5, v6, v7, v8, v9, v10, v11, v12, w13, w14, w15, w16, w17, w18, w19] <;> omega
  have g16 : zq_ev rq (0, [(15, 1)]) = y_2 := zu_f1 w15
  have g17 : zq_ev rq (0, [(10, 4)]) = 4 * r 10 := by simp only [zq_ev, zq_ts, v0, v1, v2, v3, v4, v5, v6, v7, v8, v9, v10, v11, v12, w13, w14, w15, w16, w17, w18, w19] <;> omega
  have g18 : zq_ev rq (0, [(14, 1)]) = y_1 := zu_f1 w14
  have g19 : zq_ev rq (0, [(0, 1)]) = r 0 := zu_f1 v0
  have g20 : zq_ev rq (0, [(10, 1)]) = r 10 := zu_f1 v10
  have g21 : zq_ev rq (0, [(13, 1)]) = y_0 := zu_f1 w13
  have g22 : zq_ev rq (0, [(1, 1)]) = r 1 := zu_f1 v1
  have g23 : zq_ev rq (0, [(3, 1)]) = r 3 := zu_f1 v3
  have g24 : zq_ev rq (0, [(4, 1)]) = r 4 := zu_f1 v4
  have g25 : zq_ev rq (0, [(5, 1)]) = r 5 := zu_f1 v5
  have g26 : zq_ev rq (0, [(6, 1)]) = r 6 := zu_f1 v6
  have g27 : zq_ev rq (0, [(7, 1)]) = r 7 := zu_f1 v7
  have g28 : zq_ev rq (0, [(8, 1)]) = r 8 := zu_f1 v8
  have g29 : zq_ev rq (0, [(9, 1)]) = r 9 := zu_f1 v9
  have g30 : zq_ev rq (1, [(10, 1)]) = r 10 + 1 := zu_f2 v10 _
  have g31 : zq_ev rq (0, [(19, 1)]) = y_6 := zu_f1 w19
  have g32 : zq_ev rq (0, [(18, 1)]) = y_5 := zu_f1 w18
  have g33 : zq_ev rq (0, [(12, 1)]) = r 12 := zu_f1 v12
  have g34 : zq_ev rq (0, [(11, 1)]) = r 11 := zu_f1 v11
  exact ⟨_, List.mem_cons_self .., rq, hr, zq_MeS_mk rfl hT (zq_all_cons (by rw [g9]; exact c1) (zq_all_cons (by rw [g8]; exact c2) (zq_all_cons (by rw [g7]; exact c3) (zq_all_cons (by rw [g6]; exact c4) (zq_all_cons (by rw [g5]; exact c5) (zq_all_cons (by rw [g4]; exact c6) (zq_all_cons (by rw [g3]; exact c7) (zq_all_cons (by rw [g2]; exact c8) (zq_all_cons (by rw [g1]; exact c9) (zq_all_cons (by rw [g0]; exact c10) (zq_all_nil))))))))))) zq_fan (zu_fac (zu_stm g19 d1.1 d1.2.1 (by simp only [g20, g21]; exact d1.2.2)) (zu_fac (zu_stm g10 d2.1 d2.2.1 (by simp only [g17, g18]; exact d2.2.2)) (zu_fac (zu_stm g10 d3.1 d3.2.1 (by simp only [g15, g16]; exact d3.2.2)) (zu_fac (zu_stm g10 d4.1 d4.2.1 (by simp only [g13, g14]; exact d4.2.2)) (zu_fac (zu_stm g10 d5.1 d5.2.1 (by simp only [g11, g12]; exact d5.2.2)) (zq_fan)))))) rfl (zu_fac ((x_CB _ _ _).mpr (by show zd_CB (zq_ev rq (0, [(4, 1)])) (zq_ev rq (0, [(5, 1)])) (zq_ev rq (0, [(6, 1)])) (zq_ev rq (0, [(9, 1)])) (zq_ev rq (0, [(8, 1)])) (zq_ev rq (0, [(13, 1)])) (zq_ev rq (0, [(12, 1)])) (zq_ev rq (0, [(14, 1)])) (zq_ev rq (0, [(15, 1)])) (zq_ev rq (0, [(16, 1)])) (zq_ev rq (0, [(11, 1)])) (zq_ev rq (0, [(18, 1)])) P h; simp only [g14, g16, g18, g21, g24, g25, g26, g28, g29, g32, g33, g34]; exact t1)) (zu_fac ((x_CI _ _ _).mpr (by show zd_CI (zq_ev rq (0, [(4, 1)])) (zq_ev rq (0, [(5, 1)])) (zq_ev rq (0, [(6, 1)])) (zq_ev rq (0, [(9, 1)])) (zq_ev rq (0, [(8, 1)])) (zq_ev rq (0, [(17, 1)])) (zq_ev rq (0, [(18, 1)])) (zq_ev rq (0, [(19, 1)])) P h; simp only [g12, g24, g25, g26, g28, g29, g31, g32]; exact t2)) (zu_fac ((x_XO _ _ _).mpr (by show zr_XP 30 31 32 33 (zq_ev rq (0, [(0, 1)])) (zq_ev rq (0, [(1, 1)])) (zq_ev rq (0, [(2, 1)])) (zq_ev rq (0, [(3, 1)])) (zq_ev rq (0, [(4, 1)])) (zq_ev rq (0, [(5, 1)])) (zq_ev rq (0, [(6, 1)])) (zq_ev rq (0, [(7, 1)])) (zq_ev rq (0, [(8, 1)])) (zq_ev rq (0, [(9, 1)])) (zq_ev rq (1, [(10, 1)])) (zq_ev rq (0, [(19, 1)])) P h; simp only [g10, g19, g22, g23, g24, g25, g26, g27, g28, g29, g30, g31]; exact t3)) zq_fan)))⟩
noncomputable def zo_oC1 : zq_S × List zq_S := (([], [], [(0, [(13, 1)]), (6, [(1, -1)]), (6, [(2, -1)])], [], [], [], [(304, [(0, [(0, 1)]), (0, [(1, 1)]), (0, [(2, 1)]), (0, [(3, 1)]), (0, [(4, 1)]), (0, [(5, 1)]), (0, [(6, 1)]), (0, [(7, 1)]), (0, [(8, 1)]), (0, [(10, 1)]), (0, [(11, 1)]), (0, [(12, 1)]), (0, [(13, 1)]), (0, [(14, 1)]), (0, [(15, 1)]), (0, [(16, 1)])])], 17), [([], [], [], [], [], [], [(329, [(0, [(0, 1)]), (0, [(1, 1)]), (0, [(2, 1)]), (0, [(3, 1)]), (0, [(4, 1)]), (0, [(5, 1)]), (0, [(6, 1)]), (0, [(7, 1)]), (0, [(8, 1)]), (0, [(9, 1)]), (22, []), (0, [(10, 1)]), (0, [(11, 1)]), (0, [(12, 1)]), (1, []), (0, [(14, 1)]), (0, [(15, 1)]), (0, [(16, 1)]), (0, [(13, 1)])])], 17)])
theorem zo_oC1_l {P : zq_Ty} {h : zq_H} {S m e T f u M n Z L d w p r N i Y : Int} (a1 : 0 ≤ r) (a2 : 0 ≤ -m + 6) (a3 : 0 ≤ -e + 6) (k1 : zk_CM S m e T f u M n Z d w p r N i Y P h) : (zo_OOt S m e T f u M n Z L 22 d w p 1 N i Y r P h) := by
  have hr : 0 ≤ p ∧ p ≤ 3 ∧ 0 ≤ d ∧ d < e ∧ 0 ≤ w ∧ w < m := by
    rcases k1 with ⟨_, h, _⟩ | ⟨h1, h2, ⟨_, h, _⟩ | ⟨h3, h4, h5, h6, _⟩⟩
    · exfalso; omega
    · exfalso; omega
    · exact ⟨h1, h2, h3, h4, h5, h6⟩
  refine ⟨r, N, i, Y, r, Or.inr (Or.inr (Or.inr ⟨by decide, by decide, by decide, rfl, ?_⟩)), Or.inr ⟨by omega, rfl, rfl, rfl, rfl, rfl⟩⟩
  rw [zo_sm_i (v := d) (by omega) (by omega), zo_sm_i (v := w) (by omega) (by omega), zo_sm_i (v := p) (by omega) (by omega)]
  exact k1
theorem zo_oC1_ok {w : zq_Wd} (x_CM : zj_is w 304 (fun q => zk_CM (q 0) (q 1) (q 2) (q 3) (q 4) (q 5) (q 6) (q 7) (q 8) (q 9) (q 10) (q 11) (q 12) (q 13) (q 14) (q 15))) (x_OO : zj_is w 329 (fun q => zo_OOt (q 0) (q 1) (q 2) (q 3) (q 4) (q 5) (q 6) (q 7) (q 8) (q 9) (q 10) (q 11) (q 12) (q 13) (q 14) (q 15) (q 16) (q 17) (q 18))) : zq_okG1 w zo_oC1 := by
  refine ⟨rfl, rfl, zu_fac ⟨rfl, by decide⟩ zq_fan, ?_⟩
  intro r P h H hM
  have q0 : zq_ev r (0, [(13, 1)]) = r 13 := zu_e1 _ _
  have q1 : zq_ev r (6, [(1, -1)]) = -r 1 + 6 := zu_e5 _ _ _
  have q2 : zq_ev r (6, [(2, -1)]) = -r 2 + 6 := zu_e5 _ _ _
  have q3 : zq_ev r (0, [(0, 1)]) = r 0 := zu_e1 _ _
  have q4 : zq_ev r (0, [(1, 1)]) = r 1 := zu_e1 _ _
  have q5 : zq_ev r (0, [(2, 1)]) = r 2 := zu_e1 _ _
  have q6 : zq_ev r (0, [(3, 1)]) = r 3 := zu_e1 _ _
  have q7 : zq_ev r (0, [(4, 1)]) = r 4 := zu_e1 _ _
  have q8 : zq_ev r (0, [(5, 1)]) = r 5 := zu_e1 _ _
  have q9 : zq_ev r (0, [(6, 1)]) = r 6 := zu_e1 _ _
  have q10 : zq_ev r (0, [(7, 1)]) = r 7 := zu_e1 _ _
  have q11 : zq_ev r (0, [(8, 1)]) = r 8 := zu_e1 _ _
  have q12 : zq_ev r (0, [(10, 1)]) = r 10 := zu_e1 _ _
  have q13 : zq_ev r (0, [(11, 1)]) = r 11 := zu_e1 _ _
  have q14 : zq_ev r (0, [(12, 1)]) = r 12 := zu_e1 _ _
  have q15 : zq_ev r (0, [(14, 1)]) = r 14 := zu_e1 _ _
  have q16 : zq_ev r (0, [(15, 1)]) = r 15 := zu_e1 _ _
  have q17 : zq_ev r (0, [(16, 1)]) = r 16 := zu_e1 _ _
  obtain ⟨hT, hC, hF, hS, -, hK⟩ := hM
  have c := hC.1
  have a1 := zq_all_1 c
  rw [q0] at a1
  have c := zq_all_t c
  have a2 := zq_all_1 c
  rw [q1] at a2
  have c := zq_all_t c
  have a3 := zq_all_1 c
  rw [q2] at a3
  have k1 := zj_use x_CM (hK)
  have k1 : zk_CM (zq_ev r (0, [(0, 1)])) (zq_ev r (0, [(1, 1)])) (zq_ev r (0, [(2, 1)])) (zq_ev r (0, [(3, 1)])) (zq_ev r (0, [(4, 1)])) (zq_ev r (0, [(5, 1)])) (zq_ev r (0, [(6, 1)])) (zq_ev r (0, [(7, 1)])) (zq_ev r (0, [(8, 1)])) (zq_ev r (0, [(10, 1)])) (zq_ev r (0, [(11, 1)])) (zq_ev r (0, [(12, 1)])) (zq_ev r (0, [(13, 1)])) (zq_ev r (0, [(14, 1)])) (zq_ev r (0, [(15, 1)])) (zq_ev r (0, [(16, 1)])) P h := k1
  simp only [q0, q10, q11, q12, q13, q14, q15, q16, q17, q3, q4, q5, q6, q7, q8, q9] at k1
  obtain t1 := zo_oC1_l (P := P) (h := h) (S := r 0) (m := r 1) (e := r 2) (T := r 3) (f := r 4) (u := r 5) (M := r 6) (n := r 7) (Z := r 8) (L := r 9) (d := r 10) (w := r 11) (p := r 12) (r := r 13) (N := r 14) (i := r 15) (Y := r 16) a1 a2 a3 k1
  obtain ⟨rq, hr⟩ : ∃ rq : Nat → Int, (∀ i, i < 17 → rq i = r i) := ⟨r, fun i hi => rfl⟩
  have v0 : rq 0 = r 0 := hr 0 (by decide)
  have v1 : rq 1 = r 1 := hr 1 (by decide)
  have v2 : rq 2 = r 2 := hr 2 (by decide)
  have v3 : rq 3 = r 3 := hr 3 (by decide)
  have v4 : rq 4 = r 4 := hr 4 (by decide)
  have v5 : rq 5 = r 5 := hr 5 (by decide)
  have v6 : rq 6 = r 6 := hr 6 (by decide)
  have v7 : rq 7 = r 7 := hr 7 (by decide)
  have v8 : rq 8 = r 8 := hr 8 (by decide)
  have v9 : rq 9 = r 9 := hr 9 (by decide)
  have v10 : rq 10 = r 10 := hr 10 (by decide)
  have v11 : rq 11 = r 11 := hr 11 (by decide)
  have v12 : rq 12 = r 12 := hr 12 (by decide)
  have v13 : rq 13 = r 13 := hr 13 (by decide)
  have v14 : rq 14 = r 14 := hr 14 (by decide)
  have v15 : rq 15 = r 15 := hr 15 (by decide)
  have v16 : rq 16 = r 16 := hr 16 (by decide)
  have g0 : zq_ev rq (0, [(0, 1)]) = r 0 := zu_f1 v0
  have g1 : zq_ev rq (0, [(1, 1)]) = r 1 := zu_f1 v1
  have g2 : zq_ev rq (0, [(2, 1)]) = r 2 := zu_f1 v2
  have g3 : zq_ev rq (0, [(3, 1)]) = r 3 := zu_f1 v3
  have g4 : zq_ev rq (0, [(4, 1)]) = r 4 := zu_f1 v4
  have g5 : zq_ev rq (0, [(5, 1)]) = r 5 := zu_f1 v5
  have g6 : zq_ev rq (0, [(6, 1)]) = r 6 := zu_f1 v6
  have g7 : zq_ev rq (0, [(7, 1)]) = r 7 := zu_f1 v7
  have g8 : zq_ev rq (0, [(8, 1)]) = r 8 := zu_f1 v8
  have g9 : zq_ev rq (0, [(9, 1)]) = r 9 := zu_f1 v9
  have g10 : zq_ev rq (22, []) = 22 := zu_e0 _ _
  have g11 : zq_ev rq (0, [(10, 1)]) = r 10 := zu_f1 v10
  have g12 : zq_ev rq (0, [(11, 1)]) = r 11 := zu_f1 v11
  have g13 : zq_ev rq (0, [(12, 1)]) = r 12 := zu_f1 v12
  have g14 : zq_ev rq (1, []) = 1 := zu_e0 _ _
  have g15 : zq_ev rq (0, [(14, 1)]) = r 14 := zu_f1 v14
  have g16 : zq_ev rq (0, [(15, 1)]) = r 15 := zu_f1 v15
  have g17 : zq_ev rq (0, [(16, 1)]) = r 16 := zu_f1 v16
  have g18 : zq_ev rq (0, [(13, 1)]) = r 13 := zu_f1 v13
  exact ⟨_, List.mem_cons_self .., rq, hr, zq_MeS_mk rfl hT (zq_all_nil) zq_fan (zq_fan) rfl (zu_fac ((x_OO _ _ _).mpr (by show zo_OOt (zq_ev rq (0, [(0, 1)])) (zq_ev rq (0, [(1, 1)])) (zq_ev rq (0, [(2, 1)])) (zq_ev rq (0, [(3, 1)])) (zq_ev rq (0, [(4, 1)])) (zq_ev rq (0, [(5, 1)])) (zq_ev rq (0, [(6, 1)])) (zq_ev rq (0, [(7, 1)])) (zq_ev rq (0, [(8, 1)])) (zq_ev rq (0, [(9, 1)])) (zq_ev rq (22, [])) (zq_ev rq (0, [(10, 1)])) (zq_ev rq (0, [(11, 1)])) (zq_ev rq (0, [(12, 1)])) (zq_ev rq (1, [])) (zq_ev rq (0, [(14, 1)])) (zq_ev rq (0, [(15, 1)])) (zq_ev rq (0, [(16, 1)])) (zq_ev rq (0, [(13, 1)])) P h; simp only [g0, g1, g10, g11, g12, g13, g14, g15, g16, g17, g18, g2, g3, g4, g5, g6, g7, g8, g9]; exact t1)) zq_fan)⟩
noncomputable def zo_oC0 : zq_S × List zq_S := (([], [], [(-1, [(13, -1)]), (6, [(1, -1)]), (6, [(2, -1)])], [], [], [], [(304, [(0, [(0, 1)]), (0, [(1, 1)]), (0, [(2, 1)]), (0, [(3, 1)]), (0, [(4, 1)]), (0, [(5, 1)]), (0, [(6, 1)]), (0, [(7, 1)]), (0, [(8, 1)]), (0, [(10, 1)]), (0, [(11, 1)]), (0, [(12, 1)]), (0, [(13, 1)]), (0, [(14, 1)]), (0, [(15, 1)]), (0, [(16, 1)])])], 17), [([], [], [], [], [], [], [(329, [(0, [(0, 1)]), (0, [(1, 1)]), (0, [(2, 1)]), (0, [(3, 1)]), (0, [(4, 1)]), (0, [(5, 1)]), (0, [(6, 1)]), (0, [(7, 1)]), (0, [(8, 1)]), (0, [(9, 1)]), (22, []), (0, [(10, 1)]), (0, [(11, 1)]), (0, [(12, 1)]), (0, []), (0, []), (0, []), (0, []), (0, [])])], 17)])
theorem zo_oC0_l {P : zq_Ty} {h : zq_H} {S m e T f u M n Z L d w p r N i Y : Int} (a1 : 0 ≤ -r - 1) (a2 : 0 ≤ -m + 6) (a3 : 0 ≤ -e + 6) (k1 : zk_CM S m e T f u M n Z d w p r N i Y P h) : (zo_OOt S m e T f u M n Z L 22 d w p 0 0 0 0 0 P h) := by
  by_cases hp : 0 ≤ p ∧ p ≤ 3
  · by_cases hd : 0 ≤ d ∧ d < e ∧ 0 ≤ w ∧ w < m
    · refine ⟨r, N, i, Y, r, Or.inr (Or.inr (Or.inr ⟨by decide, by decide, by decide, rfl, ?_⟩)), Or.inl ⟨by omega, rfl, rfl, rfl, rfl, rfl⟩⟩
      rw [zo_sm_i (v := d) (by omega) (by omega), zo_sm_i (v := w) (by omega) (by omega), zo_sm_i (v := p) (by omega) (by omega)]
      exact k1
    · refine ⟨-2, M, n, Z, -2, Or.inr (Or.inr (Or.inr ⟨by decide, by decide, by decide, rfl, ?_⟩)), Or.inl ⟨by omega, rfl, rfl, rfl, rfl, rfl⟩⟩
      rw [zo_sm_i (v := p) (by omega) (by omega)]
      refine Or.inr ⟨hp.1, hp.2, Or.inl ⟨fun q => hd ?_, rfl, rfl, rfl, rfl⟩⟩
      rcases zo_sm_c d with ⟨c1, c2⟩ | ⟨c1, c2, c3⟩ <;> rcases zo_sm_c w with ⟨d1, d2⟩ | ⟨d1, d2, d3⟩ <;> omega
  · refine ⟨-1, M, n, Z, -1, Or.inr (Or.inr (Or.inr ⟨by decide, by decide, by decide, rfl, ?_⟩)), Or.inl ⟨by omega, rfl, rfl, rfl, rfl, rfl⟩⟩
    refine Or.inl ⟨fun q => hp ?_, rfl, rfl, rfl, rfl⟩
    rcases zo_sm_c p with ⟨c1, c2⟩ | ⟨c1, c2, c3⟩ <;> omega
theorem zo_oC0_ok {w : zq_Wd} (x_CM : zj_is w 304 (fun q => zk_CM (q 0) (q 1) (q 2) (q 3) (q 4) (q 5) (q 6) (q 7) (q 8) (q 9) (q 10) (q 11) (q 12) (q 13) (q 14) (q 15))) (x_OO : zj_is w 329 (fun q => zo_OOt (q 0) (q 1) (q 2) (q 3) (q 4) (q 5) (q 6) (q 7) (q 8) (q 9) (q 10) (q 11) (q 12) (q 13) (q 14) (q 15) (q 16) (q 17) (q 18))) : zq_okG1 w zo_oC0 := by
  refine ⟨rfl, rfl, zu_fac ⟨rfl, by decide⟩ zq_fan, ?_⟩
  intro r P h H hM
  have q0 : zq_ev r (-1, [(13, -1)]) = -r 13 - 1 := zu_e6 _ _ _
  have q1 : zq_ev r (6, [(1, -1)]) = -r 1 + 6 := zu_e5 _ _ _
  have q2 : zq_ev r (6, [(2, -1)]) = -r 2 + 6 := zu_e5 _ _ _
  have q3 : zq_ev r (0, [(0, 1)]) = r 0 := zu_e1 _ _
  have q4 : zq_ev r (0, [(1, 1)]) = r 1 := zu_e1 _ _
  have q5 : zq_ev r (0, [(2, 1)]) = r 2 := zu_e1 _ _
  have q6 : zq_ev r (0, [(3, 1)]) = r 3 := zu_e1 _ _
  have q7 : zq_ev r (0, [(4, 1)]) = r 4 := zu_e1 _ _
  have q8 : zq_ev r (0, [(5, 1)]) = r 5 := zu_e1 _ _
  have q9 : zq_ev r (0, [(6, 1)]) = r 6 := zu_e1 _ _
  have q10 : zq_ev r (0, [(7, 1)]) = r 7 := zu_e1 _ _
  have q11 : zq_ev r (0, [(8, 1)]) = r 8 := zu_e1 _ _
  have q12 : zq_ev r (0, [(10, 1)]) = r 10 := zu_e1 _ _
  have q13 : zq_ev r (0, [(11, 1)]) = r 11 := zu_e1 _ _
  have q14 : zq_ev r (0, [(12, 1)]) = r 12 := zu_e1 _ _
  have q15 : zq_ev r (0, [(13, 1)]) = r 13 := zu_e1 _ _
  have q16 : zq_ev r (0, [(14, 1)]) = r 14 := zu_e1 _ _
  have q17 : zq_ev r (0, [(15, 1)]) = r 15 := zu_e1 _ _
  have q18 : zq_ev r (0, [(16, 1)]) = r 16 := zu_e1 _ _
  obtain ⟨hT, hC, hF, hS, -, hK⟩ := hM
  have c := hC.1
  have a1 := zq_all_1 c
  rw [q0] at a1
  have c := zq_all_t c
  have a2 := zq_all_1 c
  rw [q1] at a2
  have c := zq_all_t c
  have a3 := zq_all_1 c
  rw [q2] at a3
  have k1 := zj_use x_CM (hK)
  have k1 : zk_CM (zq_ev r (0, [(0, 1)])) (zq_ev r (0, [(1, 1)])) (zq_ev r (0, [(2, 1)])) (zq_ev r (0, [(3, 1)])) (zq_ev r (0, [(4, 1)])) (zq_ev r (0, [(5, 1)])) (zq_ev r (0, [(6, 1)])) (zq_ev r (0, [(7, 1)])) (zq_ev r (0, [(8, 1)])) (zq_ev r (0, [(10, 1)])) (zq_ev r (0, [(11, 1)])) (zq_ev r (0, [(12, 1)])) (zq_ev r (0, [(13, 1)])) (zq_ev r (0, [(14, 1)])) (zq_ev r (0, [(15, 1)])) (zq_ev r (0, [(16, 1)])) P h := k1
  simp only [q10, q11, q12, q13, q14, q15, q16, q17, q18, q3, q4, q5, q6, q7, q8, q9] at k1
  obtain t1 := zo_oC0_l (P := P) (h := h) (S := r 0) (m := r 1) (e := r 2) (T := r 3) (f := r 4) (u := r 5) (M := r 6) (n := r 7) (Z := r 8) (L := r 9) (d := r 10) (w := r 11) (p := r 12) (r := r 13) (N := r 14) (i := r 15) (Y := r 16) a1 a2 a3 k1
  obtain ⟨rq, hr⟩ : ∃ rq : Nat → Int, (∀ i, i < 17 → rq i = r i) := ⟨r, fun i hi => rfl⟩
  have v0 : rq 0 = r 0 := hr 0 (by decide)
  have v1 : rq 1 = r 1 := hr 1 (by decide)
  have v2 : rq 2 = r 2 := hr 2 (by decide)
  have v3 : rq 3 = r 3 := hr 3 (by decide)
  have v4 : rq 4 = r 4 := hr 4 (by decide)
  have v5 : rq 5 = r 5 := hr 5 (by decide)
  have v6 : rq 6 = r 6 := hr 6 (by decide)
  have v7 : rq 7 = r 7 := hr 7 (by decide)
  have v8 : rq 8 = r 8 := hr 8 (by decide)
  have v9 : rq 9 = r 9 := hr 9 (by decide)
  have v10 : rq 10 = r 10 := hr 10 (by decide)
  have v11 : rq 11 = r 11 := hr 11 (by decide)
  have v12 : rq 12 = r 12 := hr 12 (by decide)
  have g0 : zq_ev rq (0, [(0, 1)]) = r 0 := zu_f1 v0
  have g1 : zq_ev rq (0, [(1, 1)]) = r 1 := zu_f1 v1
  have g2 : zq_ev rq (0, [(2, 1)]) = r 2 := zu_f1 v2
  have g3 : zq_ev rq (0, [(3, 1)]) = r 3 := zu_f1 v3
  have g4 : zq_ev rq (0, [(4, 1)]) = r 4 := zu_f1 v4
  have g5 : zq_ev rq (0, [(5, 1)]) = r 5 := zu_f1 v5
  have g6 : zq_ev rq (0, [(6, 1)]) = r 6 := zu_f1 v6
  have g7 : zq_ev rq (0, [(7, 1)]) = r 7 := zu_f1 v7
  have g8 : zq_ev rq (0, [(8, 1)]) = r 8 := zu_f1 v8
  have g9 : zq_ev rq (0, [(9, 1)]) = r 9 := zu_f1 v9
  have g10 : zq_ev rq (22, []) = 22 := zu_e0 _ _
  have g11 : zq_ev rq (0, [(10, 1)]) = r 10 := zu_f1 v10
  have g12 : zq_ev rq (0, [(11, 1)]) = r 11 := zu_f1 v11
  have g13 : zq_ev rq (0, [(12, 1)]) = r 12 := zu_f1 v12
  have g14 : zq_ev rq (0, []) = 0 := zu_e0 _ _
  exact ⟨_, List.mem_cons_self .., rq, hr, zq_MeS_mk rfl hT (zq_all_nil) zq_fan (zq_fan) rfl (zu_fac ((x_OO _ _ _).mpr (by show zo_OOt (zq_ev rq (0, [(0, 1)])) (zq_ev rq (0, [(1, 1)])) (zq_ev rq (0, [(2, 1)])) (zq_ev rq (0, [(3, 1)])) (zq_ev rq (0, [(4, 1)])) (zq_ev rq (0, [(5, 1)])) (zq_ev rq (0, [(6, 1)])) (zq_ev rq (0, [(7, 1)])) (zq_ev rq (0, [(8, 1)])) (zq_ev rq (0, [(9, 1)])) (zq_ev rq (22, [])) (zq_ev rq (0, [(10, 1)])) (zq_ev rq (0, [(11, 1)])) (zq_ev rq (0, [(12, 1)])) (zq_ev rq (0, [])) (zq_ev rq (0, [])) (zq_ev rq (0, [])) (zq_ev rq (0, [])) (zq_ev rq (0, [])) P h; simp only [g0, g1, g10, g11, g12, g13, g14, g2, g3, g4, g5, g6, g7, g8, g9]; exact t1)) zq_fan)⟩
noncomputable def zo_oY1 : zq_S × List zq_S := (([], [], [(0, [(12, 1)]), (6, [(1, -1)])], [], [], [], [(303, [(0, [(1, 1)]), (0, [(6, 1)]), (0, [(7, 1)]), (0, [(8, 1)]), (0, [(10, 1)]), (0, [(11, 1)]), (1, []), (0, [(12, 1)]), (0, [(13, 1)]), (0, [(14, 1)]), (0, [(15, 1)])])], 16), [([], [], [], [], [], [], [(329, [(0, [(0, 1)]), (0, [(1, 1)]), (0, [(2, 1)]), (0, [(3, 1)]), (0, [(4, 1)]), (0, [(5, 1)]), (0, [(6, 1)]), (0, [(7, 1)]), (0, [(8, 1)]), (0, [(9, 1)]), (25, []), (0, [(10, 1)]), (0, [(11, 1)]), (0, []), (1, []), (0, [(13, 1)]), (0, [(14, 1)]), (0, [(15, 1)]), (0, [(9, 1)])])], 16)])
theorem zo_oY1_l {P : zq_Ty} {h : zq_H} {S m e T f u M n Z L a b r N i Y : Int} (a1 : 0 ≤ r) (a2 : 0 ≤ -m + 6) (k1 : zk_PY m M n Z a b 1 r N i Y P h) : (zo_OOt S m e T f u M n Z L 25 a b 0 1 N i Y L P h) := by
  have hr : 0 ≤ a ∧ a < m ∧ 0 ≤ b ∧ b < m := by
    rcases k1 with ⟨_, h, _⟩ | ⟨_, _, _, ⟨_, h, _⟩ | ⟨h1, h2, h3, h4, _⟩⟩
    · exfalso; omega
    · exfalso; omega
    · exact ⟨h1, h2, h3, h4⟩
  refine ⟨r, N, i, Y, L, Or.inr (Or.inr (Or.inl ⟨rfl, rfl, ?_⟩)), Or.inr ⟨by omega, rfl, rfl, rfl, rfl, rfl⟩⟩
  rw [zo_sm_i (v := a) (by omega) (by omega), zo_sm_i (v := b) (by omega) (by omega)]
  exact k1
theorem zo_oY1_ok {w : zq_Wd} (x_PY : zj_is w 303 (fun q => zk_PY (q 0) (q 1) (q 2) (q 3) (q 4) (q 5) (q 6) (q 7) (q 8) (q 9) (q 10))) (x_OO : zj_is w 329 (fun q => zo_OOt (q 0) (q 1) (q 2) (q 3) (q 4) (q 5) (q 6) (q 7) (q 8) (q 9) (q 10) (q 11) (q 12) (q 13) (q 14) (q 15) (q 16) (q 17) (q 18))) : zq_okG1 w zo_oY1 := by
  refine ⟨rfl, rfl, zu_fac ⟨rfl, by decide⟩ zq_fan, ?_⟩
  intro r P h H hM
  have q0 : zq_ev r (0, [(12, 1)]) = r 12 := zu_e1 _ _
  have q1 : zq_ev r (6, [(1, -1)]) = -r 1 + 6 := zu_e5 _ _ _
  have q2 : zq_ev r (0, [(1, 1)]) = r 1 := zu_e1 _ _
  have q3 : zq_ev r (0, [(6, 1)]) = r 6 := zu_e1 _ _
  have q4 : zq_ev r (0, [(7, 1)]) = r 7 := zu_e1 _ _
  have q5 : zq_ev r (0, [(8, 1)]) = r 8 := zu_e1 _ _
  have q6 : zq_ev r (0, [(10, 1)]) = r 10 := zu_e1 _ _
  have q7 : zq_ev r (0, [(11, 1)]) = r 11 := zu_e1 _ _
  have q8 : zq_ev r (1, []) = 1 := zu_e0 _ _
  have q9 : zq_ev r (0, [(13, 1)]) = r 13 := zu_e1 _ _
  have q10 : zq_ev r (0, [(14, 1)]) = r 14 := zu_e1 _ _
  have q11 : zq_ev r (0, [(15, 1)]) = r 15 := zu_e1 _ _
  obtain ⟨hT, hC, hF, hS, -, hK⟩ := hM
  have c := hC.1
  have a1 := zq_all_1 c
  rw [q0] at a1
  have c := zq_all_t c
  have a2 := zq_all_1 c
  rw [q1] at a2
  have k1 := zj_use x_PY (hK)
  have k1 : zk_PY (zq_ev r (0, [(1, 1)])) (zq_ev r (0, [(6, 1)])) (zq_ev r (0, [(7, 1)])) (zq_ev r (0, [(8, 1)])) (zq_ev r (0, [(10, 1)])) (zq_ev r (0, [(11, 1)])) (zq_ev r (1, [])) (zq_ev r (0, [(12, 1)])) (zq_ev r (0, [(13, 1)])) (zq_ev r (0, [(14, 1)])) (zq_ev r (0, [(15, 1)])) P h := k1
  simp only [q0, q10, q11, q2, q3, q4, q5, q6, q7, q8, q9] at k1
  obtain t1 := zo_oY1_l (P := P) (h := h) (S := r 0) (m := r 1) (e := r 2) (T := r 3) (f := r 4) (u := r 5) (M := r 6) (n := r 7) (Z := r 8) (L := r 9) (a := r 10) (b := r 11) (r := r 12) (N := r 13) (i := r 14) (Y := r 15) a1 a2 k1
  obtain ⟨rq, hr⟩ : ∃ rq : Nat → Int, (∀ i, i < 16 → rq i = r i) := ⟨r, fun i hi => rfl⟩
  have v0 : rq 0 = r 0 := hr 0 (by decide)
  have v1 : rq 1 = r 1 := hr 1 (by decide)
  have v2 : rq 2 = r 2 := hr 2 (by decide)
  have v3 : rq 3 = r 3 := hr 3 (by decide)
  have v4 : rq 4 = r 4 := hr 4 (by decide)
  have v5 : rq 5 = r 5 := hr 5 (by decide)
  have v6 : rq 6 = r 6 := hr 6 (by decide)
  have v7 : rq 7 = r 7 := hr 7 (by decide)
  have v8 : rq 8 = r 8 := hr 8 (by decide)
  have v9 : rq 9 = r 9 := hr 9 (by decide)
  have v10 : rq 10 = r 10 := hr 10 (by decide)
  have v11 : rq 11 = r 11 := hr 11 (by decide)
  have v13 : rq 13 = r 13 := hr 13 (by decide)
  have v14 : rq 14 = r 14 := hr 14 (by decide)
  have v15 : rq 15 = r 15 := hr 15 (by decide)
  have g0 : zq_ev rq (0, [(0, 1)]) = r 0 := zu_f1 v0
  have g1 : zq_ev rq (0, [(1, 1)]) = r 1 := zu_f1 v1
  have g2 : zq_ev rq (0, [(2, 1)]) = r 2 := zu_f1 v2
  have g3 : zq_ev rq (0, [(3, 1)]) = r 3 := zu_f1 v3
  have g4 : zq_ev rq (0, [(4, 1)]) = r 4 := zu_f1 v4
  have g5 : zq_ev rq (0, [(5, 1)]) = r 5 := zu_f1 v5
  have g6 : zq_ev rq (0, [(6, 1)]) = r 6 := zu_f1 v6
  have g7 : zq_ev rq (0, [(7, 1)]) = r 7 := zu_f1 v7
  have g8 : zq_ev rq (0, [(8, 1)]) = r 8 := zu_f1 v8
  have g9 : zq_ev rq (0, [(9, 1)]) = r 9 := zu_f1 v9
  have g10 : zq_ev rq (25, []) = 25 := zu_e0 _ _
  have g11 : zq_ev rq (0, [(10, 1)]) = r 10 := zu_f1 v10
  have g12 : zq_ev rq (0, [(11, 1)]) = r 11 := zu_f1 v11
  have g13 : zq_ev rq (0, []) = 0 := zu_e0 _ _
  have g14 : zq_ev rq (1, []) = 1 := zu_e0 _ _
  have g15 : zq_ev rq (0, [(13, 1)]) = r 13 := zu_f1 v13
  have g16 : zq_ev rq (0, [(14, 1)]) = r 14 := zu_f1 v14
  have g17 : zq_ev rq (0, [(15, 1)]) = r 15 := zu_f1 v15
  exact ⟨_, List.mem_cons_self .., rq, hr, zq_MeS_mk rfl hT (zq_all_nil) zq_fan (zq_fan) rfl (zu_fac ((x_OO _ _ _).mpr (by show zo_OOt (zq_ev rq (0, [(0, 1)])) (zq_ev rq (0, [(1, 1)])) (zq_ev rq (0, [(2, 1)])) (zq_ev rq (0, [(3, 1)])) (zq_ev rq (0, [(4, 1)])) (zq_ev rq (0, [(5, 1)])) (zq_ev rq (0, [(6, 1)])) (zq_ev rq (0, [(7, 1)])) (zq_ev rq (0, [(8, 1)])) (zq_ev rq (0, [(9, 1)])) (zq_ev rq (25, [])) (zq_ev rq (0, [(10, 1)])) (zq_ev rq (0, [(11, 1)])) (zq_ev rq (0, [])) (zq_ev rq (1, [])) (zq_ev rq (0, [(13, 1)])) (zq_ev rq (0, [(14, 1)])) (zq_ev rq (0, [(15, 1)])) (zq_ev rq (0, [(9, 1)])) P h; simp only [g0, g1, g10, g11, g12, g13, g14, g15, g16, g17, g2, g3, g4, g5, g6, g7, g8, g9]; exact t1)) zq_fan)⟩
noncomputable def zo_oY0 : zq_S × List zq_S := (([], [], [(-1, [(12, -1)]), (6, [(1, -1)])], [], [], [], [(303, [(0, [(1, 1)]), (0, [(6, 1)]), (0, [(7, 1)]), (0, [(8, 1)]), (0, [(10, 1)]), (0, [(11, 1)]), (1, []), (0, [(12, 1)]), (0, [(13, 1)]), (0, [(14, 1)]), (0, [(15, 1)])])], 16), [([], [], [], [], [], [], [(329, [(0, [(0, 1)]), (0, [(1, 1)]), (0, [(2, 1)]), (0, [(3, 1)]), (0, [(4, 1)]), (0, [(5, 1)]), (0, [(6, 1)]), (0, [(7, 1)]), (0, [(8, 1)]), (0, [(9, 1)]), (25, []), (0, [(10, 1)]), (0, [(11, 1)]), (0, []), (0, []), (0, []), (0, []), (0, []), (0, [])])], 16)])
theorem zo_oY0_l {P : zq_Ty} {h : zq_H} {S m e T f u M n Z L a b r N i Y : Int} (a1 : 0 ≤ -r - 1) (a2 : 0 ≤ -m + 6) (k1 : zk_PY m M n Z a b 1 r N i Y P h) : (zo_OOt S m e T f u M n Z L 25 a b 0 0 0 0 0 0 P h) := by
  by_cases hd : 0 ≤ a ∧ a < m ∧ 0 ≤ b ∧ b < m
  · refine ⟨r, N, i, Y, L, Or.inr (Or.inr (Or.inl ⟨rfl, rfl, ?_⟩)), Or.inl ⟨by omega, rfl, rfl, rfl, rfl, rfl⟩⟩
    rw [zo_sm_i (v := a) (by omega) (by omega), zo_sm_i (v := b) (by omega) (by omega)]
    exact k1
  by_cases he : zo_sm a = zo_sm b
  · refine ⟨-1, M, n, Z, L, Or.inr (Or.inr (Or.inl ⟨rfl, rfl, ?_⟩)), Or.inl ⟨by omega, rfl, rfl, rfl, rfl, rfl⟩⟩
    exact Or.inl ⟨Or.inr he, rfl, rfl, rfl, rfl⟩
  · refine ⟨-2, M, n, Z, L, Or.inr (Or.inr (Or.inl ⟨rfl, rfl, ?_⟩)), Or.inl ⟨by omega, rfl, rfl, rfl, rfl, rfl⟩⟩
    refine Or.inr ⟨by decide, by decide, he, Or.inl ⟨fun q => hd ?_, rfl, rfl, rfl, rfl⟩⟩
    rcases zo_sm_c a with ⟨c1, c2⟩ | ⟨c1, c2, c3⟩ <;> rcases zo_sm_c b with ⟨d1, d2⟩ | ⟨d1, d2, d3⟩ <;> omega
theorem zo_oY0_ok {w : zq_Wd} (x_PY : zj_is w 303 (fun q => zk_PY (q 0) (q 1) (q 2) (q 3) (q 4) (q 5) (q 6) (q 7) (q 8) (q 9) (q 10))) (x_OO : zj_is w 329 (fun q => zo_OOt (q 0) (q 1) (q 2) (q 3) (q 4) (q 5) (q 6) (q 7) (q 8) (q 9) (q 10) (q 11) (q 12) (q 13) (q 14) (q 15) (q 16) (q 17) (q 18))) : zq_okG1 w zo_oY0 := by
  refine ⟨rfl, rfl, zu_fac ⟨rfl, by decide⟩ zq_fan, ?_⟩
  intro r P h H hM
  have q0 : zq_ev r (-1, [(12, -1)]) = -r 12 - 1 := zu_e6 _ _ _
  have q1 : zq_ev r (6, [(1, -1)]) = -r 1 + 6 := zu_e5 _ _ _
  have q2 : zq_ev r (0, [(1, 1)]) = r 1 := zu_e1 _ _
  have q3 : zq_ev r (0, [(6, 1)]) = r 6 := zu_e1 _ _
  have q4 : zq_ev r (0, [(7, 1)]) = r 7 := zu_e1 _ _
  have q5 : zq_ev r (0, [(8, 1)]) = r 8 := zu_e1 _ _
  have q6 : zq_ev r (0, [(10, 1)]) = r 10 := zu_e1 _ _
  have q7 : zq_ev r (0, [(11, 1)]) = r 11 := zu_e1 _ _
  have q8 : zq_ev r (1, []) = 1 := zu_e0 _ _
  have q9 : zq_ev r (0, [(12, 1)]) = r 12 := zu_e1 _ _
  have q10 : zq_ev r (0, [(13, 1)]) = r 13 := zu_e1 _ _
  have q11 : zq_ev r (0, [(14, 1)]) = r 14 := zu_e1 _ _
  have q12 : zq_ev r (0, [(15, 1)]) = r 15 := zu_e1 _ _
  obtain ⟨hT, hC, hF, hS, -, hK⟩ := hM
  have c := hC.1
  have a1 := zq_all_1 c
  rw [q0] at a1
  have c := zq_all_t c
  have a2 := zq_all_1 c
  rw [q1] at a2
  have k1 := zj_use x_PY (hK)
  have k1 : zk_PY (zq_ev r (0, [(1, 1)])) (zq_ev r (0, [(6, 1)])) (zq_ev r (0, [(7, 1)])) (zq_ev r (0, [(8, 1)])) (zq_ev r (0, [(10, 1)])) (zq_ev r (0, [(11, 1)])) (zq_ev r (1, [])) (zq_ev r (0, [(12, 1)])) (zq_ev r (0, [(13, 1)])) (zq_ev r (0, [(14, 1)])) (zq_ev r (0, [(15, 1)])) P h := k1
  simp only [q10, q11, q12, q2, q3, q4, q5, q6, q7, q8, q9] at k1
  obtain t1 := zo_oY0_l (P := P) (h := h) (S := r 0) (m := r 1) (e := r 2) (T := r 3) (f := r 4) (u := r 5) (M := r 6) (n := r 7) (Z := r 8) (L := r 9) (a := r 10) (b := r 11) (r := r 12) (N := r 13) (i := r 14) (Y := r 15) a1 a2 k1
  obtain ⟨rq, hr⟩ : ∃ rq : Nat → Int, (∀ i, i < 16 → rq i = r i) := ⟨r, fun i hi => rfl⟩
  have v0 : rq 0 = r 0 := hr 0 (by decide)
  have v1 : rq 1 = r 1 := hr 1 (by decide)
  have v2 : rq 2 = r 2 := hr 2 (by decide)
  have v3 : rq 3 = r 3 := hr 3 (by decide)
  have v4 : rq 4 = r 4 := hr 4 (by decide)
  have v5 : rq 5 = r 5 := hr 5 (by decide)
  have v6 : rq 6 = r 6 := hr 6 (by decide)
  have v7 : rq 7 = r 7 := hr 7 (by decide)
  have v8 : rq 8 = r 8 := hr 8 (by decide)
  have v9 : rq 9 = r 9 := hr 9 (by decide)
  have v10 : rq 10 = r 10 := hr 10 (by decide)
  have v11 : rq 11 = r 11 := hr 11 (by decide)
  have g0 : zq_ev rq (0, [(0, 1)]) = r 0 := zu_f1 v0
  have g1 : zq_ev rq (0, [(1, 1)]) = r 1 := zu_f1 v1
  have g2 : zq_ev rq (0, [(2, 1)]) = r 2 := zu_f1 v2
  have g3 : zq_ev rq (0, [(3, 1)]) = r 3 := zu_f1 v3
  have g4 : zq_ev rq (0, [(4, 1)]) = r 4 := zu_f1 v4
  have g5 : zq_ev rq (0, [(5, 1)]) = r 5 := zu_f1 v5
  have g6 : zq_ev rq (0, [(6, 1)]) = r 6 := zu_f1 v6
  have g7 : zq_ev rq (0, [(7, 1)]) = r 7 := zu_f1 v7
  have g8 : zq_ev rq (0, [(8, 1)]) = r 8 := zu_f1 v8
  have g9 : zq_ev rq (0, [(9, 1)]) = r 9 := zu_f1 v9
  have g10 : zq_ev rq (25, []) = 25 := zu_e0 _ _
  have g11 : zq_ev rq (0, [(10, 1)]) = r 10 := zu_f1 v10
  have g12 : zq_ev rq (0, [(11, 1)]) = r 11 := zu_f1 v11
  have g13 : zq_ev rq (0, []) = 0 := zu_e0 _ _
  exact ⟨_, List.mem_cons_self .., rq, hr, zq_MeS_mk rfl hT (zq_all_nil) zq_fan (zq_fan) rfl (zu_fac ((x_OO _ _ _).mpr (by show zo_OOt (zq_ev rq (0, [(0, 1)])) (zq_ev rq (0, [(1, 1)])) (zq_ev rq (0, [(2, 1)])) (zq_ev rq (0, [(3, 1)])) (zq_ev rq (0, [(4, 1)])) (zq_ev rq (0, [(5, 1)])) (zq_ev rq (0, [(6, 1)])) (zq_ev rq (0, [(7, 1)])) (zq_ev rq (0, [(8, 1)])) (zq_ev rq (0, [(9, 1)])) (zq_ev rq (25, [])) (zq_ev rq (0, [(10, 1)])) (zq_ev rq (0, [(11, 1)])) (zq_ev rq (0, [])) (zq_ev rq (0, [])) (zq_ev rq (0, [])) (zq_ev rq (0, [])) (zq_ev rq (0, [])) (zq_ev rq (0, [])) P h; simp only [g0, g1, g10, g11, g12, g13, g2, g3, g4, g5, g6, g7, g8, g9]; exact t1)) zq_fan)⟩
noncomputable def zo_oW1 : zq_S × List zq_S := (([], [], [(0, [(12, 1)]), (0, [(10, 1)]), (3, [(10, -1)]), (0, [(11, 1)]), (6, [(11, -1)]), (1, [(11, -1), (16, 1), (17, -7)]), (-1, [(11, 1), (16, -1), (17, 7)])], [], [], [], [(301, [(0, [(6, 1)]), (0, [(7, 1)]), (0, [(8, 1)]), (0, [(10, 1)]), (0, [(11, 1)]), (0, [(12, 1)]), (0, [(13, 1)]), (0, [(14, 1)]), (0, [(15, 1)])]), (134, [(0, [(6, 1)]), (6, [(10, 1)]), (0, [(16, 1)])])], 18), [([], [], [], [], [], [], [(329, [(0, [(0, 1)]), (0, [(1, 1)]), (0, [(2, 1)]), (0, [(3, 1)]), (0, [(4, 1)]), (0, [(5, 1)]), (0, [(6, 1)]), (0, [(7, 1)]), (0, [(8, 1)]), (0, [(9, 1)]), (27, []), (0, [(10, 1)]), (0, []), (0, []), (1, []), (0, [(13, 1)]), (0, [(14, 1)]), (0, [(15, 1)]), (0, [(9, 1)])])], 18)])
theorem zo_oW1_l {P : zq_Ty} {h : zq_H} {S m e T f u M n Z L q c r N i Y v k : Int} (a1 : 0 ≤ r) (a2 : 0 ≤ q) (a3 : 0 ≤ -q + 3) (a4 : 0 ≤ c) (a5 : 0 ≤ -c + 6) (a6 : 0 ≤ -c + v - 7 * k + 1) (a7 : 0 ≤ c - v + 7 * k - 1) (k1 : zk_WN M n Z q c r N i Y P h) (k2 : zn_DG M (q + 6) v P h) : (zo_OOt S m e T f u M n Z L 27 q 0 0 1 N i Y L P h) := by
  refine ⟨r, N, i, Y, L, Or.inr (Or.inl ⟨rfl, rfl, ?_⟩), Or.inr ⟨by omega, rfl, rfl, rfl, rfl, rfl⟩⟩
  have k2 : v = zn_dg M (q + 6) := k2
  rw [zo_sm_i (v := q) (by omega) (by omega), if_pos (by omega), show 6 + q = q + 6 by omega, ← k2, show (v + 1) % 7 = c by omega]
  exact k1
theorem zo_oW1_ok {w : zq_Wd} (x_WN : zj_is w 301 (fun q => zk_WN (q 0) (q 1) (q 2) (q 3) (q 4) (q 5) (q 6) (q 7) (q 8))) (x_DG : zj_is w 134 (fun q => zn_DG (q 0) (q 1) (q 2))) (x_OO : zj_is w 329 (fun q => zo_OOt (q 0) (q 1) (q 2) (q 3) (q 4) (q 5) (q 6) (q 7) (q 8) (q 9) (q 10) (q 11) (q 12) (q 13) (q 14) (q 15) (q 16) (q 17) (q 18))) : zq_okG1 w zo_oW1 := by
  refine ⟨rfl, rfl, zu_fac ⟨rfl, by decide⟩ zq_fan, ?_⟩
  intro r P h H hM
  have q0 : zq_ev r (0, [(12, 1)]) = r 12 := zu_e1 _ _
  have q1 : zq_ev r (0, [(10, 1)]) = r 10 := zu_e1 _ _
  have q2 : zq_ev r (3, [(10, -1)]) = -r 10 + 3 := zu_e5 _ _ _
  have q3 : zq_ev r (0, [(11, 1)]) = r 11 := zu_e1 _ _
  have q4 : zq_ev r (6, [(11, -1)]) = -r 11 + 6 := zu_e5 _ _ _
  have q5 : zq_ev r (1, [(11, -1), (16, 1), (17, -7)]) = -r 11 + r 16 - 7 * r 17 + 1 := by simp only [zq_ev, zq_ts] <;> omega
  have q6 : zq_ev r (-1, [(11, 1), (16, -1), (17, 7)]) = r 11 - r 16 + 7 * r 17 - 1 := by simp only [zq_ev, zq_ts] <;> omega
  have q7 : zq_ev r (0, [(6, 1)]) = r 6 := zu_e1 _ _
  have q8 : zq_ev r (0, [(7, 1)]) = r 7 := zu_e1 _ _
  have q9 : zq_ev r (0, [(8, 1)]) = r 8 := zu_e1 _ _
  have q10 : zq_ev r (0, [(13, 1)]) = r 13 := zu_e1 _ _
  have q11 : zq_ev r (0, [(14, 1)]) = r 14 := zu_e1 _ _
  have q12 : zq_ev r (0, [(15, 1)]) = r 15 := zu_e1 _ _
  have q13 : zq_ev r (6, [(10, 1)]) = r 10 + 6 := zu_e2 _ _ _
  have q14 : zq_ev r (0, [(16, 1)]) = r 16 := zu_e1 _ _
  obtain ⟨hT, hC, hF, hS, -, hK⟩ := hM
  have c := hC.1
  have a1 := zq_all_1 c
  rw [q0] at a1
  have c := zq_all_t c
  have a2 := zq_all_1 c
  rw [q1] at a2
  have c := zq_all_t c
  have a3 := zq_all_1 c
  rw [q2] at a3
  have c := zq_all_t c
  have a4 := zq_all_1 c
  rw [q3] at a4
  have c := zq_all_t c
  have a5 := zq_all_1 c
  rw [q4] at a5
  have c := zq_all_t c
  have a6 := zq_all_1 c
  rw [q5] at a6
  have c := zq_all_t c
  have a7 := zq_all_1 c
  rw [q6] at a7
  have k1 := zj_use x_WN (hK)
  have k1 : zk_WN (zq_ev r (0, [(6, 1)])) (zq_ev r (0, [(7, 1)])) (zq_ev r (0, [(8, 1)])) (zq_ev r (0, [(10, 1)])) (zq_ev r (0, [(11, 1)])) (zq_ev r (0, [(12, 1)])) (zq_ev r (0, [(13, 1)])) (zq_ev r (0, [(14, 1)])) (zq_ev r (0, [(15, 1)])) P h := k1
  simp only [q0, q1, q10, q11, q12, q3, q7, q8, q9] at k1
  have k2 := zj_use x_DG (zq_okX_t (hK))
  have k2 : zn_DG (zq_ev r (0, [(6, 1)])) (zq_ev r (6, [(10, 1)])) (zq_ev r (0, [(16, 1)])) P h := k2
  simp only [q13, q14, q7] at k2
  obtain t1 := zo_oW1_l (P := P) (h := h) (S := r 0) (m := r 1) (e := r 2) (T := r 3) (f := r 4) (u := r 5) (M := r 6) (n := r 7) (Z := r 8) (L := r 9) (q := r 10) (c := r 11) (r := r 12) (N := r 13) (i := r 14) (Y := r 15) (v := r 16) (k := r 17) a1 a2 a3 a4 a5 a6 a7 k1 k2
  obtain ⟨rq, hr⟩ : ∃ rq : Nat → Int, (∀ i, i < 18 → rq i = r i) := ⟨r, fun i hi => rfl⟩
  have v0 : rq 0 = r 0 := hr 0 (by decide)
  have v1 : rq 1 = r 1 := hr 1 (by decide)
  have v2 : rq 2 = r 2 := hr 2 (by decide)
  have v3 : rq 3 = r 3 := hr 3 (by decide)
  have v4 : rq 4 = r 4 := hr 4 (by decide)
  have v5 : rq 5 = r 5 := hr 5 (by decide)
  have v6 : rq 6 = r 6 := hr 6 (by decide)
  have v7 : rq 7 = r 7 := hr 7 (by decide)
  have v8 : rq 8 = r 8 := hr 8 (by decide)
  have v9 : rq 9 = r 9 := hr 9 (by decide)
  have v10 : rq 10 = r 10 := hr 10 (by decide)
  have v13 : rq 13 = r 13 := hr 13 (by decide)
  have v14 : rq 14 = r 14 := hr 14 (by decide)
  have v15 : rq 15 = r 15 := hr 15 (by decide)
  have g0 : zq_ev rq (0, [(0, 1)]) = r 0 := zu_f1 v0
  have g1 : zq_ev rq (0, [(1, 1)]) = r 1 := zu_f1 v1
  have g2 : zq_ev rq (0, [(2, 1)]) = r 2 := zu_f1 v2
  have g3 : zq_ev rq (0, [(3, 1)]) = r 3 := zu_f1 v3
  have g4 : zq_ev rq (0, [(4, 1)]) = r 4 := zu_f1 v4
  have g5 : zq_ev rq (0, [(5, 1)]) = r 5 := zu_f1 v5
  have g6 : zq_ev rq (0, [(6, 1)]) = r 6 := zu_f1 v6
  have g7 : zq_ev rq (0, [(7, 1)]) = r 7 := zu_f1 v7
  have g8 : zq_ev rq (0, [(8, 1)]) = r 8 := zu_f1 v8
  have g9 : zq_ev rq (0, [(9, 1)]) = r 9 := zu_f1 v9
  have g10 : zq_ev rq (27, []) = 27 := zu_e0 _ _
  have g11 : zq_ev rq (0, [(10, 1)]) = r 10 := zu_f1 v10
  have g12 : zq_ev rq (0, []) = 0 := zu_e0 _ _
  have g13 : zq_ev rq (1, []) = 1 := zu_e0 _ _
  have g14 : zq_ev rq (0, [(13, 1)]) = r 13 := zu_f1 v13
  have g15 : zq_ev rq (0, [(14, 1)]) = r 14 := zu_f1 v14
  have g16 : zq_ev rq (0, [(15, 1)]) = r 15 := zu_f1 v15
  exact ⟨_, List.mem_cons_self .., rq, hr, zq_MeS_mk rfl hT (zq_all_nil) zq_fan (zq_fan) rfl (zu_fac ((x_OO _ _ _).mpr (by show zo_OOt (zq_ev rq (0, [(0, 1)])) (zq_ev rq (0, [(1, 1)])) (zq_ev rq (0, [(2, 1)])) (zq_ev rq (0, [(3, 1)])) (zq_ev rq (0, [(4, 1)])) (zq_ev rq (0, [(5, 1)])) (zq_ev rq (0, [(6, 1)])) (zq_ev rq (0, [(7, 1)])) (zq_ev rq (0, [(8, 1)])) (zq_ev rq (0, [(9, 1)])) (zq_ev rq (27, [])) (zq_ev rq (0, [(10, 1)])) (zq_ev rq (0, [])) (zq_ev rq (0, [])) (zq_ev rq (1, [])) (zq_ev rq (0, [(13, 1)])) (zq_ev rq (0, [(14, 1)])) (zq_ev rq (0, [(15, 1)])) (zq_ev rq (0, [(9, 1)])) P h; simp only [g0, g1, g10, g11, g12, g13, g14, g15, g16, g2, g3, g4, g5, g6, g7, g8, g9]; exact t1)) zq_fan)⟩
noncomputable def zo_oW0 : zq_S × List zq_S := (([], [], [(-1, [(12, -1)]), (0, [(10, 1)]), (3, [(10, -1)]), (0, [(11, 1)]), (6, [(11, -1)]), (1, [(11, -1), (16, 1), (17, -7)]), (-1, [(11, 1), (16, -1), (17, 7)])], [], [], [], [(301, [(0, [(6, 1)]), (0, [(7, 1)]), (0, [(8, 1)]), (0, [(10, 1)]), (0, [(11, 1)]), (0, [(12, 1)]), (0, [(13, 1)]), (0, [(14, 1)]), (0, [(15, 1)])]), (134, [(0, [(6, 1)]), (6, [(10, 1)]), (0, [(16, 1)])])], 18), [([], [], [], [], [], [], [(329, [(0, [(0, 1)]), (0, [(1, 1)]), (0, [(2, 1)]), (0, [(3, 1)]), (0, [(4, 1)]), (0, [(5, 1)]), (0, [(6, 1)]), (0, [(7, 1)]), (0, [(8, 1)]), (0, [(9, 1)]), (27, []), (0, [(10, 1)]), (0, []), (0, []), (0, []), (0, []), (0, []), (0, []), (0, [])])], 18)])
theorem zo_oW0_l {P : zq_Ty} {h : zq_H} {S m e T f u M n Z L q c r N i Y v k : Int} (a1 : 0 ≤ -r - 1) (a2 : 0 ≤ q) (a3 : 0 ≤ -q + 3) (a4 : 0 ≤ c) (a5 : 0 ≤ -c + 6) (a6 : 0 ≤ -c + v - 7 * k + 1) (a7 : 0 ≤ c - v + 7 * k - 1) (k1 : zk_WN M n Z q c r N i Y P h) (k2 : zn_DG M (q + 6) v P h) : (zo_OOt S m e T f u M n Z L 27 q 0 0 0 0 0 0 0 P h) := by
  refine ⟨r, N, i, Y, L, Or.inr (Or.inl ⟨rfl, rfl, ?_⟩), Or.inl ⟨by omega, rfl, rfl, rfl, rfl, rfl⟩⟩
  have k2 : v = zn_dg M (q + 6) := k2
  rw [zo_sm_i (v := q) (by omega) (by omega), if_pos (by omega), show 6 + q = q + 6 by omega, ← k2, show (v + 1) % 7 = c by omega]
  exact k1
theorem zo_oW0_ok {w : zq_Wd} (x_WN : zj_is w 301 (fun q => zk_WN (q 0) (q 1) (q 2) (q 3) (q 4) (q 5) (q 6) (q 7) (q 8))) (x_DG : zj_is w 134 (fun q => zn_DG (q 0) (q 1) (q 2))) (x_OO : zj_is w 329 (fun q => zo_OOt (q 0) (q 1) (q 2) (q 3) (q 4) (q 5) (q 6) (q 7) (q 8) (q 9) (q 10) (q 11) (q 12) (q 13) (q 14) (q 15) (q 16) (q 17) (q 18))) : zq_okG1 w zo_oW0 := by
  refine ⟨rfl, rfl, zu_fac ⟨rfl, by decide⟩ zq_fan, ?_⟩
  intro r P h H hM
  have q0 : zq_ev r (-1, [(12, -1)]) = -r 12 - 1 := zu_e6 _ _ _
  have q1 : zq_ev r (0, [(10, 1)]) = r 10 := zu_e1 _ _
  have q2 : zq_ev r (3, [(10, -1)]) = -r 10 + 3 := zu_e5 _ _ _
  have q3 : zq_ev r (0, [(11, 1)]) = r 11 := zu_e1 _ _
  have q4 : zq_ev r (6, [(11, -1)]) = -r 11 + 6 := zu_e5 _ _ _
  have q5 : zq_ev r (1, [(11, -1), (16, 1), (17, -7)]) = -r 11 + r 16 - 7 * r 17 + 1 := by simp only [zq_ev, zq_ts] <;> omega
  have q6 : zq_ev r (-1, [(11, 1), (16, -1), (17, 7)]) = r 11 - r 16 + 7 * r 17 - 1 := by simp only [zq_ev, zq_ts] <;> omega
  have q7 : zq_ev r (0, [(6, 1)]) = r 6 := zu_e1 _ _
  have q8 : zq_ev r (0, [(7, 1)]) = r 7 := zu_e1 _ _
  have q9 : zq_ev r (0, [(8, 1)]) = r 8 := zu_e1 _ _
  have q10 : zq_ev r (0, [(12, 1)]) = r 12 := zu_e1 _ _
  have q11 : zq_ev r (0, [(13, 1)]) = r 13 := zu_e1 _ _
  have q12 : zq_ev r (0, [(14, 1)]) = r 14 := zu_e1 _ _
  have q13 : zq_ev r (0, [(15, 1)]) = r 15 := zu_e1 _ _
  have q14 : zq_ev r (6, [(10, 1)]) = r 10 + 6 := zu_e2 _ _ _
  have q15 : zq_ev r (0, [(16, 1)]) = r 16 := zu_e1 _ _
  obtain ⟨hT, hC, hF, hS, -, hK⟩ := hM
  have c := hC.1
  have a1 := zq_all_1 c
  rw [q0] at a1
  have c := zq_all_t c
  have a2 := zq_all_1 c
  rw [q1] at a2
  have c := zq_all_t c
  have a3 := zq_all_1 c
  rw [q2] at a3
  have c := zq_all_t c
  have a4 := zq_all_1 c
  rw [q3] at a4
  have c := zq_all_t c
  have a5 := zq_all_1 c
  rw [q4] at a5
  have c := zq_all_t c
  have a6 := zq_all_1 c
  rw [q5] at a6
  have c := zq_all_t c
  have a7 := zq_all_1 c
  rw [q6] at a7
  have k1 := zj_use x_WN (hK)
  have k1 : zk_WN (zq_ev r (0, [(6, 1)])) (zq_ev r (0, [(7, 1)])) (zq_ev r (0, [(8, 1)])) (zq_ev r (0, [(10, 1)])) (zq_ev r (0, [(11, 1)])) (zq_ev r (0, [(12, 1)])) (zq_ev r (0, [(13, 1)])) (zq_ev r (0, [(14, 1)])) (zq_ev r (0, [(15, 1)])) P h := k1
  simp only [q1, q10, q11, q12, q13, q3, q7, q8, q9] at k1
  have k2 := zj_use x_DG (zq_okX_t (hK))
  have k2 : zn_DG (zq_ev r (0, [(6, 1)])) (zq_ev r (6, [(10, 1)])) (zq_ev r (0, [(16, 1)])) P h := k2
  simp only [q14, q15, q7] at k2
  obtain t1 := zo_oW0_l (P := P) (h := h) (S := r 0) (m := r 1) (e := r 2) (T := r 3) (f := r 4) (u := r 5) (M := r 6) (n := r 7) (Z := r 8) (L := r 9) (q := r 10) (c := r 11) (r := r 12) (N := r 13) (i := r 14) (Y := r 15) (v := r 16) (k := r 17) a1 a2 a3 a4 a5 a6 a7 k1 k2
  obtain ⟨rq, hr⟩ : ∃ rq : Nat → Int, (∀ i, i < 18 → rq i = r i) := ⟨r, fun i hi => rfl⟩
  have v0 : rq 0 = r 0 := hr 0 (by decide)
  have v1 : rq 1 = r 1 := hr 1 (by decide)
  have v2 : rq 2 = r 2 := hr 2 (by decide)
  have v3 : rq 3 = r 3 := hr 3 (by decide)
  have v4 : rq 4 = r 4 := hr 4 (by decide)
  have v5 : rq 5 = r 5 := hr 5 (by decide)
  have v6 : rq 6 = r 6 := hr 6 (by decide)
  have v7 : rq 7 = r 7 := hr 7 (by decide)
  have v8 : rq 8 = r 8 := hr 8 (by decide)
  have v9 : rq 9 = r 9 := hr 9 (by decide)
  have v10 : rq 10 = r 10 := hr 10 (by decide)
  have g0 : zq_ev rq (0, [(0, 1)]) = r 0 := zu_f1 v0
  have g1 : zq_ev rq (0, [(1, 1)]) = r 1 := zu_f1 v1
  have g2 : zq_ev rq (0, [(2, 1)]) = r 2 := zu_f1 v2
  have g3 : zq_ev rq (0, [(3, 1)]) = r 3 := zu_f1 v3
  have g4 : zq_ev rq (0, [(4, 1)]) = r 4 := zu_f1 v4
  have g5 : zq_ev rq (0, [(5, 1)]) = r 5 := zu_f1 v5
  have g6 : zq_ev rq (0, [(6, 1)]) = r 6 := zu_f1 v6
  have g7 : zq_ev rq (0, [(7, 1)]) = r 7 := zu_f1 v7
  have g8 : zq_ev rq (0, [(8, 1)]) = r 8 := zu_f1 v8
  have g9 : zq_ev rq (0, [(9, 1)]) = r 9 := zu_f1 v9
  have g10 : zq_ev rq (27, []) = 27 := zu_e0 _ _
  have g11 : zq_ev rq (0, [(10, 1)]) = r 10 := zu_f1 v10
  have g12 : zq_ev rq (0, []) = 0 := zu_e0 _ _
  exact ⟨_, List.mem_cons_self .., rq, hr, zq_MeS_mk rfl hT (zq_all_nil) zq_fan (zq_fan) rfl (zu_fac ((x_OO _ _ _).mpr (by show zo_OOt (zq_ev rq (0, [(0, 1)])) (zq_ev rq (0, [(1, 1)])) (zq_ev rq (0, [(2, 1)])) (zq_ev rq (0, [(3, 1)])) (zq_ev rq (0, [(4, 1)])) (zq_ev rq (0, [(5, 1)])) (zq_ev rq (0, [(6, 1)])) (zq_ev rq (0, [(7, 1)])) (zq_ev rq (0, [(8, 1)])) (zq_ev rq (0, [(9, 1)])) (zq_ev rq (27, [])) (zq_ev rq (0, [(10, 1)])) (zq_ev rq (0, [])) (zq_ev rq (0, [])) (zq_ev rq (0, [])) (zq_ev rq (0, [])) (zq_ev rq (0, [])) (zq_ev rq (0, [])) (zq_ev rq (0, [])) P h; simp only [g0, g1, g10, g11, g12, g2, g3, g4, g5, g6, g7, g8, g9]; exact t1)) zq_fan)⟩
noncomputable def zo_oWl : zq_S × List zq_S := (([], [], [(-1, [(10, -1)])], [], [], [], [], 11), [([], [], [], [], [], [], [(329, [(0, [(0, 1)]), (0, [(1, 1)]), (0, [(2, 1)]), (0, [(3, 1)]), (0, [(4, 1)]), (0, [(5, 1)]), (0, [(6, 1)]), (0, [(7, 1)]), (0, [(8, 1)]), (0, [(9, 1)]), (27, []), (0, [(10, 1)]), (0, []), (0, []), (0, []), (0, []), (0, []), (0, []), (0, [])])], 11)])
theorem zo_oWl_l {P : zq_Ty} {h : zq_H} {S m e T f u M n Z L q : Int} (a1 : 0 ≤ -q - 1) : (zo_OOt S m e T f u M n Z L 27 q 0 0 0 0 0 0 0 P h) := by
  refine ⟨-1, M, n, Z, L, Or.inr (Or.inl ⟨rfl, rfl, ?_⟩), Or.inl ⟨by omega, rfl, rfl, rfl, rfl, rfl⟩⟩
  refine Or.inl ⟨fun z => ?_, rfl, rfl, rfl, rfl⟩
  rcases zo_sm_c q with ⟨c1, c2⟩ | ⟨c1, c2, c3⟩ <;> omega
theorem zo_oWl_ok {w : zq_Wd} (x_OO : zj_is w 329 (fun q => zo_OOt (q 0) (q 1) (q 2) (q 3) (q 4) (q 5) (q 6) (q 7) (q 8) (q 9) (q 10) (q 11) (q 12) (q 13) (q 14) (q 15) (q 16) (q 17) (q 18))) : zq_okG1 w zo_oWl := by
  refine ⟨rfl, rfl, zu_fac ⟨rfl, by decide⟩ zq_fan, ?_⟩
  intro r P h H hM
  have q0 : zq_ev r (-1, [(10, -1)]) = -r 10 - 1 := zu_e6 _ _ _
  obtain ⟨hT, hC, hF, hS, -, hK⟩ := hM
  have c := hC.1
  have a1 := zq_all_1 c
  rw [q0] at a1
  obtain t1 := zo_oWl_l (P := P) (h := h) (S := r 0) (m := r 1) (e := r 2) (T := r 3) (f := r 4) (u := r 5) (M := r 6) (n := r 7) (Z := r 8) (L := r 9) (q := r 10) a1
  obtain ⟨rq, hr⟩ : ∃ rq : Nat → Int, (∀ i, i < 11 → rq i = r i) := ⟨r, fun i hi => rfl⟩
  have v0 : rq 0 = r 0 := hr 0 (by decide)
  have v1 : rq 1 = r 1 := hr 1 (by decide)
  have v2 : rq 2 = r 2 := hr 2 (by decide)
  have v3 : rq 3 = r 3 := hr 3 (by decide)
  have v4 : rq 4 = r 4 := hr 4 (by decide)
  have v5 : rq 5 = r 5 := hr 5 (by decide)
  have v6 : rq 6 = r 6 := hr 6 (by decide)
  have v7 : rq 7 = r 7 := hr 7 (by decide)
  have v8 : rq 8 = r 8 := hr 8 (by decide)
  have v9 : rq 9 = r 9 := hr 9 (by decide)
  have v10 : rq 10 = r 10 := hr 10 (by decide)
  have g0 : zq_ev rq (0, [(0, 1)]) = r 0 := zu_f1 v0
  have g1 : zq_ev rq (0, [(1, 1)]) = r 1 := zu_f1 v1
  have g2 : zq_ev rq (0, [(2, 1)]) = r 2 := zu_f1 v2
  have g3 : zq_ev rq (0, [(3, 1)]) = r 3 := zu_f1 v3
  have g4 : zq_ev rq (0, [(4, 1)]) = r 4 := zu_f1 v4
  have g5 : zq_ev rq (0, [(5, 1)]) = r 5 := zu_f1 v5
  have g6 : zq_ev rq (0, [(6, 1)]) = r 6 := zu_f1 v6
  have g7 : zq_ev rq (0, [(7, 1)]) = r 7 := zu_f1 v7
  have g8 : zq_ev rq (0, [(8, 1)]) = r 8 := zu_f1 v8
  have g9 : zq_ev rq (0, [(9, 1)]) = r 9 := zu_f1 v9
  have g10 : zq_ev rq (27, []) = 27 := zu_e0 _ _
  have g11 : zq_ev rq (0, [(10, 1)]) = r 10 := zu_f1 v10
  have g12 : zq_ev rq (0, []) = 0 := zu_e0 _ _
  exact ⟨_, List.mem_cons_self .., rq, hr, zq_MeS_mk rfl hT (zq_all_nil) zq_fan (zq_fan) rfl (zu_fac ((x_OO _ _ _).mpr (by show zo_OOt (zq_ev rq (0, [(0, 1)])) (zq_ev rq (0, [(1, 1)])) (zq_ev rq (0, [(2, 1)])) (zq_ev rq (0, [(3, 1)])) (zq_ev rq (0, [(4, 1)])) (zq_ev rq (0, [(5, 1)])) (zq_ev rq (0, [(6, 1)])) (zq_ev rq (0, [(7, 1)])) (zq_ev rq (0, [(8, 1)])) (zq_ev rq (0, [(9, 1)])) (zq_ev rq (27, [])) (zq_ev rq (0, [(10, 1)])) (zq_ev rq (0, [])) (zq_ev rq (0, [])) (zq_ev rq (0, [])) (zq_ev rq (0, [])) (zq_ev rq (0, [])) (zq_ev rq (0, [])) (zq_ev rq (0, [])) P h; simp only [g0, g1, g10, g11, g12, g2, g3, g4, g5, g6, g7, g8, g9]; exact t1)) zq_fan)⟩
noncomputable def zo_oWg : zq_S × List zq_S := (([], [], [(-4, [(10, 1)])], [], [], [], [], 11), [([], [], [], [], [], [], [(329, [(0, [(0, 1)]), (0, [(1, 1)]), (0, [(2, 1)]), (0, [(3, 1)]), (0, [(4, 1)]), (0, [(5, 1)]), (0, [(6, 1)]), (0, [(7, 1)]), (0, [(8, 1)]), (0, [(9, 1)]), (27, []), (0, [(10, 1)]), (0, []), (0, []), (0, []), (0, []), (0, []), (0, []), (0, [])])], 11)])
theorem zo_oWg_l {P : zq_Ty} {h : zq_H} {S m e T f u M n Z L q : Int} (a1 : 0 ≤ q - 4) : (zo_OOt S m e T f u M n Z L 27 q 0 0 0 0 0 0 0 P h) := by
  refine ⟨-1, M, n, Z, L, Or.inr (Or.inl ⟨rfl, rfl, ?_⟩), Or.inl ⟨by omega, rfl, rfl, rfl, rfl, rfl⟩⟩
  refine Or.inl ⟨fun z => ?_, rfl, rfl, rfl, rfl⟩
  rcases zo_sm_c q with ⟨c1, c2⟩ | ⟨c1, c2, c3⟩ <;> omega
theorem zo_oWg_ok {w : zq_Wd} (x_OO : zj_is w 329 (fun q => zo_OOt (q 0) (q 1) (q 2) (q 3) (q 4) (q 5) (q 6) (q 7) (q 8) (q 9) (q 10) (q 11) (q 12) (q 13) (q 14) (q 15) (q 16) (q 17) (q 18))) : zq_okG1 w zo_oWg := by
  refine ⟨rfl, rfl, zu_fac ⟨rfl, by decide⟩ zq_fan, ?_⟩
  intro r P h H hM
  have q0 : zq_ev r (-4, [(10, 1)]) = r 10 - 4 := zu_e3 _ _ _
  obtain ⟨hT, hC, hF, hS, -, hK⟩ := hM
  have c := hC.1
  have a1 := zq_all_1 c
  rw [q0] at a1
  obtain t1 := zo_oWg_l (P := P) (h := h) (S := r 0) (m := r 1) (e := r 2) (T := r 3) (f := r 4) (u := r 5) (M := r 6) (n := r 7) (Z := r 8) (L := r 9) (q := r 10) a1
  obtain ⟨rq, hr⟩ : ∃ rq : Nat → Int, (∀ i, i < 11 → rq i = r i) := ⟨r, fun i hi => rfl⟩
  have v0 : rq 0 = r 0 := hr 0 (by decide)
  have v1 : rq 1 = r 1 := hr 1 (by decide)
  have v2 : rq 2 = r 2 := hr 2 (by decide)
  have v3 : rq 3 = r 3 := hr 3 (by decide)
  have v4 : rq 4 = r 4 := hr 4 (by decide)
  have v5 : rq 5 = r 5 := hr 5 (by decide)
  have v6 : rq 6 = r 6 := hr 6 (by decide)
  have v7 : rq 7 = r 7 := hr 7 (by decide)
  have v8 : rq 8 = r 8 := hr 8 (by decide)
  have v9 : rq 9 = r 9 := hr 9 (by decide)
  have v10 : rq 10 = r 10 := hr 10 (by decide)
  have g0 : zq_ev rq (0, [(0, 1)]) = r 0 := zu_f1 v0
  have g1 : zq_ev rq (0, [(1, 1)]) = r 1 := zu_f1 v1
  have g2 : zq_ev rq (0, [(2, 1)]) = r 2 := zu_f1 v2
  have g3 : zq_ev rq (0, [(3, 1)]) = r 3 := zu_f1 v3
  have g4 : zq_ev rq (0, [(4, 1)]) = r 4 := zu_f1 v4
  have g5 : zq_ev rq (0, [(5, 1)]) = r 5 := zu_f1 v5
  have g6 : zq_ev rq (0, [(6, 1)]) = r 6 := zu_f1 v6
  have g7 : zq_ev rq (0, [(7, 1)]) = r 7 := zu_f1 v7
  have g8 : zq_ev rq (0, [(8, 1)]) = r 8 := zu_f1 v8
  have g9 : zq_ev rq (0, [(9, 1)]) = r 9 := zu_f1 v9
  have g10 : zq_ev rq (27, []) = 27 := zu_e0 _ _
  have g11 : zq_ev rq (0, [(10, 1)]) = r 10 := zu_f1 v10
  have g12 : zq_ev rq (0, []) = 0 := zu_e0 _ _
  exact ⟨_, List.mem_cons_self .., rq, hr, zq_MeS_mk rfl hT (zq_all_nil) zq_fan (zq_fan) rfl (zu_fac ((x_OO _ _ _).mpr (by show zo_OOt (zq_ev rq (0, [(0, 1)])) (zq_ev rq (0, [(1, 1)])) (zq_ev rq (0, [(2, 1)])) (zq_ev rq (0, [(3, 1)])) (zq_ev rq (0, [(4, 1)])) (zq_ev rq (0, [(5, 1)])) (zq_ev rq (0, [(6, 1)])) (zq_ev rq (0, [(7, 1)])) (zq_ev rq (0, [(8, 1)])) (zq_ev rq (0, [(9, 1)])) (zq_ev rq (27, [])) (zq_ev rq (0, [(10, 1)])) (zq_ev rq (0, [])) (zq_ev rq (0, [])) (zq_ev rq (0, [])) (zq_ev rq (0, [])) (zq_ev rq (0, [])) (zq_ev rq (0, [])) (zq_ev rq (0, [])) P h; simp only [g0, g1, g10, g11, g12, g2, g3, g4, g5, g6, g7, g8, g9]; exact t1)) zq_fan)⟩
noncomputable def zo_oP1 : zq_S × List zq_S := (([], [], [(0, [(10, 1)])], [], [], [], [(302, [(0, [(6, 1)]), (0, [(7, 1)]), (0, [(8, 1)]), (0, [(10, 1)]), (0, [(11, 1)]), (0, [(12, 1)]), (0, [(13, 1)])])], 14), [([], [], [], [], [], [], [(329, [(0, [(0, 1)]), (0, [(1, 1)]), (0, [(2, 1)]), (0, [(3, 1)]), (0, [(4, 1)]), (0, [(5, 1)]), (0, [(6, 1)]), (0, [(7, 1)]), (0, [(8, 1)]), (0, [(9, 1)]), (28, []), (0, []), (0, []), (0, []), (1, []), (0, [(11, 1)]), (0, [(12, 1)]), (0, [(13, 1)]), (0, [(9, 1)])])], 14)])
theorem zo_oP1_l {P : zq_Ty} {h : zq_H} {S m e T f u M n Z L r N i Y : Int} (a1 : 0 ≤ r) (k1 : zk_PA M n Z r N i Y P h) : (zo_OOt S m e T f u M n Z L 28 0 0 0 1 N i Y L P h) := by
  exact ⟨r, N, i, Y, L, Or.inl ⟨rfl, rfl, k1⟩, Or.inr ⟨by omega, rfl, rfl, rfl, rfl, rfl⟩⟩
theorem zo_oP1_ok {w : zq_Wd} (x_PA : zj_is w 302 (fun q => zk_PA (q 0) (q 1) (q 2) (q 3) (q 4) (q 5) (q 6))) (x_OO : zj_is w 329 (fun q => zo_OOt (q 0) (q 1) (q 2) (q 3) (q 4) (q 5) (q 6) (q 7) (q 8) (q 9) (q 10) (q 11) (q 12) (q 13) (q 14) (q 15) (q 16) (q 17) (q 18))) : zq_okG1 w zo_oP1 := by
  refine ⟨rfl, rfl, zu_fac ⟨rfl, by decide⟩ zq_fan, ?_⟩
  intro r P h H hM
  have q0 : zq_ev r (0, [(10, 1)]) = r 10 := zu_e1 _ _
  have q1 : zq_ev r (0, [(6, 1)]) = r 6 := zu_e1 _ _
  have q2 : zq_ev r (0, [(7, 1)]) = r 7 := zu_e1 _ _
  have q3 : zq_ev r (0, [(8, 1)]) = r 8 := zu_e1 _ _
  have q4 : zq_ev r (0, [(11, 1)]) = r 11 := zu_e1 _ _
  have q5 : zq_ev r (0, [(12, 1)]) = r 12 := zu_e1 _ _
  have q6 : zq_ev r (0, [(13, 1)]) = r 13 := zu_e1 _ _
  obtain ⟨hT, hC, hF, hS, -, hK⟩ := hM
  have c := hC.1
  have a1 := zq_all_1 c
  rw [q0] at a1
  have k1 := zj_use x_PA (hK)
  have k1 : zk_PA (zq_ev r (0, [(6, 1)])) (zq_ev r (0, [(7, 1)])) (zq_ev r (0, [(8, 1)])) (zq_ev r (0, [(10, 1)])) (zq_ev r (0, [(11, 1)])) (zq_ev r (0, [(12, 1)])) (zq_ev r (0, [(13, 1)])) P h := k1
  simp only [q0, q1, q2, q3, q4, q5, q6] at k1
  obtain t1 := zo_oP1_l (P := P) (h := h) (S := r 0) (m := r 1) (e := r 2) (T := r 3) (f := r 4) (u := r 5) (M := r 6) (n := r 7) (Z := r 8) (L := r 9) (r := r 10) (N := r 11) (i := r 12) (Y := r 13) a1 k1
  obtain ⟨rq, hr⟩ : ∃ rq : Nat → Int, (∀ i, i < 14 → rq i = r i) := ⟨r, fun i hi => rfl⟩
  have v0 : rq 0 = r 0 := hr 0 (by decide)
  have v1 : rq 1 = r 1 := hr 1 (by decide)
  have v2 : rq 2 = r 2 := hr 2 (by decide)
  have v3 : rq 3 = r 3 := hr 3 (by decide)
  have v4 : rq 4 = r 4 := hr 4 (by decide)
  have v5 : rq 5 = r 5 := hr 5 (by decide)
  have v6 : rq 6 = r 6 := hr 6 (by decide)
  have v7 : rq 7 = r 7 := hr 7 (by decide)
  have v8 : rq 8 = r 8 := hr 8 (by decide)
  have v9 : rq 9 = r 9 := hr 9 (by decide)
  have v11 : rq 11 = r 11 := hr 11 (by decide)
  have v12 : rq 12 = r 12 := hr 12 (by decide)
  have v13 : rq 13 = r 13 := hr 13 (by decide)
  have g0 : zq_ev rq (0, [(0, 1)]) = r 0 := zu_f1 v0
  have g1 : zq_ev rq (0, [(1, 1)]) = r 1 := zu_f1 v1
  have g2 : zq_ev rq (0, [(2, 1)]) = r 2 := zu_f1 v2
  have g3 : zq_ev rq (0, [(3, 1)]) = r 3 := zu_f1 v3
  have g4 : zq_ev rq (0, [(4, 1)]) = r 4 := zu_f1 v4
  have g5 : zq_ev rq (0, [(5, 1)]) = r 5 := zu_f1 v5
  have g6 : zq_ev rq (0, [(6, 1)]) = r 6 := zu_f1 v6
  have g7 : zq_ev rq (0, [(7, 1)]) = r 7 := zu_f1 v7
  have g8 : zq_ev rq (0, [(8, 1)]) = r 8 := zu_f1 v8
  have g9 : zq_ev rq (0, [(9, 1)]) = r 9 := zu_f1 v9
  have g10 : zq_ev rq (28, []) = 28 := zu_e0 _ _
  have g11 : zq_ev rq (0, []) = 0 := zu_e0 _ _
  have g12 : zq_ev rq (1, []) = 1 := zu_e0 _ _
  have g13 : zq_ev rq (0, [(11, 1)]) = r 11 := zu_f1 v11
  have g14 : zq_ev rq (0, [(12, 1)]) = r 12 := zu_f1 v12
  have g15 : zq_ev rq (0, [(13, 1)]) = r 13 := zu_f1 v13
  exact ⟨_, List.mem_cons_self .., rq, hr, zq_MeS_mk rfl hT (zq_all_nil) zq_fan (zq_fan) rfl (zu_fac ((x_OO _ _ _).mpr (by show zo_OOt (zq_ev rq (0, [(0, 1)])) (zq_ev rq (0, [(1, 1)])) (zq_ev rq (0, [(2, 1)])) (zq_ev rq (0, [(3, 1)])) (zq_ev rq (0, [(4, 1)])) (zq_ev rq (0, [(5, 1)])) (zq_ev rq (0, [(6, 1)])) (zq_ev rq (0, [(7, 1)])) (zq_ev rq (0, [(8, 1)])) (zq_ev rq (0, [(9, 1)])) (zq_ev rq (28, [])) (zq_ev rq (0, [])) (zq_ev rq (0, [])) (zq_ev rq (0, [])) (zq_ev rq (1, [])) (zq_ev rq (0, [(11, 1)])) (zq_ev rq (0, [(12, 1)])) (zq_ev rq (0, [(13, 1)])) (zq_ev rq (0, [(9, 1)])) P h; simp only [g0, g1, g10, g11, g12, g13, g14, g15, g2, g3, g4, g5, g6, g7, g8, g9]; exact t1)) zq_fan)⟩
noncomputable def zo_oP0 : zq_S × List zq_S := (([], [], [(-1, [(10, -1)])], [], [], [], [(302, [(0, [(6, 1)]), (0, [(7, 1)]), (0, [(8, 1)]), (0, [(10, 1)]), (0, [(11, 1)]), (0, [(12, 1)]), (0, [(13, 1)])])], 14), [([], [], [], [], [], [], [(329, [(0, [(0, 1)]), (0, [(1, 1)]), (0, [(2, 1)]), (0, [(3, 1)]), (0, [(4, 1)]), (0, [(5, 1)]), (0, [(6, 1)]), (0, [(7, 1)]), (0, [(8, 1)]), (0, [(9, 1)]), (28, []), (0, []), (0, []), (0, []), (0, []), (0, []), (0, []), (0, []), (0, [])])], 14)])
theorem zo_oP0_l {P : zq_Ty} {h : zq_H} {S m e T f u M n Z L r N i Y : Int} (a1 : 0 ≤ -r - 1) (k1 : zk_PA M n Z r N i Y P h) : (zo_OOt S m e T f u M n Z L 28 0 0 0 0 0 0 0 0 P h) := by
  exact ⟨r, N, i, Y, L, Or.inl ⟨rfl, rfl, k1⟩, Or.inl ⟨by omega, rfl, rfl, rfl, rfl, rfl⟩⟩
theorem zo_oP0_ok {w : zq_Wd} (x_PA : zj_is w 302 (fun q => zk_PA (q 0) (q 1) (q 2) (q 3) (q 4) (q 5) (q 6))) (x_OO : zj_is w 329 (fun q => zo_OOt (q 0) (q 1) (q 2) (q 3) (q 4) (q 5) (q 6) (q 7) (q 8) (q 9) (q 10) (q 11) (q 12) (q 13) (q 14) (q 15) (q 16) (q 17) (q 18))) : zq_okG1 w zo_oP0 := by
  refine ⟨rfl, rfl, zu_fac ⟨rfl, by decide⟩ zq_fan, ?_⟩
  intro r P h H hM
  have q0 : zq_ev r (-1, [(10, -1)]) = -r 10 - 1 := zu_e6 _ _ _
  have q1 : zq_ev r (0, [(6, 1)]) = r 6 := zu_e1 _ _
  have q2 : zq_ev r (0, [(7, 1)]) = r 7 := zu_e1 _ _
  have q3 : zq_ev r (0, [(8, 1)]) = r 8 := zu_e1 _ _
  have q4 : zq_ev r (0, [(10, 1)]) = r 10 := zu_e1 _ _
  have q5 : zq_ev r (0, [(11, 1)]) = r 11 := zu_e1 _ _
  have q6 : zq_ev r (0, [(12, 1)]) = r 12 := zu_e1 _ _
  have q7 : zq_ev r (0, [(13, 1)]) = r 13 := zu_e1 _ _
  obtain ⟨hT, hC, hF, hS, -, hK⟩ := hM
  have c := hC.1
  have a1 := zq_all_1 c
  rw [q0] at a1
  have k1 := zj_use x_PA (hK)
  have k1 : zk_PA (zq_ev r (0, [(6, 1)])) (zq_ev r (0, [(7, 1)])) (zq_ev r (0, [(8, 1)])) (zq_ev r (0, [(10, 1)])) (zq_ev r (0, [(11, 1)])) (zq_ev r (0, [(12, 1)])) (zq_ev r (0, [(13, 1)])) P h := k1
  simp only [q1, q2, q3, q4, q5, q6, q7] at k1
  obtain t1 := zo_oP0_l (P := P) (h := h) (S := r 0) (m := r 1) (e := r 2) (T := r 3) (f := r 4) (u := r 5) (M := r 6) (n := r 7) (Z := r 8) (L := r 9) (r := r 10) (N := r 11) (i := r 12) (Y := r 13) a1 k1
  obtain ⟨rq, hr⟩ : ∃ rq : Nat → Int, (∀ i, i < 14 → rq i = r i) := ⟨r, fun i hi => rfl⟩
  have v0 : rq 0 = r 0 := hr 0 (by decide)
  have v1 : rq 1 = r 1 := hr 1 (by decide)
  have v2 : rq 2 = r 2 := hr 2 (by decide)
  have v3 : rq 3 = r 3 := hr 3 (by decide)
  have v4 : rq 4 = r 4 := hr 4 (by decide)
  have v5 : rq 5 = r 5 := hr 5 (by decide)
  have v6 : rq 6 = r 6 := hr 6 (by decide)
  have v7 : rq 7 = r 7 := hr 7 (by decide)
  have v8 : rq 8 = r 8 := hr 8 (by decide)
  have v9 : rq 9 = r 9 := hr 9 (by decide)
  have g0 : zq_ev rq (0, [(0, 1)]) = r 0 := zu_f1 v0
  have g1 : zq_ev rq (0, [(1, 1)]) = r 1 := zu_f1 v1
  have g2 : zq_ev rq (0, [(2, 1)]) = r 2 := zu_f1 v2
  have g3 : zq_ev rq (0, [(3, 1)]) = r 3 := zu_f1 v3
  have g4 : zq_ev rq (0, [(4, 1)]) = r 4 := zu_f1 v4
  have g5 : zq_ev rq (0, [(5, 1)]) = r 5 := zu_f1 v5
  have g6 : zq_ev rq (0, [(6, 1)]) = r 6 := zu_f1 v6
  have g7 : zq_ev rq (0, [(7, 1)]) = r 7 := zu_f1 v7
  have g8 : zq_ev rq (0, [(8, 1)]) = r 8 := zu_f1 v8
  have g9 : zq_ev rq (0, [(9, 1)]) = r 9 := zu_f1 v9
  have g10 : zq_ev rq (28, []) = 28 := zu_e0 _ _
  have g11 : zq_ev rq (0, []) = 0 := zu_e0 _ _
  exact ⟨_, List.mem_cons_self .., rq, hr, zq_MeS_mk rfl hT (zq_all_nil) zq_fan (zq_fan) rfl (zu_fac ((x_OO _ _ _).mpr (by show zo_OOt (zq_ev rq (0, [(0, 1)])) (zq_ev rq (0, [(1, 1)])) (zq_ev rq (0, [(2, 1)])) (zq_ev rq (0, [(3, 1)])) (zq_ev rq (0, [(4, 1)])) (zq_ev rq (0, [(5, 1)])) (zq_ev rq (0, [(6, 1)])) (zq_ev rq (0, [(7, 1)])) (zq_ev rq (0, [(8, 1)])) (zq_ev rq (0, [(9, 1)])) (zq_ev rq (28, [])) (zq_ev rq (0, [])) (zq_ev rq (0, [])) (zq_ev rq (0, [])) (zq_ev rq (0, [])) (zq_ev rq (0, [])) (zq_ev rq (0, [])) (zq_ev rq (0, [])) (zq_ev rq (0, [])) P h; simp only [g0, g1, g10, g11, g2, g3, g4, g5, g6, g7, g8, g9]; exact t1)) zq_fan)⟩
noncomputable def zo_r0 : zq_S × List zq_S := (([], [], [], [], [], [], [], 11), [([], [], [], [], [], [], [(331, [(0, [(0, 1)]), (0, [(1, 1)]), (0, [(2, 1)]), (0, [(3, 1)]), (0, [(4, 1)]), (0, [(5, 1)]), (0, [(6, 1)]), (0, [(7, 1)]), (0, [(8, 1)]), (0, [(9, 1)]), (0, [(10, 1)]), (0, []), (0, []), (0, []), (0, [(8, 1)]), (0, [(9, 1)]), (0, [(10, 1)]), (0, []), (-1, [])])], 11)])
theorem zo_r0_l {P : zq_Ty} {h : zq_H} {g l S m e T f u A B C : Int}  : (zo_RN g l S m e T f u A B C 0 0 0 A B C 0 (-1) P h) := by
  exact fun _ _ _ _ _ z => z
theorem zo_r0_ok {w : zq_Wd} (x_RN : zj_is w 331 (fun q => zo_RN (q 0) (q 1) (q 2) (q 3) (q 4) (q 5) (q 6) (q 7) (q 8) (q 9) (q 10) (q 11) (q 12) (q 13) (q 14) (q 15) (q 16) (q 17) (q 18))) : zq_okG1 w zo_r0 := by
  refine ⟨rfl, rfl, zu_fac ⟨rfl, by decide⟩ zq_fan, ?_⟩
  intro r P h H hM
  obtain ⟨hT, hC, hF, hS, -, hK⟩ := hM
  have c := hC.1
  obtain t1 := zo_r0_l (P := P) (h := h) (g := r 0) (l := r 1) (S := r 2) (m := r 3) (e := r 4) (T := r 5) (f := r 6) (u := r 7) (A := r 8) (B := r 9) (C := r 10) 
  obtain ⟨rq, hr⟩ : ∃ rq : Nat → Int, (∀ i, i < 11 → rq i = r i) := ⟨r, fun i hi => rfl⟩
  have v0 : rq 0 = r 0 := hr 0 (by decide)
  have v1 : rq 1 = r 1 := hr 1 (by decide)
  have v2 : rq 2 = r 2 := hr 2 (by decide)
  have v3 : rq 3 = r 3 := hr 3 (by decide)
  have v4 : rq 4 = r 4 := hr 4 (by decide)
  have v5 : rq 5 = r 5 := hr 5 (by decide)
  have v6 : rq 6 = r 6 := hr 6 (by decide)
  have v7 : rq 7 = r 7 := hr 7 (by decide)
  have v8 : rq 8 = r 8 := hr 8 (by decide)
  have v9 : rq 9 = r 9 := hr 9 (by decide)
  have v10 : rq 10 = r 10 := hr 10 (by decide)
  have g0 : zq_ev rq (0, [(0, 1)]) = r 0 := zu_f1 v0
  have g1 : zq_ev rq (0, [(1, 1)]) = r 1 := zu_f1 v1
  have g2 : zq_ev rq (0, [(2, 1)]) = r 2 := zu_f1 v2
  have g3 : zq_ev rq (0, [(3, 1)]) = r 3 := zu_f1 v3
  have g4 : zq_ev rq (0, [(4, 1)]) = r 4 := zu_f1 v4
  have g5 : zq_ev rq (0, [(5, 1)]) = r 5 := zu_f1 v5
  have g6 : zq_ev rq (0, [(6, 1)]) = r 6 := zu_f1 v6
  have g7 : zq_ev rq (0, [(7, 1)]) = r 7 := zu_f1 v7
  have g8 : zq_ev rq (0, [(8, 1)]) = r 8 := zu_f1 v8
  have g9 : zq_ev rq (0, [(9, 1)]) = r 9 := zu_f1 v9
  have g10 : zq_ev rq (0, [(10, 1)]) = r 10 := zu_f1 v10
  have g11 : zq_ev rq (0, []) = 0 := zu_e0 _ _
  have g12 : zq_ev rq (-1, []) = -1 := zu_e0 _ _
  exact ⟨_, List.mem_cons_self .., rq, hr, zq_MeS_mk rfl hT (zq_all_nil) zq_fan (zq_fan) rfl (zu_fac ((x_RN _ _ _).mpr (by show zo_RN (zq_ev rq (0, [(0, 1)])) (zq_ev rq (0, [(1, 1)])) (zq_ev rq (0, [(2, 1)])) (zq_ev rq (0, [(3, 1)])) (zq_ev rq (0, [(4, 1)])) (zq_ev rq (0, [(5, 1)])) (zq_ev rq (0, [(6, 1)])) (zq_ev rq (0, [(7, 1)])) (zq_ev rq (0, [(8, 1)])) (zq_ev rq (0, [(9, 1)])) (zq_ev rq (0, [(10, 1)])) (zq_ev rq (0, [])) (zq_ev rq (0, [])) (zq_ev rq (0, [])) (zq_ev rq (0, [(8, 1)])) (zq_ev rq (0, [(9, 1)])) (zq_ev rq (0, [(10, 1)])) (zq_ev rq (0, [])) (zq_ev rq (-1, [])) P h; simp only [g0, g1, g10, g11, g12, g2, g3, g4, g5, g6, g7, g8, g9]; exact t1)) zq_fan)⟩
noncomputable def zo_rn : zq_S × List zq_S := (([], [], [(-1, [(19, 1)]), (0, [(13, 1), (20, -1)])], [], [], [], [(331, [(0, [(0, 1)]), (0, [(1, 1)]), (0, [(2, 1)]), (0, [(3, 1)]), (0, [(4, 1)]), (0, [(5, 1)]), (0, [(6, 1)]), (0, [(7, 1)]), (0, [(8, 1)]), (0, [(9, 1)]), (0, [(10, 1)]), (0, [(11, 1)]), (0, [(12, 1)]), (0, [(13, 1)]), (0, [(14, 1)]), (0, [(15, 1)]), (0, [(16, 1)]), (0, [(17, 1)]), (0, [(18, 1)])]), (224, [(0, [(0, 1)]), (0, [(1, 1)]), (0, [(12, 1)]), (0, [(19, 1)])]), (325, [(0, [(0, 1)]), (0, [(1, 1)]), (0, [(12, 1)]), (0, [(20, 1)]), (0, [(21, 1)])])], 22), [([], [], [], [], [], [], [(331, [(0, [(0, 1)]), (0, [(1, 1)]), (0, [(2, 1)]), (0, [(3, 1)]), (0, [(4, 1)]), (0, [(5, 1)]), (0, [(6, 1)]), (0, [(7, 1)]), (0, [(8, 1)]), (0, [(9, 1)]), (0, [(10, 1)]), (1, [(11, 1)]), (0, [(21, 1)]), (0, []), (0, [(14, 1)]), (0, [(15, 1)]), (0, [(16, 1)]), (0, [(17, 1)]), (0, [(18, 1)])])], 22)])
theorem zo_rn_l {P : zq_Ty} {h : zq_H} {g l S m e T f u A B C c p t M n Z D L h_ s q : Int} (a1 : 0 ≤ h_ - 1) (a2 : 0 ≤ t - s) (k1 : zo_RN g l S m e T f u A B C c p t M n Z D L P h) (k2 : ze_CD g l p h_ P h) (k3 : zo_CLt g l p s q P h) : (zo_RN g l S m e T f u A B C (c + 1) q 0 M n Z D L P h) := by
  have hp : p < ze_L g l := zr_in (by rw [← show h_ = ze_c g l p from k2]; omega)
  exact fun _ _ _ _ _ z => k1 _ _ _ _ _ (zo_RR_next hp k3 (by omega) z)
theorem zo_rn_ok {w : zq_Wd} (x_RN : zj_is w 331 (fun q => zo_RN (q 0) (q 1) (q 2) (q 3) (q 4) (q 5) (q 6) (q 7) (q 8) (q 9) (q 10) (q 11) (q 12) (q 13) (q 14) (q 15) (q 16) (q 17) (q 18))) (x_CD : zj_is w 224 (fun q => ze_CD (q 0) (q 1) (q 2) (q 3))) (x_CL : zj_is w 325 (fun q => zo_CLt (q 0) (q 1) (q 2) (q 3) (q 4))) : zq_okG1 w zo_rn := by
  refine ⟨rfl, rfl, zu_fac ⟨rfl, by decide⟩ zq_fan, ?_⟩
  intro r P h H hM
  have q0 : zq_ev r (-1, [(19, 1)]) = r 19 - 1 := zu_e3 _ _ _
  have q1 : zq_ev r (0, [(13, 1), (20, -1)]) = r 13 - r 20 := by simp only [zq_ev, zq_ts] <;> omega
  have q2 : zq_ev r (0, [(0, 1)]) = r 0 := zu_e1 _ _
  have q3 : zq_ev r (0, [(1, 1)]) = r 1 := zu_e1 _ _
  have q4 : zq_ev r (0, [(2, 1)]) = r 2 := zu_e1 _ _
  have q5 : zq_ev r (0, [(3, 1)]) = r 3 := zu_e1 _ _
  have q6 : zq_ev r (0, [(4, 1)]) = r 4 := zu_e1 _ _
  have q7 : zq_ev r (0, [(5, 1)]) = r 5 := zu_e1 _ _
  have q8 : zq_ev r (0, [(6, 1)]) = r 6 := zu_e1 _ _
  have q9 : zq_ev r (0, [(7, 1)]) = r 7 := zu_e1 _ _
  have q10 : zq_ev r (0, [(8, 1)]) = r 8 := zu_e1 _ _
  have q11 : zq_ev r (0, [(9, 1)]) = r 9 := zu_e1 _ _
  have q12 : zq_ev r (0, [(10, 1)]) = r 10 := zu_e1 _ _
  have q13 : zq_ev r (0, [(11, 1)]) = r 11 := zu_e1 _ _
  have q14 : zq_ev r (0, [(12, 1)]) = r 12 := zu_e1 _ _
  have q15 : zq_ev r (0, [(13, 1)]) = r 13 := zu_e1 _ _
  have q16 : zq_ev r (0, [(14, 1)]) = r 14 := zu_e1 _ _
  have q17 : zq_ev r (0, [(15, 1)]) = r 15 := zu_e1 _ _
  have q18 : zq_ev r (0, [(16, 1)]) = r 16 := zu_e1 _ _
  have q19 : zq_ev r (0, [(17, 1)]) = r 17 := zu_e1 _ _
  have q20 : zq_ev r (0, [(18, 1)]) = r 18 := zu_e1 _ _
  have q21 : zq_ev r (0, [(19, 1)]) = r 19 := zu_e1 _ _
  have q22 : zq_ev r (0, [(20, 1)]) = r 20 := zu_e1 _ _
  have q23 : zq_ev r (0, [(21, 1)]) = r 21 := zu_e1 _ _
  obtain ⟨hT, hC, hF, hS, -, hK⟩ := hM
  have c := hC.1
  have a1 := zq_all_1 c
  rw [q0] at a1
  have c := zq_all_t c
  have a2 := zq_all_1 c
  rw [q1] at a2
  have k1 := zj_use x_RN (hK)
  have k1 : zo_RN (zq_ev r (0, [(0, 1)])) (zq_ev r (0, [(1, 1)])) (zq_ev r (0, [(2, 1)])) (zq_ev r (0, [(3, 1)])) (zq_ev r (0, [(4, 1)])) (zq_ev r (0, [(5, 1)])) (zq_ev r (0, [(6, 1)])) (zq_ev r (0, [(7, 1)])) (zq_ev r (0, [(8, 1)])) (zq_ev r (0, [(9, 1)])) (zq_ev r (0, [(10, 1)])) (zq_ev r (0, [(11, 1)])) (zq_ev r (0, [(12, 1)])) (zq_ev r (0, [(13, 1)])) (zq_ev r (0, [(14, 1)])) (zq_ev r (0, [(15, 1)])) (zq_ev r (0, [(16, 1)])) (zq_ev r (0, [(17, 1)])) (zq_ev r (0, [(18, 1)])) P h := k1
  simp only [q10, q11, q12, q13, q14, q15, q16, q17, q18, q19, q2, q20, q3, q4, q5, q6, q7, q8, q9] at k1
  have k2 := zj_use x_CD (zq_okX_t (hK))
  have k2 : ze_CD (zq_ev r (0, [(0, 1)])) (zq_ev r (0, [(1, 1)])) (zq_ev r (0, [(12, 1)])) (zq_ev r (0, [(19, 1)])) P h := k2
  simp only [q14, q2, q21, q3] at k2
  have k3 := zj_use x_CL (zq_okX_t (zq_okX_t (hK)))
  have k3 : zo_CLt (zq_ev r (0, [(0, 1)])) (zq_ev r (0, [(1, 1)])) (zq_ev r (0, [(12, 1)])) (zq_ev r (0, [(20, 1)])) (zq_ev r (0, [(21, 1)])) P h := k3
  simp only [q14, q2, q22, q23, q3] at k3
  obtain t1 := zo_rn_l (P := P) (h := h) (g := r 0) (l := r 1) (S := r 2) (m := r 3) (e := r 4) (T := r 5) (f := r 6) (u := r 7) (A := r 8) (B := r 9) (C := r 10) (c := r 11) (p := r 12) (t := r 13) (M := r 14) (n := r 15) (Z := r 16) (D := r 17) (L := r 18) (h_ := r 19) (s := r 20) (q := r 21) a1 a2 k1 k2 k3
  obtain ⟨rq, hr⟩ : ∃ rq : Nat → Int, (∀ i, i < 22 → rq i = r i) := ⟨r, fun i hi => rfl⟩
  have v0 : rq 0 = r 0 := hr 0 (by decide)
  have v1 : rq 1 = r 1 := hr 1 (by decide)
  have v2 : rq 2 = r 2 := hr 2 (by decide)
  have v3 : rq 3 = r 3 := hr 3 (by decide)
  have v4 : rq 4 = r 4 := hr 4 (by decide)
  have v5 : rq 5 = r 5 := hr 5 (by decide)
  have v6 : rq 6 = r 6 := hr 6 (by decide)
  have v7 : rq 7 = r 7 := hr 7 (by decide)
  have v8 : rq 8 = r 8 := hr 8 (by decide)
  have v9 : rq 9 = r 9 := hr 9 (by decide)
  have v10 : rq 10 = r 10 := hr 10 (by decide)
  have v11 : rq 11 = r 11 := hr 11 (by decide)
  have v14 : rq 14 = r 14 := hr 14 (by decide)
  have v15 : rq 15 = r 15 := hr 15 (by decide)
  have v16 : rq 16 = r 16 := hr 16 (by decide)
  have v17 : rq 17 = r 17 := hr 17 (by decide)
  have v18 : rq 18 = r 18 := hr 18 (by decide)
  have v21 : rq 21 = r 21 := hr 21 (by decide)
  have g0 : zq_ev rq (0, [(0, 1)]) = r 0 := zu_f1 v0
  have g1 : zq_ev rq (0, [(1, 1)]) = r 1 := zu_f1 v1
  have g2 : zq_ev rq (0, [(2, 1)]) = r 2 := zu_f1 v2
  have g3 : zq_ev rq (0, [(3, 1)]) = r 3 := zu_f1 v3
  have g4 : zq_ev rq (0, [(4, 1)]) = r 4 := zu_f1 v4
  have g5 : zq_ev rq (0, [(5, 1)]) = r 5 := zu_f1 v5
  have g6 : zq_ev rq (0, [(6, 1)]) = r 6 := zu_f1 v6
  have g7 : zq_ev rq (0, [(7, 1)]) = r 7 := zu_f1 v7
  have g8 : zq_ev rq (0, [(8, 1)]) = r 8 := zu_f1 v8
  have g9 : zq_ev rq (0, [(9, 1)]) = r 9 := zu_f1 v9
  have g10 : zq_ev rq (0, [(10, 1)]) = r 10 := zu_f1 v10
  have g11 : zq_ev rq (1, [(11, 1)]) = r 11 + 1 := zu_f2 v11 _
  have g12 : zq_ev rq (0, [(21, 1)]) = r 21 := zu_f1 v21
  have g13 : zq_ev rq (0, []) = 0 := zu_e0 _ _
  have g14 : zq_ev rq (0, [(14, 1)]) = r 14 := zu_f1 v14
  have g15 : zq_ev rq (0, [(15, 1)]) = r 15 := zu_f1 v15
  have g16 : zq_ev rq (0, [(16, 1)]) = r 16 := zu_f1 v16
  have g17 : zq_ev rq (0, [(17, 1)]) = r 17 := zu_f1 v17
  have g18 : zq_ev rq (0, [(18, 1)]) = r 18 := zu_f1 v18
  exact ⟨_, List.mem_cons_self .., rq, hr, zq_MeS_mk rfl hT (zq_all_nil) zq_fan (zq_fan) rfl (zu_fac ((x_RN _ _ _).mpr (by show zo_RN (zq_ev rq (0, [(0, 1)])) (zq_ev rq (0, [(1, 1)])) (zq_ev rq (0, [(2, 1)])) (zq_ev rq (0, [(3, 1)])) (zq_ev rq (0, [(4, 1)])) (zq_ev rq (0, [(5, 1)])) (zq_ev rq (0, [(6, 1)])) (zq_ev rq (0, [(7, 1)])) (zq_ev rq (0, [(8, 1)])) (zq_ev rq (0, [(9, 1)])) (zq_ev rq (0, [(10, 1)])) (zq_ev rq (1, [(11, 1)])) (zq_ev rq (0, [(21, 1)])) (zq_ev rq (0, [])) (zq_ev rq (0, [(14, 1)])) (zq_ev rq (0, [(15, 1)])) (zq_ev rq (0, [(16, 1)])) (zq_ev rq (0, [(17, 1)])) (zq_ev rq (0, [(18, 1)])) P h; simp only [g0, g1, g10, g11, g12, g13, g14, g15, g16, g17, g18, g2, g3, g4, g5, g6, g7, g8, g9]; exact t1)) zq_fan)⟩
noncomputable def zo_r1 : zq_S × List zq_S := (([], [], [(-1, [(19, 1)]), (-1, [(13, -1), (20, 1)])], [], [], [], [(331, [(0, [(0, 1)]), (0, [(1, 1)]), (0, [(2, 1)]), (0, [(3, 1)]), (0, [(4, 1)]), (0, [(5, 1)]), (0, [(6, 1)]), (0, [(7, 1)]), (0, [(8, 1)]), (0, [(9, 1)]), (0, [(10, 1)]), (0, [(11, 1)]), (0, [(12, 1)]), (0, [(13, 1)]), (0, [(14, 1)]), (0, [(15, 1)]), (0, [(16, 1)]), (0, [(17, 1)]), (0, [(18, 1)])]), (224, [(0, [(0, 1)]), (0, [(1, 1)]), (0, [(12, 1)]), (0, [(19, 1)])]), (325, [(0, [(0, 1)]), (0, [(1, 1)]), (0, [(12, 1)]), (0, [(20, 1)]), (0, [(21, 1)])]), (326, [(0, [(0, 1)]), (0, [(1, 1)]), (0, [(22, 1)]), (0, [(12, 1)]), (0, [(23, 1)]), (0, [(24, 1)]), (0, [(25, 1)]), (0, [(26, 1)]), (0, [])]), (324, [(0, [(22, 1)]), (0, [(3, 1)]), (0, [(14, 1)]), (0, [(17, 1)]), (0, [(18, 1)])])], 27), [([], [], [], [], [], [], [(331, [(0, [(0, 1)]), (0, [(1, 1)]), (0, [(2, 1)]), (0, [(3, 1)]), (0, [(4, 1)]), (0, [(5, 1)]), (0, [(6, 1)]), (0, [(7, 1)]), (0, [(8, 1)]), (0, [(9, 1)]), (0, [(10, 1)]), (0, [(11, 1)]), (0, [(12, 1)]), (1, [(13, 1)]), (0, [(14, 1)]), (0, [(15, 1)]), (0, [(16, 1)]), (0, [(17, 1)]), (0, [(18, 1)])])], 27)])
theorem zo_r1_l {P : zq_Ty} {h : zq_H} {g l S m e T f u A B C c p t M n Z D L h_ s q W x0 x1 x2 bk : Int} (a1 : 0 ≤ h_ - 1) (a2 : 0 ≤ -t + s - 1) (k1 : zo_RN g l S m e T f u A B C c p t M n Z D L P h) (k2 : ze_CD g l p h_ P h) (k3 : zo_CLt g l p s q P h) (k4 : zo_EV g l W p x0 x1 x2 bk 0 P h) (k5 : zo_OD W m M D L P h) : (zo_RN g l S m e T f u A B C c p (t + 1) M n Z D L P h) := by
  have hp : p < ze_L g l := zr_in (by rw [← show h_ = ze_c g l p from k2]; omega)
  have k5 : W = zo_W m M D L := k5
  rw [k5] at k4
  exact fun _ _ _ _ _ z => k1 _ _ _ _ _ (zo_RR_not hp k3 (by omega) k4 (by decide) z)
theorem zo_r1_ok {w : zq_Wd} (x_RN : zj_is w 331 (fun q => zo_RN (q 0) (q 1) (q 2) (q 3) (q 4) (q 5) (q 6) (q 7) (q 8) (q 9) (q 10) (q 11) (q 12) (q 13) (q 14) (q 15) (q 16) (q 17) (q 18))) (x_CD : zj_is w 224 (fun q => ze_CD (q 0) (q 1) (q 2) (q 3))) (x_CL : zj_is w 325 (fun q => zo_CLt (q 0) (q 1) (q 2) (q 3) (q 4))) (x_EVo : zj_is w 326 (fun q => zo_EV (q 0) (q 1) (q 2) (q 3) (q 4) (q 5) (q 6) (q 7) (q 8))) (x_OD : zj_is w 324 (fun q => zo_OD (q 0) (q 1) (q 2) (q 3) (q 4))) : zq_okG1 w zo_r1 := by
  refine ⟨rfl, rfl, zu_fac ⟨rfl, by decide⟩ zq_fan, ?_⟩
  intro r P h H hM
  have q0 : zq_ev r (-1, [(19, 1)]) = r 19 - 1 := zu_e3 _ _ _
  have q1 : zq_ev r (-1, [(13, -1), (20, 1)]) = -r 13 + r 20 - 1 := by simp only [zq_ev, zq_ts] <;> omega
  have q2 : zq_ev r (0, [(0, 1)]) = r 0 := zu_e1 _ _
  have q3 : zq_ev r (0, [(1, 1)]) = r 1 := zu_e1 _ _
  have q4 : zq_ev r (0, [(2, 1)]) = r 2 := zu_e1 _ _
  have q5 : zq_ev r (0, [(3, 1)]) = r 3 := zu_e1 _ _
  have q6 : zq_ev r (0, [(4, 1)]) = r 4 := zu_e1 _ _
  have q7 : zq_ev r (0, [(5, 1)]) = r 5 := zu_e1 _ _
  have q8 : zq_ev r (0, [(6, 1)]) = r 6 := zu_e1 _ _
  have q9 : zq_ev r (0, [(7, 1)]) = r 7 := zu_e1 _ _
  have q10 : zq_ev r (0, [(8, 1)]) = r 8 := zu_e1 _ _
  have q11 : zq_ev r (0, [(9, 1)]) = r 9 := zu_e1 _ _
  have q12 : zq_ev r (0, [(10, 1)]) = r 10 := zu_e1 _ _
  have q13 : zq_ev r (0, [(11, 1)]) = r 11 := zu_e1 _ _
  have q14 : zq_ev r (0, [(12, 1)]) = r 12 := zu_e1 _ _
  have q15 : zq_ev r (0, [(13, 1)]) = r 13 := zu_e1 _ _
  have q16 : zq_ev r (0, [(14, 1)]) = r 14 := zu_e1 _ _
  have q17 : zq_ev r (0, [(15, 1)]) = r 15 := zu_e1 _ _
  have q18 : zq_ev r (0, [(16, 1)]) = r 16 := zu_e1 _ _
  have q19 : zq_ev r (0, [(17, 1)]) = r 17 := zu_e1 _ _
  have q20 : zq_ev r (0, [(18, 1)]) = r 18 := zu_e1 _ _
  have q21 : zq_ev r (0, [(19, 1)]) = r 19 := zu_e1 _ _
  have q22 : zq_ev r (0, [(20, 1)]) = r 20 := zu_e1 _ _
  have q23 : zq_ev r (0, [(21, 1)]) = r 21 := zu_e1 _ _
  have q24 : zq_ev r (0, [(22, 1)]) = r 22 := zu_e1 _ _
  have q25 : zq_ev r (0, [(23, 1)]) = r 23 := zu_e1 _ _
  have q26 : zq_ev r (0, [(24, 1)]) = r 24 := zu_e1 _ _
  have q27 : zq_ev r (0, [(25, 1)]) = r 25 := zu_e1 _ _
  have q28 : zq_ev r (0, [(26, 1)]) = r 26 := zu_e1 _ _
  have q29 : zq_ev r (0, []) = 0 := zu_e0 _ _
  obtain ⟨hT, hC, hF, hS, -, hK⟩ := hM
  have c := hC.1
  have a1 := zq_all_1 c
  rw [q0] at a1
  have c := zq_all_t c
  have a2 := zq_all_1 c
  rw [q1] at a2
  have k1 := zj_use x_RN (hK)
  have k1 : zo_RN (zq_ev r (0, [(0, 1)])) (zq_ev r (0, [(1, 1)])) (zq_ev r (0, [(2, 1)])) (zq_ev r (0, [(3, 1)])) (zq_ev r (0, [(4, 1)])) (zq_ev r (0, [(5, 1)])) (zq_ev r (0, [(6, 1)])) (zq_ev r (0, [(7, 1)])) (zq_ev r (0, [(8, 1)])) (zq_ev r (0, [(9, 1)])) (zq_ev r (0, [(10, 1)])) (zq_ev r (0, [(11, 1)])) (zq_ev r (0, [(12, 1)])) (zq_ev r (0, [(13, 1)])) (zq_ev r (0, [(14, 1)])) (zq_ev r (0, [(15, 1)])) (zq_ev r (0, [(16, 1)])) (zq_ev r (0, [(17, 1)])) (zq_ev r (0, [(18, 1)])) P h := k1
  simp only [q10, q11, q12, q13, q14, q15, q16, q17, q18, q19, q2, q20, q3, q4, q5, q6, q7, q8, q9] at k1
  have k2 := zj_use x_CD (zq_okX_t (hK))
  have k2 : ze_CD (zq_ev r (0, [(0, 1)])) (zq_ev r (0, [(1, 1)])) (zq_ev r (0, [(12, 1)])) (zq_ev r (0, [(19, 1)])) P h := k2
  simp only [q14, q2, q21, q3] at k2
  have k3 := zj_use x_CL (zq_okX_t (zq_okX_t (hK)))
  have k3 : zo_CLt (zq_ev r (0, [(0, 1)])) (zq_ev r (0, [(1, 1)])) (zq_ev r (0, [(12, 1)])) (zq_ev r (0, [(20, 1)])) (zq_ev r (0, [(21, 1)])) P h := k3
  simp only [q14, q2, q22, q23, q3] at k3
  have k4 := zj_use x_EVo (zq_okX_t (zq_okX_t (zq_okX_t (hK))))
  have k4 : zo_EV (zq_ev r (0, [(0, 1)])) (zq_ev r (0, [(1, 1)])) (zq_ev r (0, [(22, 1)])) (zq_ev r (0, [(12, 1)])) (zq_ev r (0, [(23, 1)])) (zq_ev r (0, [(24, 1)])) (zq_ev r (0, [(25, 1)])) (zq_ev r (0, [(26, 1)])) (zq_ev r (0, [])) P h := k4
  simp only [q14, q2, q24, q25, q26, q27, q28, q29, q3] at k4
  have k5 := zj_use x_OD (zq_okX_t (zq_okX_t (zq_okX_t (zq_okX_t (hK)))))
  have k5 : zo_OD (zq_ev r (0, [(22, 1)])) (zq_ev r (0, [(3, 1)])) (zq_ev r (0, [(14, 1)])) (zq_ev r (0, [(17, 1)])) (zq_ev r (0, [(18, 1)])) P h := k5
  simp only [q16, q19, q20, q24, q5] at k5
  obtain t1 := zo_r1_l (P := P) (h := h) (g := r 0) (l := r 1) (S := r 2) (m := r 3) (e := r 4) (T := r 5) (f := r 6) (u := r 7) (A := r 8) (B := r 9) (C := r 10) (c := r 11) (p := r 12) (t := r 13) (M := r 14) (n := r 15) (Z := r 16) (D := r 17) (L := r 18) (h_ := r 19) (s := r 20) (q := r 21) (W := r 22) (x0 := r 23) (x1 := r 24) (x2 := r 25) (bk := r 26) a1 a2 k1 k2 k3 k4 k5
  obtain ⟨rq, hr⟩ : ∃ rq : Nat → Int, (∀ i, i < 27 → rq i = r i) := ⟨r, fun i hi => rfl⟩
  have v0 : rq 0 = r 0 := hr 0 (by decide)
  have v1 : rq 1 = r 1 := hr 1 (by decide)
  have v2 : rq 2 = r 2 := hr 2 (by decide)
  have v3 : rq 3 = r 3 := hr 3 (by decide)
  have v4 : rq 4 = r 4 := hr 4 (by decide)
  have v5 : rq 5 = r 5 := hr 5 (by decide)
  have v6 : rq 6 = r 6 := hr 6 (by decide)
  have v7 : rq 7 = r 7 := hr 7 (by decide)
  have v8 : rq 8 = r 8 := hr 8 (by decide)
  have v9 : rq 9 = r 9 := hr 9 (by decide)
  have v10 : rq 10 = r 10 := hr 10 (by decide)
  have v11 : rq 11 = r 11 := hr 11 (by decide)
  have v12 : rq 12 = r 12 := hr 12 (by decide)
  have v13 : rq 13 = r 13 := hr 13 (by decide)
  have v14 : rq 14 = r 14 := hr 14 (by decide)
  have v15 : rq 15 = r 15 := hr 15 (by decide)
  have v16 : rq 16 = r 16 := hr 16 (by decide)
  have v17 : rq 17 = r 17 := hr 17 (by decide)
  have v18 : rq 18 = r 18 := hr 18 (by decide)
  have g0 : zq_ev rq (0, [(0, 1)]) = r 0 := zu_f1 v0
  have g1 : zq_ev rq (0, [(1, 1)]) = r 1 := zu_f1 v1
  have g2 : zq_ev rq (0, [(2, 1)]) = r 2 := zu_f1 v2
  have g3 : zq_ev rq (0, [(3, 1)]) = r 3 := zu_f1 v3
  have g4 : zq_ev rq (0, [(4, 1)]) = r 4 := zu_f1 v4
  have g5 : zq_ev rq (0, [(5, 1)]) = r 5 := zu_f1 v5
  have g6 : zq_ev rq (0, [(6, 1)]) = r 6 := zu_f1 v6
  have g7 : zq_ev rq (0, [(7, 1)]) = r 7 := zu_f1 v7
  have g8 : zq_ev rq (0, [(8, 1)]) = r 8 := zu_f1 v8
  have g9 : zq_ev rq (0, [(9, 1)]) = r 9 := zu_f1 v9
  have g10 : zq_ev rq (0, [(10, 1)]) = r 10 := zu_f1 v10
  have g11 : zq_ev rq (0, [(11, 1)]) = r 11 := zu_f1 v11
  have g12 : zq_ev rq (0, [(12, 1)]) = r 12 := zu_f1 v12
  have g13 : zq_ev rq (1, [(13, 1)]) = r 13 + 1 := zu_f2 v13 _
  have g14 : zq_ev rq (0, [(14, 1)]) = r 14 := zu_f1 v14
  have g15 : zq_ev rq (0, [(15, 1)]) = r 15 := zu_f1 v15
  have g16 : zq_ev rq (0, [(16, 1)]) = r 16 := zu_f1 v16
  have g17 : zq_ev rq (0, [(17, 1)]) = r 17 := zu_f1 v17
  have g18 : zq_ev rq (0, [(18, 1)]) = r 18 := zu_f1 v18
  exact ⟨_, List.mem_cons_self .., rq, hr, zq_MeS_mk rfl hT (zq_all_nil) zq_fan (zq_fan) rfl (zu_fac ((x_RN _ _ _).mpr (by show zo_RN (zq_ev rq (0, [(0, 1)])) (zq_ev rq (0, [(1, 1)])) (zq_ev rq (0, [(2, 1)])) (zq_ev rq (0, [(3, 1)])) (zq_ev rq (0, [(4, 1)])) (zq_ev rq (0, [(5, 1)])) (zq_ev rq (0, [(6, 1)])) (zq_ev rq (0, [(7, 1)])) (zq_ev rq (0, [(8, 1)])) (zq_ev rq (0, [(9, 1)])) (zq_ev rq (0, [(10, 1)])) (zq_ev rq (0, [(11, 1)])) (zq_ev rq (0, [(12, 1)])) (zq_ev rq (1, [(13, 1)])) (zq_ev rq (0, [(14, 1)])) (zq_ev rq (0, [(15, 1)])) (zq_ev rq (0, [(16, 1)])) (zq_ev rq (0, [(17, 1)])) (zq_ev rq (0, [(18, 1)])) P h; simp only [g0, g1, g10, g11, g12, g13, g14, g15, g16, g17, g18, g2, g3, g4, g5, g6, g7, g8, g9]; exact t1)) zq_fan)⟩
noncomputable def zo_r2 : zq_S × List zq_S := (([], [], [(-1, [(19, 1)]), (-1, [(13, -1), (20, 1)])], [], [], [], [(331, [(0, [(0, 1)]), (0, [(1, 1)]), (0, [(2, 1)]), (0, [(3, 1)]), (0, [(4, 1)]), (0, [(5, 1)]), (0, [(6, 1)]), (0, [(7, 1)]), (0, [(8, 1)]), (0, [(9, 1)]), (0, [(10, 1)]), (0, [(11, 1)]), (0, [(12, 1)]), (0, [(13, 1)]), (0, [(14, 1)]), (0, [(15, 1)]), (0, [(16, 1)]), (0, [(17, 1)]), (0, [(18, 1)])]), (224, [(0, [(0, 1)]), (0, [(1, 1)]), (0, [(12, 1)]), (0, [(19, 1)])]), (325, [(0, [(0, 1)]), (0, [(1, 1)]), (0, [(12, 1)]), (0, [(20, 1)]), (0, [(21, 1)])]), (326, [(0, [(0, 1)]), (0, [(1, 1)]), (0, [(22, 1)]), (0, [(12, 1)]), (0, [(23, 1)]), (0, [(24, 1)]), (0, [(25, 1)]), (1, []), (1, [])]), (324, [(0, [(22, 1)]), (0, [(3, 1)]), (0, [(14, 1)]), (0, [(17, 1)]), (0, [(18, 1)])])], 26), [([], [], [], [], [], [], [(330, [(0, [(0, 1)]), (0, [(1, 1)]), (0, [(2, 1)]), (0, [(3, 1)]), (0, [(4, 1)]), (0, [(5, 1)]), (0, [(6, 1)]), (0, [(7, 1)]), (0, [(8, 1)]), (0, [(9, 1)]), (0, [(10, 1)]), (0, [(11, 1)]), (0, []), (0, []), (0, []), (0, [])])], 26)])
theorem zo_r2_l {P : zq_Ty} {h : zq_H} {g l S m e T f u A B C c p t M n Z D L h_ s q W x0 x1 x2 : Int} (a1 : 0 ≤ h_ - 1) (a2 : 0 ≤ -t + s - 1) (k1 : zo_RN g l S m e T f u A B C c p t M n Z D L P h) (k2 : ze_CD g l p h_ P h) (k3 : zo_CLt g l p s q P h) (k4 : zo_EV g l W p x0 x1 x2 1 1 P h) (k5 : zo_OD W m M D L P h) : (zo_RT g l S m e T f u A B C c 0 0 0 0 P h) := by
  have hp : p < ze_L g l := zr_in (by rw [← show h_ = ze_c g l p from k2]; omega)
  have k5 : W = zo_W m M D L := k5
  rw [k5] at k4
  exact k1 _ _ _ _ _ (zo_RR_bk hp k3 (by omega) k4 (by decide))
theorem zo_r2_ok {w : zq_Wd} (x_RN : zj_is w 331 (fun q => zo_RN (q 0) (q 1) (q 2) (q 3) (q 4) (q 5) (q 6) (q 7) (q 8) (q 9) (q 10) (q 11) (q 12) (q 13) (q 14) (q 15) (q 16) (q 17) (q 18))) (x_CD : zj_is w 224 (fun q => ze_CD (q 0) (q 1) (q 2) (q 3))) (x_CL : zj_is w 325 (fun q => zo_CLt (q 0) (q 1) (q 2) (q 3) (q 4))) (x_EVo : zj_is w 326 (fun q => zo_EV (q 0) (q 1) (q 2) (q 3) (q 4) (q 5) (q 6) (q 7) (q 8))) (x_OD : zj_is w 324 (fun q => zo_OD (q 0) (q 1) (q 2) (q 3) (q 4))) (x_RT : zj_is w 330 (fun q => zo_RT (q 0) (q 1) (q 2) (q 3) (q 4) (q 5) (q 6) (q 7) (q 8) (q 9) (q 10) (q 11) (q 12) (q 13) (q 14) (q 15))) : zq_okG1 w zo_r2 := by
  refine ⟨rfl, rfl, zu_fac ⟨rfl, by decide⟩ zq_fan, ?_⟩
  intro r P h H hM
  have q0 : zq_ev r (-1, [(19, 1)]) = r 19 - 1 := zu_e3 _ _ _
  have q1 : zq_ev r (-1, [(13, -1), (20, 1)]) = -r 13 + r 20 - 1 := by simp only [zq_ev, zq_ts] <;> omega
  have q2 : zq_ev r (0, [(0, 1)]) = r 0 := zu_e1 _ _
  have q3 : zq_ev r (0, [(1, 1)]) = r 1 := zu_e1 _ _
  have q4 : zq_ev r (0, [(2, 1)]) = r 2 := zu_e1 _ _
  have q5 : zq_ev r (0, [(3, 1)]) = r 3 := zu_e1 _ _
  have q6 : zq_ev r (0, [(4, 1)]) = r 4 := zu_e1 _ _
  have q7 : zq_ev r (0, [(5, 1)]) = r 5 := zu_e1 _ _
  have q8 : zq_ev r (0, [(6, 1)]) = r 6 := zu_e1 _ _
  have q9 : zq_ev r (0, [(7, 1)]) = r 7 := zu_e1 _ _
  have q10 : zq_ev r (0, [(8, 1)]) = r 8 := zu_e1 _ _
  have q11 : zq_ev r (0, [(9, 1)]) = r 9 := zu_e1 _ _
  have q12 : zq_ev r (0, [(10, 1)]) = r 10 := zu_e1 _ _
  have q13 : zq_ev r (0, [(11, 1)]) = r 11 := zu_e1 _ _
  have q14 : zq_ev r (0, [(12, 1)]) = r 12 := zu_e1 _ _
  have q15 : zq_ev r (0, [(13, 1)]) = r 13 := zu_e1 _ _
  have q16 : zq_ev r (0, [(14, 1)]) = r 14 := zu_e1 _ _
  have q17 : zq_ev r (0, [(15, 1)]) = r 15 := zu_e1 _ _
  have q18 : zq_ev r (0, [(16, 1)]) = r 16 := zu_e1 _ _
  have q19 : zq_ev r (0, [(17, 1)]) = r 17 := zu_e1 _ _
  have q20 : zq_ev r (0, [(18, 1)]) = r 18 := zu_e1 _ _
  have q21 : zq_ev r (0, [(19, 1)]) = r 19 := zu_e1 _ _
  have q22 : zq_ev r (0, [(20, 1)]) = r 20 := zu_e1 _ _
  have q23 : zq_ev r (0, [(21, 1)]) = r 21 := zu_e1 _ _
  have q24 : zq_ev r (0, [(22, 1)]) = r 22 := zu_e1 _ _
  have q25 : zq_ev r (0, [(23, 1)]) = r 23 := zu_e1 _ _
  have q26 : zq_ev r (0, [(24, 1)]) = r 24 := zu_e1 _ _
  have q27 : zq_ev r (0, [(25, 1)]) = r 25 := zu_e1 _ _
  have q28 : zq_ev r (1, []) = 1 := zu_e0 _ _
  obtain ⟨hT, hC, hF, hS, -, hK⟩ := hM
  have c := hC.1
  have a1 := zq_all_1 c
  rw [q0] at a1
  have c := zq_all_t c
  have a2 := zq_all_1 c
  rw [q1] at a2
  have k1 := zj_use x_RN (hK)
  have k1 : zo_RN (zq_ev r (0, [(0, 1)])) (zq_ev r (0, [(1, 1)])) (zq_ev r (0, [(2, 1)])) (zq_ev r (0, [(3, 1)])) (zq_ev r (0, [(4, 1)])) (zq_ev r (0, [(5, 1)])) (zq_ev r (0, [(6, 1)])) (zq_ev r (0, [(7, 1)])) (zq_ev r (0, [(8, 1)])) (zq_ev r (0, [(9, 1)])) (zq_ev r (0, [(10, 1)])) (zq_ev r (0, [(11, 1)])) (zq_ev r (0, [(12, 1)])) (zq_ev r (0, [(13, 1)])) (zq_ev r (0, [(14, 1)])) (zq_ev r (0, [(15, 1)])) (zq_ev r (0, [(16, 1)])) (zq_ev r (0, [(17, 1)])) (zq_ev r (0, [(18, 1)])) P h := k1
  simp only [q10, q11, q12, q13, q14, q15, q16, q17, q18, q19, q2, q20, q3, q4, q5, q6, q7, q8, q9] at k1
  have k2 := zj_use x_CD (zq_okX_t (hK))
  have k2 : ze_CD (zq_ev r (0, [(0, 1)])) (zq_ev r (0, [(1, 1)])) (zq_ev r (0, [(12, 1)])) (zq_ev r (0, [(19, 1)])) P h := k2
  simp only [q14, q2, q21, q3] at k2
  have k3 := zj_use x_CL (zq_okX_t (zq_okX_t (hK)))
  have k3 : zo_CLt (zq_ev r (0, [(0, 1)])) (zq_ev r (0, [(1, 1)])) (zq_ev r (0, [(12, 1)])) (zq_ev r (0, [(20, 1)])) (zq_ev r (0, [(21, 1)])) P h := k3
  simp only [q14, q2, q22, q23, q3] at k3
  have k4 := zj_use x_EVo (zq_okX_t (zq_okX_t (zq_okX_t (hK))))
  have k4 : zo_EV (zq_ev r (0, [(0, 1)])) (zq_ev r (0, [(1, 1)])) (zq_ev r (0, [(22, 1)])) (zq_ev r (0, [(12, 1)])) (zq_ev r (0, [(23, 1)])) (zq_ev r (0, [(24, 1)])) (zq_ev r (0, [(25, 1)])) (zq_ev r (1, [])) (zq_ev r (1, [])) P h := k4
  simp only [q14, q2, q24, q25, q26, q27, q28, q3] at k4
  have k5 := zj_use x_OD (zq_okX_t (zq_okX_t (zq_okX_t (zq_okX_t (hK)))))
  have k5 : zo_OD (zq_ev r (0, [(22, 1)])) (zq_ev r (0, [(3, 1)])) (zq_ev r (0, [(14, 1)])) (zq_ev r (0, [(17, 1)])) (zq_ev r (0, [(18, 1)])) P h := k5
  simp only [q16, q19, q20, q24, q5] at k5
  obtain t1 := zo_r2_l (P := P) (h := h) (g := r 0) (l := r 1) (S := r 2) (m := r 3) (e := r 4) (T := r 5) (f := r 6) (u := r 7) (A := r 8) (B := r 9) (C := r 10) (c := r 11) (p := r 12) (t := r 13) (M := r 14) (n := r 15) (Z := r 16) (D := r 17) (L := r 18) (h_ := r 19) (s := r 20) (q := r 21) (W := r 22) (x0 := r 23) (x1 := r 24) (x2 := r 25) a1 a2 k1 k2 k3 k4 k5
  obtain ⟨rq, hr⟩ : ∃ rq : Nat → Int, (∀ i, i < 26 → rq i = r i) := ⟨r, fun i hi => rfl⟩
  have v0 : rq 0 = r 0 := hr 0 (by decide)
  have v1 : rq 1 = r 1 := hr 1 (by decide)
  have v2 : rq 2 = r 2 := hr 2 (by decide)
  have v3 : rq 3 = r 3 := hr 3 (by decide)
  have v4 : rq 4 = r 4 := hr 4 (by decide)
  have v5 : rq 5 = r 5 := hr 5 (by decide)
  have v6 : rq 6 = r 6 := hr 6 (by decide)
  have v7 : rq 7 = r 7 := hr 7 (by decide)
  have v8 : rq 8 = r 8 := hr 8 (by decide)
  have v9 : rq 9 = r 9 := hr 9 (by decide)
  have v10 : rq 10 = r 10 := hr 10 (by decide)
  have v11 : rq 11 = r 11 := hr 11 (by decide)
  have g0 : zq_ev rq (0, [(0, 1)]) = r 0 := zu_f1 v0
  have g1 : zq_ev rq (0, [(1, 1)]) = r 1 := zu_f1 v1
  have g2 : zq_ev rq (0, [(2, 1)]) = r 2 := zu_f1 v2
  have g3 : zq_ev rq (0, [(3, 1)]) = r 3 := zu_f1 v3
  have g4 : zq_ev rq (0, [(4, 1)]) = r 4 := zu_f1 v4
  have g5 : zq_ev rq (0, [(5, 1)]) = r 5 := zu_f1 v5
  have g6 : zq_ev rq (0, [(6, 1)]) = r 6 := zu_f1 v6
  have g7 : zq_ev rq (0, [(7, 1)]) = r 7 := zu_f1 v7
  have g8 : zq_ev rq (0, [(8, 1)]) = r 8 := zu_f1 v8
  have g9 : zq_ev rq (0, [(9, 1)]) = r 9 := zu_f1 v9
  have g10 : zq_ev rq (0, [(10, 1)]) = r 10 := zu_f1 v10
  have g11 : zq_ev rq (0, [(11, 1)]) = r 11 := zu_f1 v11
  have g12 : zq_ev rq (0, []) = 0 := zu_e0 _ _
  exact ⟨_, List.mem_cons_self .., rq, hr, zq_MeS_mk rfl hT (zq_all_nil) zq_fan (zq_fan) rfl (zu_fac ((x_RT _ _ _).mpr (by show zo_RT (zq_ev rq (0, [(0, 1)])) (zq_ev rq (0, [(1, 1)])) (zq_ev rq (0, [(2, 1)])) (zq_ev rq (0, [(3, 1)])) (zq_ev rq (0, [(4, 1)])) (zq_ev rq (0, [(5, 1)])) (zq_ev rq (0, [(6, 1)])) (zq_ev rq (0, [(7, 1)])) (zq_ev rq (0, [(8, 1)])) (zq_ev rq (0, [(9, 1)])) (zq_ev rq (0, [(10, 1)])) (zq_ev rq (0, [(11, 1)])) (zq_ev rq (0, [])) (zq_ev rq (0, [])) (zq_ev rq (0, [])) (zq_ev rq (0, [])) P h; simp only [g0, g1, g10, g11, g12, g2, g3, g4, g5, g6, g7, g8, g9]; exact t1)) zq_fan)⟩
noncomputable def zo_r3 : zq_S × List zq_S := (([], [], [(-1, [(19, 1)]), (-1, [(13, -1), (20, 1)])], [], [], [], [(331, [(0, [(0, 1)]), (0, [(1, 1)]), (0, [(2, 1)]), (0, [(3, 1)]), (0, [(4, 1)]), (0, [(5, 1)]), (0, [(6, 1)]), (0, [(7, 1)]), (0, [(8, 1)]), (0, [(9, 1)]), (0, [(10, 1)]), (0, [(11, 1)]), (0, [(12, 1)]), (0, [(13, 1)]), (0, [(14, 1)]), (0, [(15, 1)]), (0, [(16, 1)]), (0, [(17, 1)]), (0, [(18, 1)])]), (224, [(0, [(0, 1)]), (0, [(1, 1)]), (0, [(12, 1)]), (0, [(19, 1)])]), (325, [(0, [(0, 1)]), (0, [(1, 1)]), (0, [(12, 1)]), (0, [(20, 1)]), (0, [(21, 1)])]), (326, [(0, [(0, 1)]), (0, [(1, 1)]), (0, [(22, 1)]), (0, [(12, 1)]), (0, [(23, 1)]), (0, [(24, 1)]), (0, [(25, 1)]), (0, []), (1, [])]), (324, [(0, [(22, 1)]), (0, [(3, 1)]), (0, [(14, 1)]), (0, [(17, 1)]), (0, [(18, 1)])]), (329, [(0, [(2, 1)]), (0, [(3, 1)]), (0, [(4, 1)]), (0, [(5, 1)]), (0, [(6, 1)]), (0, [(7, 1)]), (0, [(14, 1)]), (0, [(15, 1)]), (0, [(16, 1)]), (0, [(18, 1)]), (0, [(19, 1)]), (0, [(23, 1)]), (0, [(24, 1)]), (0, [(25, 1)]), (0, []), (0, []), (0, []), (0, []), (0, [])])], 26), [([], [], [], [], [], [], [(330, [(0, [(0, 1)]), (0, [(1, 1)]), (0, [(2, 1)]), (0, [(3, 1)]), (0, [(4, 1)]), (0, [(5, 1)]), (0, [(6, 1)]), (0, [(7, 1)]), (0, [(8, 1)]), (0, [(9, 1)]), (0, [(10, 1)]), (0, [(11, 1)]), (0, []), (0, []), (0, []), (0, [])])], 26)])
theorem zo_r3_l {P : zq_Ty} {h : zq_H} {g l S m e T f u A B C c p t M n Z D L h_ s q W x0 x1 x2 : Int} (a1 : 0 ≤ h_ - 1) (a2 : 0 ≤ -t + s - 1) (k1 : zo_RN g l S m e T f u A B C c p t M n Z D L P h) (k2 : ze_CD g l p h_ P h) (k3 : zo_CLt g l p s q P h) (k4 : zo_EV g l W p x0 x1 x2 0 1 P h) (k5 : zo_OD W m M D L P h) (k6 : zo_OOt S m e T f u M n Z L h_ x0 x1 x2 0 0 0 0 0 P h) : (zo_RT g l S m e T f u A B C c 0 0 0 0 P h) := by
  have hp : p < ze_L g l := zr_in (by rw [← show h_ = ze_c g l p from k2]; omega)
  have k5 : W = zo_W m M D L := k5
  rw [k5] at k4
  have k2 : h_ = ze_c g l p := k2
  have k6 : zo_OO S m e T f u M n Z L h_ x0 x1 x2 0 0 0 0 0 := k6
  rw [k2] at k6
  exact k1 _ _ _ _ _ (zo_RR_no hp k3 (by omega) k4 k6)
theorem zo_r3_ok {w : zq_Wd} (x_RN : zj_is w 331 (fun q => zo_RN (q 0) (q 1) (q 2) (q 3) (q 4) (q 5) (q 6) (q 7) (q 8) (q 9) (q 10) (q 11) (q 12) (q 13) (q 14) (q 15) (q 16) (q 17) (q 18))) (x_CD : zj_is w 224 (fun q => ze_CD (q 0) (q 1) (q 2) (q 3))) (x_CL : zj_is w 325 (fun q => zo_CLt (q 0) (q 1) (q 2) (q 3) (q 4))) (x_EVo : zj_is w 326 (fun q => zo_EV (q 0) (q 1) (q 2) (q 3) (q 4) (q 5) (q 6) (q 7) (q 8))) (x_OD : zj_is w 324 (fun q => zo_OD (q 0) (q 1) (q 2) (q 3) (q 4))) (x_OO : zj_is w 329 (fun q => zo_OOt (q 0) (q 1) (q 2) (q 3) (q 4) (q 5) (q 6) (q 7) (q 8) (q 9) (q 10) (q 11) (q 12) (q 13) (q 14) (q 15) (q 16) (q 17) (q 18))) (x_RT : zj_is w 330 (fun q => zo_RT (q 0) (q 1) (q 2) (q 3) (q 4) (q 5) (q 6) (q 7) (q 8) (q 9) (q 10) (q 11) (q 12) (q 13) (q 14) (q 15))) : zq_okG1 w zo_r3 := by
  refine ⟨rfl, rfl, zu_fac ⟨rfl, by decide⟩ zq_fan, ?_⟩
  intro r P h H hM
  have q0 : zq_ev r (-1, [(19, 1)]) = r 19 - 1 := zu_e3 _ _ _
  have q1 : zq_ev r (-1, [(13, -1), (20, 1)]) = -r 13 + r 20 - 1 := by simp only [zq_ev, zq_ts] <;> omega
  have q2 : zq_ev r (0, [(0, 1)]) = r 0 := zu_e1 _ _
  have q3 : zq_ev r (0, [(1, 1)]) = r 1 := zu_e1 _ _
  have q4 : zq_ev r (0, [(2, 1)]) = r 2 := zu_e1 _ _
  have q5 : zq_ev r (0, [(3, 1)]) = r 3 := zu_e1 _ _
  have q6 : zq_ev r (0, [(4, 1)]) = r 4 := zu_e1 _ _
  have q7 : zq_ev r (0, [(5, 1)]) = r 5 := zu_e1 _ _
  have q8 : zq_ev r (0, [(6, 1)]) = r 6 := zu_e1 _ _
  have q9 : zq_ev r (0, [(7, 1)]) = r 7 := zu_e1 _ _
  have q10 : zq_ev r (0, [(8, 1)]) = r 8 := zu_e1 _ _
  have q11 : zq_ev r (0, [(9, 1)]) = r 9 := zu_e1 _ _
  have q12 : zq_ev r (0, [(10, 1)]) = r 10 := zu_e1 _ _
  have q13 : zq_ev r (0, [(11, 1)]) = r 11 := zu_e1 _ _
  have q14 : zq_ev r (0, [(12, 1)]) = r 12 := zu_e1 _ _
  have q15 : zq_ev r (0, [(13, 1)]) = r 13 := zu_e1 _ _
  have q16 : zq_ev r (0, [(14, 1)]) = r 14 := zu_e1 _ _
  have q17 : zq_ev r (0, [(15, 1)]) = r 15 := zu_e1 _ _
  have q18 : zq_ev r (0, [(16, 1)]) = r 16 := zu_e1 _ _
  have q19 : zq_ev r (0, [(17, 1)]) = r 17 := zu_e1 _ _
  have q20 : zq_ev r (0, [(18, 1)]) = r 18 := zu_e1 _ _
  have q21 : zq_ev r (0, [(19, 1)]) = r 19 := zu_e1 _ _
  have q22 : zq_ev r (0, [(20, 1)]) = r 20 := zu_e1 _ _
  have q23 : zq_ev r (0, [(21, 1)]) = r 21 := zu_e1 _ _
  have q24 : zq_ev r (0, [(22, 1)]) = r 22 := zu_e1 _ _
  have q25 : zq_ev r (0, [(23, 1)]) = r 23 := zu_e1 _ _
  have q26 : zq_ev r (0, [(24, 1)]) = r 24 := zu_e1 _ _
  have q27 : zq_ev r (0, [(25, 1)]) = r 25 := zu_e1 _ _
  have q28 : zq_ev r (0, []) = 0 := zu_e0 _ _
  have q29 : zq_ev r (1, []) = 1 := zu_e0 _ _
  obtain ⟨hT, hC, hF, hS, -, hK⟩ := hM
  have c := hC.1
  have a1 := zq_all_1 c
  rw [q0] at a1
  have c := zq_all_t c
  have a2 := zq_all_1 c
  rw [q1] at a2
  have k1 := zj_use x_RN (hK)
  have k1 : zo_RN (zq_ev r (0, [(0, 1)])) (zq_ev r (0, [(1, 1)])) (zq_ev r (0, [(2, 1)])) (zq_ev r (0, [(3, 1)])) (zq_ev r (0, [(4, 1)])) (zq_ev r (0, [(5, 1)])) (zq_ev r (0, [(6, 1)])) (zq_ev r (0, [(7, 1)])) (zq_ev r (0, [(8, 1)])) (zq_ev r (0, [(9, 1)])) (zq_ev r (0, [(10, 1)])) (zq_ev r (0, [(11, 1)])) (zq_ev r (0, [(12, 1)])) (zq_ev r (0, [(13, 1)])) (zq_ev r (0, [(14, 1)])) (zq_ev r (0, [(15, 1)])) (zq_ev r (0, [(16, 1)])) (zq_ev r (0, [(17, 1)])) (zq_ev r (0, [(18, 1)])) P h := k1
  simp only [q10, q11, q12, q13, q14, q15, q16, q17, q18, q19, q2, q20, q3, q4, q5, q6, q7, q8, q9] at k1
  have k2 := zj_use x_CD (zq_okX_t (hK))
  have k2 : ze_CD (zq_ev r (0, [(0, 1)])) (zq_ev r (0, [(1, 1)])) (zq_ev r (0, [(12, 1)])) (zq_ev r (0, [(19, 1)])) P h := k2
  simp only [q14, q2, q21, q3] at k2
  have k3 := zj_use x_CL (zq_okX_t (zq_okX_t (hK)))
  have k3 : zo_CLt (zq_ev r (0, [(0, 1)])) (zq_ev r (0, [(1, 1)])) (zq_ev r (0, [(12, 1)])) (zq_ev r (0, [(20, 1)])) (zq_ev r (0, [(21, 1)])) P h := k3
  simp only [q14, q2, q22, q23, q3] at k3
  have k4 := zj_use x_EVo (zq_okX_t (zq_okX_t (zq_okX_t (hK))))
  have k4 : zo_EV (zq_ev r (0, [(0, 1)])) (zq_ev r (0, [(1, 1)])) (zq_ev r (0, [(22, 1)])) (zq_ev r (0, [(12, 1)])) (zq_ev r (0, [(23, 1)])) (zq_ev r (0, [(24, 1)])) (zq_ev r (0, [(25, 1)])) (zq_ev r (0, [])) (zq_ev r (1, [])) P h := k4
  simp only [q14, q2, q24, q25, q26, q27, q28, q29, q3] at k4
  have k5 := zj_use x_OD (zq_okX_t (zq_okX_t (zq_okX_t (zq_okX_t (hK)))))
  have k5 : zo_OD (zq_ev r (0, [(22, 1)])) (zq_ev r (0, [(3, 1)])) (zq_ev r (0, [(14, 1)])) (zq_ev r (0, [(17, 1)])) (zq_ev r (0, [(18, 1)])) P h := k5
  simp only [q16, q19, q20, q24, q5] at k5
  have k6 := zj_use x_OO (zq_okX_t (zq_okX_t (zq_okX_t (zq_okX_t (zq_okX_t (hK))))))
  have k6 : zo_OOt (zq_ev r (0, [(2, 1)])) (zq_ev r (0, [(3, 1)])) (zq_ev r (0, [(4, 1)])) (zq_ev r (0, [(5, 1)])) (zq_ev r (0, [(6, 1)])) (zq_ev r (0, [(7, 1)])) (zq_ev r (0, [(14, 1)])) (zq_ev r (0, [(15, 1)])) (zq_ev r (0, [(16, 1)])) (zq_ev r (0, [(18, 1)])) (zq_ev r (0, [(19, 1)])) (zq_ev r (0, [(23, 1)])) (zq_ev r (0, [(24, 1)])) (zq_ev r (0, [(25, 1)])) (zq_ev r (0, [])) (zq_ev r (0, [])) (zq_ev r (0, [])) (zq_ev r (0, [])) (zq_ev r (0, [])) P h := k6
  simp only [q16, q17, q18, q20, q21, q25, q26, q27, q28, q4, q5, q6, q7, q8, q9] at k6
  obtain t1 := zo_r3_l (P := P) (h := h) (g := r 0) (l := r 1) (S := r 2) (m := r 3) (e := r 4) (T := r 5) (f := r 6) (u := r 7) (A := r 8) (B := r 9) (C := r 10) (c := r 11) (p := r 12) (t := r 13) (M := r 14) (n := r 15) (Z := r 16) (D := r 17) (L := r 18) (h_ := r 19) (s := r 20) (q := r 21) (W := r 22) (x0 := r 23) (x1 := r 24) (x2 := r 25) a1 a2 k1 k2 k3 k4 k5 k6
  obtain ⟨rq, hr⟩ : ∃ rq : Nat → Int, (∀ i, i < 26 → rq i = r i) := ⟨r, fun i hi => rfl⟩
  have v0 : rq 0 = r 0 := hr 0 (by decide)
  have v1 : rq 1 = r 1 := hr 1 (by decide)
  have v2 : rq 2 = r 2 := hr 2 (by decide)
  have v3 : rq 3 = r 3 := hr 3 (by decide)
  have v4 : rq 4 = r 4 := hr 4 (by decide)
  have v5 : rq 5 = r 5 := hr 5 (by decide)
  have v6 : rq 6 = r 6 := hr 6 (by decide)
  have v7 : rq 7 = r 7 := hr 7 (by decide)
  have v8 : rq 8 = r 8 := hr 8 (by decide)
  have v9 : rq 9 = r 9 := hr 9 (by decide)
  have v10 : rq 10 = r 10 := hr 10 (by decide)
  have v11 : rq 11 = r 11 := hr 11 (by decide)
  have g0 : zq_ev rq (0, [(0, 1)]) = r 0 := zu_f1 v0
  have g1 : zq_ev rq (0, [(1, 1)]) = r 1 := zu_f1 v1
  have g2 : zq_ev rq (0, [(2, 1)]) = r 2 := zu_f1 v2
  have g3 : zq_ev rq (0, [(3, 1)]) = r 3 := zu_f1 v3
  have g4 : zq_ev rq (0, [(4, 1)]) = r 4 := zu_f1 v4
  have g5 : zq_ev rq (0, [(5, 1)]) = r 5 := zu_f1 v5
  have g6 : zq_ev rq (0, [(6, 1)]) = r 6 := zu_f1 v6
  have g7 : zq_ev rq (0, [(7, 1)]) = r 7 := zu_f1 v7
  have g8 : zq_ev rq (0, [(8, 1)]) = r 8 := zu_f1 v8
  have g9 : zq_ev rq (0, [(9, 1)]) = r 9 := zu_f1 v9
  have g10 : zq_ev rq (0, [(10, 1)]) = r 10 := zu_f1 v10
  have g11 : zq_ev rq (0, [(11, 1)]) = r 11 := zu_f1 v11
  have g12 : zq_ev rq (0, []) = 0 := zu_e0 _ _
  exact ⟨_, List.mem_cons_self .., rq, hr, zq_MeS_mk rfl hT (zq_all_nil) zq_fan (zq_fan) rfl (zu_fac ((x_RT _ _ _).mpr (by show zo_RT (zq_ev rq (0, [(0, 1)])) (zq_ev rq (0, [(1, 1)])) (zq_ev rq (0, [(2, 1)])) (zq_ev rq (0, [(3, 1)])) (zq_ev rq (0, [(4, 1)])) (zq_ev rq (0, [(5, 1)])) (zq_ev rq (0, [(6, 1)])) (zq_ev rq (0, [(7, 1)])) (zq_ev rq (0, [(8, 1)])) (zq_ev rq (0, [(9, 1)])) (zq_ev rq (0, [(10, 1)])) (zq_ev rq (0, [(11, 1)])) (zq_ev rq (0, [])) (zq_ev rq (0, [])) (zq_ev rq (0, [])) (zq_ev rq (0, [])) P h; simp only [g0, g1, g10, g11, g12, g2, g3, g4, g5, g6, g7, g8, g9]; exact t1)) zq_fan)⟩
noncomputable def zo_r4 : zq_S × List zq_S := (([], [], [(-1, [(19, 1)]), (-1, [(13, -1), (20, 1)])], [], [], [], [(331, [(0, [(0, 1)]), (0, [(1, 1)]), (0, [(2, 1)]), (0, [(3, 1)]), (0, [(4, 1)]), (0, [(5, 1)]), (0, [(6, 1)]), (0, [(7, 1)]), (0, [(8, 1)]), (0, [(9, 1)]), (0, [(10, 1)]), (0, [(11, 1)]), (0, [(12, 1)]), (0, [(13, 1)]), (0, [(14, 1)]), (0, [(15, 1)]), (0, [(16, 1)]), (0, [(17, 1)]), (0, [(18, 1)])]), (224, [(0, [(0, 1)]), (0, [(1, 1)]), (0, [(12, 1)]), (0, [(19, 1)])]), (325, [(0, [(0, 1)]), (0, [(1, 1)]), (0, [(12, 1)]), (0, [(20, 1)]), (0, [(21, 1)])]), (326, [(0, [(0, 1)]), (0, [(1, 1)]), (0, [(22, 1)]), (0, [(12, 1)]), (0, [(23, 1)]), (0, [(24, 1)]), (0, [(25, 1)]), (0, []), (1, [])]), (324, [(0, [(22, 1)]), (0, [(3, 1)]), (0, [(14, 1)]), (0, [(17, 1)]), (0, [(18, 1)])]), (329, [(0, [(2, 1)]), (0, [(3, 1)]), (0, [(4, 1)]), (0, [(5, 1)]), (0, [(6, 1)]), (0, [(7, 1)]), (0, [(14, 1)]), (0, [(15, 1)]), (0, [(16, 1)]), (0, [(18, 1)]), (0, [(19, 1)]), (0, [(23, 1)]), (0, [(24, 1)]), (0, [(25, 1)]), (1, []), (0, [(26, 1)]), (0, [(27, 1)]), (0, [(28, 1)]), (0, [(29, 1)])]), (85, [(0, []), (0, [(17, 1)]), (1, []), (0, [(30, 1)])])], 31), [([], [], [], [], [], [], [(331, [(0, [(0, 1)]), (0, [(1, 1)]), (0, [(2, 1)]), (0, [(3, 1)]), (0, [(4, 1)]), (0, [(5, 1)]), (0, [(6, 1)]), (0, [(7, 1)]), (0, [(8, 1)]), (0, [(9, 1)]), (0, [(10, 1)]), (0, [(11, 1)]), (0, [(12, 1)]), (1, [(13, 1)]), (0, [(26, 1)]), (0, [(27, 1)]), (0, [(28, 1)]), (0, [(30, 1)]), (0, [(29, 1)])])], 31)])
theorem zo_r4_l {P : zq_Ty} {h : zq_H} {g l S m e T f u A B C c p t M n Z D L h_ s q W x0 x1 x2 N i Y K J : Int} (a1 : 0 ≤ h_ - 1) (a2 : 0 ≤ -t + s - 1) (k1 : zo_RN g l S m e T f u A B C c p t M n Z D L P h) (k2 : ze_CD g l p h_ P h) (k3 : zo_CLt g l p s q P h) (k4 : zo_EV g l W p x0 x1 x2 0 1 P h) (k5 : zo_OD W m M D L P h) (k6 : zo_OOt S m e T f u M n Z L h_ x0 x1 x2 1 N i Y K P h) (k7 : zo_op 0 D 1 J P h) : (zo_RN g l S m e T f u A B C c p (t + 1) N i Y J K P h) := by
  have hp : p < ze_L g l := zr_in (by rw [← show h_ = ze_c g l p from k2]; omega)
  have k5 : W = zo_W m M D L := k5
  rw [k5] at k4
  have k2 : h_ = ze_c g l p := k2
  have k6 : zo_OO S m e T f u M n Z L h_ x0 x1 x2 1 N i Y K := k6
  rw [k2] at k6
  rw [show J = zo_inc D from k7]
  exact fun _ _ _ _ _ z => k1 _ _ _ _ _ (zo_RR_go hp k3 (by omega) k4 k6 z)
theorem zo_r4_ok {w : zq_Wd} (x_RN : zj_is w 331 (fun q => zo_RN (q 0) (q 1) (q 2) (q 3) (q 4) (q 5) (q 6) (q 7) (q 8) (q 9) (q 10) (q 11) (q 12) (q 13) (q 14) (q 15) (q 16) (q 17) (q 18))) (x_CD : zj_is w 224 (fun q => ze_CD (q 0) (q 1) (q 2) (q 3))) (x_CL : zj_is w 325 (fun q => zo_CLt (q 0) (q 1) (q 2) (q 3) (q 4))) (x_EVo : zj_is w 326 (fun q => zo_EV (q 0) (q 1) (q 2) (q 3) (q 4) (q 5) (q 6) (q 7) (q 8))) (x_OD : zj_is w 324 (fun q => zo_OD (q 0) (q 1) (q 2) (q 3) (q 4))) (x_OO : zj_is w 329 (fun q => zo_OOt (q 0) (q 1) (q 2) (q 3) (q 4) (q 5) (q 6) (q 7) (q 8) (q 9) (q 10) (q 11) (q 12) (q 13) (q 14) (q 15) (q 16) (q 17) (q 18))) (x_OP : zj_is w 85 (fun q => zo_op (q 0) (q 1) (q 2) (q 3))) : zq_okG1 w zo_r4 := by
  refine ⟨rfl, rfl, zu_fac ⟨rfl, by decide⟩ zq_fan, ?_⟩
  intro r P h H hM
  have q0 : zq_ev r (-1, [(19, 1)]) = r 19 - 1 := zu_e3 _ _ _
  have q1 : zq_ev r (-1, [(13, -1), (20, 1)]) = -r 13 + r 20 - 1 := by simp only [zq_ev, zq_ts] <;> omega
  have q2 : zq_ev r (0, [(0, 1)]) = r 0 := zu_e1 _ _
  have q3 : zq_ev r (0, [(1, 1)]) = r 1 := zu_e1 _ _
  have q4 : zq_ev r (0, [(2, 1)]) = r 2 := zu_e1 _ _
  have q5 : zq_ev r (0, [(3, 1)]) = r 3 := zu_e1 _ _
  have q6 : zq_ev r (0, [(4, 1)]) = r 4 := zu_e1 _ _
  have q7 : zq_ev r (0, [(5, 1)]) = r 5 := zu_e1 _ _
  have q8 : zq_ev r (0, [(6, 1)]) = r 6 := zu_e1 _ _
  have q9 : zq_ev r (0, [(7, 1)]) = r 7 := zu_e1 _ _
  have q10 : zq_ev r (0, [(8, 1)]) = r 8 := zu_e1 _ _
  have q11 : zq_ev r (0, [(9, 1)]) = r 9 := zu_e1 _ _
  have q12 : zq_ev r (0, [(10, 1)]) = r 10 := zu_e1 _ _
  have q13 : zq_ev r (0, [(11, 1)]) = r 11 := zu_e1 _ _
  have q14 : zq_ev r (0, [(12, 1)]) = r 12 := zu_e1 _ _
  have q15 : zq_ev r (0, [(13, 1)]) = r 13 := zu_e1 _ _
  have q16 : zq_ev r (0, [(14, 1)]) = r 14 := zu_e1 _ _
  have q17 : zq_ev r (0, [(15, 1)]) = r 15 := zu_e1 _ _
  have q18 : zq_ev r (0, [(16, 1)]) = r 16 := zu_e1 _ _
  have q19 : zq_ev r (0, [(17, 1)]) = r 17 := zu_e1 _ _
  have q20 : zq_ev r (0, [(18, 1)]) = r 18 := zu_e1 _ _
  have q21 : zq_ev r (0, [(19, 1)]) = r 19 := zu_e1 _ _
  have q22 : zq_ev r (0, [(20, 1)]) = r 20 := zu_e1 _ _
  have q23 : zq_ev r (0, [(21, 1)]) = r 21 := zu_e1 _ _
  have q24 : zq_ev r (0, [(22, 1)]) = r 22 := zu_e1 _ _
  have q25 : zq_ev r (0, [(23, 1)]) = r 23 := zu_e1 _ _
  have q26 : zq_ev r (0, [(24, 1)]) = r 24 := zu_e1 _ _
  have q27 : zq_ev r (0, [(25, 1)]) = r 25 := zu_e1 _ _
  have q28 : zq_ev r (0, []) = 0 := zu_e0 _ _
  have q29 : zq_ev r (1, []) = 1 := zu_e0 _ _
  have q30 : zq_ev r (0, [(26, 1)]) = r 26 := zu_e1 _ _
  have q31 : zq_ev r (0, [(27, 1)]) = r 27 := zu_e1 _ _
  have q32 : zq_ev r (0, [(28, 1)]) = r 28 := zu_e1 _ _
  have q33 : zq_ev r (0, [(29, 1)]) = r 29 := zu_e1 _ _
  have q34 : zq_ev r (0, [(30, 1)]) = r 30 := zu_e1 _ _
  obtain ⟨hT, hC, hF, hS, -, hK⟩ := hM
  have c := hC.1
  have a1 := zq_all_1 c
  rw [q0] at a1
  have c := zq_all_t c
  have a2 := zq_all_1 c
  rw [q1] at a2
  have k1 := zj_use x_RN (hK)
  have k1 : zo_RN (zq_ev r (0, [(0, 1)])) (zq_ev r (0, [(1, 1)])) (zq_ev r (0, [(2, 1)])) (zq_ev r (0, [(3, 1)])) (zq_ev r (0, [(4, 1)])) (zq_ev r (0, [(5, 1)])) (zq_ev r (0, [(6, 1)])) (zq_ev r (0, [(7, 1)])) (zq_ev r (0, [(8, 1)])) (zq_ev r (0, [(9, 1)])) (zq_ev r (0, [(10, 1)])) (zq_ev r (0, [(11, 1)])) (zq_ev r (0, [(12, 1)])) (zq_ev r (0, [(13, 1)])) (zq_ev r (0, [(14, 1)])) (zq_ev r (0, [(15, 1)])) (zq_ev r (0, [(16, 1)])) (zq_ev r (0, [(17, 1)])) (zq_ev r (0, [(18, 1)])) P h := k1
  simp only [q10, q11, q12, q13, q14, q15, q16, q17, q18, q19, q2, q20, q3, q4, q5, q6, q7, q8, q9] at k1
  have k2 := zj_use x_CD (zq_okX_t (hK))
  have k2 : ze_CD (zq_ev r (0, [(0, 1)])) (zq_ev r (0, [(1, 1)])) (zq_ev r (0, [(12, 1)])) (zq_ev r (0, [(19, 1)])) P h := k2
  simp only [q14, q2, q21, q3] at k2
  have k3 := zj_use x_CL (zq_okX_t (zq_okX_t (hK)))
  have k3 : zo_CLt (zq_ev r (0, [(0, 1)])) (zq_ev r (0, [(1, 1)])) (zq_ev r (0, [(12, 1)])) (zq_ev r (0, [(20, 1)])) (zq_ev r (0, [(21, 1)])) P h := k3
  simp only [q14, q2, q22, q23, q3] at k3
  have k4 := zj_use x_EVo (zq_okX_t (zq_okX_t (zq_okX_t (hK))))
  have k4 : zo_EV (zq_ev r (0, [(0, 1)])) (zq_ev r (0, [(1, 1)])) (zq_ev r (0, [(22, 1)])) (zq_ev r (0, [(12, 1)])) (zq_ev r (0, [(23, 1)])) (zq_ev r (0, [(24, 1)])) (zq_ev r (0, [(25, 1)])) (zq_ev r (0, [])) (zq_ev r (1, [])) P h := k4
  simp only [q14, q2, q24, q25, q26, q27, q28, q29, q3] at k4
  have k5 := zj_use x_OD (zq_okX_t (zq_okX_t (zq_okX_t (zq_okX_t (hK)))))
  have k5 : zo_OD (zq_ev r (0, [(22, 1)])) (zq_ev r (0, [(3, 1)])) (zq_ev r (0, [(14, 1)])) (zq_ev r (0, [(17, 1)])) (zq_ev r (0, [(18, 1)])) P h := k5
  simp only [q16, q19, q20, q24, q5] at k5
  have k6 := zj_use x_OO (zq_okX_t (zq_okX_t (zq_okX_t (zq_okX_t (zq_okX_t (hK))))))
  have k6 : zo_OOt (zq_ev r (0, [(2, 1)])) (zq_ev r (0, [(3, 1)])) (zq_ev r (0, [(4, 1)])) (zq_ev r (0, [(5, 1)])) (zq_ev r (0, [(6, 1)])) (zq_ev r (0, [(7, 1)])) (zq_ev r (0, [(14, 1)])) (zq_ev r (0, [(15, 1)])) (zq_ev r (0, [(16, 1)])) (zq_ev r (0, [(18, 1)])) (zq_ev r (0, [(19, 1)])) (zq_ev r (0, [(23, 1)])) (zq_ev r (0, [(24, 1)])) (zq_ev r (0, [(25, 1)])) (zq_ev r (1, [])) (zq_ev r (0, [(26, 1)])) (zq_ev r (0, [(27, 1)])) (zq_ev r (0, [(28, 1)])) (zq_ev r (0, [(29, 1)])) P h := k6
  simp only [q16, q17, q18, q20, q21, q25, q26, q27, q29, q30, q31, q32, q33, q4, q5, q6, q7, q8, q9] at k6
  have k7 := zj_use x_OP (zq_okX_t (zq_okX_t (zq_okX_t (zq_okX_t (zq_okX_t (zq_okX_t (hK)))))))
  have k7 : zo_op (zq_ev r (0, [])) (zq_ev r (0, [(17, 1)])) (zq_ev r (1, [])) (zq_ev r (0, [(30, 1)])) P h := k7
  simp only [q19, q28, q29, q34] at k7
  obtain t1 := zo_r4_l (P := P) (h := h) (g := r 0) (l := r 1) (S := r 2) (m := r 3) (e := r 4) (T := r 5) (f := r 6) (u := r 7) (A := r 8) (B := r 9) (C := r 10) (c := r 11) (p := r 12) (t := r 13) (M := r 14) (n := r 15) (Z := r 16) (D := r 17) (L := r 18) (h_ := r 19) (s := r 20) (q := r 21) (W := r 22) (x0 := r 23) (x1 := r 24) (x2 := r 25) (N := r 26) (i := r 27) (Y := r 28) (K := r 29) (J := r 30) a1 a2 k1 k2 k3 k4 k5 k6 k7
  obtain ⟨rq, hr⟩ : ∃ rq : Nat → Int, (∀ i, i < 31 → rq i = r i) := ⟨r, fun i hi => rfl⟩
  have v0 : rq 0 = r 0 := hr 0 (by decide)
  have v1 : rq 1 = r 1 := hr 1 (by decide)
  have v2 : rq 2 = r 2 := hr 2 (by decide)
  have v3 : rq 3 = r 3 := hr 3 (by decide)
  have v4 : rq 4 = r 4 := hr 4 (by decide)
  have v5 : rq 5 = r 5 := hr 5 (by decide)
  have v6 : rq 6 = r 6 := hr 6 (by decide)
  have v7 : rq 7 = r 7 := hr 7 (by decide)
  have v8 : rq 8 = r 8 := hr 8 (by decide)
  have v9 : rq 9 = r 9 := hr 9 (by decide)
  have v10 : rq 10 = r 10 := hr 10 (by decide)
  have v11 : rq 11 = r 11 := hr 11 (by decide)
  have v12 : rq 12 = r 12 := hr 12 (by decide)
  have v13 : rq 13 = r 13 := hr 13 (by decide)
  have v26 : rq 26 = r 26 := hr 26 (by decide)
  have v27 : rq 27 = r 27 := hr 27 (by decide)
  have v28 : rq 28 = r 28 := hr 28 (by decide)
  have v29 : rq 29 = r 29 := hr 29 (by decide)
  have v30 : rq 30 = r 30 := hr 30 (by decide)
  have g0 : zq_ev rq (0, [(0, 1)]) = r 0 := zu_f1 v0
  have g1 : zq_ev rq (0, [(1, 1)]) = r 1 := zu_f1 v1
  have g2 : zq_ev rq (0, [(2, 1)]) = r 2 := zu_f1 v2
  have g3 : zq_ev rq (0, [(3, 1)]) = r 3 := zu_f1 v3
  have g4 : zq_ev rq (0, [(4, 1)]) = r 4 := zu_f1 v4
  have g5 : zq_ev rq (0, [(5, 1)]) = r 5 := zu_f1 v5
  have g6 : zq_ev rq (0, [(6, 1)]) = r 6 := zu_f1 v6
  have g7 : zq_ev rq (0, [(7, 1)]) = r 7 := zu_f1 v7
  have g8 : zq_ev rq (0, [(8, 1)]) = r 8 := zu_f1 v8
  have g9 : zq_ev rq (0, [(9, 1)]) = r 9 := zu_f1 v9
  have g10 : zq_ev rq (0, [(10, 1)]) = r 10 := zu_f1 v10
  have g11 : zq_ev rq (0, [(11, 1)]) = r 11 := zu_f1 v11
  have g12 : zq_ev rq (0, [(12, 1)]) = r 12 := zu_f1 v12
  have g13 : zq_ev rq (1, [(13, 1)]) = r 13 + 1 := zu_f2 v13 _
  have g14 : zq_ev rq (0, [(26, 1)]) = r 26 := zu_f1 v26
  have g15 : zq_ev rq (0, [(27, 1)]) = r 27 := zu_f1 v27
  have g16 : zq_ev rq (0, [(28, 1)]) = r 28 := zu_f1 v28
  have g17 : zq_ev rq (0, [(30, 1)]) = r 30 := zu_f1 v30
  have g18 : zq_ev rq (0, [(29, 1)]) = r 29 := zu_f1 v29
  exact ⟨_, List.mem_cons_self .., rq, hr, zq_MeS_mk rfl hT (zq_all_nil) zq_fan (zq_fan) rfl (zu_fac ((x_RN _ _ _).mpr (by show zo_RN (zq_ev rq (0, [(0, 1)])) (zq_ev rq (0, [(1, 1)])) (zq_ev rq (0, [(2, 1)])) (zq_ev rq (0, [(3, 1)])) (zq_ev rq (0, [(4, 1)])) (zq_ev rq (0, [(5, 1)])) (zq_ev rq (0, [(6, 1)])) (zq_ev rq (0, [(7, 1)])) (zq_ev rq (0, [(8, 1)])) (zq_ev rq (0, [(9, 1)])) (zq_ev rq (0, [(10, 1)])) (zq_ev rq (0, [(11, 1)])) (zq_ev rq (0, [(12, 1)])) (zq_ev rq (1, [(13, 1)])) (zq_ev rq (0, [(26, 1)])) (zq_ev rq (0, [(27, 1)])) (zq_ev rq (0, [(28, 1)])) (zq_ev rq (0, [(30, 1)])) (zq_ev rq (0, [(29, 1)])) P h; simp only [g0, g1, g10, g11, g12, g13, g14, g15, g16, g17, g18, g2, g3, g4, g5, g6, g7, g8, g9]; exact t1)) zq_fan)⟩
noncomputable def zo_r9 : zq_S × List zq_S := (([], [], [], [], [], [], [(331, [(0, [(0, 1)]), (0, [(1, 1)]), (0, [(2, 1)]), (0, [(3, 1)]), (0, [(4, 1)]), (0, [(5, 1)]), (0, [(6, 1)]), (0, [(7, 1)]), (0, [(8, 1)]), (0, [(9, 1)]), (0, [(10, 1)]), (0, [(11, 1)]), (0, [(12, 1)]), (0, [(13, 1)]), (0, [(14, 1)]), (0, [(15, 1)]), (0, [(16, 1)]), (0, [(17, 1)]), (0, [(18, 1)])]), (327, [(0, [(0, 1)]), (0, [(1, 1)]), (0, [(12, 1)])])], 19), [([], [], [], [], [], [], [(330, [(0, [(0, 1)]), (0, [(1, 1)]), (0, [(2, 1)]), (0, [(3, 1)]), (0, [(4, 1)]), (0, [(5, 1)]), (0, [(6, 1)]), (0, [(7, 1)]), (0, [(8, 1)]), (0, [(9, 1)]), (0, [(10, 1)]), (-1, []), (0, [(14, 1)]), (0, [(15, 1)]), (0, [(16, 1)]), (0, [(17, 1)])])], 19)])
theorem zo_r9_l {P : zq_Ty} {h : zq_H} {g l S m e T f u A B C c p t M n Z D L : Int} (k1 : zo_RN g l S m e T f u A B C c p t M n Z D L P h) (k2 : zo_LE g l p P h) : (zo_RT g l S m e T f u A B C (-1) M n Z D P h) := by
  exact k1 _ _ _ _ _ (zo_RR_end k2)
theorem zo_r9_ok {w : zq_Wd} (x_RN : zj_is w 331 (fun q => zo_RN (q 0) (q 1) (q 2) (q 3) (q 4) (q 5) (q 6) (q 7) (q 8) (q 9) (q 10) (q 11) (q 12) (q 13) (q 14) (q 15) (q 16) (q 17) (q 18))) (x_LE : zj_is w 327 (fun q => zo_LE (q 0) (q 1) (q 2))) (x_RT : zj_is w 330 (fun q => zo_RT (q 0) (q 1) (q 2) (q 3) (q 4) (q 5) (q 6) (q 7) (q 8) (q 9) (q 10) (q 11) (q 12) (q 13) (q 14) (q 15))) : zq_okG1 w zo_r9 := by
  refine ⟨rfl, rfl, zu_fac ⟨rfl, by decide⟩ zq_fan, ?_⟩
  intro r P h H hM
  have q0 : zq_ev r (0, [(0, 1)]) = r 0 := zu_e1 _ _
  have q1 : zq_ev r (0, [(1, 1)]) = r 1 := zu_e1 _ _
  have q2 : zq_ev r (0, [(2, 1)]) = r 2 := zu_e1 _ _
  have q3 : zq_ev r (0, [(3, 1)]) = r 3 := zu_e1 _ _
  have q4 : zq_ev r (0, [(4, 1)]) = r 4 := zu_e1 _ _
  have q5 : zq_ev r (0, [(5, 1)]) = r 5 := zu_e1 _ _
  have q6 : zq_ev r (0, [(6, 1)]) = r 6 := zu_e1 _ _
  have q7 : zq_ev r (0, [(7, 1)]) = r 7 := zu_e1 _ _
  have q8 : zq_ev r (0, [(8, 1)]) = r 8 := zu_e1 _ _
  have q9 : zq_ev r (0, [(9, 1)]) = r 9 := zu_e1 _ _
  have q10 : zq_ev r (0, [(10, 1)]) = r 10 := zu_e1 _ _
  have q11 : zq_ev r (0, [(11, 1)]) = r 11 := zu_e1 _ _
  have q12 : zq_ev r (0, [(12, 1)]) = r 12 := zu_e1 _ _
  have q13 : zq_ev r (0, [(13, 1)]) = r 13 := zu_e1 _ _
  have q14 : zq_ev r (0, [(14, 1)]) = r 14 := zu_e1 _ _
  have q15 : zq_ev r (0, [(15, 1)]) = r 15 := zu_e1 _ _
  have q16 : zq_ev r (0, [(16, 1)]) = r 16 := zu_e1 _ _
  have q17 : zq_ev r (0, [(17, 1)]) = r 17 := zu_e1 _ _
  have q18 : zq_ev r (0, [(18, 1)]) = r 18 := zu_e1 _ _
  obtain ⟨hT, hC, hF, hS, -, hK⟩ := hM
  have c := hC.1
  have k1 := zj_use x_RN (hK)
  have k1 : zo_RN (zq_ev r (0, [(0, 1)])) (zq_ev r (0, [(1, 1)])) (zq_ev r (0, [(2, 1)])) (zq_ev r (0, [(3, 1)])) (zq_ev r (0, [(4, 1)])) (zq_ev r (0, [(5, 1)])) (zq_ev r (0, [(6, 1)])) (zq_ev r (0, [(7, 1)])) (zq_ev r (0, [(8, 1)])) (zq_ev r (0, [(9, 1)])) (zq_ev r (0, [(10, 1)])) (zq_ev r (0, [(11, 1)])) (zq_ev r (0, [(12, 1)])) (zq_ev r (0, [(13, 1)])) (zq_ev r (0, [(14, 1)])) (zq_ev r (0, [(15, 1)])) (zq_ev r (0, [(16, 1)])) (zq_ev r (0, [(17, 1)])) (zq_ev r (0, [(18, 1)])) P h := k1
  simp only [q0, q1, q10, q11, q12, q13, q14, q15, q16, q17, q18, q2, q3, q4, q5, q6, q7, q8, q9] at k1
  have k2 := zj_use x_LE (zq_okX_t (hK))
  have k2 : zo_LE (zq_ev r (0, [(0, 1)])) (zq_ev r (0, [(1, 1)])) (zq_ev r (0, [(12, 1)])) P h := k2
  simp only [q0, q1, q12] at k2
  obtain t1 := zo_r9_l (P := P) (h := h) (g := r 0) (l := r 1) (S := r 2) (m := r 3) (e := r 4) (T := r 5) (f := r 6) (u := r 7) (A := r 8) (B := r 9) (C := r 10) (c := r 11) (p := r 12) (t := r 13) (M := r 14) (n := r 15) (Z := r 16) (D := r 17) (L := r 18) k1 k2
  obtain ⟨rq, hr⟩ : ∃ rq : Nat → Int, (∀ i, i < 19 → rq i = r i) := ⟨r, fun i hi => rfl⟩
  have v0 : rq 0 = r 0 := hr 0 (by decide)
  have v1 : rq 1 = r 1 := hr 1 (by decide)
  have v2 : rq 2 = r 2 := hr 2 (by decide)
  have v3 : rq 3 = r 3 := hr 3 (by decide)
  have v4 : rq 4 = r 4 := hr 4 (by decide)
  have v5 : rq 5 = r 5 := hr 5 (by decide)
  have v6 : rq 6 = r 6 := hr 6 (by decide)
  have v7 : rq 7 = r 7 := hr 7 (by decide)
  have v8 : rq 8 = r 8 := hr 8 (by decide)
  have v9 : rq 9 = r 9 := hr 9 (by decide)
  have v10 : rq 10 = r 10 := hr 10 (by decide)
  have v14 : rq 14 = r 14 := hr 14 (by decide)
  have v15 : rq 15 = r 15 := hr 15 (by decide)
  have v16 : rq 16 = r 16 := hr 16 (by decide)
  have v17 : rq 17 = r 17 := hr 17 (by decide)
  have g0 : zq_ev rq (0, [(0, 1)]) = r 0 := zu_f1 v0
  have g1 : zq_ev rq (0, [(1, 1)]) = r 1 := zu_f1 v1
  have g2 : zq_ev rq (0, [(2, 1)]) = r 2 := zu_f1 v2
  have g3 : zq_ev rq (0, [(3, 1)]) = r 3 := zu_f1 v3
  have g4 : zq_ev rq (0, [(4, 1)]) = r 4 := zu_f1 v4
  have g5 : zq_ev rq (0, [(5, 1)]) = r 5 := zu_f1 v5
  have g6 : zq_ev rq (0, [(6, 1)]) = r 6 := zu_f1 v6
  have g7 : zq_ev rq (0, [(7, 1)]) = r 7 := zu_f1 v7
  have g8 : zq_ev rq (0, [(8, 1)]) = r 8 := zu_f1 v8
  have g9 : zq_ev rq (0, [(9, 1)]) = r 9 := zu_f1 v9
  have g10 : zq_ev rq (0, [(10, 1)]) = r 10 := zu_f1 v10
  have g11 : zq_ev rq (-1, []) = -1 := zu_e0 _ _
  have g12 : zq_ev rq (0, [(14, 1)]) = r 14 := zu_f1 v14
  have g13 : zq_ev rq (0, [(15, 1)]) = r 15 := zu_f1 v15
  have g14 : zq_ev rq (0, [(16, 1)]) = r 16 := zu_f1 v16
  have g15 : zq_ev rq (0, [(17, 1)]) = r 17 := zu_f1 v17
  exact ⟨_, List.mem_cons_self .., rq, hr, zq_MeS_mk rfl hT (zq_all_nil) zq_fan (zq_fan) rfl (zu_fac ((x_RT _ _ _).mpr (by show zo_RT (zq_ev rq (0, [(0, 1)])) (zq_ev rq (0, [(1, 1)])) (zq_ev rq (0, [(2, 1)])) (zq_ev rq (0, [(3, 1)])) (zq_ev rq (0, [(4, 1)])) (zq_ev rq (0, [(5, 1)])) (zq_ev rq (0, [(6, 1)])) (zq_ev rq (0, [(7, 1)])) (zq_ev rq (0, [(8, 1)])) (zq_ev rq (0, [(9, 1)])) (zq_ev rq (0, [(10, 1)])) (zq_ev rq (-1, [])) (zq_ev rq (0, [(14, 1)])) (zq_ev rq (0, [(15, 1)])) (zq_ev rq (0, [(16, 1)])) (zq_ev rq (0, [(17, 1)])) P h; simp only [g0, g1, g10, g11, g12, g13, g14, g15, g2, g3, g4, g5, g6, g7, g8, g9]; exact t1)) zq_fan)⟩
noncomputable def zo_le : zq_S × List zq_S := (([], [], [(0, [(7, -1), (10, 1)]), (0, [(7, 1), (10, -1)])], [], [], [], [(274, [(0, [(0, 1)]), (0, [(1, 1)]), (0, [(2, 1)]), (0, [(3, 1)]), (0, [(4, 1)]), (0, [(5, 1)]), (0, [(6, 1)]), (0, [(7, 1)]), (0, [(8, 1)]), (0, [(9, 1)]), (0, [(10, 1)]), (0, [(11, 1)])])], 12), [([], [], [], [], [], [], [(327, [(0, [(5, 1)]), (0, [(6, 1)]), (0, [(11, 1)])])], 12)])
theorem zo_le_l {P : zq_Ty} {h : zq_H} {ak at_ as_ ac o g l m z Y c p : Int} (a1 : 0 ≤ -m + c) (a2 : 0 ≤ m - c) (k1 : zr_XP 30 31 32 33 ak at_ as_ ac o g l m z Y c p P h) : (zo_LE g l p P h) := by
  obtain ⟨q1, q2, q3, q4, b1_, b2_, b3_, b4_, b5_, c1, ps, d1, d2, d3, d4⟩ := k1
  show ze_L g l ≤ p
  rw [show c = m by omega] at d3
  omega
theorem zo_le_ok {w : zq_Wd} (x_XO : zj_is w 274 (fun q => zr_XP 30 31 32 33 (q 0) (q 1) (q 2) (q 3) (q 4) (q 5) (q 6) (q 7) (q 8) (q 9) (q 10) (q 11))) (x_LE : zj_is w 327 (fun q => zo_LE (q 0) (q 1) (q 2))) : zq_okG1 w zo_le := by
  refine ⟨rfl, rfl, zu_fac ⟨rfl, by decide⟩ zq_fan, ?_⟩
  intro r P h H hM
  have q0 : zq_ev r (0, [(7, -1), (10, 1)]) = -r 7 + r 10 := by simp only [zq_ev, zq_ts] <;> omega
  have q1 : zq_ev r (0, [(7, 1), (10, -1)]) = r 7 - r 10 := by simp only [zq_ev, zq_ts] <;> omega
  have q2 : zq_ev r (0, [(0, 1)]) = r 0 := zu_e1 _ _
  have q3 : zq_ev r (0, [(1, 1)]) = r 1 := zu_e1 _ _
  have q4 : zq_ev r (0, [(2, 1)]) = r 2 := zu_e1 _ _
  have q5 : zq_ev r (0, [(3, 1)]) = r 3 := zu_e1 _ _
  have q6 : zq_ev r (0, [(4, 1)]) = r 4 := zu_e1 _ _
  have q7 : zq_ev r (0, [(5, 1)]) = r 5 := zu_e1 _ _
  have q8 : zq_ev r (0, [(6, 1)]) = r 6 := zu_e1 _ _
  have q9 : zq_ev r (0, [(7, 1)]) = r 7 := zu_e1 _ _
  have q10 : zq_ev r (0, [(8, 1)]) = r 8 := zu_e1 _ _
  have q11 : zq_ev r (0, [(9, 1)]) = r 9 := zu_e1 _ _
  have q12 : zq_ev r (0, [(10, 1)]) = r 10 := zu_e1 _ _
  have q13 : zq_ev r (0, [(11, 1)]) = r 11 := zu_e1 _ _
  obtain ⟨hT, hC, hF, hS, -, hK⟩ := hM
  have c := hC.1
  have a1 := zq_all_1 c
  rw [q0] at a1
  have c := zq_all_t c
  have a2 := zq_all_1 c
  rw [q1] at a2
  have k1 := zj_use x_XO (hK)
  have k1 : zr_XP 30 31 32 33 (zq_ev r (0, [(0, 1)])) (zq_ev r (0, [(1, 1)])) (zq_ev r (0, [(2, 1)])) (zq_ev r (0, [(3, 1)])) (zq_ev r (0, [(4, 1)])) (zq_ev r (0, [(5, 1)])) (zq_ev r (0, [(6, 1)])) (zq_ev r (0, [(7, 1)])) (zq_ev r (0, [(8, 1)])) (zq_ev r (0, [(9, 1)])) (zq_ev r (0, [(10, 1)])) (zq_ev r (0, [(11, 1)])) P h := k1
  simp only [q10, q11, q12, q13, q2, q3, q4, q5, q6, q7, q8, q9] at k1
  obtain t1 := zo_le_l (P := P) (h := h) (ak := r 0) (at_ := r 1) (as_ := r 2) (ac := r 3) (o := r 4) (g := r 5) (l := r 6) (m := r 7) (z := r 8) (Y := r 9) (c := r 10) (p := r 11) a1 a2 k1
  obtain ⟨rq, hr⟩ : ∃ rq : Nat → Int, (∀ i, i < 12 → rq i = r i) := ⟨r, fun i hi => rfl⟩
  have v5 : rq 5 = r 5 := hr 5 (by decide)
  have v6 : rq 6 = r 6 := hr 6 (by decide)
  have v11 : rq 11 = r 11 := hr 11 (by decide)
  have g0 : zq_ev rq (0, [(5, 1)]) = r 5 := zu_f1 v5
  have g1 : zq_ev rq (0, [(6, 1)]) = r 6 := zu_f1 v6
  have g2 : zq_ev rq (0, [(11, 1)]) = r 11 := zu_f1 v11
  exact ⟨_, List.mem_cons_self .., rq, hr, zq_MeS_mk rfl hT (zq_all_nil) zq_fan (zq_fan) rfl (zu_fac ((x_LE _ _ _).mpr (by show zo_LE (zq_ev rq (0, [(5, 1)])) (zq_ev rq (0, [(6, 1)])) (zq_ev rq (0, [(11, 1)])) P h; simp only [g0, g1, g2]; exact t1)) zq_fan)⟩
noncomputable def zo_lt : zq_S × List zq_S := (([], [], [(0, [(1, 1), (2, -1), (5, 1)])], [], [], [], [(226, [(0, [(0, 1)]), (0, [(1, 1)]), (0, [(2, 1)]), (0, [(3, 1)]), (0, [(4, 1)])])], 6), [([], [], [], [], [], [], [(327, [(0, [(3, 1)]), (0, [(4, 1)]), (0, [(5, 1)])])], 6)])
theorem zo_lt_l {P : zq_Ty} {h : zq_H} {a B E g l p : Int} (a1 : 0 ≤ B - E + p) (k1 : ze_TX a B E g l P h) : (zo_LE g l p P h) := by
  obtain ⟨q1, q2, q3, q4, _⟩ := k1
  show ((zu_TL g l).length : Int) ≤ p
  omega
theorem zo_lt_ok {w : zq_Wd} (x_TX : zj_is w 226 (fun q => ze_TX (q 0) (q 1) (q 2) (q 3) (q 4))) (x_LE : zj_is w 327 (fun q => zo_LE (q 0) (q 1) (q 2))) : zq_okG1 w zo_lt := by
  refine ⟨rfl, rfl, zu_fac ⟨rfl, by decide⟩ zq_fan, ?_⟩
  intro r P h H hM
  have q0 : zq_ev r (0, [(1, 1), (2, -1), (5, 1)]) = r 1 - r 2 + r 5 := by simp only [zq_ev, zq_ts] <;> omega
  have q1 : zq_ev r (0, [(0, 1)]) = r 0 := zu_e1 _ _
  have q2 : zq_ev r (0, [(1, 1)]) = r 1 := zu_e1 _ _
  have q3 : zq_ev r (0, [(2, 1)]) = r 2 := zu_e1 _ _
  have q4 : zq_ev r (0, [(3, 1)]) = r 3 := zu_e1 _ _
  have q5 : zq_ev r (0, [(4, 1)]) = r 4 := zu_e1 _ _
  obtain ⟨hT, hC, hF, hS, -, hK⟩ := hM
  have c := hC.1
  have a1 := zq_all_1 c
  rw [q0] at a1
  have k1 := zj_use x_TX (hK)
  have k1 : ze_TX (zq_ev r (0, [(0, 1)])) (zq_ev r (0, [(1, 1)])) (zq_ev r (0, [(2, 1)])) (zq_ev r (0, [(3, 1)])) (zq_ev r (0, [(4, 1)])) P h := k1
  simp only [q1, q2, q3, q4, q5] at k1
  obtain t1 := zo_lt_l (P := P) (h := h) (a := r 0) (B := r 1) (E := r 2) (g := r 3) (l := r 4) (p := r 5) a1 k1
  obtain ⟨rq, hr⟩ : ∃ rq : Nat → Int, (∀ i, i < 6 → rq i = r i) := ⟨r, fun i hi => rfl⟩
  have v3 : rq 3 = r 3 := hr 3 (by decide)
  have v4 : rq 4 = r 4 := hr 4 (by decide)
  have v5 : rq 5 = r 5 := hr 5 (by decide)
  have g0 : zq_ev rq (0, [(3, 1)]) = r 3 := zu_f1 v3
  have g1 : zq_ev rq (0, [(4, 1)]) = r 4 := zu_f1 v4
  have g2 : zq_ev rq (0, [(5, 1)]) = r 5 := zu_f1 v5
  exact ⟨_, List.mem_cons_self .., rq, hr, zq_MeS_mk rfl hT (zq_all_nil) zq_fan (zq_fan) rfl (zu_fac ((x_LE _ _ _).mpr (by show zo_LE (zq_ev rq (0, [(3, 1)])) (zq_ev rq (0, [(4, 1)])) (zq_ev rq (0, [(5, 1)])) P h; simp only [g0, g1, g2]; exact t1)) zq_fan)⟩
noncomputable def zo_eR : zq_S × List zq_S := (([], [], [], [], [], [], [(330, [(0, [(0, 1)]), (0, [(1, 1)]), (0, [(2, 1)]), (0, [(3, 1)]), (0, [(4, 1)]), (0, [(5, 1)]), (0, [(6, 1)]), (0, [(7, 1)]), (0, [(8, 1)]), (0, [(9, 1)]), (0, [(10, 1)]), (0, [(11, 1)]), (0, [(12, 1)]), (0, [(13, 1)]), (0, [(14, 1)]), (0, [(15, 1)])]), (330, [(0, [(0, 1)]), (0, [(1, 1)]), (0, [(2, 1)]), (0, [(3, 1)]), (0, [(4, 1)]), (0, [(5, 1)]), (0, [(6, 1)]), (0, [(7, 1)]), (0, [(8, 1)]), (0, [(9, 1)]), (0, [(10, 1)]), (0, [(16, 1)]), (0, [(17, 1)]), (0, [(18, 1)]), (0, [(19, 1)]), (0, [(20, 1)])])], 21), [([], [], [(0, [(11, 1), (16, -1)]), (0, [(11, -1), (16, 1)]), (0, [(12, 1), (17, -1)]), (0, [(12, -1), (17, 1)]), (0, [(13, 1), (18, -1)]), (0, [(13, -1), (18, 1)]), (0, [(14, 1), (19, -1)]), (0, [(14, -1), (19, 1)]), (0, [(15, 1), (20, -1)]), (0, [(15, -1), (20, 1)])], [], [], [], [], 21)])
theorem zo_eR_l {P : zq_Ty} {h : zq_H} {g l S m e T f u A B C R1 N1 n1 Z1 D1 R2 N2 n2 Z2 D2 : Int} (k1 : zo_RT g l S m e T f u A B C R1 N1 n1 Z1 D1 P h) (k2 : zo_RT g l S m e T f u A B C R2 N2 n2 Z2 D2 P h) : (0 ≤ R1 - R2 ∧ 0 ≤ -R1 + R2 ∧ 0 ≤ N1 - N2 ∧ 0 ≤ -N1 + N2 ∧ 0 ≤ n1 - n2 ∧ 0 ≤ -n1 + n2 ∧ 0 ≤ Z1 - Z2 ∧ 0 ≤ -Z1 + Z2 ∧ 0 ≤ D1 - D2 ∧ 0 ≤ -D1 + D2) := by
  have z := zo_RT_u k1 k2
  omega
theorem zo_eR_ok {w : zq_Wd} (x_RT : zj_is w 330 (fun q => zo_RT (q 0) (q 1) (q 2) (q 3) (q 4) (q 5) (q 6) (q 7) (q 8) (q 9) (q 10) (q 11) (q 12) (q 13) (q 14) (q 15))) : zq_okG1 w zo_eR := by
  refine ⟨rfl, rfl, zu_fac ⟨rfl, by decide⟩ zq_fan, ?_⟩
  intro r P h H hM
  have q0 : zq_ev r (0, [(0, 1)]) = r 0 := zu_e1 _ _
  have q1 : zq_ev r (0, [(1, 1)]) = r 1 := zu_e1 _ _
  have q2 : zq_ev r (0, [(2, 1)]) = r 2 := zu_e1 _ _
  have q3 : zq_ev r (0, [(3, 1)]) = r 3 := zu_e1 _ _
  have q4 : zq_ev r (0, [(4, 1)]) = r 4 := zu_e1 _ _
  have q5 : zq_ev r (0, [(5, 1)]) = r 5 := zu_e1 _ _
  have q6 : zq_ev r (0, [(6, 1)]) = r 6 := zu_e1 _ _
  have q7 : zq_ev r (0, [(7, 1)]) = r 7 := zu_e1 _ _
  have q8 : zq_ev r (0, [(8, 1)]) = r 8 := zu_e1 _ _
  have q9 : zq_ev r (0, [(9, 1)]) = r 9 := zu_e1 _ _
  have q10 : zq_ev r (0, [(10, 1)]) = r 10 := zu_e1 _ _
  have q11 : zq_ev r (0, [(11, 1)]) = r 11 := zu_e1 _ _
  have q12 : zq_ev r (0, [(12, 1)]) = r 12 := zu_e1 _ _
  have q13 : zq_ev r (0, [(13, 1)]) = r 13 := zu_e1 _ _
  have q14 : zq_ev r (0, [(14, 1)]) = r 14 := zu_e1 _ _
  have q15 : zq_ev r (0, [(15, 1)]) = r 15 := zu_e1 _ _
  have q16 : zq_ev r (0, [(16, 1)]) = r 16 := zu_e1 _ _
  have q17 : zq_ev r (0, [(17, 1)]) = r 17 := zu_e1 _ _
  have q18 : zq_ev r (0, [(18, 1)]) = r 18 := zu_e1 _ _
  have q19 : zq_ev r (0, [(19, 1)]) = r 19 := zu_e1 _ _
  have q20 : zq_ev r (0, [(20, 1)]) = r 20 := zu_e1 _ _
  obtain ⟨hT, hC, hF, hS, -, hK⟩ := hM
  have c := hC.1
  have k1 := zj_use x_RT (hK)
  have k1 : zo_RT (zq_ev r (0, [(0, 1)])) (zq_ev r (0, [(1, 1)])) (zq_ev r (0, [(2, 1)])) (zq_ev r (0, [(3, 1)])) (zq_ev r (0, [(4, 1)])) (zq_ev r (0, [(5, 1)])) (zq_ev r (0, [(6, 1)])) (zq_ev r (0, [(7, 1)])) (zq_ev r (0, [(8, 1)])) (zq_ev r (0, [(9, 1)])) (zq_ev r (0, [(10, 1)])) (zq_ev r (0, [(11, 1)])) (zq_ev r (0, [(12, 1)])) (zq_ev r (0, [(13, 1)])) (zq_ev r (0, [(14, 1)])) (zq_ev r (0, [(15, 1)])) P h := k1
  simp only [q0, q1, q10, q11, q12, q13, q14, q15, q2, q3, q4, q5, q6, q7, q8, q9] at k1
  have k2 := zj_use x_RT (zq_okX_t (hK))
  have k2 : zo_RT (zq_ev r (0, [(0, 1)])) (zq_ev r (0, [(1, 1)])) (zq_ev r (0, [(2, 1)])) (zq_ev r (0, [(3, 1)])) (zq_ev r (0, [(4, 1)])) (zq_ev r (0, [(5, 1)])) (zq_ev r (0, [(6, 1)])) (zq_ev r (0, [(7, 1)])) (zq_ev r (0, [(8, 1)])) (zq_ev r (0, [(9, 1)])) (zq_ev r (0, [(10, 1)])) (zq_ev r (0, [(16, 1)])) (zq_ev r (0, [(17, 1)])) (zq_ev r (0, [(18, 1)])) (zq_ev r (0, [(19, 1)])) (zq_ev r (0, [(20, 1)])) P h := k2
  simp only [q0, q1, q10, q16, q17, q18, q19, q2, q20, q3, q4, q5, q6, q7, q8, q9] at k2
  obtain ⟨c1, c2, c3, c4, c5, c6, c7, c8, c9, c10⟩ := zo_eR_l (P := P) (h := h) (g := r 0) (l := r 1) (S := r 2) (m := r 3) (e := r 4) (T := r 5) (f := r 6) (u := r 7) (A := r 8) (B := r 9) (C := r 10) (R1 := r 11) (N1 := r 12) (n1 := r 13) (Z1 := r 14) (D1 := r 15) (R2 := r 16) (N2 := r 17) (n2 := r 18) (Z2 := r 19) (D2 := r 20) k1 k2
  obtain ⟨rq, hr⟩ : ∃ rq : Nat → Int, (∀ i, i < 21 → rq i = r i) := ⟨r, fun i hi => rfl⟩
  have v11 : rq 11 = r 11 := hr 11 (by decide)
  have v12 : rq 12 = r 12 := hr 12 (by decide)
  have v13 : rq 13 = r 13 := hr 13 (by decide)
  have v14 : rq 14 = r 14 := hr 14 (by decide)
  have v15 : rq 15 = r 15 := hr 15 (by decide)
  have v16 : rq 16 = r 16 := hr 16 (by decide)
  have v17 : rq 17 = r 17 := hr 17 (by decide)
  have v18 : rq 18 = r 18 := hr 18 (by decide)
  have v19 : rq 19 = r 19 := hr 19 (by decide)
  have v20 : rq 20 = r 20 := hr 20 (by decide)
  have g0 : zq_ev rq (0, [(15, -1), (20, 1)]) = -r 15 + r 20 := by simp only [zq_ev, zq_ts, v11, v12, v13, v14, v15, v16, v17, v18, v19, v20] <;> omega
  have g1 : zq_ev rq (0, [(15, 1), (20, -1)]) = r 15 - r 20 := by simp only [zq_ev, zq_ts, v11, v12, v13, v14, v15, v16, v17, v18, v19, v20] <;> omega
  have g2 : zq_ev rq (0, [(14, -1), (19, 1)]) = -r 14 + r 19 := by simp only [zq_ev, zq_ts, v11, v12, v13, v14, v15, v16, v17, v18, v19, v20] <;> omega
  have g3 : zq_ev rq (0, [(14, 1), (19, -1)]) = r 14 - r 19 := by simp only [zq_ev, zq_ts, v11, v12, v13, v14, v15, v16, v17, v18, v19, v20] <;> omega
  have g4 : zq_ev rq (0, [(13, -1), (18, 1)]) = -r 13 + r 18 := by simp only [zq_ev, zq_ts, v11, v12, v13, v14, v15, v16, v17, v18, v19, v20] <;> omega
  have g5 : zq_ev rq (0, [(13, 1), (18, -1)]) = r 13 - r 18 := by simp only [zq_ev, zq_ts, v11, v12, v13, v14, v15, v16, v17, v18, v19, v20] <;> omega
  have g6 : zq_ev rq (0, [(12, -1), (17, 1)]) = -r 12 + r 17 := by simp only [zq_ev, zq_ts, v11, v12, v13, v14, v15, v16, v17, v18, v19, v20] <;> omega
  have g7 : zq_ev rq (0, [(12, 1), (17, -1)]) = r 12 - r 17 := by simp only [zq_ev, zq_ts, v11, v12, v13, v14, v15, v16, v17, v18, v19, v20] <;> omega
  have g8 : zq_ev rq (0, [(11, -1), (16, 1)]) = -r 11 + r 16 := by simp only [zq_ev, zq_ts, v11, v12, v13, v14, v15, v16, v17, v18, v19, v20] <;> omega
  have g9 : zq_ev rq (0, [(11, 1), (16, -1)]) = r 11 - r 16 := by simp only [zq_ev, zq_ts, v11, v12, v13, v14, v15, v16, v17, v18, v19, v20] <;> omega
  exact ⟨_, List.mem_cons_self .., rq, hr, zq_MeS_mk rfl hT (zq_all_cons (by rw [g9]; exact c1) (zq_all_cons (by rw [g8]; exact c2) (zq_all_cons (by rw [g7]; exact c3) (zq_all_cons (by rw [g6]; exact c4) (zq_all_cons (by rw [g5]; exact c5) (zq_all_cons (by rw [g4]; exact c6) (zq_all_cons (by rw [g3]; exact c7) (zq_all_cons (by rw [g2]; exact c8) (zq_all_cons (by rw [g1]; exact c9) (zq_all_cons (by rw [g0]; exact c10) (zq_all_nil))))))))))) zq_fan (zq_fan) rfl zq_fan⟩
