/-! THE REFERENCE'S RUN of orders: facts -/
noncomputable def zo_pt28 : zq_S × List zq_S := (([], [], [], [], [], [], [(224, [(0, [(0, 1)]), (0, [(1, 1)]), (0, [(2, 1)]), (28, [])])], 3), [([], [], [], [], [], [], [(334, [(0, [(0, 1)]), (0, [(1, 1)]), (0, [(2, 1)]), (1, [(2, 1)])])], 3)])
theorem zo_pt28_l {P : zq_Ty} {h : zq_H} {g l p : Int} (k1 : ze_CD g l p 28 P h) : (zo_PTt g l p (p + 1) P h) := by
  have k1 : (28 : Int) = ze_c g l (p) := k1
  exact Or.inl ⟨k1.symm, rfl⟩
theorem zo_pt28_ok {w : zq_Wd} (x_CD : zj_is w 224 (fun q => ze_CD (q 0) (q 1) (q 2) (q 3))) (x_PT : zj_is w 334 (fun q => zo_PTt (q 0) (q 1) (q 2) (q 3))) : zq_okG1 w zo_pt28 := by
  refine ⟨rfl, rfl, zu_fac ⟨rfl, by decide⟩ zq_fan, ?_⟩
  intro r P h H hM
  have q0 : zq_ev r (0, [(0, 1)]) = r 0 := zu_e1 _ _
  have q1 : zq_ev r (0, [(1, 1)]) = r 1 := zu_e1 _ _
  have q2 : zq_ev r (0, [(2, 1)]) = r 2 := zu_e1 _ _
  have q3 : zq_ev r (28, []) = 28 := zu_e0 _ _
  obtain ⟨hT, hC, hF, hS, -, hK⟩ := hM
  have c := hC.1
  have k1 := zj_use x_CD (hK)
  have k1 : ze_CD (zq_ev r (0, [(0, 1)])) (zq_ev r (0, [(1, 1)])) (zq_ev r (0, [(2, 1)])) (zq_ev r (28, [])) P h := k1
  simp only [q0, q1, q2, q3] at k1
  obtain t1 := zo_pt28_l (P := P) (h := h) (g := r 0) (l := r 1) (p := r 2) k1
  obtain ⟨rq, hr⟩ : ∃ rq : Nat → Int, (∀ i, i < 3 → rq i = r i) := ⟨r, fun i hi => rfl⟩
  have v0 : rq 0 = r 0 := hr 0 (by decide)
  have v1 : rq 1 = r 1 := hr 1 (by decide)
  have v2 : rq 2 = r 2 := hr 2 (by decide)
  have g0 : zq_ev rq (0, [(0, 1)]) = r 0 := zu_f1 v0
  have g1 : zq_ev rq (0, [(1, 1)]) = r 1 := zu_f1 v1
  have g2 : zq_ev rq (0, [(2, 1)]) = r 2 := zu_f1 v2
  have g3 : zq_ev rq (1, [(2, 1)]) = r 2 + 1 := zu_f2 v2 _
  exact ⟨_, List.mem_cons_self .., rq, hr, zq_MeS_mk rfl hT (zq_all_nil) zq_fan (zq_fan) rfl (zu_fac ((x_PT _ _ _).mpr (by show zo_PTt (zq_ev rq (0, [(0, 1)])) (zq_ev rq (0, [(1, 1)])) (zq_ev rq (0, [(2, 1)])) (zq_ev rq (1, [(2, 1)])) P h; simp only [g0, g1, g2, g3]; exact t1)) zq_fan)⟩
noncomputable def zo_pt27 : zq_S × List zq_S := (([], [], [], [], [], [], [(224, [(0, [(0, 1)]), (0, [(1, 1)]), (0, [(2, 1)]), (27, [])]), (221, [(4, []), (0, [(0, 1)]), (0, [(1, 1)]), (1, [(2, 1)]), (0, [(3, 1)])])], 4), [([], [], [], [], [], [], [(334, [(0, [(0, 1)]), (0, [(1, 1)]), (0, [(2, 1)]), (0, [(3, 1)])])], 4)])
theorem zo_pt27_l {P : zq_Ty} {h : zq_H} {g l p e : Int} (k1 : ze_CD g l p 27 P h) (k2 : ze_TT 4 g l (p + 1) e P h) : (zo_PTt g l p e P h) := by
  have k1 : (27 : Int) = ze_c g l (p) := k1
  exact Or.inr (Or.inl ⟨k1.symm, k2⟩)
theorem zo_pt27_ok {w : zq_Wd} (x_CD : zj_is w 224 (fun q => ze_CD (q 0) (q 1) (q 2) (q 3))) (x_TT : zj_is w 221 (fun q => ze_TT (q 0) (q 1) (q 2) (q 3) (q 4))) (x_PT : zj_is w 334 (fun q => zo_PTt (q 0) (q 1) (q 2) (q 3))) : zq_okG1 w zo_pt27 := by
  refine ⟨rfl, rfl, zu_fac ⟨rfl, by decide⟩ zq_fan, ?_⟩
  intro r P h H hM
  have q0 : zq_ev r (0, [(0, 1)]) = r 0 := zu_e1 _ _
  have q1 : zq_ev r (0, [(1, 1)]) = r 1 := zu_e1 _ _
  have q2 : zq_ev r (0, [(2, 1)]) = r 2 := zu_e1 _ _
  have q3 : zq_ev r (27, []) = 27 := zu_e0 _ _
  have q4 : zq_ev r (4, []) = 4 := zu_e0 _ _
  have q5 : zq_ev r (1, [(2, 1)]) = r 2 + 1 := zu_e2 _ _ _
  have q6 : zq_ev r (0, [(3, 1)]) = r 3 := zu_e1 _ _
  obtain ⟨hT, hC, hF, hS, -, hK⟩ := hM
  have c := hC.1
  have k1 := zj_use x_CD (hK)
  have k1 : ze_CD (zq_ev r (0, [(0, 1)])) (zq_ev r (0, [(1, 1)])) (zq_ev r (0, [(2, 1)])) (zq_ev r (27, [])) P h := k1
  simp only [q0, q1, q2, q3] at k1
  have k2 := zj_use x_TT (zq_okX_t (hK))
  have k2 : ze_TT (zq_ev r (4, [])) (zq_ev r (0, [(0, 1)])) (zq_ev r (0, [(1, 1)])) (zq_ev r (1, [(2, 1)])) (zq_ev r (0, [(3, 1)])) P h := k2
  simp only [q0, q1, q4, q5, q6] at k2
  obtain t1 := zo_pt27_l (P := P) (h := h) (g := r 0) (l := r 1) (p := r 2) (e := r 3) k1 k2
  obtain ⟨rq, hr⟩ : ∃ rq : Nat → Int, (∀ i, i < 4 → rq i = r i) := ⟨r, fun i hi => rfl⟩
  have v0 : rq 0 = r 0 := hr 0 (by decide)
  have v1 : rq 1 = r 1 := hr 1 (by decide)
  have v2 : rq 2 = r 2 := hr 2 (by decide)
  have v3 : rq 3 = r 3 := hr 3 (by decide)
  have g0 : zq_ev rq (0, [(0, 1)]) = r 0 := zu_f1 v0
  have g1 : zq_ev rq (0, [(1, 1)]) = r 1 := zu_f1 v1
  have g2 : zq_ev rq (0, [(2, 1)]) = r 2 := zu_f1 v2
  have g3 : zq_ev rq (0, [(3, 1)]) = r 3 := zu_f1 v3
  exact ⟨_, List.mem_cons_self .., rq, hr, zq_MeS_mk rfl hT (zq_all_nil) zq_fan (zq_fan) rfl (zu_fac ((x_PT _ _ _).mpr (by show zo_PTt (zq_ev rq (0, [(0, 1)])) (zq_ev rq (0, [(1, 1)])) (zq_ev rq (0, [(2, 1)])) (zq_ev rq (0, [(3, 1)])) P h; simp only [g0, g1, g2, g3]; exact t1)) zq_fan)⟩
noncomputable def zo_pt25 : zq_S × List zq_S := (([], [], [], [], [], [], [(224, [(0, [(0, 1)]), (0, [(1, 1)]), (0, [(2, 1)]), (25, [])]), (221, [(4, []), (0, [(0, 1)]), (0, [(1, 1)]), (1, [(2, 1)]), (0, [(3, 1)])]), (221, [(4, []), (0, [(0, 1)]), (0, [(1, 1)]), (1, [(3, 1)]), (0, [(4, 1)])])], 5), [([], [], [], [], [], [], [(334, [(0, [(0, 1)]), (0, [(1, 1)]), (0, [(2, 1)]), (0, [(4, 1)])])], 5)])
theorem zo_pt25_l {P : zq_Ty} {h : zq_H} {g l p a e : Int} (k1 : ze_CD g l p 25 P h) (k2 : ze_TT 4 g l (p + 1) a P h) (k3 : ze_TT 4 g l (a + 1) e P h) : (zo_PTt g l p e P h) := by
  have k1 : (25 : Int) = ze_c g l (p) := k1
  exact Or.inr (Or.inr (Or.inl ⟨k1.symm, a, k2, k3⟩))
theorem zo_pt25_ok {w : zq_Wd} (x_CD : zj_is w 224 (fun q => ze_CD (q 0) (q 1) (q 2) (q 3))) (x_TT : zj_is w 221 (fun q => ze_TT (q 0) (q 1) (q 2) (q 3) (q 4))) (x_PT : zj_is w 334 (fun q => zo_PTt (q 0) (q 1) (q 2) (q 3))) : zq_okG1 w zo_pt25 := by
  refine ⟨rfl, rfl, zu_fac ⟨rfl, by decide⟩ zq_fan, ?_⟩
  intro r P h H hM
  have q0 : zq_ev r (0, [(0, 1)]) = r 0 := zu_e1 _ _
  have q1 : zq_ev r (0, [(1, 1)]) = r 1 := zu_e1 _ _
  have q2 : zq_ev r (0, [(2, 1)]) = r 2 := zu_e1 _ _
  have q3 : zq_ev r (25, []) = 25 := zu_e0 _ _
  have q4 : zq_ev r (4, []) = 4 := zu_e0 _ _
  have q5 : zq_ev r (1, [(2, 1)]) = r 2 + 1 := zu_e2 _ _ _
  have q6 : zq_ev r (0, [(3, 1)]) = r 3 := zu_e1 _ _
  have q7 : zq_ev r (1, [(3, 1)]) = r 3 + 1 := zu_e2 _ _ _
  have q8 : zq_ev r (0, [(4, 1)]) = r 4 := zu_e1 _ _
  obtain ⟨hT, hC, hF, hS, -, hK⟩ := hM
  have c := hC.1
  have k1 := zj_use x_CD (hK)
  have k1 : ze_CD (zq_ev r (0, [(0, 1)])) (zq_ev r (0, [(1, 1)])) (zq_ev r (0, [(2, 1)])) (zq_ev r (25, [])) P h := k1
  simp only [q0, q1, q2, q3] at k1
  have k2 := zj_use x_TT (zq_okX_t (hK))
  have k2 : ze_TT (zq_ev r (4, [])) (zq_ev r (0, [(0, 1)])) (zq_ev r (0, [(1, 1)])) (zq_ev r (1, [(2, 1)])) (zq_ev r (0, [(3, 1)])) P h := k2
  simp only [q0, q1, q4, q5, q6] at k2
  have k3 := zj_use x_TT (zq_okX_t (zq_okX_t (hK)))
  have k3 : ze_TT (zq_ev r (4, [])) (zq_ev r (0, [(0, 1)])) (zq_ev r (0, [(1, 1)])) (zq_ev r (1, [(3, 1)])) (zq_ev r (0, [(4, 1)])) P h := k3
  simp only [q0, q1, q4, q7, q8] at k3
  obtain t1 := zo_pt25_l (P := P) (h := h) (g := r 0) (l := r 1) (p := r 2) (a := r 3) (e := r 4) k1 k2 k3
  obtain ⟨rq, hr⟩ : ∃ rq : Nat → Int, (∀ i, i < 5 → rq i = r i) := ⟨r, fun i hi => rfl⟩
  have v0 : rq 0 = r 0 := hr 0 (by decide)
  have v1 : rq 1 = r 1 := hr 1 (by decide)
  have v2 : rq 2 = r 2 := hr 2 (by decide)
  have v4 : rq 4 = r 4 := hr 4 (by decide)
  have g0 : zq_ev rq (0, [(0, 1)]) = r 0 := zu_f1 v0
  have g1 : zq_ev rq (0, [(1, 1)]) = r 1 := zu_f1 v1
  have g2 : zq_ev rq (0, [(2, 1)]) = r 2 := zu_f1 v2
  have g3 : zq_ev rq (0, [(4, 1)]) = r 4 := zu_f1 v4
  exact ⟨_, List.mem_cons_self .., rq, hr, zq_MeS_mk rfl hT (zq_all_nil) zq_fan (zq_fan) rfl (zu_fac ((x_PT _ _ _).mpr (by show zo_PTt (zq_ev rq (0, [(0, 1)])) (zq_ev rq (0, [(1, 1)])) (zq_ev rq (0, [(2, 1)])) (zq_ev rq (0, [(4, 1)])) P h; simp only [g0, g1, g2, g3]; exact t1)) zq_fan)⟩
noncomputable def zo_pt22 : zq_S × List zq_S := (([], [], [], [], [], [], [(224, [(0, [(0, 1)]), (0, [(1, 1)]), (0, [(2, 1)]), (22, [])]), (221, [(4, []), (0, [(0, 1)]), (0, [(1, 1)]), (1, [(2, 1)]), (0, [(3, 1)])]), (221, [(4, []), (0, [(0, 1)]), (0, [(1, 1)]), (1, [(3, 1)]), (0, [(4, 1)])]), (221, [(4, []), (0, [(0, 1)]), (0, [(1, 1)]), (1, [(4, 1)]), (0, [(5, 1)])])], 6), [([], [], [], [], [], [], [(334, [(0, [(0, 1)]), (0, [(1, 1)]), (0, [(2, 1)]), (0, [(5, 1)])])], 6)])
theorem zo_pt22_l {P : zq_Ty} {h : zq_H} {g l p a b e : Int} (k1 : ze_CD g l p 22 P h) (k2 : ze_TT 4 g l (p + 1) a P h) (k3 : ze_TT 4 g l (a + 1) b P h) (k4 : ze_TT 4 g l (b + 1) e P h) : (zo_PTt g l p e P h) := by
  have k1 : (22 : Int) = ze_c g l (p) := k1
  exact Or.inr (Or.inr (Or.inr ⟨by omega, by omega, by omega, a, b, k2, k3, k4⟩))
theorem zo_pt22_ok {w : zq_Wd} (x_CD : zj_is w 224 (fun q => ze_CD (q 0) (q 1) (q 2) (q 3))) (x_TT : zj_is w 221 (fun q => ze_TT (q 0) (q 1) (q 2) (q 3) (q 4))) (x_PT : zj_is w 334 (fun q => zo_PTt (q 0) (q 1) (q 2) (q 3))) : zq_okG1 w zo_pt22 := by
  refine ⟨rfl, rfl, zu_fac ⟨rfl, by decide⟩ zq_fan, ?_⟩
  intro r P h H hM
  have q0 : zq_ev r (0, [(0, 1)]) = r 0 := zu_e1 _ _
  have q1 : zq_ev r (0, [(1, 1)]) = r 1 := zu_e1 _ _
  have q2 : zq_ev r (0, [(2, 1)]) = r 2 := zu_e1 _ _
  have q3 : zq_ev r (22, []) = 22 := zu_e0 _ _
  have q4 : zq_ev r (4, []) = 4 := zu_e0 _ _
  have q5 : zq_ev r (1, [(2, 1)]) = r 2 + 1 := zu_e2 _ _ _
  have q6 : zq_ev r (0, [(3, 1)]) = r 3 := zu_e1 _ _
  have q7 : zq_ev r (1, [(3, 1)]) = r 3 + 1 := zu_e2 _ _ _
  have q8 : zq_ev r (0, [(4, 1)]) = r 4 := zu_e1 _ _
  have q9 : zq_ev r (1, [(4, 1)]) = r 4 + 1 := zu_e2 _ _ _
  have q10 : zq_ev r (0, [(5, 1)]) = r 5 := zu_e1 _ _
  obtain ⟨hT, hC, hF, hS, -, hK⟩ := hM
  have c := hC.1
  have k1 := zj_use x_CD (hK)
  have k1 : ze_CD (zq_ev r (0, [(0, 1)])) (zq_ev r (0, [(1, 1)])) (zq_ev r (0, [(2, 1)])) (zq_ev r (22, [])) P h := k1
  simp only [q0, q1, q2, q3] at k1
  have k2 := zj_use x_TT (zq_okX_t (hK))
  have k2 : ze_TT (zq_ev r (4, [])) (zq_ev r (0, [(0, 1)])) (zq_ev r (0, [(1, 1)])) (zq_ev r (1, [(2, 1)])) (zq_ev r (0, [(3, 1)])) P h := k2
  simp only [q0, q1, q4, q5, q6] at k2
  have k3 := zj_use x_TT (zq_okX_t (zq_okX_t (hK)))
  have k3 : ze_TT (zq_ev r (4, [])) (zq_ev r (0, [(0, 1)])) (zq_ev r (0, [(1, 1)])) (zq_ev r (1, [(3, 1)])) (zq_ev r (0, [(4, 1)])) P h := k3
  simp only [q0, q1, q4, q7, q8] at k3
  have k4 := zj_use x_TT (zq_okX_t (zq_okX_t (zq_okX_t (hK))))
  have k4 : ze_TT (zq_ev r (4, [])) (zq_ev r (0, [(0, 1)])) (zq_ev r (0, [(1, 1)])) (zq_ev r (1, [(4, 1)])) (zq_ev r (0, [(5, 1)])) P h := k4
  simp only [q0, q1, q10, q4, q9] at k4
  obtain t1 := zo_pt22_l (P := P) (h := h) (g := r 0) (l := r 1) (p := r 2) (a := r 3) (b := r 4) (e := r 5) k1 k2 k3 k4
  obtain ⟨rq, hr⟩ : ∃ rq : Nat → Int, (∀ i, i < 6 → rq i = r i) := ⟨r, fun i hi => rfl⟩
  have v0 : rq 0 = r 0 := hr 0 (by decide)
  have v1 : rq 1 = r 1 := hr 1 (by decide)
  have v2 : rq 2 = r 2 := hr 2 (by decide)
  have v5 : rq 5 = r 5 := hr 5 (by decide)
  have g0 : zq_ev rq (0, [(0, 1)]) = r 0 := zu_f1 v0
  have g1 : zq_ev rq (0, [(1, 1)]) = r 1 := zu_f1 v1
  have g2 : zq_ev rq (0, [(2, 1)]) = r 2 := zu_f1 v2
  have g3 : zq_ev rq (0, [(5, 1)]) = r 5 := zu_f1 v5
  exact ⟨_, List.mem_cons_self .., rq, hr, zq_MeS_mk rfl hT (zq_all_nil) zq_fan (zq_fan) rfl (zu_fac ((x_PT _ _ _).mpr (by show zo_PTt (zq_ev rq (0, [(0, 1)])) (zq_ev rq (0, [(1, 1)])) (zq_ev rq (0, [(2, 1)])) (zq_ev rq (0, [(5, 1)])) P h; simp only [g0, g1, g2, g3]; exact t1)) zq_fan)⟩
noncomputable def zo_vp28 : zq_S × List zq_S := (([], [], [], [], [], [], [(224, [(0, [(0, 1)]), (0, [(1, 1)]), (0, [(3, 1)]), (28, [])])], 4), [([], [], [], [], [], [], [(333, [(0, [(0, 1)]), (0, [(1, 1)]), (0, [(2, 1)]), (0, [(3, 1)]), (0, []), (0, []), (0, []), (1, []), (1, [(3, 1)])])], 4)])
theorem zo_vp28_l {P : zq_Ty} {h : zq_H} {g l W p : Int} (k1 : ze_CD g l p 28 P h) : (zo_VPs g l W p 0 0 0 1 (p + 1) P h) := by
  have k1 : (28 : Int) = ze_c g l (p) := k1
  exact Or.inl ⟨k1.symm, rfl, rfl, rfl, rfl, rfl⟩
theorem zo_vp28_ok {w : zq_Wd} (x_CD : zj_is w 224 (fun q => ze_CD (q 0) (q 1) (q 2) (q 3))) (x_VP : zj_is w 333 (fun q => zo_VPs (q 0) (q 1) (q 2) (q 3) (q 4) (q 5) (q 6) (q 7) (q 8))) : zq_okG1 w zo_vp28 := by
  refine ⟨rfl, rfl, zu_fac ⟨rfl, by decide⟩ zq_fan, ?_⟩
  intro r P h H hM
  have q0 : zq_ev r (0, [(0, 1)]) = r 0 := zu_e1 _ _
  have q1 : zq_ev r (0, [(1, 1)]) = r 1 := zu_e1 _ _
  have q2 : zq_ev r (0, [(3, 1)]) = r 3 := zu_e1 _ _
  have q3 : zq_ev r (28, []) = 28 := zu_e0 _ _
  obtain ⟨hT, hC, hF, hS, -, hK⟩ := hM
  have c := hC.1
  have k1 := zj_use x_CD (hK)
  have k1 : ze_CD (zq_ev r (0, [(0, 1)])) (zq_ev r (0, [(1, 1)])) (zq_ev r (0, [(3, 1)])) (zq_ev r (28, [])) P h := k1
  simp only [q0, q1, q2, q3] at k1
  obtain t1 := zo_vp28_l (P := P) (h := h) (g := r 0) (l := r 1) (W := r 2) (p := r 3) k1
  obtain ⟨rq, hr⟩ : ∃ rq : Nat → Int, (∀ i, i < 4 → rq i = r i) := ⟨r, fun i hi => rfl⟩
  have v0 : rq 0 = r 0 := hr 0 (by decide)
  have v1 : rq 1 = r 1 := hr 1 (by decide)
  have v2 : rq 2 = r 2 := hr 2 (by decide)
  have v3 : rq 3 = r 3 := hr 3 (by decide)
  have g0 : zq_ev rq (0, [(0, 1)]) = r 0 := zu_f1 v0
  have g1 : zq_ev rq (0, [(1, 1)]) = r 1 := zu_f1 v1
  have g2 : zq_ev rq (0, [(2, 1)]) = r 2 := zu_f1 v2
  have g3 : zq_ev rq (0, [(3, 1)]) = r 3 := zu_f1 v3
  have g4 : zq_ev rq (0, []) = 0 := zu_e0 _ _
  have g5 : zq_ev rq (1, []) = 1 := zu_e0 _ _
  have g6 : zq_ev rq (1, [(3, 1)]) = r 3 + 1 := zu_f2 v3 _
  exact ⟨_, List.mem_cons_self .., rq, hr, zq_MeS_mk rfl hT (zq_all_nil) zq_fan (zq_fan) rfl (zu_fac ((x_VP _ _ _).mpr (by show zo_VPs (zq_ev rq (0, [(0, 1)])) (zq_ev rq (0, [(1, 1)])) (zq_ev rq (0, [(2, 1)])) (zq_ev rq (0, [(3, 1)])) (zq_ev rq (0, [])) (zq_ev rq (0, [])) (zq_ev rq (0, [])) (zq_ev rq (1, [])) (zq_ev rq (1, [(3, 1)])) P h; simp only [g0, g1, g2, g3, g4, g5, g6]; exact t1)) zq_fan)⟩
noncomputable def zo_vp27g : zq_S × List zq_S := (([], [], [], [], [], [], [(224, [(0, [(0, 1)]), (0, [(1, 1)]), (0, [(3, 1)]), (27, [])]), (220, [(4, []), (0, [(0, 1)]), (0, [(1, 1)]), (1, []), (0, [(2, 1)]), (0, []), (1, [(3, 1)]), (0, [(4, 1)]), (0, []), (0, [(5, 1)])])], 6), [([], [], [], [], [], [], [(333, [(0, [(0, 1)]), (0, [(1, 1)]), (0, [(2, 1)]), (0, [(3, 1)]), (0, [(4, 1)]), (0, []), (0, []), (1, []), (0, [(5, 1)])])], 6)])
theorem zo_vp27g_l {P : zq_Ty} {h : zq_H} {g l W p x e : Int} (k1 : ze_CD g l p 27 P h) (k2 : ze_EV 4 g l 1 W 0 (p + 1) x 0 e P h) : (zo_VPs g l W p x 0 0 1 e P h) := by
  have k1 : (27 : Int) = ze_c g l (p) := k1
  have k2 : ze_V (ze_c g l) (ze_v g l) (ze_w 1 W) 4 0 true (ze_on 0) (p + 1) x (ze_on 0) e := k2
  rw [ze_on0] at k2
  exact Or.inr (Or.inl ⟨k1.symm, rfl, rfl, ze_on 0, k2, by rw [ze_on0]; rfl⟩)
theorem zo_vp27g_ok {w : zq_Wd} (x_CD : zj_is w 224 (fun q => ze_CD (q 0) (q 1) (q 2) (q 3))) (x_EV : zj_is w 220 (fun q => ze_EV (q 0) (q 1) (q 2) (q 3) (q 4) (q 5) (q 6) (q 7) (q 8) (q 9))) (x_VP : zj_is w 333 (fun q => zo_VPs (q 0) (q 1) (q 2) (q 3) (q 4) (q 5) (q 6) (q 7) (q 8))) : zq_okG1 w zo_vp27g := by
  refine ⟨rfl, rfl, zu_fac ⟨rfl, by decide⟩ zq_fan, ?_⟩
  intro r P h H hM
  have q0 : zq_ev r (0, [(0, 1)]) = r 0 := zu_e1 _ _
  have q1 : zq_ev r (0, [(1, 1)]) = r 1 := zu_e1 _ _
  have q2 : zq_ev r (0, [(3, 1)]) = r 3 := zu_e1 _ _
  have q3 : zq_ev r (27, []) = 27 := zu_e0 _ _
  have q4 : zq_ev r (4, []) = 4 := zu_e0 _ _
  have q5 : zq_ev r (1, []) = 1 := zu_e0 _ _
  have q6 : zq_ev r (0, [(2, 1)]) = r 2 := zu_e1 _ _
  have q7 : zq_ev r (0, []) = 0 := zu_e0 _ _
  have q8 : zq_ev r (1, [(3, 1)]) = r 3 + 1 := zu_e2 _ _ _
  have q9 : zq_ev r (0, [(4, 1)]) = r 4 := zu_e1 _ _
  have q10 : zq_ev r (0, [(5, 1)]) = r 5 := zu_e1 _ _
  obtain ⟨hT, hC, hF, hS, -, hK⟩ := hM
  have c := hC.1
  have k1 := zj_use x_CD (hK)
  have k1 : ze_CD (zq_ev r (0, [(0, 1)])) (zq_ev r (0, [(1, 1)])) (zq_ev r (0, [(3, 1)])) (zq_ev r (27, [])) P h := k1
  simp only [q0, q1, q2, q3] at k1
  have k2 := zj_use x_EV (zq_okX_t (hK))
  have k2 : ze_EV (zq_ev r (4, [])) (zq_ev r (0, [(0, 1)])) (zq_ev r (0, [(1, 1)])) (zq_ev r (1, [])) (zq_ev r (0, [(2, 1)])) (zq_ev r (0, [])) (zq_ev r (1, [(3, 1)])) (zq_ev r (0, [(4, 1)])) (zq_ev r (0, [])) (zq_ev r (0, [(5, 1)])) P h := k2
  simp only [q0, q1, q10, q4, q5, q6, q7, q8, q9] at k2
  obtain t1 := zo_vp27g_l (P := P) (h := h) (g := r 0) (l := r 1) (W := r 2) (p := r 3) (x := r 4) (e := r 5) k1 k2
  obtain ⟨rq, hr⟩ : ∃ rq : Nat → Int, (∀ i, i < 6 → rq i = r i) := ⟨r, fun i hi => rfl⟩
  have v0 : rq 0 = r 0 := hr 0 (by decide)
  have v1 : rq 1 = r 1 := hr 1 (by decide)
  have v2 : rq 2 = r 2 := hr 2 (by decide)
  have v3 : rq 3 = r 3 := hr 3 (by decide)
  have v4 : rq 4 = r 4 := hr 4 (by decide)
  have v5 : rq 5 = r 5 := hr 5 (by decide)
  have g0 : zq_ev rq (0, [(0, 1)]) = r 0 := zu_f1 v0
  have g1 : zq_ev rq (0, [(1, 1)]) = r 1 := zu_f1 v1
  have g2 : zq_ev rq (0, [(2, 1)]) = r 2 := zu_f1 v2
  have g3 : zq_ev rq (0, [(3, 1)]) = r 3 := zu_f1 v3
  have g4 : zq_ev rq (0, [(4, 1)]) = r 4 := zu_f1 v4
  have g5 : zq_ev rq (0, []) = 0 := zu_e0 _ _
  have g6 : zq_ev rq (1, []) = 1 := zu_e0 _ _
  have g7 : zq_ev rq (0, [(5, 1)]) = r 5 := zu_f1 v5
  exact ⟨_, List.mem_cons_self .., rq, hr, zq_MeS_mk rfl hT (zq_all_nil) zq_fan (zq_fan) rfl (zu_fac ((x_VP _ _ _).mpr (by show zo_VPs (zq_ev rq (0, [(0, 1)])) (zq_ev rq (0, [(1, 1)])) (zq_ev rq (0, [(2, 1)])) (zq_ev rq (0, [(3, 1)])) (zq_ev rq (0, [(4, 1)])) (zq_ev rq (0, [])) (zq_ev rq (0, [])) (zq_ev rq (1, [])) (zq_ev rq (0, [(5, 1)])) P h; simp only [g0, g1, g2, g3, g4, g5, g6, g7]; exact t1)) zq_fan)⟩
noncomputable def zo_vp27a : zq_S × List zq_S := (([], [], [], [], [], [], [(224, [(0, [(0, 1)]), (0, [(1, 1)]), (0, [(3, 1)]), (27, [])]), (220, [(4, []), (0, [(0, 1)]), (0, [(1, 1)]), (1, []), (0, [(2, 1)]), (0, []), (1, [(3, 1)]), (0, [(4, 1)]), (1, []), (0, [(5, 1)])])], 6), [([], [], [], [], [], [], [(333, [(0, [(0, 1)]), (0, [(1, 1)]), (0, [(2, 1)]), (0, [(3, 1)]), (0, [(4, 1)]), (0, []), (0, []), (0, []), (0, [(5, 1)])])], 6)])
theorem zo_vp27a_l {P : zq_Ty} {h : zq_H} {g l W p x e : Int} (k1 : ze_CD g l p 27 P h) (k2 : ze_EV 4 g l 1 W 0 (p + 1) x 1 e P h) : (zo_VPs g l W p x 0 0 0 e P h) := by
  have k1 : (27 : Int) = ze_c g l (p) := k1
  have k2 : ze_V (ze_c g l) (ze_v g l) (ze_w 1 W) 4 0 true (ze_on 0) (p + 1) x (ze_on 1) e := k2
  rw [ze_on0] at k2
  exact Or.inr (Or.inl ⟨k1.symm, rfl, rfl, ze_on 1, k2, by rw [ze_on1]; rfl⟩)
theorem zo_vp27a_ok {w : zq_Wd} (x_CD : zj_is w 224 (fun q => ze_CD (q 0) (q 1) (q 2) (q 3))) (x_EV : zj_is w 220 (fun q => ze_EV (q 0) (q 1) (q 2) (q 3) (q 4) (q 5) (q 6) (q 7) (q 8) (q 9))) (x_VP : zj_is w 333 (fun q => zo_VPs (q 0) (q 1) (q 2) (q 3) (q 4) (q 5) (q 6) (q 7) (q 8))) : zq_okG1 w zo_vp27a := by
  refine ⟨rfl, rfl, zu_fac ⟨rfl, by decide⟩ zq_fan, ?_⟩
  intro r P h H hM
  have q0 : zq_ev r (0, [(0, 1)]) = r 0 := zu_e1 _ _
  have q1 : zq_ev r (0, [(1, 1)]) = r 1 := zu_e1 _ _
  have q2 : zq_ev r (0, [(3, 1)]) = r 3 := zu_e1 _ _
  have q3 : zq_ev r (27, []) = 27 := zu_e0 _ _
  have q4 : zq_ev r (4, []) = 4 := zu_e0 _ _
  have q5 : zq_ev r (1, []) = 1 := zu_e0 _ _
  have q6 : zq_ev r (0, [(2, 1)]) = r 2 := zu_e1 _ _
  have q7 : zq_ev r (0, []) = 0 := zu_e0 _ _
  have q8 : zq_ev r (1, [(3, 1)]) = r 3 + 1 := zu_e2 _ _ _
  have q9 : zq_ev r (0, [(4, 1)]) = r 4 := zu_e1 _ _
  have q10 : zq_ev r (0, [(5, 1)]) = r 5 := zu_e1 _ _
  obtain ⟨hT, hC, hF, hS, -, hK⟩ := hM
  have c := hC.1
  have k1 := zj_use x_CD (hK)
  have k1 : ze_CD (zq_ev r (0, [(0, 1)])) (zq_ev r (0, [(1, 1)])) (zq_ev r (0, [(3, 1)])) (zq_ev r (27, [])) P h := k1
  simp only [q0, q1, q2, q3] at k1
  have k2 := zj_use x_EV (zq_okX_t (hK))
  have k2 : ze_EV (zq_ev r (4, [])) (zq_ev r (0, [(0, 1)])) (zq_ev r (0, [(1, 1)])) (zq_ev r (1, [])) (zq_ev r (0, [(2, 1)])) (zq_ev r (0, [])) (zq_ev r (1, [(3, 1)])) (zq_ev r (0, [(4, 1)])) (zq_ev r (1, [])) (zq_ev r (0, [(5, 1)])) P h := k2
  simp only [q0, q1, q10, q4, q5, q6, q7, q8, q9] at k2
  obtain t1 := zo_vp27a_l (P := P) (h := h) (g := r 0) (l := r 1) (W := r 2) (p := r 3) (x := r 4) (e := r 5) k1 k2
  obtain ⟨rq, hr⟩ : ∃ rq : Nat → Int, (∀ i, i < 6 → rq i = r i) := ⟨r, fun i hi => rfl⟩
  have v0 : rq 0 = r 0 := hr 0 (by decide)
  have v1 : rq 1 = r 1 := hr 1 (by decide)
  have v2 : rq 2 = r 2 := hr 2 (by decide)
  have v3 : rq 3 = r 3 := hr 3 (by decide)
  have v4 : rq 4 = r 4 := hr 4 (by decide)
  have v5 : rq 5 = r 5 := hr 5 (by decide)
  have g0 : zq_ev rq (0, [(0, 1)]) = r 0 := zu_f1 v0
  have g1 : zq_ev rq (0, [(1, 1)]) = r 1 := zu_f1 v1
  have g2 : zq_ev rq (0, [(2, 1)]) = r 2 := zu_f1 v2
  have g3 : zq_ev rq (0, [(3, 1)]) = r 3 := zu_f1 v3
  have g4 : zq_ev rq (0, [(4, 1)]) = r 4 := zu_f1 v4
  have g5 : zq_ev rq (0, []) = 0 := zu_e0 _ _
  have g6 : zq_ev rq (0, [(5, 1)]) = r 5 := zu_f1 v5
  exact ⟨_, List.mem_cons_self .., rq, hr, zq_MeS_mk rfl hT (zq_all_nil) zq_fan (zq_fan) rfl (zu_fac ((x_VP _ _ _).mpr (by show zo_VPs (zq_ev rq (0, [(0, 1)])) (zq_ev rq (0, [(1, 1)])) (zq_ev rq (0, [(2, 1)])) (zq_ev rq (0, [(3, 1)])) (zq_ev rq (0, [(4, 1)])) (zq_ev rq (0, [])) (zq_ev rq (0, [])) (zq_ev rq (0, [])) (zq_ev rq (0, [(5, 1)])) P h; simp only [g0, g1, g2, g3, g4, g5, g6]; exact t1)) zq_fan)⟩
noncomputable def zo_vp25g : zq_S × List zq_S := (([], [], [], [], [], [], [(224, [(0, [(0, 1)]), (0, [(1, 1)]), (0, [(3, 1)]), (25, [])]), (220, [(4, []), (0, [(0, 1)]), (0, [(1, 1)]), (1, []), (0, [(2, 1)]), (0, []), (1, [(3, 1)]), (0, [(4, 1)]), (0, []), (0, [(7, 1)])]), (220, [(4, []), (0, [(0, 1)]), (0, [(1, 1)]), (1, []), (0, [(2, 1)]), (0, []), (1, [(7, 1)]), (0, [(6, 1)]), (0, []), (0, [(5, 1)])])], 8), [([], [], [], [], [], [], [(333, [(0, [(0, 1)]), (0, [(1, 1)]), (0, [(2, 1)]), (0, [(3, 1)]), (0, [(4, 1)]), (0, [(6, 1)]), (0, []), (1, []), (0, [(5, 1)])])], 8)])
theorem zo_vp25g_l {P : zq_Ty} {h : zq_H} {g l W p x e y a : Int} (k1 : ze_CD g l p 25 P h) (k2 : ze_EV 4 g l 1 W 0 (p + 1) x 0 a P h) (k3 : ze_EV 4 g l 1 W 0 (a + 1) y 0 e P h) : (zo_VPs g l W p x y 0 1 e P h) := by
  have k1 : (25 : Int) = ze_c g l (p) := k1
  have k2 : ze_V (ze_c g l) (ze_v g l) (ze_w 1 W) 4 0 true (ze_on 0) (p + 1) x (ze_on 0) a := k2
  rw [ze_on0] at k2
  have k3 : ze_V (ze_c g l) (ze_v g l) (ze_w 1 W) 4 0 true (ze_on 0) (a + 1) y (ze_on 0) e := k3
  rw [ze_on0] at k3
  exact Or.inr (Or.inr (Or.inl ⟨k1.symm, rfl, ze_on 0, ze_on 0, a, k2, k3, by rw [ze_on0]; rfl⟩))
theorem zo_vp25g_ok {w : zq_Wd} (x_CD : zj_is w 224 (fun q => ze_CD (q 0) (q 1) (q 2) (q 3))) (x_EV : zj_is w 220 (fun q => ze_EV (q 0) (q 1) (q 2) (q 3) (q 4) (q 5) (q 6) (q 7) (q 8) (q 9))) (x_VP : zj_is w 333 (fun q => zo_VPs (q 0) (q 1) (q 2) (q 3) (q 4) (q 5) (q 6) (q 7) (q 8))) : zq_okG1 w zo_vp25g := by
  refine ⟨rfl, rfl, zu_fac ⟨rfl, by decide⟩ zq_fan, ?_⟩
  intro r P h H hM
  have q0 : zq_ev r (0, [(0, 1)]) = r 0 := zu_e1 _ _
  have q1 : zq_ev r (0, [(1, 1)]) = r 1 := zu_e1 _ _
  have q2 : zq_ev r (0, [(3, 1)]) = r 3 := zu_e1 _ _
  have q3 : zq_ev r (25, []) = 25 := zu_e0 _ _
  have q4 : zq_ev r (4, []) = 4 := zu_e0 _ _
  have q5 : zq_ev r (1, []) = 1 := zu_e0 _ _
  have q6 : zq_ev r (0, [(2, 1)]) = r 2 := zu_e1 _ _
  have q7 : zq_ev r (0, []) = 0 := zu_e0 _ _
  have q8 : zq_ev r (1, [(3, 1)]) = r 3 + 1 := zu_e2 _ _ _
  have q9 : zq_ev r (0, [(4, 1)]) = r 4 := zu_e1 _ _
  have q10 : zq_ev r (0, [(7, 1)]) = r 7 := zu_e1 _ _
  have q11 : zq_ev r (1, [(7, 1)]) = r 7 + 1 := zu_e2 _ _ _
  have q12 : zq_ev r (0, [(6, 1)]) = r 6 := zu_e1 _ _
  have q13 : zq_ev r (0, [(5, 1)]) = r 5 := zu_e1 _ _
  obtain ⟨hT, hC, hF, hS, -, hK⟩ := hM
  have c := hC.1
  have k1 := zj_use x_CD (hK)
  have k1 : ze_CD (zq_ev r (0, [(0, 1)])) (zq_ev r (0, [(1, 1)])) (zq_ev r (0, [(3, 1)])) (zq_ev r (25, [])) P h := k1
  simp only [q0, q1, q2, q3] at k1
  have k2 := zj_use x_EV (zq_okX_t (hK))
  have k2 : ze_EV (zq_ev r (4, [])) (zq_ev r (0, [(0, 1)])) (zq_ev r (0, [(1, 1)])) (zq_ev r (1, [])) (zq_ev r (0, [(2, 1)])) (zq_ev r (0, [])) (zq_ev r (1, [(3, 1)])) (zq_ev r (0, [(4, 1)])) (zq_ev r (0, [])) (zq_ev r (0, [(7, 1)])) P h := k2
  simp only [q0, q1, q10, q4, q5, q6, q7, q8, q9] at k2
  have k3 := zj_use x_EV (zq_okX_t (zq_okX_t (hK)))
  have k3 : ze_EV (zq_ev r (4, [])) (zq_ev r (0, [(0, 1)])) (zq_ev r (0, [(1, 1)])) (zq_ev r (1, [])) (zq_ev r (0, [(2, 1)])) (zq_ev r (0, [])) (zq_ev r (1, [(7, 1)])) (zq_ev r (0, [(6, 1)])) (zq_ev r (0, [])) (zq_ev r (0, [(5, 1)])) P h := k3
  simp only [q0, q1, q11, q12, q13, q4, q5, q6, q7] at k3
  obtain t1 := zo_vp25g_l (P := P) (h := h) (g := r 0) (l := r 1) (W := r 2) (p := r 3) (x := r 4) (e := r 5) (y := r 6) (a := r 7) k1 k2 k3
  obtain ⟨rq, hr⟩ : ∃ rq : Nat → Int, (∀ i, i < 8 → rq i = r i) := ⟨r, fun i hi => rfl⟩
  have v0 : rq 0 = r 0 := hr 0 (by decide)
  have v1 : rq 1 = r 1 := hr 1 (by decide)
  have v2 : rq 2 = r 2 := hr 2 (by decide)
  have v3 : rq 3 = r 3 := hr 3 (by decide)
  have v4 : rq 4 = r 4 := hr 4 (by decide)
  have v5 : rq 5 = r 5 := hr 5 (by decide)
  have v6 : rq 6 = r 6 := hr 6 (by decide)
  have g0 : zq_ev rq (0, [(0, 1)]) = r 0 := zu_f1 v0
  have g1 : zq_ev rq (0, [(1, 1)]) = r 1 := zu_f1 v1
  have g2 : zq_ev rq (0, [(2, 1)]) = r 2 := zu_f1 v2
  have g3 : zq_ev rq (0, [(3, 1)]) = r 3 := zu_f1 v3
  have g4 : zq_ev rq (0, [(4, 1)]) = r 4 := zu_f1 v4
  have g5 : zq_ev rq (0, [(6, 1)]) = r 6 := zu_f1 v6
  have g6 : zq_ev rq (0, []) = 0 := zu_e0 _ _
  have g7 : zq_ev rq (1, []) = 1 := zu_e0 _ _
  have g8 : zq_ev rq (0, [(5, 1)]) = r 5 := zu_f1 v5
  exact ⟨_, List.mem_cons_self .., rq, hr, zq_MeS_mk rfl hT (zq_all_nil) zq_fan (zq_fan) rfl (zu_fac ((x_VP _ _ _).mpr (by show zo_VPs (zq_ev rq (0, [(0, 1)])) (zq_ev rq (0, [(1, 1)])) (zq_ev rq (0, [(2, 1)])) (zq_ev rq (0, [(3, 1)])) (zq_ev rq (0, [(4, 1)])) (zq_ev rq (0, [(6, 1)])) (zq_ev rq (0, [])) (zq_ev rq (1, [])) (zq_ev rq (0, [(5, 1)])) P h; simp only [g0, g1, g2, g3, g4, g5, g6, g7, g8]; exact t1)) zq_fan)⟩
noncomputable def zo_vp25a : zq_S × List zq_S := (([], [], [], [], [], [], [(224, [(0, [(0, 1)]), (0, [(1, 1)]), (0, [(3, 1)]), (25, [])]), (220, [(4, []), (0, [(0, 1)]), (0, [(1, 1)]), (1, []), (0, [(2, 1)]), (0, []), (1, [(3, 1)]), (0, [(4, 1)]), (1, []), (0, [(7, 1)])]), (220, [(4, []), (0, [(0, 1)]), (0, [(1, 1)]), (1, []), (0, [(2, 1)]), (0, []), (1, [(7, 1)]), (0, [(6, 1)]), (0, [(8, 1)]), (0, [(5, 1)])])], 9), [([], [], [], [], [], [], [(333, [(0, [(0, 1)]), (0, [(1, 1)]), (0, [(2, 1)]), (0, [(3, 1)]), (0, [(4, 1)]), (0, [(6, 1)]), (0, []), (0, []), (0, [(5, 1)])])], 9)])
theorem zo_vp25a_l {P : zq_Ty} {h : zq_H} {g l W p x e y a d : Int} (k1 : ze_CD g l p 25 P h) (k2 : ze_EV 4 g l 1 W 0 (p + 1) x 1 a P h) (k3 : ze_EV 4 g l 1 W 0 (a + 1) y d e P h) : (zo_VPs g l W p x y 0 0 e P h) := by
  have k1 : (25 : Int) = ze_c g l (p) := k1
  have k2 : ze_V (ze_c g l) (ze_v g l) (ze_w 1 W) 4 0 true (ze_on 0) (p + 1) x (ze_on 1) a := k2
  rw [ze_on0] at k2
  have k3 : ze_V (ze_c g l) (ze_v g l) (ze_w 1 W) 4 0 true (ze_on 0) (a + 1) y (ze_on d) e := k3
  rw [ze_on0] at k3
  exact Or.inr (Or.inr (Or.inl ⟨k1.symm, rfl, ze_on 1, ze_on d, a, k2, k3, by rw [ze_on1]; rfl⟩))
theorem zo_vp25a_ok {w : zq_Wd} (x_CD : zj_is w 224 (fun q => ze_CD (q 0) (q 1) (q 2) (q 3))) (x_EV : zj_is w 220 (fun q => ze_EV (q 0) (q 1) (q 2) (q 3) (q 4) (q 5) (q 6) (q 7) (q 8) (q 9))) (x_VP : zj_is w 333 (fun q => zo_VPs (q 0) (q 1) (q 2) (q 3) (q 4) (q 5) (q 6) (q 7) (q 8))) : zq_okG1 w zo_vp25a := by
  refine ⟨rfl, rfl, zu_fac ⟨rfl, by decide⟩ zq_fan, ?_⟩
  intro r P h H hM
  have q0 : zq_ev r (0, [(0, 1)]) = r 0 := zu_e1 _ _
  have q1 : zq_ev r (0, [(1, 1)]) = r 1 := zu_e1 _ _
  have q2 : zq_ev r (0, [(3, 1)]) = r 3 := zu_e1 _ _
  have q3 : zq_ev r (25, []) = 25 := zu_e0 _ _
  have q4 : zq_ev r (4, []) = 4 := zu_e0 _ _
  have q5 : zq_ev r (1, []) = 1 := zu_e0 _ _
  have q6 : zq_ev r (0, [(2, 1)]) = r 2 := zu_e1 _ _
  have q7 : zq_ev r (0, []) = 0 := zu_e0 _ _
  have q8 : zq_ev r (1, [(3, 1)]) = r 3 + 1 := zu_e2 _ _ _
  have q9 : zq_ev r (0, [(4, 1)]) = r 4 := zu_e1 _ _
  have q10 : zq_ev r (0, [(7, 1)]) = r 7 := zu_e1 _ _
  have q11 : zq_ev r (1, [(7, 1)]) = r 7 + 1 := zu_e2 _ _ _
  have q12 : zq_ev r (0, [(6, 1)]) = r 6 := zu_e1 _ _
  have q13 : zq_ev r (0, [(8, 1)]) = r 8 := zu_e1 _ _
  have q14 : zq_ev r (0, [(5, 1)]) = r 5 := zu_e1 _ _
  obtain ⟨hT, hC, hF, hS, -, hK⟩ := hM
  have c := hC.1
  have k1 := zj_use x_CD (hK)
  have k1 : ze_CD (zq_ev r (0, [(0, 1)])) (zq_ev r (0, [(1, 1)])) (zq_ev r (0, [(3, 1)])) (zq_ev r (25, [])) P h := k1
  simp only [q0, q1, q2, q3] at k1
  have k2 := zj_use x_EV (zq_okX_t (hK))
  have k2 : ze_EV (zq_ev r (4, [])) (zq_ev r (0, [(0, 1)])) (zq_ev r (0, [(1, 1)])) (zq_ev r (1, [])) (zq_ev r (0, [(2, 1)])) (zq_ev r (0, [])) (zq_ev r (1, [(3, 1)])) (zq_ev r (0, [(4, 1)])) (zq_ev r (1, [])) (zq_ev r (0, [(7, 1)])) P h := k2
  simp only [q0, q1, q10, q4, q5, q6, q7, q8, q9] at k2
  have k3 := zj_use x_EV (zq_okX_t (zq_okX_t (hK)))
  have k3 : ze_EV (zq_ev r (4, [])) (zq_ev r (0, [(0, 1)])) (zq_ev r (0, [(1, 1)])) (zq_ev r (1, [])) (zq_ev r (0, [(2, 1)])) (zq_ev r (0, [])) (zq_ev r (1, [(7, 1)])) (zq_ev r (0, [(6, 1)])) (zq_ev r (0, [(8, 1)])) (zq_ev r (0, [(5, 1)])) P h := k3
  simp only [q0, q1, q11, q12, q13, q14, q4, q5, q6, q7] at k3
  obtain t1 := zo_vp25a_l (P := P) (h := h) (g := r 0) (l := r 1) (W := r 2) (p := r 3) (x := r 4) (e := r 5) (y := r 6) (a := r 7) (d := r 8) k1 k2 k3
  obtain ⟨rq, hr⟩ : ∃ rq : Nat → Int, (∀ i, i < 9 → rq i = r i) := ⟨r, fun i hi => rfl⟩
  have v0 : rq 0 = r 0 := hr 0 (by decide)
  have v1 : rq 1 = r 1 := hr 1 (by decide)
  have v2 : rq 2 = r 2 := hr 2 (by decide)
  have v3 : rq 3 = r 3 := hr 3 (by decide)
  have v4 : rq 4 = r 4 := hr 4 (by decide)
  have v5 : rq 5 = r 5 := hr 5 (by decide)
  have v6 : rq 6 = r 6 := hr 6 (by decide)
  have g0 : zq_ev rq (0, [(0, 1)]) = r 0 := zu_f1 v0
  have g1 : zq_ev rq (0, [(1, 1)]) = r 1 := zu_f1 v1
  have g2 : zq_ev rq (0, [(2, 1)]) = r 2 := zu_f1 v2
  have g3 : zq_ev rq (0, [(3, 1)]) = r 3 := zu_f1 v3
  have g4 : zq_ev rq (0, [(4, 1)]) = r 4 := zu_f1 v4
  have g5 : zq_ev rq (0, [(6, 1)]) = r 6 := zu_f1 v6
  have g6 : zq_ev rq (0, []) = 0 := zu_e0 _ _
  have g7 : zq_ev rq (0, [(5, 1)]) = r 5 := zu_f1 v5
  exact ⟨_, List.mem_cons_self .., rq, hr, zq_MeS_mk rfl hT (zq_all_nil) zq_fan (zq_fan) rfl (zu_fac ((x_VP _ _ _).mpr (by show zo_VPs (zq_ev rq (0, [(0, 1)])) (zq_ev rq (0, [(1, 1)])) (zq_ev rq (0, [(2, 1)])) (zq_ev rq (0, [(3, 1)])) (zq_ev rq (0, [(4, 1)])) (zq_ev rq (0, [(6, 1)])) (zq_ev rq (0, [])) (zq_ev rq (0, [])) (zq_ev rq (0, [(5, 1)])) P h; simp only [g0, g1, g2, g3, g4, g5, g6, g7]; exact t1)) zq_fan)⟩
noncomputable def zo_vp25b : zq_S × List zq_S := (([], [], [], [], [], [], [(224, [(0, [(0, 1)]), (0, [(1, 1)]), (0, [(3, 1)]), (25, [])]), (220, [(4, []), (0, [(0, 1)]), (0, [(1, 1)]), (1, []), (0, [(2, 1)]), (0, []), (1, [(3, 1)]), (0, [(4, 1)]), (0, [(8, 1)]), (0, [(7, 1)])]), (220, [(4, []), (0, [(0, 1)]), (0, [(1, 1)]), (1, []), (0, [(2, 1)]), (0, []), (1, [(7, 1)]), (0, [(6, 1)]), (1, []), (0, [(5, 1)])])], 9), [([], [], [], [], [], [], [(333, [(0, [(0, 1)]), (0, [(1, 1)]), (0, [(2, 1)]), (0, [(3, 1)]), (0, [(4, 1)]), (0, [(6, 1)]), (0, []), (0, []), (0, [(5, 1)])])], 9)])
theorem zo_vp25b_l {P : zq_Ty} {h : zq_H} {g l W p x e y a c : Int} (k1 : ze_CD g l p 25 P h) (k2 : ze_EV 4 g l 1 W 0 (p + 1) x c a P h) (k3 : ze_EV 4 g l 1 W 0 (a + 1) y 1 e P h) : (zo_VPs g l W p x y 0 0 e P h) := by
  have k1 : (25 : Int) = ze_c g l (p) := k1
  have k2 : ze_V (ze_c g l) (ze_v g l) (ze_w 1 W) 4 0 true (ze_on 0) (p + 1) x (ze_on c) a := k2
  rw [ze_on0] at k2
  have k3 : ze_V (ze_c g l) (ze_v g l) (ze_w 1 W) 4 0 true (ze_on 0) (a + 1) y (ze_on 1) e := k3
  rw [ze_on0] at k3
  exact Or.inr (Or.inr (Or.inl ⟨k1.symm, rfl, ze_on c, ze_on 1, a, k2, k3, by rw [ze_on1, Bool.or_true]; rfl⟩))
theorem zo_vp25b_ok {w : zq_Wd} (x_CD : zj_is w 224 (fun q => ze_CD (q 0) (q 1) (q 2) (q 3))) (x_EV : zj_is w 220 (fun q => ze_EV (q 0) (q 1) (q 2) (q 3) (q 4) (q 5) (q 6) (q 7) (q 8) (q 9))) (x_VP : zj_is w 333 (fun q => zo_VPs (q 0) (q 1) (q 2) (q 3) (q 4) (q 5) (q 6) (q 7) (q 8))) : zq_okG1 w zo_vp25b := by
  refine ⟨rfl, rfl, zu_fac ⟨rfl, by decide⟩ zq_fan, ?_⟩
  intro r P h H hM
  have q0 : zq_ev r (0, [(0, 1)]) = r 0 := zu_e1 _ _
  have q1 : zq_ev r (0, [(1, 1)]) = r 1 := zu_e1 _ _
  have q2 : zq_ev r (0, [(3, 1)]) = r 3 := zu_e1 _ _
  have q3 : zq_ev r (25, []) = 25 := zu_e0 _ _
  have q4 : zq_ev r (4, []) = 4 := zu_e0 _ _
  have q5 : zq_ev r (1, []) = 1 := zu_e0 _ _
  have q6 : zq_ev r (0, [(2, 1)]) = r 2 := zu_e1 _ _
  have q7 : zq_ev r (0, []) = 0 := zu_e0 _ _
  have q8 : zq_ev r (1, [(3, 1)]) = r 3 + 1 := zu_e2 _ _ _
  have q9 : zq_ev r (0, [(4, 1)]) = r 4 := zu_e1 _ _
  have q10 : zq_ev r (0, [(8, 1)]) = r 8 := zu_e1 _ _
  have q11 : zq_ev r (0, [(7, 1)]) = r 7 := zu_e1 _ _
  have q12 : zq_ev r (1, [(7, 1)]) = r 7 + 1 := zu_e2 _ _ _
  have q13 : zq_ev r (0, [(6, 1)]) = r 6 := zu_e1 _ _
  have q14 : zq_ev r (0, [(5, 1)]) = r 5 := zu_e1 _ _
  obtain ⟨hT, hC, hF, hS, -, hK⟩ := hM
  have c := hC.1
  have k1 := zj_use x_CD (hK)
  have k1 : ze_CD (zq_ev r (0, [(0, 1)])) (zq_ev r (0, [(1, 1)])) (zq_ev r (0, [(3, 1)])) (zq_ev r (25, [])) P h := k1
  simp only [q0, q1, q2, q3] at k1
  have k2 := zj_use x_EV (zq_okX_t (hK))
  have k2 : ze_EV (zq_ev r (4, [])) (zq_ev r (0, [(0, 1)])) (zq_ev r (0, [(1, 1)])) (zq_ev r (1, [])) (zq_ev r (0, [(2, 1)])) (zq_ev r (0, [])) (zq_ev r (1, [(3, 1)])) (zq_ev r (0, [(4, 1)])) (zq_ev r (0, [(8, 1)])) (zq_ev r (0, [(7, 1)])) P h := k2
  simp only [q0, q1, q10, q11, q4, q5, q6, q7, q8, q9] at k2
  have k3 := zj_use x_EV (zq_okX_t (zq_okX_t (hK)))
  have k3 : ze_EV (zq_ev r (4, [])) (zq_ev r (0, [(0, 1)])) (zq_ev r (0, [(1, 1)])) (zq_ev r (1, [])) (zq_ev r (0, [(2, 1)])) (zq_ev r (0, [])) (zq_ev r (1, [(7, 1)])) (zq_ev r (0, [(6, 1)])) (zq_ev r (1, [])) (zq_ev r (0, [(5, 1)])) P h := k3
  simp only [q0, q1, q12, q13, q14, q4, q5, q6, q7] at k3
  obtain t1 := zo_vp25b_l (P := P) (h := h) (g := r 0) (l := r 1) (W := r 2) (p := r 3) (x := r 4) (e := r 5) (y := r 6) (a := r 7) (c := r 8) k1 k2 k3
  obtain ⟨rq, hr⟩ : ∃ rq : Nat → Int, (∀ i, i < 9 → rq i = r i) := ⟨r, fun i hi => rfl⟩
  have v0 : rq 0 = r 0 := hr 0 (by decide)
  have v1 : rq 1 = r 1 := hr 1 (by decide)
  have v2 : rq 2 = r 2 := hr 2 (by decide)
  have v3 : rq 3 = r 3 := hr 3 (by decide)
  have v4 : rq 4 = r 4 := hr 4 (by decide)
  have v5 : rq 5 = r 5 := hr 5 (by decide)
  have v6 : rq 6 = r 6 := hr 6 (by decide)
  have g0 : zq_ev rq (0, [(0, 1)]) = r 0 := zu_f1 v0
  have g1 : zq_ev rq (0, [(1, 1)]) = r 1 := zu_f1 v1
  have g2 : zq_ev rq (0, [(2, 1)]) = r 2 := zu_f1 v2
  have g3 : zq_ev rq (0, [(3, 1)]) = r 3 := zu_f1 v3
  have g4 : zq_ev rq (0, [(4, 1)]) = r 4 := zu_f1 v4
  have g5 : zq_ev rq (0, [(6, 1)]) = r 6 := zu_f1 v6
  have g6 : zq_ev rq (0, []) = 0 := zu_e0 _ _
  have g7 : zq_ev rq (0, [(5, 1)]) = r 5 := zu_f1 v5
  exact ⟨_, List.mem_cons_self .., rq, hr, zq_MeS_mk rfl hT (zq_all_nil) zq_fan (zq_fan) rfl (zu_fac ((x_VP _ _ _).mpr (by show zo_VPs (zq_ev rq (0, [(0, 1)])) (zq_ev rq (0, [(1, 1)])) (zq_ev rq (0, [(2, 1)])) (zq_ev rq (0, [(3, 1)])) (zq_ev rq (0, [(4, 1)])) (zq_ev rq (0, [(6, 1)])) (zq_ev rq (0, [])) (zq_ev rq (0, [])) (zq_ev rq (0, [(5, 1)])) P h; simp only [g0, g1, g2, g3, g4, g5, g6, g7]; exact t1)) zq_fan)⟩
noncomputable def zo_vp22g : zq_S × List zq_S := (([], [], [], [], [], [], [(224, [(0, [(0, 1)]), (0, [(1, 1)]), (0, [(3, 1)]), (22, [])]), (220, [(4, []), (0, [(0, 1)]), (0, [(1, 1)]), (1, []), (0, [(2, 1)]), (0, []), (1, [(3, 1)]), (0, [(4, 1)]), (0, []), (0, [(8, 1)])]), (220, [(4, []), (0, [(0, 1)]), (0, [(1, 1)]), (1, []), (0, [(2, 1)]), (0, []), (1, [(8, 1)]), (0, [(6, 1)]), (0, []), (0, [(9, 1)])]), (220, [(4, []), (0, [(0, 1)]), (0, [(1, 1)]), (1, []), (0, [(2, 1)]), (0, []), (1, [(9, 1)]), (0, [(7, 1)]), (0, []), (0, [(5, 1)])])], 10), [([], [], [], [], [], [], [(333, [(0, [(0, 1)]), (0, [(1, 1)]), (0, [(2, 1)]), (0, [(3, 1)]), (0, [(4, 1)]), (0, [(6, 1)]), (0, [(7, 1)]), (1, []), (0, [(5, 1)])])], 10)])
theorem zo_vp22g_l {P : zq_Ty} {h : zq_H} {g l W p x e y z a b : Int} (k1 : ze_CD g l p 22 P h) (k2 : ze_EV 4 g l 1 W 0 (p + 1) x 0 a P h) (k3 : ze_EV 4 g l 1 W 0 (a + 1) y 0 b P h) (k4 : ze_EV 4 g l 1 W 0 (b + 1) z 0 e P h) : (zo_VPs g l W p x y z 1 e P h) := by
  have k1 : (22 : Int) = ze_c g l (p) := k1
  have k2 : ze_V (ze_c g l) (ze_v g l) (ze_w 1 W) 4 0 true (ze_on 0) (p + 1) x (ze_on 0) a := k2
  rw [ze_on0] at k2
  have k3 : ze_V (ze_c g l) (ze_v g l) (ze_w 1 W) 4 0 true (ze_on 0) (a + 1) y (ze_on 0) b := k3
  rw [ze_on0] at k3
  have k4 : ze_V (ze_c g l) (ze_v g l) (ze_w 1 W) 4 0 true (ze_on 0) (b + 1) z (ze_on 0) e := k4
  rw [ze_on0] at k4
  exact Or.inr (Or.inr (Or.inr ⟨by omega, by omega, by omega, ze_on 0, ze_on 0, ze_on 0, a, b, k2, k3, k4, by rw [ze_on0]; rfl⟩))
theorem zo_vp22g_ok {w : zq_Wd} (x_CD : zj_is w 224 (fun q => ze_CD (q 0) (q 1) (q 2) (q 3))) (x_EV : zj_is w 220 (fun q => ze_EV (q 0) (q 1) (q 2) (q 3) (q 4) (q 5) (q 6) (q 7) (q 8) (q 9))) (x_VP : zj_is w 333 (fun q => zo_VPs (q 0) (q 1) (q 2) (q 3) (q 4) (q 5) (q 6) (q 7) (q 8))) : zq_okG1 w zo_vp22g := by
  refine ⟨rfl, rfl, zu_fac ⟨rfl, by decide⟩ zq_fan, ?_⟩
  intro r P h H hM
  have q0 : zq_ev r (0, [(0, 1)]) = r 0 := zu_e1 _ _
  have q1 : zq_ev r (0, [(1, 1)]) = r 1 := zu_e1 _ _
  have q2 : zq_ev r (0, [(3, 1)]) = r 3 := zu_e1 _ _
  have q3 : zq_ev r (22, []) = 22 := zu_e0 _ _
  have q4 : zq_ev r (4, []) = 4 := zu_e0 _ _
  have q5 : zq_ev r (1, []) = 1 := zu_e0 _ _
  have q6 : zq_ev r (0, [(2, 1)]) = r 2 := zu_e1 _ _
  have q7 : zq_ev r (0, []) = 0 := zu_e0 _ _
  have q8 : zq_ev r (1, [(3, 1)]) = r 3 + 1 := zu_e2 _ _ _
  have q9 : zq_ev r (0, [(4, 1)]) = r 4 := zu_e1 _ _
  have q10 : zq_ev r (0, [(8, 1)]) = r 8 := zu_e1 _ _
  have q11 : zq_ev r (1, [(8, 1)]) = r 8 + 1 := zu_e2 _ _ _
  have q12 : zq_ev r (0, [(6, 1)]) = r 6 := zu_e1 _ _
  have q13 : zq_ev r (0, [(9, 1)]) = r 9 := zu_e1 _ _
  have q14 : zq_ev r (1, [(9, 1)]) = r 9 + 1 := zu_e2 _ _ _
  have q15 : zq_ev r (0, [(7, 1)]) = r 7 := zu_e1 _ _
  have q16 : zq_ev r (0, [(5, 1)]) = r 5 := zu_e1 _ _
  obtain ⟨hT, hC, hF, hS, -, hK⟩ := hM
  have c := hC.1
  have k1 := zj_use x_CD (hK)
  have k1 : ze_CD (zq_ev r (0, [(0, 1)])) (zq_ev r (0, [(1, 1)])) (zq_ev r (0, [(3, 1)])) (zq_ev r (22, [])) P h := k1
  simp only [q0, q1, q2, q3] at k1
  have k2 := zj_use x_EV (zq_okX_t (hK))
  have k2 : ze_EV (zq_ev r (4, [])) (zq_ev r (0, [(0, 1)])) (zq_ev r (0, [(1, 1)])) (zq_ev r (1, [])) (zq_ev r (0, [(2, 1)])) (zq_ev r (0, [])) (zq_ev r (1, [(3, 1)])) (zq_ev r (0, [(4, 1)])) (zq_ev r (0, [])) (zq_ev r (0, [(8, 1)])) P h := k2
  simp only [q0, q1, q10, q4, q5, q6, q7, q8, q9] at k2
  have k3 := zj_use x_EV (zq_okX_t (zq_okX_t (hK)))
  have k3 : ze_EV (zq_ev r (4, [])) (zq_ev r (0, [(0, 1)])) (zq_ev r (0, [(1, 1)])) (zq_ev r (1, [])) (zq_ev r (0, [(2, 1)])) (zq_ev r (0, [])) (zq_ev r (1, [(8, 1)])) (zq_ev r (0, [(6, 1)])) (zq_ev r (0, [])) (zq_ev r (0, [(9, 1)])) P h := k3
  simp only [q0, q1, q11, q12, q13, q4, q5, q6, q7] at k3
  have k4 := zj_use x_EV (zq_okX_t (zq_okX_t (zq_okX_t (hK))))
  have k4 : ze_EV (zq_ev r (4, [])) (zq_ev r (0, [(0, 1)])) (zq_ev r (0, [(1, 1)])) (zq_ev r (1, [])) (zq_ev r (0, [(2, 1)])) (zq_ev r (0, [])) (zq_ev r (1, [(9, 1)])) (zq_ev r (0, [(7, 1)])) (zq_ev r (0, [])) (zq_ev r (0, [(5, 1)])) P h := k4
  simp only [q0, q1, q14, q15, q16, q4, q5, q6, q7] at k4
  obtain t1 := zo_vp22g_l (P := P) (h := h) (g := r 0) (l := r 1) (W := r 2) (p := r 3) (x := r 4) (e := r 5) (y := r 6) (z := r 7) (a := r 8) (b := r 9) k1 k2 k3 k4
  obtain ⟨rq, hr⟩ : ∃ rq : Nat → Int, (∀ i, i < 10 → rq i = r i) := ⟨r, fun i hi => rfl⟩
  have v0 : rq 0 = r 0 := hr 0 (by decide)
  have v1 : rq 1 = r 1 := hr 1 (by decide)
  have v2 : rq 2 = r 2 := hr 2 (by decide)
  have v3 : rq 3 = r 3 := hr 3 (by decide)
  have v4 : rq 4 = r 4 := hr 4 (by decide)
  have v5 : rq 5 = r 5 := hr 5 (by decide)
  have v6 : rq 6 = r 6 := hr 6 (by decide)
  have v7 : rq 7 = r 7 := hr 7 (by decide)
  have g0 : zq_ev rq (0, [(0, 1)]) = r 0 := zu_f1 v0
  have g1 : zq_ev rq (0, [(1, 1)]) = r 1 := zu_f1 v1
  have g2 : zq_ev rq (0, [(2, 1)]) = r 2 := zu_f1 v2
  have g3 : zq_ev rq (0, [(3, 1)]) = r 3 := zu_f1 v3
  have g4 : zq_ev rq (0, [(4, 1)]) = r 4 := zu_f1 v4
  have g5 : zq_ev rq (0, [(6, 1)]) = r 6 := zu_f1 v6
  have g6 : zq_ev rq (0, [(7, 1)]) = r 7 := zu_f1 v7
  have g7 : zq_ev rq (1, []) = 1 := zu_e0 _ _
  have g8 : zq_ev rq (0, [(5, 1)]) = r 5 := zu_f1 v5
  exact ⟨_, List.mem_cons_self .., rq, hr, zq_MeS_mk rfl hT (zq_all_nil) zq_fan (zq_fan) rfl (zu_fac ((x_VP _ _ _).mpr (by show zo_VPs (zq_ev rq (0, [(0, 1)])) (zq_ev rq (0, [(1, 1)])) (zq_ev rq (0, [(2, 1)])) (zq_ev rq (0, [(3, 1)])) (zq_ev rq (0, [(4, 1)])) (zq_ev rq (0, [(6, 1)])) (zq_ev rq (0, [(7, 1)])) (zq_ev rq (1, [])) (zq_ev rq (0, [(5, 1)])) P h; simp only [g0, g1, g2, g3, g4, g5, g6, g7, g8]; exact t1)) zq_fan)⟩
noncomputable def zo_vp22a : zq_S × List zq_S := (([], [], [], [], [], [], [(224, [(0, [(0, 1)]), (0, [(1, 1)]), (0, [(3, 1)]), (22, [])]), (220, [(4, []), (0, [(0, 1)]), (0, [(1, 1)]), (1, []), (0, [(2, 1)]), (0, []), (1, [(3, 1)]), (0, [(4, 1)]), (1, []), (0, [(8, 1)])]), (220, [(4, []), (0, [(0, 1)]), (0, [(1, 1)]), (1, []), (0, [(2, 1)]), (0, []), (1, [(8, 1)]), (0, [(6, 1)]), (0, [(10, 1)]), (0, [(9, 1)])]), (220, [(4, []), (0, [(0, 1)]), (0, [(1, 1)]), (1, []), (0, [(2, 1)]), (0, []), (1, [(9, 1)]), (0, [(7, 1)]), (0, [(11, 1)]), (0, [(5, 1)])])], 12), [([], [], [], [], [], [], [(333, [(0, [(0, 1)]), (0, [(1, 1)]), (0, [(2, 1)]), (0, [(3, 1)]), (0, [(4, 1)]), (0, [(6, 1)]), (0, [(7, 1)]), (0, []), (0, [(5, 1)])])], 12)])
theorem zo_vp22a_l {P : zq_Ty} {h : zq_H} {g l W p x e y z a b d f : Int} (k1 : ze_CD g l p 22 P h) (k2 : ze_EV 4 g l 1 W 0 (p + 1) x 1 a P h) (k3 : ze_EV 4 g l 1 W 0 (a + 1) y d b P h) (k4 : ze_EV 4 g l 1 W 0 (b + 1) z f e P h) : (zo_VPs g l W p x y z 0 e P h) := by
  have k1 : (22 : Int) = ze_c g l (p) := k1
  have k2 : ze_V (ze_c g l) (ze_v g l) (ze_w 1 W) 4 0 true (ze_on 0) (p + 1) x (ze_on 1) a := k2
  rw [ze_on0] at k2
  have k3 : ze_V (ze_c g l) (ze_v g l) (ze_w 1 W) 4 0 true (ze_on 0) (a + 1) y (ze_on d) b := k3
  rw [ze_on0] at k3
  have k4 : ze_V (ze_c g l) (ze_v g l) (ze_w 1 W) 4 0 true (ze_on 0) (b + 1) z (ze_on f) e := k4
  rw [ze_on0] at k4
  exact Or.inr (Or.inr (Or.inr ⟨by omega, by omega, by omega, ze_on 1, ze_on d, ze_on f, a, b, k2, k3, k4, by rw [ze_on1]; rfl⟩))
theorem zo_vp22a_ok {w : zq_Wd} (x_CD : zj_is w 224 (fun q => ze_CD (q 0) (q 1) (q 2) (q 3))) (x_EV : zj_is w 220 (fun q => ze_EV (q 0) (q 1) (q 2) (q 3) (q 4) (q 5) (q 6) (q 7) (q 8) (q 9))) (x_VP : zj_is w 333 (fun q => zo_VPs (q 0) (q 1) (q 2) (q 3) (q 4) (q 5) (q 6) (q 7) (q 8))) : zq_okG1 w zo_vp22a := by
  refine ⟨rfl, rfl, zu_fac ⟨rfl, by decide⟩ zq_fan, ?_⟩
  intro r P h H hM
  have q0 : zq_ev r (0, [(0, 1)]) = r 0 := zu_e1 _ _
  have q1 : zq_ev r (0, [(1, 1)]) = r 1 := zu_e1 _ _
  have q2 : zq_ev r (0, [(3, 1)]) = r 3 := zu_e1 _ _
  have q3 : zq_ev r (22, []) = 22 := zu_e0 _ _
  have q4 : zq_ev r (4, []) = 4 := zu_e0 _ _
  have q5 : zq_ev r (1, []) = 1 := zu_e0 _ _
  have q6 : zq_ev r (0, [(2, 1)]) = r 2 := zu_e1 _ _
  have q7 : zq_ev r (0, []) = 0 := zu_e0 _ _
  have q8 : zq_ev r (1, [(3, 1)]) = r 3 + 1 := zu_e2 _ _ _
  have q9 : zq_ev r (0, [(4, 1)]) = r 4 := zu_e1 _ _
  have q10 : zq_ev r (0, [(8, 1)]) = r 8 := zu_e1 _ _
  have q11 : zq_ev r (1, [(8, 1)]) = r 8 + 1 := zu_e2 _ _ _
  have q12 : zq_ev r (0, [(6, 1)]) = r 6 := zu_e1 _ _
  have q13 : zq_ev r (0, [(10, 1)]) = r 10 := zu_e1 _ _
  have q14 : zq_ev r (0, [(9, 1)]) = r 9 := zu_e1 _ _
  have q15 : zq_ev r (1, [(9, 1)]) = r 9 + 1 := zu_e2 _ _ _
  have q16 : zq_ev r (0, [(7, 1)]) = r 7 := zu_e1 _ _
  have q17 : zq_ev r (0, [(11, 1)]) = r 11 := zu_e1 _ _
  have q18 : zq_ev r (0, [(5, 1)]) = r 5 := zu_e1 _ _
  obtain ⟨hT, hC, hF, hS, -, hK⟩ := hM
  have c := hC.1
  have k1 := zj_use x_CD (hK)
  have k1 : ze_CD (zq_ev r (0, [(0, 1)])) (zq_ev r (0, [(1, 1)])) (zq_ev r (0, [(3, 1)])) (zq_ev r (22, [])) P h := k1
  simp only [q0, q1, q2, q3] at k1
  have k2 := zj_use x_EV (zq_okX_t (hK))
  have k2 : ze_EV (zq_ev r (4, [])) (zq_ev r (0, [(0, 1)])) (zq_ev r (0, [(1, 1)])) (zq_ev r (1, [])) (zq_ev r (0, [(2, 1)])) (zq_ev r (0, [])) (zq_ev r (1, [(3, 1)])) (zq_ev r (0, [(4, 1)])) (zq_ev r (1, [])) (zq_ev r (0, [(8, 1)])) P h := k2
  simp only [q0, q1, q10, q4, q5, q6, q7, q8, q9] at k2
  have k3 := zj_use x_EV (zq_okX_t (zq_okX_t (hK)))
  have k3 : ze_EV (zq_ev r (4, [])) (zq_ev r (0, [(0, 1)])) (zq_ev r (0, [(1, 1)])) (zq_ev r (1, [])) (zq_ev r (0, [(2, 1)])) (zq_ev r (0, [])) (zq_ev r (1, [(8, 1)])) (zq_ev r (0, [(6, 1)])) (zq_ev r (0, [(10, 1)])) (zq_ev r (0, [(9, 1)])) P h := k3
  simp only [q0, q1, q11, q12, q13, q14, q4, q5, q6, q7] at k3
  have k4 := zj_use x_EV (zq_okX_t (zq_okX_t (zq_okX_t (hK))))
  have k4 : ze_EV (zq_ev r (4, [])) (zq_ev r (0, [(0, 1)])) (zq_ev r (0, [(1, 1)])) (zq_ev r (1, [])) (zq_ev r (0, [(2, 1)])) (zq_ev r (0, [])) (zq_ev r (1, [(9, 1)])) (zq_ev r (0, [(7, 1)])) (zq_ev r (0, [(11, 1)])) (zq_ev r (0, [(5, 1)])) P h := k4
  simp only [q0, q1, q15, q16, q17, q18, q4, q5, q6, q7] at k4
  obtain t1 := zo_vp22a_l (P := P) (h := h) (g := r 0) (l := r 1) (W := r 2) (p := r 3) (x := r 4) (e := r 5) (y := r 6) (z := r 7) (a := r 8) (b := r 9) (d := r 10) (f := r 11) k1 k2 k3 k4
  obtain ⟨rq, hr⟩ : ∃ rq : Nat → Int, (∀ i, i < 12 → rq i = r i) := ⟨r, fun i hi => rfl⟩
  have v0 : rq 0 = r 0 := hr 0 (by decide)
  have v1 : rq 1 = r 1 := hr 1 (by decide)
  have v2 : rq 2 = r 2 := hr 2 (by decide)
  have v3 : rq 3 = r 3 := hr 3 (by decide)
  have v4 : rq 4 = r 4 := hr 4 (by decide)
  have v5 : rq 5 = r 5 := hr 5 (by decide)
  have v6 : rq 6 = r 6 := hr 6 (by decide)
  have v7 : rq 7 = r 7 := hr 7 (by decide)
  have g0 : zq_ev rq (0, [(0, 1)]) = r 0 := zu_f1 v0
  have g1 : zq_ev rq (0, [(1, 1)]) = r 1 := zu_f1 v1
  have g2 : zq_ev rq (0, [(2, 1)]) = r 2 := zu_f1 v2
  have g3 : zq_ev rq (0, [(3, 1)]) = r 3 := zu_f1 v3
  have g4 : zq_ev rq (0, [(4, 1)]) = r 4 := zu_f1 v4
  have g5 : zq_ev rq (0, [(6, 1)]) = r 6 := zu_f1 v6
  have g6 : zq_ev rq (0, [(7, 1)]) = r 7 := zu_f1 v7
  have g7 : zq_ev rq (0, []) = 0 := zu_e0 _ _
  have g8 : zq_ev rq (0, [(5, 1)]) = r 5 := zu_f1 v5
  exact ⟨_, List.mem_cons_self .., rq, hr, zq_MeS_mk rfl hT (zq_all_nil) zq_fan (zq_fan) rfl (zu_fac ((x_VP _ _ _).mpr (by show zo_VPs (zq_ev rq (0, [(0, 1)])) (zq_ev rq (0, [(1, 1)])) (zq_ev rq (0, [(2, 1)])) (zq_ev rq (0, [(3, 1)])) (zq_ev rq (0, [(4, 1)])) (zq_ev rq (0, [(6, 1)])) (zq_ev rq (0, [(7, 1)])) (zq_ev rq (0, [])) (zq_ev rq (0, [(5, 1)])) P h; simp only [g0, g1, g2, g3, g4, g5, g6, g7, g8]; exact t1)) zq_fan)⟩
noncomputable def zo_vp22b : zq_S × List zq_S := (([], [], [], [], [], [], [(224, [(0, [(0, 1)]), (0, [(1, 1)]), (0, [(3, 1)]), (22, [])]), (220, [(4, []), (0, [(0, 1)]), (0, [(1, 1)]), (1, []), (0, [(2, 1)]), (0, []), (1, [(3, 1)]), (0, [(4, 1)]), (0, [(10, 1)]), (0, [(8, 1)])]), (220, [(4, []), (0, [(0, 1)]), (0, [(1, 1)]), (1, []), (0, [(2, 1)]), (0, []), (1, [(8, 1)]), (0, [(6, 1)]), (1, []), (0, [(9, 1)])]), (220, [(4, []), (0, [(0, 1)]), (0, [(1, 1)]), (1, []), (0, [(2, 1)]), (0, []), (1, [(9, 1)]), (0, [(7, 1)]), (0, [(11, 1)]), (0, [(5, 1)])])], 12), [([], [], [], [], [], [], [(333, [(0, [(0, 1)]), (0, [(1, 1)]), (0, [(2, 1)]), (0, [(3, 1)]), (0, [(4, 1)]), (0, [(6, 1)]), (0, [(7, 1)]), (0, []), (0, [(5, 1)])])], 12)])
theorem zo_vp22b_l {P : zq_Ty} {h : zq_H} {g l W p x e y z a b c f : Int} (k1 : ze_CD g l p 22 P h) (k2 : ze_EV 4 g l 1 W 0 (p + 1) x c a P h) (k3 : ze_EV 4 g l 1 W 0 (a + 1) y 1 b P h) (k4 : ze_EV 4 g l 1 W 0 (b + 1) z f e P h) : (zo_VPs g l W p x y z 0 e P h) := by
  have k1 : (22 : Int) = ze_c g l (p) := k1
  have k2 : ze_V (ze_c g l) (ze_v g l) (ze_w 1 W) 4 0 true (ze_on 0) (p + 1) x (ze_on c) a := k2
  rw [ze_on0] at k2
  have k3 : ze_V (ze_c g l) (ze_v g l) (ze_w 1 W) 4 0 true (ze_on 0) (a + 1) y (ze_on 1) b := k3
  rw [ze_on0] at k3
  have k4 : ze_V (ze_c g l) (ze_v g l) (ze_w 1 W) 4 0 true (ze_on 0) (b + 1) z (ze_on f) e := k4
  rw [ze_on0] at k4
  exact Or.inr (Or.inr (Or.inr ⟨by omega, by omega, by omega, ze_on c, ze_on 1, ze_on f, a, b, k2, k3, k4, by rw [ze_on1, Bool.true_or, Bool.or_true]; rfl⟩))
theorem zo_vp22b_ok {w : zq_Wd} (x_CD : zj_is w 224 (fun q => ze_CD (q 0) (q 1) (q 2) (q 3))) (x_EV : zj_is w 220 (fun q => ze_EV (q 0) (q 1) (q 2) (q 3) (q 4) (q 5) (q 6) (q 7) (q 8) (q 9))) (x_VP : zj_is w 333 (fun q => zo_VPs (q 0) (q 1) (q 2) (q 3) (q 4) (q 5) (q 6) (q 7) (q 8))) : zq_okG1 w zo_vp22b := by
  refine ⟨rfl, rfl, zu_fac ⟨rfl, by decide⟩ zq_fan, ?_⟩
  intro r P h H hM
  have q0 : zq_ev r (0, [(0, 1)]) = r 0 := zu_e1 _ _
  have q1 : zq_ev r (0, [(1, 1)]) = r 1 := zu_e1 _ _
  have q2 : zq_ev r (0, [(3, 1)]) = r 3 := zu_e1 _ _
  have q3 : zq_ev r (22, []) = 22 := zu_e0 _ _
  have q4 : zq_ev r (4, []) = 4 := zu_e0 _ _
  have q5 : zq_ev r (1, []) = 1 := zu_e0 _ _
  have q6 : zq_ev r (0, [(2, 1)]) = r 2 := zu_e1 _ _
  have q7 : zq_ev r (0, []) = 0 := zu_e0 _ _
  have q8 : zq_ev r (1, [(3, 1)]) = r 3 + 1 := zu_e2 _ _ _
  have q9 : zq_ev r (0, [(4, 1)]) = r 4 := zu_e1 _ _
  have q10 : zq_ev r (0, [(10, 1)]) = r 10 := zu_e1 _ _
  have q11 : zq_ev r (0, [(8, 1)]) = r 8 := zu_e1 _ _
  have q12 : zq_ev r (1, [(8, 1)]) = r 8 + 1 := zu_e2 _ _ _
  have q13 : zq_ev r (0, [(6, 1)]) = r 6 := zu_e1 _ _
  have q14 : zq_ev r (0, [(9, 1)]) = r 9 := zu_e1 _ _
  have q15 : zq_ev r (1, [(9, 1)]) = r 9 + 1 := zu_e2 _ _ _
  have q16 : zq_ev r (0, [(7, 1)]) = r 7 := zu_e1 _ _
  have q17 : zq_ev r (0, [(11, 1)]) = r 11 := zu_e1 _ _
  have q18 : zq_ev r (0, [(5, 1)]) = r 5 := zu_e1 _ _
  obtain ⟨hT, hC, hF, hS, -, hK⟩ := hM
  have c := hC.1
  have k1 := zj_use x_CD (hK)
  have k1 : ze_CD (zq_ev r (0, [(0, 1)])) (zq_ev r (0, [(1, 1)])) (zq_ev r (0, [(3, 1)])) (zq_ev r (22, [])) P h := k1
  simp only [q0, q1, q2, q3] at k1
  have k2 := zj_use x_EV (zq_okX_t (hK))
  have k2 : ze_EV (zq_ev r (4, [])) (zq_ev r (0, [(0, 1)])) (zq_ev r (0, [(1, 1)])) (zq_ev r (1, [])) (zq_ev r (0, [(2, 1)])) (zq_ev r (0, [])) (zq_ev r (1, [(3, 1)])) (zq_ev r (0, [(4, 1)])) (zq_ev r (0, [(10, 1)])) (zq_ev r (0, [(8, 1)])) P h := k2
  simp only [q0, q1, q10, q11, q4, q5, q6, q7, q8, q9] at k2
  have k3 := zj_use x_EV (zq_okX_t (zq_okX_t (hK)))
  have k3 : ze_EV (zq_ev r (4, [])) (zq_ev r (0, [(0, 1)])) (zq_ev r (0, [(1, 1)])) (zq_ev r (1, [])) (zq_ev r (0, [(2, 1)])) (zq_ev r (0, [])) (zq_ev r (1, [(8, 1)])) (zq_ev r (0, [(6, 1)])) (zq_ev r (1, [])) (zq_ev r (0, [(9, 1)])) P h := k3
  simp only [q0, q1, q12, q13, q14, q4, q5, q6, q7] at k3
  have k4 := zj_use x_EV (zq_okX_t (zq_okX_t (zq_okX_t (hK))))
  have k4 : ze_EV (zq_ev r (4, [])) (zq_ev r (0, [(0, 1)])) (zq_ev r (0, [(1, 1)])) (zq_ev r (1, [])) (zq_ev r (0, [(2, 1)])) (zq_ev r (0, [])) (zq_ev r (1, [(9, 1)])) (zq_ev r (0, [(7, 1)])) (zq_ev r (0, [(11, 1)])) (zq_ev r (0, [(5, 1)])) P h := k4
  simp only [q0, q1, q15, q16, q17, q18, q4, q5, q6, q7] at k4
  obtain t1 := zo_vp22b_l (P := P) (h := h) (g := r 0) (l := r 1) (W := r 2) (p := r 3) (x := r 4) (e := r 5) (y := r 6) (z := r 7) (a := r 8) (b := r 9) (c := r 10) (f := r 11) k1 k2 k3 k4
  obtain ⟨rq, hr⟩ : ∃ rq : Nat → Int, (∀ i, i < 12 → rq i = r i) := ⟨r, fun i hi => rfl⟩
  have v0 : rq 0 = r 0 := hr 0 (by decide)
  have v1 : rq 1 = r 1 := hr 1 (by decide)
  have v2 : rq 2 = r 2 := hr 2 (by decide)
  have v3 : rq 3 = r 3 := hr 3 (by decide)
  have v4 : rq 4 = r 4 := hr 4 (by decide)
  have v5 : rq 5 = r 5 := hr 5 (by decide)
  have v6 : rq 6 = r 6 := hr 6 (by decide)
  have v7 : rq 7 = r 7 := hr 7 (by decide)
  have g0 : zq_ev rq (0, [(0, 1)]) = r 0 := zu_f1 v0
  have g1 : zq_ev rq (0, [(1, 1)]) = r 1 := zu_f1 v1
  have g2 : zq_ev rq (0, [(2, 1)]) = r 2 := zu_f1 v2
  have g3 : zq_ev rq (0, [(3, 1)]) = r 3 := zu_f1 v3
  have g4 : zq_ev rq (0, [(4, 1)]) = r 4 := zu_f1 v4
  have g5 : zq_ev rq (0, [(6, 1)]) = r 6 := zu_f1 v6
  have g6 : zq_ev rq (0, [(7, 1)]) = r 7 := zu_f1 v7
  have g7 : zq_ev rq (0, []) = 0 := zu_e0 _ _
  have g8 : zq_ev rq (0, [(5, 1)]) = r 5 := zu_f1 v5
  exact ⟨_, List.mem_cons_self .., rq, hr, zq_MeS_mk rfl hT (zq_all_nil) zq_fan (zq_fan) rfl (zu_fac ((x_VP _ _ _).mpr (by show zo_VPs (zq_ev rq (0, [(0, 1)])) (zq_ev rq (0, [(1, 1)])) (zq_ev rq (0, [(2, 1)])) (zq_ev rq (0, [(3, 1)])) (zq_ev rq (0, [(4, 1)])) (zq_ev rq (0, [(6, 1)])) (zq_ev rq (0, [(7, 1)])) (zq_ev rq (0, [])) (zq_ev rq (0, [(5, 1)])) P h; simp only [g0, g1, g2, g3, g4, g5, g6, g7, g8]; exact t1)) zq_fan)⟩
noncomputable def zo_vp22c : zq_S × List zq_S := (([], [], [], [], [], [], [(224, [(0, [(0, 1)]), (0, [(1, 1)]), (0, [(3, 1)]), (22, [])]), (220, [(4, []), (0, [(0, 1)]), (0, [(1, 1)]), (1, []), (0, [(2, 1)]), (0, []), (1, [(3, 1)]), (0, [(4, 1)]), (0, [(10, 1)]), (0, [(8, 1)])]), (220, [(4, []), (0, [(0, 1)]), (0, [(1, 1)]), (1, []), (0, [(2, 1)]), (0, []), (1, [(8, 1)]), (0, [(6, 1)]), (0, [(11, 1)]), (0, [(9, 1)])]), (220, [(4, []), (0, [(0, 1)]), (0, [(1, 1)]), (1, []), (0, [(2, 1)]), (0, []), (1, [(9, 1)]), (0, [(7, 1)]), (1, []), (0, [(5, 1)])])], 12), [([], [], [], [], [], [], [(333, [(0, [(0, 1)]), (0, [(1, 1)]), (0, [(2, 1)]), (0, [(3, 1)]), (0, [(4, 1)]), (0, [(6, 1)]), (0, [(7, 1)]), (0, []), (0, [(5, 1)])])], 12)])
theorem zo_vp22c_l {P : zq_Ty} {h : zq_H} {g l W p x e y z a b c d : Int} (k1 : ze_CD g l p 22 P h) (k2 : ze_EV 4 g l 1 W 0 (p + 1) x c a P h) (k3 : ze_EV 4 g l 1 W 0 (a + 1) y d b P h) (k4 : ze_EV 4 g l 1 W 0 (b + 1) z 1 e P h) : (zo_VPs g l W p x y z 0 e P h) := by
  have k1 : (22 : Int) = ze_c g l (p) := k1
  have k2 : ze_V (ze_c g l) (ze_v g l) (ze_w 1 W) 4 0 true (ze_on 0) (p + 1) x (ze_on c) a := k2
  rw [ze_on0] at k2
  have k3 : ze_V (ze_c g l) (ze_v g l) (ze_w 1 W) 4 0 true (ze_on 0) (a + 1) y (ze_on d) b := k3
  rw [ze_on0] at k3
  have k4 : ze_V (ze_c g l) (ze_v g l) (ze_w 1 W) 4 0 true (ze_on 0) (b + 1) z (ze_on 1) e := k4
  rw [ze_on0] at k4
  exact Or.inr (Or.inr (Or.inr ⟨by omega, by omega, by omega, ze_on c, ze_on d, ze_on 1, a, b, k2, k3, k4, by rw [ze_on1, Bool.or_true, Bool.or_true]; rfl⟩))
theorem zo_vp22c_ok {w : zq_Wd} (x_CD : zj_is w 224 (fun q => ze_CD (q 0) (q 1) (q 2) (q 3))) (x_EV : zj_is w 220 (fun q => ze_EV (q 0) (q 1) (q 2) (q 3) (q 4) (q 5) (q 6) (q 7) (q 8) (q 9))) (x_VP : zj_is w 333 (fun q => zo_VPs (q 0) (q 1) (q 2) (q 3) (q 4) (q 5) (q 6) (q 7) (q 8))) : zq_okG1 w zo_vp22c := by
  refine ⟨rfl, rfl, zu_fac ⟨rfl, by decide⟩ zq_fan, ?_⟩
  intro r P h H hM
  have q0 : zq_ev r (0, [(0, 1)]) = r 0 := zu_e1 _ _
  have q1 : zq_ev r (0, [(1, 1)]) = r 1 := zu_e1 _ _
  have q2 : zq_ev r (0, [(3, 1)]) = r 3 := zu_e1 _ _
  have q3 : zq_ev r (22, []) = 22 := zu_e0 _ _
  have q4 : zq_ev r (4, []) = 4 := zu_e0 _ _
  have q5 : zq_ev r (1, []) = 1 := zu_e0 _ _
  have q6 : zq_ev r (0, [(2, 1)]) = r 2 := zu_e1 _ _
  have q7 : zq_ev r (0, []) = 0 := zu_e0 _ _
  have q8 : zq_ev r (1, [(3, 1)]) = r 3 + 1 := zu_e2 _ _ _
  have q9 : zq_ev r (0, [(4, 1)]) = r 4 := zu_e1 _ _
  have q10 : zq_ev r (0, [(10, 1)]) = r 10 := zu_e1 _ _
  have q11 : zq_ev r (0, [(8, 1)]) = r 8 := zu_e1 _ _
  have q12 : zq_ev r (1, [(8, 1)]) = r 8 + 1 := zu_e2 _ _ _
  have q13 : zq_ev r (0, [(6, 1)]) = r 6 := zu_e1 _ _
  have q14 : zq_ev r (0, [(11, 1)]) = r 11 := zu_e1 _ _
  have q15 : zq_ev r (0, [(9, 1)]) = r 9 := zu_e1 _ _
  have q16 : zq_ev r (1, [(9, 1)]) = r 9 + 1 := zu_e2 _ _ _
  have q17 : zq_ev r (0, [(7, 1)]) = r 7 := zu_e1 _ _
  have q18 : zq_ev r (0, [(5, 1)]) = r 5 := zu_e1 _ _
  obtain ⟨hT, hC, hF, hS, -, hK⟩ := hM
  have c := hC.1
  have k1 := zj_use x_CD (hK)
  have k1 : ze_CD (zq_ev r (0, [(0, 1)])) (zq_ev r (0, [(1, 1)])) (zq_ev r (0, [(3, 1)])) (zq_ev r (22, [])) P h := k1
  simp only [q0, q1, q2, q3] at k1
  have k2 := zj_use x_EV (zq_okX_t (hK))
  have k2 : ze_EV (zq_ev r (4, [])) (zq_ev r (0, [(0, 1)])) (zq_ev r (0, [(1, 1)])) (zq_ev r (1, [])) (zq_ev r (0, [(2, 1)])) (zq_ev r (0, [])) (zq_ev r (1, [(3, 1)])) (zq_ev r (0, [(4, 1)])) (zq_ev r (0, [(10, 1)])) (zq_ev r (0, [(8, 1)])) P h := k2
  simp only [q0, q1, q10, q11, q4, q5, q6, q7, q8, q9] at k2
  have k3 := zj_use x_EV (zq_okX_t (zq_okX_t (hK)))
  have k3 : ze_EV (zq_ev r (4, [])) (zq_ev r (0, [(0, 1)])) (zq_ev r (0, [(1, 1)])) (zq_ev r (1, [])) (zq_ev r (0, [(2, 1)])) (zq_ev r (0, [])) (zq_ev r (1, [(8, 1)])) (zq_ev r (0, [(6, 1)])) (zq_ev r (0, [(11, 1)])) (zq_ev r (0, [(9, 1)])) P h := k3
  simp only [q0, q1, q12, q13, q14, q15, q4, q5, q6, q7] at k3
  have k4 := zj_use x_EV (zq_okX_t (zq_okX_t (zq_okX_t (hK))))
  have k4 : ze_EV (zq_ev r (4, [])) (zq_ev r (0, [(0, 1)])) (zq_ev r (0, [(1, 1)])) (zq_ev r (1, [])) (zq_ev r (0, [(2, 1)])) (zq_ev r (0, [])) (zq_ev r (1, [(9, 1)])) (zq_ev r (0, [(7, 1)])) (zq_ev r (1, [])) (zq_ev r (0, [(5, 1)])) P h := k4
  simp only [q0, q1, q16, q17, q18, q4, q5, q6, q7] at k4
  obtain t1 := zo_vp22c_l (P := P) (h := h) (g := r 0) (l := r 1) (W := r 2) (p := r 3) (x := r 4) (e := r 5) (y := r 6) (z := r 7) (a := r 8) (b := r 9) (c := r 10) (d := r 11) k1 k2 k3 k4
  obtain ⟨rq, hr⟩ : ∃ rq : Nat → Int, (∀ i, i < 12 → rq i = r i) := ⟨r, fun i hi => rfl⟩
  have v0 : rq 0 = r 0 := hr 0 (by decide)
  have v1 : rq 1 = r 1 := hr 1 (by decide)
  have v2 : rq 2 = r 2 := hr 2 (by decide)
  have v3 : rq 3 = r 3 := hr 3 (by decide)
  have v4 : rq 4 = r 4 := hr 4 (by decide)
  have v5 : rq 5 = r 5 := hr 5 (by decide)
  have v6 : rq 6 = r 6 := hr 6 (by decide)
  have v7 : rq 7 = r 7 := hr 7 (by decide)
  have g0 : zq_ev rq (0, [(0, 1)]) = r 0 := zu_f1 v0
  have g1 : zq_ev rq (0, [(1, 1)]) = r 1 := zu_f1 v1
  have g2 : zq_ev rq (0, [(2, 1)]) = r 2 := zu_f1 v2
  have g3 : zq_ev rq (0, [(3, 1)]) = r 3 := zu_f1 v3
  have g4 : zq_ev rq (0, [(4, 1)]) = r 4 := zu_f1 v4
  have g5 : zq_ev rq (0, [(6, 1)]) = r 6 := zu_f1 v6
  have g6 : zq_ev rq (0, [(7, 1)]) = r 7 := zu_f1 v7
  have g7 : zq_ev rq (0, []) = 0 := zu_e0 _ _
  have g8 : zq_ev rq (0, [(5, 1)]) = r 5 := zu_f1 v5
  exact ⟨_, List.mem_cons_self .., rq, hr, zq_MeS_mk rfl hT (zq_all_nil) zq_fan (zq_fan) rfl (zu_fac ((x_VP _ _ _).mpr (by show zo_VPs (zq_ev rq (0, [(0, 1)])) (zq_ev rq (0, [(1, 1)])) (zq_ev rq (0, [(2, 1)])) (zq_ev rq (0, [(3, 1)])) (zq_ev rq (0, [(4, 1)])) (zq_ev rq (0, [(6, 1)])) (zq_ev rq (0, [(7, 1)])) (zq_ev rq (0, [])) (zq_ev rq (0, [(5, 1)])) P h; simp only [g0, g1, g2, g3, g4, g5, g6, g7, g8]; exact t1)) zq_fan)⟩
noncomputable def zo_pm1a : zq_S × List zq_S := (([], [], [(28, [(4, -1)])], [], [], [], [(334, [(0, [(0, 1)]), (0, [(1, 1)]), (0, [(2, 1)]), (0, [(3, 1)])]), (224, [(0, [(0, 1)]), (0, [(1, 1)]), (0, [(3, 1)]), (0, [(4, 1)])])], 5), [([], [], [], [], [], [], [(335, [(0, [(0, 1)]), (0, [(1, 1)]), (0, [(2, 1)]), (1, []), (0, [(3, 1)])])], 5)])
theorem zo_pm1a_l {P : zq_Ty} {h : zq_H} {g l p e c : Int} (a1 : 0 ≤ -c + 28) (k1 : zo_PTt g l p e P h) (k2 : ze_CD g l e c P h) : (zo_PM g l p 1 e P h) := by
  have k2 : (c : Int) = ze_c g l (e) := k2
  exact ⟨e, k1, Or.inl ⟨rfl, by omega, rfl⟩⟩
theorem zo_pm1a_ok {w : zq_Wd} (x_PT : zj_is w 334 (fun q => zo_PTt (q 0) (q 1) (q 2) (q 3))) (x_CD : zj_is w 224 (fun q => ze_CD (q 0) (q 1) (q 2) (q 3))) (x_PM : zj_is w 335 (fun q => zo_PM (q 0) (q 1) (q 2) (q 3) (q 4))) : zq_okG1 w zo_pm1a := by
  refine ⟨rfl, rfl, zu_fac ⟨rfl, by decide⟩ zq_fan, ?_⟩
  intro r P h H hM
  have q0 : zq_ev r (28, [(4, -1)]) = -r 4 + 28 := zu_e5 _ _ _
  have q1 : zq_ev r (0, [(0, 1)]) = r 0 := zu_e1 _ _
  have q2 : zq_ev r (0, [(1, 1)]) = r 1 := zu_e1 _ _
  have q3 : zq_ev r (0, [(2, 1)]) = r 2 := zu_e1 _ _
  have q4 : zq_ev r (0, [(3, 1)]) = r 3 := zu_e1 _ _
  have q5 : zq_ev r (0, [(4, 1)]) = r 4 := zu_e1 _ _
  obtain ⟨hT, hC, hF, hS, -, hK⟩ := hM
  have c := hC.1
  have a1 := zq_all_1 c
  rw [q0] at a1
  have k1 := zj_use x_PT (hK)
  have k1 : zo_PTt (zq_ev r (0, [(0, 1)])) (zq_ev r (0, [(1, 1)])) (zq_ev r (0, [(2, 1)])) (zq_ev r (0, [(3, 1)])) P h := k1
  simp only [q1, q2, q3, q4] at k1
  have k2 := zj_use x_CD (zq_okX_t (hK))
  have k2 : ze_CD (zq_ev r (0, [(0, 1)])) (zq_ev r (0, [(1, 1)])) (zq_ev r (0, [(3, 1)])) (zq_ev r (0, [(4, 1)])) P h := k2
  simp only [q1, q2, q4, q5] at k2
  obtain t1 := zo_pm1a_l (P := P) (h := h) (g := r 0) (l := r 1) (p := r 2) (e := r 3) (c := r 4) a1 k1 k2
  obtain ⟨rq, hr⟩ : ∃ rq : Nat → Int, (∀ i, i < 5 → rq i = r i) := ⟨r, fun i hi => rfl⟩
  have v0 : rq 0 = r 0 := hr 0 (by decide)
  have v1 : rq 1 = r 1 := hr 1 (by decide)
  have v2 : rq 2 = r 2 := hr 2 (by decide)
  have v3 : rq 3 = r 3 := hr 3 (by decide)
  have g0 : zq_ev rq (0, [(0, 1)]) = r 0 := zu_f1 v0
  have g1 : zq_ev rq (0, [(1, 1)]) = r 1 := zu_f1 v1
  have g2 : zq_ev rq (0, [(2, 1)]) = r 2 := zu_f1 v2
  have g3 : zq_ev rq (1, []) = 1 := zu_e0 _ _
  have g4 : zq_ev rq (0, [(3, 1)]) = r 3 := zu_f1 v3
  exact ⟨_, List.mem_cons_self .., rq, hr, zq_MeS_mk rfl hT (zq_all_nil) zq_fan (zq_fan) rfl (zu_fac ((x_PM _ _ _).mpr (by show zo_PM (zq_ev rq (0, [(0, 1)])) (zq_ev rq (0, [(1, 1)])) (zq_ev rq (0, [(2, 1)])) (zq_ev rq (1, [])) (zq_ev rq (0, [(3, 1)])) P h; simp only [g0, g1, g2, g3, g4]; exact t1)) zq_fan)⟩
noncomputable def zo_vm1a : zq_S × List zq_S := (([], [], [(28, [(9, -1)])], [], [], [], [(333, [(0, [(0, 1)]), (0, [(1, 1)]), (0, [(2, 1)]), (0, [(3, 1)]), (0, [(4, 1)]), (0, [(5, 1)]), (0, [(6, 1)]), (0, [(7, 1)]), (0, [(8, 1)])]), (224, [(0, [(0, 1)]), (0, [(1, 1)]), (0, [(8, 1)]), (0, [(9, 1)])])], 10), [([], [], [], [], [], [], [(336, [(0, [(0, 1)]), (0, [(1, 1)]), (0, [(2, 1)]), (0, [(3, 1)]), (0, [(4, 1)]), (0, [(5, 1)]), (0, [(6, 1)]), (0, [(7, 1)]), (0, [(8, 1)])])], 10)])
theorem zo_vm1a_l {P : zq_Ty} {h : zq_H} {g l W p x0 x1 x2 su e c : Int} (a1 : 0 ≤ -c + 28) (k1 : zo_VPs g l W p x0 x1 x2 su e P h) (k2 : ze_CD g l e c P h) : (zo_VM g l W p x0 x1 x2 su e P h) := by
  have k2 : (c : Int) = ze_c g l (e) := k2
  exact ⟨e, 1, k1, Or.inl ⟨rfl, by omega, rfl⟩⟩
theorem zo_vm1a_ok {w : zq_Wd} (x_VP : zj_is w 333 (fun q => zo_VPs (q 0) (q 1) (q 2) (q 3) (q 4) (q 5) (q 6) (q 7) (q 8))) (x_CD : zj_is w 224 (fun q => ze_CD (q 0) (q 1) (q 2) (q 3))) (x_VM : zj_is w 336 (fun q => zo_VM (q 0) (q 1) (q 2) (q 3) (q 4) (q 5) (q 6) (q 7) (q 8))) : zq_okG1 w zo_vm1a := by
  refine ⟨rfl, rfl, zu_fac ⟨rfl, by decide⟩ zq_fan, ?_⟩
  intro r P h H hM
  have q0 : zq_ev r (28, [(9, -1)]) = -r 9 + 28 := zu_e5 _ _ _
  have q1 : zq_ev r (0, [(0, 1)]) = r 0 := zu_e1 _ _
  have q2 : zq_ev r (0, [(1, 1)]) = r 1 := zu_e1 _ _
  have q3 : zq_ev r (0, [(2, 1)]) = r 2 := zu_e1 _ _
  have q4 : zq_ev r (0, [(3, 1)]) = r 3 := zu_e1 _ _
  have q5 : zq_ev r (0, [(4, 1)]) = r 4 := zu_e1 _ _
  have q6 : zq_ev r (0, [(5, 1)]) = r 5 := zu_e1 _ _
  have q7 : zq_ev r (0, [(6, 1)]) = r 6 := zu_e1 _ _
  have q8 : zq_ev r (0, [(7, 1)]) = r 7 := zu_e1 _ _
  have q9 : zq_ev r (0, [(8, 1)]) = r 8 := zu_e1 _ _
  have q10 : zq_ev r (0, [(9, 1)]) = r 9 := zu_e1 _ _
  obtain ⟨hT, hC, hF, hS, -, hK⟩ := hM
  have c := hC.1
  have a1 := zq_all_1 c
  rw [q0] at a1
  have k1 := zj_use x_VP (hK)
  have k1 : zo_VPs (zq_ev r (0, [(0, 1)])) (zq_ev r (0, [(1, 1)])) (zq_ev r (0, [(2, 1)])) (zq_ev r (0, [(3, 1)])) (zq_ev r (0, [(4, 1)])) (zq_ev r (0, [(5, 1)])) (zq_ev r (0, [(6, 1)])) (zq_ev r (0, [(7, 1)])) (zq_ev r (0, [(8, 1)])) P h := k1
  simp only [q1, q2, q3, q4, q5, q6, q7, q8, q9] at k1
  have k2 := zj_use x_CD (zq_okX_t (hK))
  have k2 : ze_CD (zq_ev r (0, [(0, 1)])) (zq_ev r (0, [(1, 1)])) (zq_ev r (0, [(8, 1)])) (zq_ev r (0, [(9, 1)])) P h := k2
  simp only [q1, q10, q2, q9] at k2
  obtain t1 := zo_vm1a_l (P := P) (h := h) (g := r 0) (l := r 1) (W := r 2) (p := r 3) (x0 := r 4) (x1 := r 5) (x2 := r 6) (su := r 7) (e := r 8) (c := r 9) a1 k1 k2
  obtain ⟨rq, hr⟩ : ∃ rq : Nat → Int, (∀ i, i < 10 → rq i = r i) := ⟨r, fun i hi => rfl⟩
  have v0 : rq 0 = r 0 := hr 0 (by decide)
  have v1 : rq 1 = r 1 := hr 1 (by decide)
  have v2 : rq 2 = r 2 := hr 2 (by decide)
  have v3 : rq 3 = r 3 := hr 3 (by decide)
  have v4 : rq 4 = r 4 := hr 4 (by decide)
  have v5 : rq 5 = r 5 := hr 5 (by decide)
  have v6 : rq 6 = r 6 := hr 6 (by decide)
  have v7 : rq 7 = r 7 := hr 7 (by decide)
  have v8 : rq 8 = r 8 := hr 8 (by decide)
  have g0 : zq_ev rq (0, [(0, 1)]) = r 0 := zu_f1 v0
  have g1 : zq_ev rq (0, [(1, 1)]) = r 1 := zu_f1 v1
  have g2 : zq_ev rq (0, [(2, 1)]) = r 2 := zu_f1 v2
  have g3 : zq_ev rq (0, [(3, 1)]) = r 3 := zu_f1 v3
  have g4 : zq_ev rq (0, [(4, 1)]) = r 4 := zu_f1 v4
  have g5 : zq_ev rq (0, [(5, 1)]) = r 5 := zu_f1 v5
  have g6 : zq_ev rq (0, [(6, 1)]) = r 6 := zu_f1 v6
  have g7 : zq_ev rq (0, [(7, 1)]) = r 7 := zu_f1 v7
  have g8 : zq_ev rq (0, [(8, 1)]) = r 8 := zu_f1 v8
  exact ⟨_, List.mem_cons_self .., rq, hr, zq_MeS_mk rfl hT (zq_all_nil) zq_fan (zq_fan) rfl (zu_fac ((x_VM _ _ _).mpr (by show zo_VM (zq_ev rq (0, [(0, 1)])) (zq_ev rq (0, [(1, 1)])) (zq_ev rq (0, [(2, 1)])) (zq_ev rq (0, [(3, 1)])) (zq_ev rq (0, [(4, 1)])) (zq_ev rq (0, [(5, 1)])) (zq_ev rq (0, [(6, 1)])) (zq_ev rq (0, [(7, 1)])) (zq_ev rq (0, [(8, 1)])) P h; simp only [g0, g1, g2, g3, g4, g5, g6, g7, g8]; exact t1)) zq_fan)⟩
noncomputable def zo_pm1b : zq_S × List zq_S := (([], [], [(-30, [(4, 1)])], [], [], [], [(334, [(0, [(0, 1)]), (0, [(1, 1)]), (0, [(2, 1)]), (0, [(3, 1)])]), (224, [(0, [(0, 1)]), (0, [(1, 1)]), (0, [(3, 1)]), (0, [(4, 1)])])], 5), [([], [], [], [], [], [], [(335, [(0, [(0, 1)]), (0, [(1, 1)]), (0, [(2, 1)]), (1, []), (0, [(3, 1)])])], 5)])
theorem zo_pm1b_l {P : zq_Ty} {h : zq_H} {g l p e c : Int} (a1 : 0 ≤ c - 30) (k1 : zo_PTt g l p e P h) (k2 : ze_CD g l e c P h) : (zo_PM g l p 1 e P h) := by
  have k2 : (c : Int) = ze_c g l (e) := k2
  exact ⟨e, k1, Or.inl ⟨rfl, by omega, rfl⟩⟩
theorem zo_pm1b_ok {w : zq_Wd} (x_PT : zj_is w 334 (fun q => zo_PTt (q 0) (q 1) (q 2) (q 3))) (x_CD : zj_is w 224 (fun q => ze_CD (q 0) (q 1) (q 2) (q 3))) (x_PM : zj_is w 335 (fun q => zo_PM (q 0) (q 1) (q 2) (q 3) (q 4))) : zq_okG1 w zo_pm1b := by
  refine ⟨rfl, rfl, zu_fac ⟨rfl, by decide⟩ zq_fan, ?_⟩
  intro r P h H hM
  have q0 : zq_ev r (-30, [(4, 1)]) = r 4 - 30 := zu_e3 _ _ _
  have q1 : zq_ev r (0, [(0, 1)]) = r 0 := zu_e1 _ _
  have q2 : zq_ev r (0, [(1, 1)]) = r 1 := zu_e1 _ _
  have q3 : zq_ev r (0, [(2, 1)]) = r 2 := zu_e1 _ _
  have q4 : zq_ev r (0, [(3, 1)]) = r 3 := zu_e1 _ _
  have q5 : zq_ev r (0, [(4, 1)]) = r 4 := zu_e1 _ _
  obtain ⟨hT, hC, hF, hS, -, hK⟩ := hM
  have c := hC.1
  have a1 := zq_all_1 c
  rw [q0] at a1
  have k1 := zj_use x_PT (hK)
  have k1 : zo_PTt (zq_ev r (0, [(0, 1)])) (zq_ev r (0, [(1, 1)])) (zq_ev r (0, [(2, 1)])) (zq_ev r (0, [(3, 1)])) P h := k1
  simp only [q1, q2, q3, q4] at k1
  have k2 := zj_use x_CD (zq_okX_t (hK))
  have k2 : ze_CD (zq_ev r (0, [(0, 1)])) (zq_ev r (0, [(1, 1)])) (zq_ev r (0, [(3, 1)])) (zq_ev r (0, [(4, 1)])) P h := k2
  simp only [q1, q2, q4, q5] at k2
  obtain t1 := zo_pm1b_l (P := P) (h := h) (g := r 0) (l := r 1) (p := r 2) (e := r 3) (c := r 4) a1 k1 k2
  obtain ⟨rq, hr⟩ : ∃ rq : Nat → Int, (∀ i, i < 5 → rq i = r i) := ⟨r, fun i hi => rfl⟩
  have v0 : rq 0 = r 0 := hr 0 (by decide)
  have v1 : rq 1 = r 1 := hr 1 (by decide)
  have v2 : rq 2 = r 2 := hr 2 (by decide)
  have v3 : rq 3 = r 3 := hr 3 (by decide)
  have g0 : zq_ev rq (0, [(0, 1)]) = r 0 := zu_f1 v0
  have g1 : zq_ev rq (0, [(1, 1)]) = r 1 := zu_f1 v1
  have g2 : zq_ev rq (0, [(2, 1)]) = r 2 := zu_f1 v2
  have g3 : zq_ev rq (1, []) = 1 := zu_e0 _ _
  have g4 : zq_ev rq (0, [(3, 1)]) = r 3 := zu_f1 v3
  exact ⟨_, List.mem_cons_self .., rq, hr, zq_MeS_mk rfl hT (zq_all_nil) zq_fan (zq_fan) rfl (zu_fac ((x_PM _ _ _).mpr (by show zo_PM (zq_ev rq (0, [(0, 1)])) (zq_ev rq (0, [(1, 1)])) (zq_ev rq (0, [(2, 1)])) (zq_ev rq (1, [])) (zq_ev rq (0, [(3, 1)])) P h; simp only [g0, g1, g2, g3, g4]; exact t1)) zq_fan)⟩
noncomputable def zo_vm1b : zq_S × List zq_S := (([], [], [(-30, [(9, 1)])], [], [], [], [(333, [(0, [(0, 1)]), (0, [(1, 1)]), (0, [(2, 1)]), (0, [(3, 1)]), (0, [(4, 1)]), (0, [(5, 1)]), (0, [(6, 1)]), (0, [(7, 1)]), (0, [(8, 1)])]), (224, [(0, [(0, 1)]), (0, [(1, 1)]), (0, [(8, 1)]), (0, [(9, 1)])])], 10), [([], [], [], [], [], [], [(336, [(0, [(0, 1)]), (0, [(1, 1)]), (0, [(2, 1)]), (0, [(3, 1)]), (0, [(4, 1)]), (0, [(5, 1)]), (0, [(6, 1)]), (0, [(7, 1)]), (0, [(8, 1)])])], 10)])
theorem zo_vm1b_l {P : zq_Ty} {h : zq_H} {g l W p x0 x1 x2 su e c : Int} (a1 : 0 ≤ c - 30) (k1 : zo_VPs g l W p x0 x1 x2 su e P h) (k2 : ze_CD g l e c P h) : (zo_VM g l W p x0 x1 x2 su e P h) := by
  have k2 : (c : Int) = ze_c g l (e) := k2
  exact ⟨e, 1, k1, Or.inl ⟨rfl, by omega, rfl⟩⟩
theorem zo_vm1b_ok {w : zq_Wd} (x_VP : zj_is w 333 (fun q => zo_VPs (q 0) (q 1) (q 2) (q 3) (q 4) (q 5) (q 6) (q 7) (q 8))) (x_CD : zj_is w 224 (fun q => ze_CD (q 0) (q 1) (q 2) (q 3))) (x_VM : zj_is w 336 (fun q => zo_VM (q 0) (q 1) (q 2) (q 3) (q 4) (q 5) (q 6) (q 7) (q 8))) : zq_okG1 w zo_vm1b := by
  refine ⟨rfl, rfl, zu_fac ⟨rfl, by decide⟩ zq_fan, ?_⟩
  intro r P h H hM
  have q0 : zq_ev r (-30, [(9, 1)]) = r 9 - 30 := zu_e3 _ _ _
  have q1 : zq_ev r (0, [(0, 1)]) = r 0 := zu_e1 _ _
  have q2 : zq_ev r (0, [(1, 1)]) = r 1 := zu_e1 _ _
  have q3 : zq_ev r (0, [(2, 1)]) = r 2 := zu_e1 _ _
  have q4 : zq_ev r (0, [(3, 1)]) = r 3 := zu_e1 _ _
  have q5 : zq_ev r (0, [(4, 1)]) = r 4 := zu_e1 _ _
  have q6 : zq_ev r (0, [(5, 1)]) = r 5 := zu_e1 _ _
  have q7 : zq_ev r (0, [(6, 1)]) = r 6 := zu_e1 _ _
  have q8 : zq_ev r (0, [(7, 1)]) = r 7 := zu_e1 _ _
  have q9 : zq_ev r (0, [(8, 1)]) = r 8 := zu_e1 _ _
  have q10 : zq_ev r (0, [(9, 1)]) = r 9 := zu_e1 _ _
  obtain ⟨hT, hC, hF, hS, -, hK⟩ := hM
  have c := hC.1
  have a1 := zq_all_1 c
  rw [q0] at a1
  have k1 := zj_use x_VP (hK)
  have k1 : zo_VPs (zq_ev r (0, [(0, 1)])) (zq_ev r (0, [(1, 1)])) (zq_ev r (0, [(2, 1)])) (zq_ev r (0, [(3, 1)])) (zq_ev r (0, [(4, 1)])) (zq_ev r (0, [(5, 1)])) (zq_ev r (0, [(6, 1)])) (zq_ev r (0, [(7, 1)])) (zq_ev r (0, [(8, 1)])) P h := k1
  simp only [q1, q2, q3, q4, q5, q6, q7, q8, q9] at k1
  have k2 := zj_use x_CD (zq_okX_t (hK))
  have k2 : ze_CD (zq_ev r (0, [(0, 1)])) (zq_ev r (0, [(1, 1)])) (zq_ev r (0, [(8, 1)])) (zq_ev r (0, [(9, 1)])) P h := k2
  simp only [q1, q10, q2, q9] at k2
  obtain t1 := zo_vm1b_l (P := P) (h := h) (g := r 0) (l := r 1) (W := r 2) (p := r 3) (x0 := r 4) (x1 := r 5) (x2 := r 6) (su := r 7) (e := r 8) (c := r 9) a1 k1 k2
  obtain ⟨rq, hr⟩ : ∃ rq : Nat → Int, (∀ i, i < 10 → rq i = r i) := ⟨r, fun i hi => rfl⟩
  have v0 : rq 0 = r 0 := hr 0 (by decide)
  have v1 : rq 1 = r 1 := hr 1 (by decide)
  have v2 : rq 2 = r 2 := hr 2 (by decide)
  have v3 : rq 3 = r 3 := hr 3 (by decide)
  have v4 : rq 4 = r 4 := hr 4 (by decide)
  have v5 : rq 5 = r 5 := hr 5 (by decide)
  have v6 : rq 6 = r 6 := hr 6 (by decide)
  have v7 : rq 7 = r 7 := hr 7 (by decide)
  have v8 : rq 8 = r 8 := hr 8 (by decide)
  have g0 : zq_ev rq (0, [(0, 1)]) = r 0 := zu_f1 v0
  have g1 : zq_ev rq (0, [(1, 1)]) = r 1 := zu_f1 v1
  have g2 : zq_ev rq (0, [(2, 1)]) = r 2 := zu_f1 v2
  have g3 : zq_ev rq (0, [(3, 1)]) = r 3 := zu_f1 v3
  have g4 : zq_ev rq (0, [(4, 1)]) = r 4 := zu_f1 v4
  have g5 : zq_ev rq (0, [(5, 1)]) = r 5 := zu_f1 v5
  have g6 : zq_ev rq (0, [(6, 1)]) = r 6 := zu_f1 v6
  have g7 : zq_ev rq (0, [(7, 1)]) = r 7 := zu_f1 v7
  have g8 : zq_ev rq (0, [(8, 1)]) = r 8 := zu_f1 v8
  exact ⟨_, List.mem_cons_self .., rq, hr, zq_MeS_mk rfl hT (zq_all_nil) zq_fan (zq_fan) rfl (zu_fac ((x_VM _ _ _).mpr (by show zo_VM (zq_ev rq (0, [(0, 1)])) (zq_ev rq (0, [(1, 1)])) (zq_ev rq (0, [(2, 1)])) (zq_ev rq (0, [(3, 1)])) (zq_ev rq (0, [(4, 1)])) (zq_ev rq (0, [(5, 1)])) (zq_ev rq (0, [(6, 1)])) (zq_ev rq (0, [(7, 1)])) (zq_ev rq (0, [(8, 1)])) P h; simp only [g0, g1, g2, g3, g4, g5, g6, g7, g8]; exact t1)) zq_fan)⟩
noncomputable def zo_pm2 : zq_S × List zq_S := (([], [], [], [], [], [], [(334, [(0, [(0, 1)]), (0, [(1, 1)]), (0, [(2, 1)]), (0, [(3, 1)])]), (224, [(0, [(0, 1)]), (0, [(1, 1)]), (0, [(3, 1)]), (29, [])]), (225, [(0, [(0, 1)]), (0, [(1, 1)]), (1, [(3, 1)]), (0, [(4, 1)])])], 5), [([], [], [], [], [], [], [(335, [(0, [(0, 1)]), (0, [(1, 1)]), (0, [(2, 1)]), (0, [(4, 1)]), (2, [(3, 1)])])], 5)])
theorem zo_pm2_l {P : zq_Ty} {h : zq_H} {g l p e s : Int} (k1 : zo_PTt g l p e P h) (k2 : ze_CD g l e 29 P h) (k3 : ze_VL g l (e + 1) s P h) : (zo_PM g l p s (e + 2) P h) := by
  have k2 : (29 : Int) = ze_c g l (e) := k2
  exact ⟨e, k1, Or.inr ⟨k2.symm, k3, rfl⟩⟩
theorem zo_pm2_ok {w : zq_Wd} (x_PT : zj_is w 334 (fun q => zo_PTt (q 0) (q 1) (q 2) (q 3))) (x_CD : zj_is w 224 (fun q => ze_CD (q 0) (q 1) (q 2) (q 3))) (x_VL : zj_is w 225 (fun q => ze_VL (q 0) (q 1) (q 2) (q 3))) (x_PM : zj_is w 335 (fun q => zo_PM (q 0) (q 1) (q 2) (q 3) (q 4))) : zq_okG1 w zo_pm2 := by
  refine ⟨rfl, rfl, zu_fac ⟨rfl, by decide⟩ zq_fan, ?_⟩
  intro r P h H hM
  have q0 : zq_ev r (0, [(0, 1)]) = r 0 := zu_e1 _ _
  have q1 : zq_ev r (0, [(1, 1)]) = r 1 := zu_e1 _ _
  have q2 : zq_ev r (0, [(2, 1)]) = r 2 := zu_e1 _ _
  have q3 : zq_ev r (0, [(3, 1)]) = r 3 := zu_e1 _ _
  have q4 : zq_ev r (29, []) = 29 := zu_e0 _ _
  have q5 : zq_ev r (1, [(3, 1)]) = r 3 + 1 := zu_e2 _ _ _
  have q6 : zq_ev r (0, [(4, 1)]) = r 4 := zu_e1 _ _
  obtain ⟨hT, hC, hF, hS, -, hK⟩ := hM
  have c := hC.1
  have k1 := zj_use x_PT (hK)
  have k1 : zo_PTt (zq_ev r (0, [(0, 1)])) (zq_ev r (0, [(1, 1)])) (zq_ev r (0, [(2, 1)])) (zq_ev r (0, [(3, 1)])) P h := k1
  simp only [q0, q1, q2, q3] at k1
  have k2 := zj_use x_CD (zq_okX_t (hK))
  have k2 : ze_CD (zq_ev r (0, [(0, 1)])) (zq_ev r (0, [(1, 1)])) (zq_ev r (0, [(3, 1)])) (zq_ev r (29, [])) P h := k2
  simp only [q0, q1, q3, q4] at k2
  have k3 := zj_use x_VL (zq_okX_t (zq_okX_t (hK)))
  have k3 : ze_VL (zq_ev r (0, [(0, 1)])) (zq_ev r (0, [(1, 1)])) (zq_ev r (1, [(3, 1)])) (zq_ev r (0, [(4, 1)])) P h := k3
  simp only [q0, q1, q5, q6] at k3
  obtain t1 := zo_pm2_l (P := P) (h := h) (g := r 0) (l := r 1) (p := r 2) (e := r 3) (s := r 4) k1 k2 k3
  obtain ⟨rq, hr⟩ : ∃ rq : Nat → Int, (∀ i, i < 5 → rq i = r i) := ⟨r, fun i hi => rfl⟩
  have v0 : rq 0 = r 0 := hr 0 (by decide)
  have v1 : rq 1 = r 1 := hr 1 (by decide)
  have v2 : rq 2 = r 2 := hr 2 (by decide)
  have v3 : rq 3 = r 3 := hr 3 (by decide)
  have v4 : rq 4 = r 4 := hr 4 (by decide)
  have g0 : zq_ev rq (0, [(0, 1)]) = r 0 := zu_f1 v0
  have g1 : zq_ev rq (0, [(1, 1)]) = r 1 := zu_f1 v1
  have g2 : zq_ev rq (0, [(2, 1)]) = r 2 := zu_f1 v2
  have g3 : zq_ev rq (0, [(4, 1)]) = r 4 := zu_f1 v4
  have g4 : zq_ev rq (2, [(3, 1)]) = r 3 + 2 := zu_f2 v3 _
  exact ⟨_, List.mem_cons_self .., rq, hr, zq_MeS_mk rfl hT (zq_all_nil) zq_fan (zq_fan) rfl (zu_fac ((x_PM _ _ _).mpr (by show zo_PM (zq_ev rq (0, [(0, 1)])) (zq_ev rq (0, [(1, 1)])) (zq_ev rq (0, [(2, 1)])) (zq_ev rq (0, [(4, 1)])) (zq_ev rq (2, [(3, 1)])) P h; simp only [g0, g1, g2, g3, g4]; exact t1)) zq_fan)⟩
noncomputable def zo_vm2 : zq_S × List zq_S := (([], [], [], [], [], [], [(333, [(0, [(0, 1)]), (0, [(1, 1)]), (0, [(2, 1)]), (0, [(3, 1)]), (0, [(4, 1)]), (0, [(5, 1)]), (0, [(6, 1)]), (0, [(7, 1)]), (0, [(8, 1)])]), (224, [(0, [(0, 1)]), (0, [(1, 1)]), (0, [(8, 1)]), (29, [])]), (225, [(0, [(0, 1)]), (0, [(1, 1)]), (1, [(8, 1)]), (0, [(9, 1)])])], 10), [([], [], [], [], [], [], [(336, [(0, [(0, 1)]), (0, [(1, 1)]), (0, [(2, 1)]), (0, [(3, 1)]), (0, [(4, 1)]), (0, [(5, 1)]), (0, [(6, 1)]), (0, [(7, 1)]), (2, [(8, 1)])])], 10)])
theorem zo_vm2_l {P : zq_Ty} {h : zq_H} {g l W p x0 x1 x2 su e s : Int} (k1 : zo_VPs g l W p x0 x1 x2 su e P h) (k2 : ze_CD g l e 29 P h) (k3 : ze_VL g l (e + 1) s P h) : (zo_VM g l W p x0 x1 x2 su (e + 2) P h) := by
  have k2 : (29 : Int) = ze_c g l (e) := k2
  exact ⟨e, s, k1, Or.inr ⟨k2.symm, k3, rfl⟩⟩
theorem zo_vm2_ok {w : zq_Wd} (x_VP : zj_is w 333 (fun q => zo_VPs (q 0) (q 1) (q 2) (q 3) (q 4) (q 5) (q 6) (q 7) (q 8))) (x_CD : zj_is w 224 (fun q => ze_CD (q 0) (q 1) (q 2) (q 3))) (x_VL : zj_is w 225 (fun q => ze_VL (q 0) (q 1) (q 2) (q 3))) (x_VM : zj_is w 336 (fun q => zo_VM (q 0) (q 1) (q 2) (q 3) (q 4) (q 5) (q 6) (q 7) (q 8))) : zq_okG1 w zo_vm2 := by
  refine ⟨rfl, rfl, zu_fac ⟨rfl, by decide⟩ zq_fan, ?_⟩
  intro r P h H hM
  have q0 : zq_ev r (0, [(0, 1)]) = r 0 := zu_e1 _ _
  have q1 : zq_ev r (0, [(1, 1)]) = r 1 := zu_e1 _ _
  have q2 : zq_ev r (0, [(2, 1)]) = r 2 := zu_e1 _ _
  have q3 : zq_ev r (0, [(3, 1)]) = r 3 := zu_e1 _ _
  have q4 : zq_ev r (0, [(4, 1)]) = r 4 := zu_e1 _ _
  have q5 : zq_ev r (0, [(5, 1)]) = r 5 := zu_e1 _ _
  have q6 : zq_ev r (0, [(6, 1)]) = r 6 := zu_e1 _ _
  have q7 : zq_ev r (0, [(7, 1)]) = r 7 := zu_e1 _ _
  have q8 : zq_ev r (0, [(8, 1)]) = r 8 := zu_e1 _ _
  have q9 : zq_ev r (29, []) = 29 := zu_e0 _ _
  have q10 : zq_ev r (1, [(8, 1)]) = r 8 + 1 := zu_e2 _ _ _
  have q11 : zq_ev r (0, [(9, 1)]) = r 9 := zu_e1 _ _
  obtain ⟨hT, hC, hF, hS, -, hK⟩ := hM
  have c := hC.1
  have k1 := zj_use x_VP (hK)
  have k1 : zo_VPs (zq_ev r (0, [(0, 1)])) (zq_ev r (0, [(1, 1)])) (zq_ev r (0, [(2, 1)])) (zq_ev r (0, [(3, 1)])) (zq_ev r (0, [(4, 1)])) (zq_ev r (0, [(5, 1)])) (zq_ev r (0, [(6, 1)])) (zq_ev r (0, [(7, 1)])) (zq_ev r (0, [(8, 1)])) P h := k1
  simp only [q0, q1, q2, q3, q4, q5, q6, q7, q8] at k1
  have k2 := zj_use x_CD (zq_okX_t (hK))
  have k2 : ze_CD (zq_ev r (0, [(0, 1)])) (zq_ev r (0, [(1, 1)])) (zq_ev r (0, [(8, 1)])) (zq_ev r (29, [])) P h := k2
  simp only [q0, q1, q8, q9] at k2
  have k3 := zj_use x_VL (zq_okX_t (zq_okX_t (hK)))
  have k3 : ze_VL (zq_ev r (0, [(0, 1)])) (zq_ev r (0, [(1, 1)])) (zq_ev r (1, [(8, 1)])) (zq_ev r (0, [(9, 1)])) P h := k3
  simp only [q0, q1, q10, q11] at k3
  obtain t1 := zo_vm2_l (P := P) (h := h) (g := r 0) (l := r 1) (W := r 2) (p := r 3) (x0 := r 4) (x1 := r 5) (x2 := r 6) (su := r 7) (e := r 8) (s := r 9) k1 k2 k3
  obtain ⟨rq, hr⟩ : ∃ rq : Nat → Int, (∀ i, i < 10 → rq i = r i) := ⟨r, fun i hi => rfl⟩
  have v0 : rq 0 = r 0 := hr 0 (by decide)
  have v1 : rq 1 = r 1 := hr 1 (by decide)
  have v2 : rq 2 = r 2 := hr 2 (by decide)
  have v3 : rq 3 = r 3 := hr 3 (by decide)
  have v4 : rq 4 = r 4 := hr 4 (by decide)
  have v5 : rq 5 = r 5 := hr 5 (by decide)
  have v6 : rq 6 = r 6 := hr 6 (by decide)
  have v7 : rq 7 = r 7 := hr 7 (by decide)
  have v8 : rq 8 = r 8 := hr 8 (by decide)
  have g0 : zq_ev rq (0, [(0, 1)]) = r 0 := zu_f1 v0
  have g1 : zq_ev rq (0, [(1, 1)]) = r 1 := zu_f1 v1
  have g2 : zq_ev rq (0, [(2, 1)]) = r 2 := zu_f1 v2
  have g3 : zq_ev rq (0, [(3, 1)]) = r 3 := zu_f1 v3
  have g4 : zq_ev rq (0, [(4, 1)]) = r 4 := zu_f1 v4
  have g5 : zq_ev rq (0, [(5, 1)]) = r 5 := zu_f1 v5
  have g6 : zq_ev rq (0, [(6, 1)]) = r 6 := zu_f1 v6
  have g7 : zq_ev rq (0, [(7, 1)]) = r 7 := zu_f1 v7
  have g8 : zq_ev rq (2, [(8, 1)]) = r 8 + 2 := zu_f2 v8 _
  exact ⟨_, List.mem_cons_self .., rq, hr, zq_MeS_mk rfl hT (zq_all_nil) zq_fan (zq_fan) rfl (zu_fac ((x_VM _ _ _).mpr (by show zo_VM (zq_ev rq (0, [(0, 1)])) (zq_ev rq (0, [(1, 1)])) (zq_ev rq (0, [(2, 1)])) (zq_ev rq (0, [(3, 1)])) (zq_ev rq (0, [(4, 1)])) (zq_ev rq (0, [(5, 1)])) (zq_ev rq (0, [(6, 1)])) (zq_ev rq (0, [(7, 1)])) (zq_ev rq (2, [(8, 1)])) P h; simp only [g0, g1, g2, g3, g4, g5, g6, g7, g8]; exact t1)) zq_fan)⟩
noncomputable def zo_ga0a : zq_S × List zq_S := (([], [], [(3, [(5, -1)])], [], [], [], [(335, [(0, [(0, 1)]), (0, [(1, 1)]), (0, [(2, 1)]), (0, [(3, 1)]), (0, [(4, 1)])]), (224, [(0, [(0, 1)]), (0, [(1, 1)]), (0, [(4, 1)]), (0, [(5, 1)])])], 6), [([], [], [], [], [], [], [(325, [(0, [(0, 1)]), (0, [(1, 1)]), (0, [(2, 1)]), (0, [(3, 1)]), (1, [(4, 1)])])], 6)])
theorem zo_ga0a_l {P : zq_Ty} {h : zq_H} {g l p s f c : Int} (a1 : 0 ≤ -c + 3) (k1 : zo_PM g l p s f P h) (k2 : ze_CD g l f c P h) : (zo_CLt g l p s (f + 1) P h) := by
  have k2 : (c : Int) = ze_c g l (f) := k2
  obtain ⟨e, z1, z2⟩ := k1
  exact ⟨e, f, z1, z2, Or.inl ⟨by omega, rfl⟩⟩
theorem zo_ga0a_ok {w : zq_Wd} (x_PM : zj_is w 335 (fun q => zo_PM (q 0) (q 1) (q 2) (q 3) (q 4))) (x_CD : zj_is w 224 (fun q => ze_CD (q 0) (q 1) (q 2) (q 3))) (x_CL : zj_is w 325 (fun q => zo_CLt (q 0) (q 1) (q 2) (q 3) (q 4))) : zq_okG1 w zo_ga0a := by
  refine ⟨rfl, rfl, zu_fac ⟨rfl, by decide⟩ zq_fan, ?_⟩
  intro r P h H hM
  have q0 : zq_ev r (3, [(5, -1)]) = -r 5 + 3 := zu_e5 _ _ _
  have q1 : zq_ev r (0, [(0, 1)]) = r 0 := zu_e1 _ _
  have q2 : zq_ev r (0, [(1, 1)]) = r 1 := zu_e1 _ _
  have q3 : zq_ev r (0, [(2, 1)]) = r 2 := zu_e1 _ _
  have q4 : zq_ev r (0, [(3, 1)]) = r 3 := zu_e1 _ _
  have q5 : zq_ev r (0, [(4, 1)]) = r 4 := zu_e1 _ _
  have q6 : zq_ev r (0, [(5, 1)]) = r 5 := zu_e1 _ _
  obtain ⟨hT, hC, hF, hS, -, hK⟩ := hM
  have c := hC.1
  have a1 := zq_all_1 c
  rw [q0] at a1
  have k1 := zj_use x_PM (hK)
  have k1 : zo_PM (zq_ev r (0, [(0, 1)])) (zq_ev r (0, [(1, 1)])) (zq_ev r (0, [(2, 1)])) (zq_ev r (0, [(3, 1)])) (zq_ev r (0, [(4, 1)])) P h := k1
  simp only [q1, q2, q3, q4, q5] at k1
  have k2 := zj_use x_CD (zq_okX_t (hK))
  have k2 : ze_CD (zq_ev r (0, [(0, 1)])) (zq_ev r (0, [(1, 1)])) (zq_ev r (0, [(4, 1)])) (zq_ev r (0, [(5, 1)])) P h := k2
  simp only [q1, q2, q5, q6] at k2
  obtain t1 := zo_ga0a_l (P := P) (h := h) (g := r 0) (l := r 1) (p := r 2) (s := r 3) (f := r 4) (c := r 5) a1 k1 k2
  obtain ⟨rq, hr⟩ : ∃ rq : Nat → Int, (∀ i, i < 6 → rq i = r i) := ⟨r, fun i hi => rfl⟩
  have v0 : rq 0 = r 0 := hr 0 (by decide)
  have v1 : rq 1 = r 1 := hr 1 (by decide)
  have v2 : rq 2 = r 2 := hr 2 (by decide)
  have v3 : rq 3 = r 3 := hr 3 (by decide)
  have v4 : rq 4 = r 4 := hr 4 (by decide)
  have g0 : zq_ev rq (0, [(0, 1)]) = r 0 := zu_f1 v0
  have g1 : zq_ev rq (0, [(1, 1)]) = r 1 := zu_f1 v1
  have g2 : zq_ev rq (0, [(2, 1)]) = r 2 := zu_f1 v2
  have g3 : zq_ev rq (0, [(3, 1)]) = r 3 := zu_f1 v3
  have g4 : zq_ev rq (1, [(4, 1)]) = r 4 + 1 := zu_f2 v4 _
  exact ⟨_, List.mem_cons_self .., rq, hr, zq_MeS_mk rfl hT (zq_all_nil) zq_fan (zq_fan) rfl (zu_fac ((x_CL _ _ _).mpr (by show zo_CLt (zq_ev rq (0, [(0, 1)])) (zq_ev rq (0, [(1, 1)])) (zq_ev rq (0, [(2, 1)])) (zq_ev rq (0, [(3, 1)])) (zq_ev rq (1, [(4, 1)])) P h; simp only [g0, g1, g2, g3, g4]; exact t1)) zq_fan)⟩
noncomputable def zo_gb0a : zq_S × List zq_S := (([], [], [(3, [(9, -1)])], [], [], [], [(336, [(0, [(0, 1)]), (0, [(1, 1)]), (0, [(2, 1)]), (0, [(3, 1)]), (0, [(4, 1)]), (0, [(5, 1)]), (0, [(6, 1)]), (0, [(7, 1)]), (0, [(8, 1)])]), (224, [(0, [(0, 1)]), (0, [(1, 1)]), (0, [(8, 1)]), (0, [(9, 1)])])], 10), [([], [], [], [], [], [], [(337, [(0, [(0, 1)]), (0, [(1, 1)]), (0, [(2, 1)]), (0, [(3, 1)]), (0, [(4, 1)]), (0, [(5, 1)]), (0, [(6, 1)]), (0, [(7, 1)]), (1, [])])], 10)])
theorem zo_gb0a_l {P : zq_Ty} {h : zq_H} {g l W p x0 x1 x2 su f c : Int} (a1 : 0 ≤ -c + 3) (k1 : zo_VM g l W p x0 x1 x2 su f P h) (k2 : ze_CD g l f c P h) : (zo_EVs g l W p x0 x1 x2 su 1 P h) := by
  have k2 : (c : Int) = ze_c g l (f) := k2
  obtain ⟨e, s, z1, z2⟩ := k1
  exact ⟨e, s, f, f + 1, z1, z2, Or.inl ⟨rfl, Or.inl ⟨by omega, rfl⟩⟩⟩
theorem zo_gb0a_ok {w : zq_Wd} (x_VM : zj_is w 336 (fun q => zo_VM (q 0) (q 1) (q 2) (q 3) (q 4) (q 5) (q 6) (q 7) (q 8))) (x_CD : zj_is w 224 (fun q => ze_CD (q 0) (q 1) (q 2) (q 3))) (x_EVs : zj_is w 337 (fun q => zo_EVs (q 0) (q 1) (q 2) (q 3) (q 4) (q 5) (q 6) (q 7) (q 8))) : zq_okG1 w zo_gb0a := by
  refine ⟨rfl, rfl, zu_fac ⟨rfl, by decide⟩ zq_fan, ?_⟩
  intro r P h H hM
  have q0 : zq_ev r (3, [(9, -1)]) = -r 9 + 3 := zu_e5 _ _ _
  have q1 : zq_ev r (0, [(0, 1)]) = r 0 := zu_e1 _ _
  have q2 : zq_ev r (0, [(1, 1)]) = r 1 := zu_e1 _ _
  have q3 : zq_ev r (0, [(2, 1)]) = r 2 := zu_e1 _ _
  have q4 : zq_ev r (0, [(3, 1)]) = r 3 := zu_e1 _ _
  have q5 : zq_ev r (0, [(4, 1)]) = r 4 := zu_e1 _ _
  have q6 : zq_ev r (0, [(5, 1)]) = r 5 := zu_e1 _ _
  have q7 : zq_ev r (0, [(6, 1)]) = r 6 := zu_e1 _ _
  have q8 : zq_ev r (0, [(7, 1)]) = r 7 := zu_e1 _ _
  have q9 : zq_ev r (0, [(8, 1)]) = r 8 := zu_e1 _ _
  have q10 : zq_ev r (0, [(9, 1)]) = r 9 := zu_e1 _ _
  obtain ⟨hT, hC, hF, hS, -, hK⟩ := hM
  have c := hC.1
  have a1 := zq_all_1 c
  rw [q0] at a1
  have k1 := zj_use x_VM (hK)
  have k1 : zo_VM (zq_ev r (0, [(0, 1)])) (zq_ev r (0, [(1, 1)])) (zq_ev r (0, [(2, 1)])) (zq_ev r (0, [(3, 1)])) (zq_ev r (0, [(4, 1)])) (zq_ev r (0, [(5, 1)])) (zq_ev r (0, [(6, 1)])) (zq_ev r (0, [(7, 1)])) (zq_ev r (0, [(8, 1)])) P h := k1
  simp only [q1, q2, q3, q4, q5, q6, q7, q8, q9] at k1
  have k2 := zj_use x_CD (zq_okX_t (hK))
  have k2 : ze_CD (zq_ev r (0, [(0, 1)])) (zq_ev r (0, [(1, 1)])) (zq_ev r (0, [(8, 1)])) (zq_ev r (0, [(9, 1)])) P h := k2
  simp only [q1, q10, q2, q9] at k2
  obtain t1 := zo_gb0a_l (P := P) (h := h) (g := r 0) (l := r 1) (W := r 2) (p := r 3) (x0 := r 4) (x1 := r 5) (x2 := r 6) (su := r 7) (f := r 8) (c := r 9) a1 k1 k2
  obtain ⟨rq, hr⟩ : ∃ rq : Nat → Int, (∀ i, i < 10 → rq i = r i) := ⟨r, fun i hi => rfl⟩
  have v0 : rq 0 = r 0 := hr 0 (by decide)
  have v1 : rq 1 = r 1 := hr 1 (by decide)
  have v2 : rq 2 = r 2 := hr 2 (by decide)
  have v3 : rq 3 = r 3 := hr 3 (by decide)
  have v4 : rq 4 = r 4 := hr 4 (by decide)
  have v5 : rq 5 = r 5 := hr 5 (by decide)
  have v6 : rq 6 = r 6 := hr 6 (by decide)
  have v7 : rq 7 = r 7 := hr 7 (by decide)
  have g0 : zq_ev rq (0, [(0, 1)]) = r 0 := zu_f1 v0
  have g1 : zq_ev rq (0, [(1, 1)]) = r 1 := zu_f1 v1
  have g2 : zq_ev rq (0, [(2, 1)]) = r 2 := zu_f1 v2
  have g3 : zq_ev rq (0, [(3, 1)]) = r 3 := zu_f1 v3
  have g4 : zq_ev rq (0, [(4, 1)]) = r 4 := zu_f1 v4
  have g5 : zq_ev rq (0, [(5, 1)]) = r 5 := zu_f1 v5
  have g6 : zq_ev rq (0, [(6, 1)]) = r 6 := zu_f1 v6
  have g7 : zq_ev rq (0, [(7, 1)]) = r 7 := zu_f1 v7
  have g8 : zq_ev rq (1, []) = 1 := zu_e0 _ _
  exact ⟨_, List.mem_cons_self .., rq, hr, zq_MeS_mk rfl hT (zq_all_nil) zq_fan (zq_fan) rfl (zu_fac ((x_EVs _ _ _).mpr (by show zo_EVs (zq_ev rq (0, [(0, 1)])) (zq_ev rq (0, [(1, 1)])) (zq_ev rq (0, [(2, 1)])) (zq_ev rq (0, [(3, 1)])) (zq_ev rq (0, [(4, 1)])) (zq_ev rq (0, [(5, 1)])) (zq_ev rq (0, [(6, 1)])) (zq_ev rq (0, [(7, 1)])) (zq_ev rq (1, [])) P h; simp only [g0, g1, g2, g3, g4, g5, g6, g7, g8]; exact t1)) zq_fan)⟩
noncomputable def zo_ga0b : zq_S × List zq_S := (([], [], [(-5, [(5, 1)])], [], [], [], [(335, [(0, [(0, 1)]), (0, [(1, 1)]), (0, [(2, 1)]), (0, [(3, 1)]), (0, [(4, 1)])]), (224, [(0, [(0, 1)]), (0, [(1, 1)]), (0, [(4, 1)]), (0, [(5, 1)])])], 6), [([], [], [], [], [], [], [(325, [(0, [(0, 1)]), (0, [(1, 1)]), (0, [(2, 1)]), (0, [(3, 1)]), (1, [(4, 1)])])], 6)])
theorem zo_ga0b_l {P : zq_Ty} {h : zq_H} {g l p s f c : Int} (a1 : 0 ≤ c - 5) (k1 : zo_PM g l p s f P h) (k2 : ze_CD g l f c P h) : (zo_CLt g l p s (f + 1) P h) := by
  have k2 : (c : Int) = ze_c g l (f) := k2
  obtain ⟨e, z1, z2⟩ := k1
  exact ⟨e, f, z1, z2, Or.inl ⟨by omega, rfl⟩⟩
theorem zo_ga0b_ok {w : zq_Wd} (x_PM : zj_is w 335 (fun q => zo_PM (q 0) (q 1) (q 2) (q 3) (q 4))) (x_CD : zj_is w 224 (fun q => ze_CD (q 0) (q 1) (q 2) (q 3))) (x_CL : zj_is w 325 (fun q => zo_CLt (q 0) (q 1) (q 2) (q 3) (q 4))) : zq_okG1 w zo_ga0b := by
  refine ⟨rfl, rfl, zu_fac ⟨rfl, by decide⟩ zq_fan, ?_⟩
  intro r P h H hM
  have q0 : zq_ev r (-5, [(5, 1)]) = r 5 - 5 := zu_e3 _ _ _
  have q1 : zq_ev r (0, [(0, 1)]) = r 0 := zu_e1 _ _
  have q2 : zq_ev r (0, [(1, 1)]) = r 1 := zu_e1 _ _
  have q3 : zq_ev r (0, [(2, 1)]) = r 2 := zu_e1 _ _
  have q4 : zq_ev r (0, [(3, 1)]) = r 3 := zu_e1 _ _
  have q5 : zq_ev r (0, [(4, 1)]) = r 4 := zu_e1 _ _
  have q6 : zq_ev r (0, [(5, 1)]) = r 5 := zu_e1 _ _
  obtain ⟨hT, hC, hF, hS, -, hK⟩ := hM
  have c := hC.1
  have a1 := zq_all_1 c
  rw [q0] at a1
  have k1 := zj_use x_PM (hK)
  have k1 : zo_PM (zq_ev r (0, [(0, 1)])) (zq_ev r (0, [(1, 1)])) (zq_ev r (0, [(2, 1)])) (zq_ev r (0, [(3, 1)])) (zq_ev r (0, [(4, 1)])) P h := k1
  simp only [q1, q2, q3, q4, q5] at k1
  have k2 := zj_use x_CD (zq_okX_t (hK))
  have k2 : ze_CD (zq_ev r (0, [(0, 1)])) (zq_ev r (0, [(1, 1)])) (zq_ev r (0, [(4, 1)])) (zq_ev r (0, [(5, 1)])) P h := k2
  simp only [q1, q2, q5, q6] at k2
  obtain t1 := zo_ga0b_l (P := P) (h := h) (g := r 0) (l := r 1) (p := r 2) (s := r 3) (f := r 4) (c := r 5) a1 k1 k2
  obtain ⟨rq, hr⟩ : ∃ rq : Nat → Int, (∀ i, i < 6 → rq i = r i) := ⟨r, fun i hi => rfl⟩
  have v0 : rq 0 = r 0 := hr 0 (by decide)
  have v1 : rq 1 = r 1 := hr 1 (by decide)
  have v2 : rq 2 = r 2 := hr 2 (by decide)
  have v3 : rq 3 = r 3 := hr 3 (by decide)
  have v4 : rq 4 = r 4 := hr 4 (by decide)
  have g0 : zq_ev rq (0, [(0, 1)]) = r 0 := zu_f1 v0
  have g1 : zq_ev rq (0, [(1, 1)]) = r 1 := zu_f1 v1
  have g2 : zq_ev rq (0, [(2, 1)]) = r 2 := zu_f1 v2
  have g3 : zq_ev rq (0, [(3, 1)]) = r 3 := zu_f1 v3
  have g4 : zq_ev rq (1, [(4, 1)]) = r 4 + 1 := zu_f2 v4 _
  exact ⟨_, List.mem_cons_self .., rq, hr, zq_MeS_mk rfl hT (zq_all_nil) zq_fan (zq_fan) rfl (zu_fac ((x_CL _ _ _).mpr (by show zo_CLt (zq_ev rq (0, [(0, 1)])) (zq_ev rq (0, [(1, 1)])) (zq_ev rq (0, [(2, 1)])) (zq_ev rq (0, [(3, 1)])) (zq_ev rq (1, [(4, 1)])) P h; simp only [g0, g1, g2, g3, g4]; exact t1)) zq_fan)⟩
noncomputable def zo_gb0b : zq_S × List zq_S := (([], [], [(-5, [(9, 1)])], [], [], [], [(336, [(0, [(0, 1)]), (0, [(1, 1)]), (0, [(2, 1)]), (0, [(3, 1)]), (0, [(4, 1)]), (0, [(5, 1)]), (0, [(6, 1)]), (0, [(7, 1)]), (0, [(8, 1)])]), (224, [(0, [(0, 1)]), (0, [(1, 1)]), (0, [(8, 1)]), (0, [(9, 1)])])], 10), [([], [], [], [], [], [], [(337, [(0, [(0, 1)]), (0, [(1, 1)]), (0, [(2, 1)]), (0, [(3, 1)]), (0, [(4, 1)]), (0, [(5, 1)]), (0, [(6, 1)]), (0, [(7, 1)]), (1, [])])], 10)])
theorem zo_gb0b_l {P : zq_Ty} {h : zq_H} {g l W p x0 x1 x2 su f c : Int} (a1 : 0 ≤ c - 5) (k1 : zo_VM g l W p x0 x1 x2 su f P h) (k2 : ze_CD g l f c P h) : (zo_EVs g l W p x0 x1 x2 su 1 P h) := by
  have k2 : (c : Int) = ze_c g l (f) := k2
  obtain ⟨e, s, z1, z2⟩ := k1
  exact ⟨e, s, f, f + 1, z1, z2, Or.inl ⟨rfl, Or.inl ⟨by omega, rfl⟩⟩⟩
theorem zo_gb0b_ok {w : zq_Wd} (x_VM : zj_is w 336 (fun q => zo_VM (q 0) (q 1) (q 2) (q 3) (q 4) (q 5) (q 6) (q 7) (q 8))) (x_CD : zj_is w 224 (fun q => ze_CD (q 0) (q 1) (q 2) (q 3))) (x_EVs : zj_is w 337 (fun q => zo_EVs (q 0) (q 1) (q 2) (q 3) (q 4) (q 5) (q 6) (q 7) (q 8))) : zq_okG1 w zo_gb0b := by
  refine ⟨rfl, rfl, zu_fac ⟨rfl, by decide⟩ zq_fan, ?_⟩
  intro r P h H hM
  have q0 : zq_ev r (-5, [(9, 1)]) = r 9 - 5 := zu_e3 _ _ _
  have q1 : zq_ev r (0, [(0, 1)]) = r 0 := zu_e1 _ _
  have q2 : zq_ev r (0, [(1, 1)]) = r 1 := zu_e1 _ _
  have q3 : zq_ev r (0, [(2, 1)]) = r 2 := zu_e1 _ _
  have q4 : zq_ev r (0, [(3, 1)]) = r 3 := zu_e1 _ _
  have q5 : zq_ev r (0, [(4, 1)]) = r 4 := zu_e1 _ _
  have q6 : zq_ev r (0, [(5, 1)]) = r 5 := zu_e1 _ _
  have q7 : zq_ev r (0, [(6, 1)]) = r 6 := zu_e1 _ _
  have q8 : zq_ev r (0, [(7, 1)]) = r 7 := zu_e1 _ _
  have q9 : zq_ev r (0, [(8, 1)]) = r 8 := zu_e1 _ _
  have q10 : zq_ev r (0, [(9, 1)]) = r 9 := zu_e1 _ _
  obtain ⟨hT, hC, hF, hS, -, hK⟩ := hM
  have c := hC.1
  have a1 := zq_all_1 c
  rw [q0] at a1
  have k1 := zj_use x_VM (hK)
  have k1 : zo_VM (zq_ev r (0, [(0, 1)])) (zq_ev r (0, [(1, 1)])) (zq_ev r (0, [(2, 1)])) (zq_ev r (0, [(3, 1)])) (zq_ev r (0, [(4, 1)])) (zq_ev r (0, [(5, 1)])) (zq_ev r (0, [(6, 1)])) (zq_ev r (0, [(7, 1)])) (zq_ev r (0, [(8, 1)])) P h := k1
  simp only [q1, q2, q3, q4, q5, q6, q7, q8, q9] at k1
  have k2 := zj_use x_CD (zq_okX_t (hK))
  have k2 : ze_CD (zq_ev r (0, [(0, 1)])) (zq_ev r (0, [(1, 1)])) (zq_ev r (0, [(8, 1)])) (zq_ev r (0, [(9, 1)])) P h := k2
  simp only [q1, q10, q2, q9] at k2
  obtain t1 := zo_gb0b_l (P := P) (h := h) (g := r 0) (l := r 1) (W := r 2) (p := r 3) (x0 := r 4) (x1 := r 5) (x2 := r 6) (su := r 7) (f := r 8) (c := r 9) a1 k1 k2
  obtain ⟨rq, hr⟩ : ∃ rq : Nat → Int, (∀ i, i < 10 → rq i = r i) := ⟨r, fun i hi => rfl⟩
  have v0 : rq 0 = r 0 := hr 0 (by decide)
  have v1 : rq 1 = r 1 := hr 1 (by decide)
  have v2 : rq 2 = r 2 := hr 2 (by decide)
  have v3 : rq 3 = r 3 := hr 3 (by decide)
  have v4 : rq 4 = r 4 := hr 4 (by decide)
  have v5 : rq 5 = r 5 := hr 5 (by decide)
  have v6 : rq 6 = r 6 := hr 6 (by decide)
  have v7 : rq 7 = r 7 := hr 7 (by decide)
  have g0 : zq_ev rq (0, [(0, 1)]) = r 0 := zu_f1 v0
  have g1 : zq_ev rq (0, [(1, 1)]) = r 1 := zu_f1 v1
  have g2 : zq_ev rq (0, [(2, 1)]) = r 2 := zu_f1 v2
  have g3 : zq_ev rq (0, [(3, 1)]) = r 3 := zu_f1 v3
  have g4 : zq_ev rq (0, [(4, 1)]) = r 4 := zu_f1 v4
  have g5 : zq_ev rq (0, [(5, 1)]) = r 5 := zu_f1 v5
  have g6 : zq_ev rq (0, [(6, 1)]) = r 6 := zu_f1 v6
  have g7 : zq_ev rq (0, [(7, 1)]) = r 7 := zu_f1 v7
  have g8 : zq_ev rq (1, []) = 1 := zu_e0 _ _
  exact ⟨_, List.mem_cons_self .., rq, hr, zq_MeS_mk rfl hT (zq_all_nil) zq_fan (zq_fan) rfl (zu_fac ((x_EVs _ _ _).mpr (by show zo_EVs (zq_ev rq (0, [(0, 1)])) (zq_ev rq (0, [(1, 1)])) (zq_ev rq (0, [(2, 1)])) (zq_ev rq (0, [(3, 1)])) (zq_ev rq (0, [(4, 1)])) (zq_ev rq (0, [(5, 1)])) (zq_ev rq (0, [(6, 1)])) (zq_ev rq (0, [(7, 1)])) (zq_ev rq (1, [])) P h; simp only [g0, g1, g2, g3, g4, g5, g6, g7, g8]; exact t1)) zq_fan)⟩
noncomputable def zo_ga1 : zq_S × List zq_S := (([], [], [], [], [], [], [(335, [(0, [(0, 1)]), (0, [(1, 1)]), (0, [(2, 1)]), (0, [(3, 1)]), (0, [(4, 1)])]), (224, [(0, [(0, 1)]), (0, [(1, 1)]), (0, [(4, 1)]), (4, [])]), (221, [(10, []), (0, [(0, 1)]), (0, [(1, 1)]), (1, [(4, 1)]), (0, [(5, 1)])])], 6), [([], [], [], [], [], [], [(325, [(0, [(0, 1)]), (0, [(1, 1)]), (0, [(2, 1)]), (0, [(3, 1)]), (1, [(5, 1)])])], 6)])
theorem zo_ga1_l {P : zq_Ty} {h : zq_H} {g l p s f y : Int} (k1 : zo_PM g l p s f P h) (k2 : ze_CD g l f 4 P h) (k3 : ze_TT 10 g l (f + 1) y P h) : (zo_CLt g l p s (y + 1) P h) := by
  have k2 : (4 : Int) = ze_c g l (f) := k2
  obtain ⟨e, z1, z2⟩ := k1
  exact ⟨e, f, z1, z2, Or.inr ⟨k2.symm, y, k3, rfl⟩⟩
theorem zo_ga1_ok {w : zq_Wd} (x_PM : zj_is w 335 (fun q => zo_PM (q 0) (q 1) (q 2) (q 3) (q 4))) (x_CD : zj_is w 224 (fun q => ze_CD (q 0) (q 1) (q 2) (q 3))) (x_TT : zj_is w 221 (fun q => ze_TT (q 0) (q 1) (q 2) (q 3) (q 4))) (x_CL : zj_is w 325 (fun q => zo_CLt (q 0) (q 1) (q 2) (q 3) (q 4))) : zq_okG1 w zo_ga1 := by
  refine ⟨rfl, rfl, zu_fac ⟨rfl, by decide⟩ zq_fan, ?_⟩
  intro r P h H hM
  have q0 : zq_ev r (0, [(0, 1)]) = r 0 := zu_e1 _ _
  have q1 : zq_ev r (0, [(1, 1)]) = r 1 := zu_e1 _ _
  have q2 : zq_ev r (0, [(2, 1)]) = r 2 := zu_e1 _ _
  have q3 : zq_ev r (0, [(3, 1)]) = r 3 := zu_e1 _ _
  have q4 : zq_ev r (0, [(4, 1)]) = r 4 := zu_e1 _ _
  have q5 : zq_ev r (4, []) = 4 := zu_e0 _ _
  have q6 : zq_ev r (10, []) = 10 := zu_e0 _ _
  have q7 : zq_ev r (1, [(4, 1)]) = r 4 + 1 := zu_e2 _ _ _
  have q8 : zq_ev r (0, [(5, 1)]) = r 5 := zu_e1 _ _
  obtain ⟨hT, hC, hF, hS, -, hK⟩ := hM
  have c := hC.1
  have k1 := zj_use x_PM (hK)
  have k1 : zo_PM (zq_ev r (0, [(0, 1)])) (zq_ev r (0, [(1, 1)])) (zq_ev r (0, [(2, 1)])) (zq_ev r (0, [(3, 1)])) (zq_ev r (0, [(4, 1)])) P h := k1
  simp only [q0, q1, q2, q3, q4] at k1
  have k2 := zj_use x_CD (zq_okX_t (hK))
  have k2 : ze_CD (zq_ev r (0, [(0, 1)])) (zq_ev r (0, [(1, 1)])) (zq_ev r (0, [(4, 1)])) (zq_ev r (4, [])) P h := k2
  simp only [q0, q1, q4, q5] at k2
  have k3 := zj_use x_TT (zq_okX_t (zq_okX_t (hK)))
  have k3 : ze_TT (zq_ev r (10, [])) (zq_ev r (0, [(0, 1)])) (zq_ev r (0, [(1, 1)])) (zq_ev r (1, [(4, 1)])) (zq_ev r (0, [(5, 1)])) P h := k3
  simp only [q0, q1, q6, q7, q8] at k3
  obtain t1 := zo_ga1_l (P := P) (h := h) (g := r 0) (l := r 1) (p := r 2) (s := r 3) (f := r 4) (y := r 5) k1 k2 k3
  obtain ⟨rq, hr⟩ : ∃ rq : Nat → Int, (∀ i, i < 6 → rq i = r i) := ⟨r, fun i hi => rfl⟩
  have v0 : rq 0 = r 0 := hr 0 (by decide)
  have v1 : rq 1 = r 1 := hr 1 (by decide)
  have v2 : rq 2 = r 2 := hr 2 (by decide)
  have v3 : rq 3 = r 3 := hr 3 (by decide)
  have v5 : rq 5 = r 5 := hr 5 (by decide)
  have g0 : zq_ev rq (0, [(0, 1)]) = r 0 := zu_f1 v0
  have g1 : zq_ev rq (0, [(1, 1)]) = r 1 := zu_f1 v1
  have g2 : zq_ev rq (0, [(2, 1)]) = r 2 := zu_f1 v2
  have g3 : zq_ev rq (0, [(3, 1)]) = r 3 := zu_f1 v3
  have g4 : zq_ev rq (1, [(5, 1)]) = r 5 + 1 := zu_f2 v5 _
  exact ⟨_, List.mem_cons_self .., rq, hr, zq_MeS_mk rfl hT (zq_all_nil) zq_fan (zq_fan) rfl (zu_fac ((x_CL _ _ _).mpr (by show zo_CLt (zq_ev rq (0, [(0, 1)])) (zq_ev rq (0, [(1, 1)])) (zq_ev rq (0, [(2, 1)])) (zq_ev rq (0, [(3, 1)])) (zq_ev rq (1, [(5, 1)])) P h; simp only [g0, g1, g2, g3, g4]; exact t1)) zq_fan)⟩
noncomputable def zo_gb1y : zq_S × List zq_S := (([], [], [(-1, [(9, 1)]), (1, [(9, -1)])], [], [], [], [(336, [(0, [(0, 1)]), (0, [(1, 1)]), (0, [(2, 1)]), (0, [(3, 1)]), (0, [(4, 1)]), (0, [(5, 1)]), (0, [(6, 1)]), (0, [(7, 1)]), (0, [(8, 1)])]), (224, [(0, [(0, 1)]), (0, [(1, 1)]), (0, [(8, 1)]), (4, [])]), (220, [(10, []), (0, [(0, 1)]), (0, [(1, 1)]), (1, []), (0, [(2, 1)]), (0, []), (1, [(8, 1)]), (0, [(9, 1)]), (0, []), (0, [(10, 1)])])], 11), [([], [], [], [], [], [], [(337, [(0, [(0, 1)]), (0, [(1, 1)]), (0, [(2, 1)]), (0, [(3, 1)]), (0, [(4, 1)]), (0, [(5, 1)]), (0, [(6, 1)]), (0, [(7, 1)]), (1, [])])], 11)])
theorem zo_gb1y_l {P : zq_Ty} {h : zq_H} {g l W p x0 x1 x2 su f r y : Int} (a1 : 0 ≤ r - 1) (a2 : 0 ≤ -r + 1) (k1 : zo_VM g l W p x0 x1 x2 su f P h) (k2 : ze_CD g l f 4 P h) (k3 : ze_EV 10 g l 1 W 0 (f + 1) r 0 y P h) : (zo_EVs g l W p x0 x1 x2 su 1 P h) := by
  have k2 : (4 : Int) = ze_c g l (f) := k2
  have k3 : ze_V (ze_c g l) (ze_v g l) (ze_w 1 W) 10 0 true (ze_on 0) (f + 1) r (ze_on 0) y := k3
  rw [ze_on0] at k3
  obtain ⟨e, s, z1, z2⟩ := k1
  rw [show r = 1 by omega] at k3
  exact ⟨e, s, f, y + 1, z1, z2, Or.inl ⟨rfl, Or.inr ⟨k2.symm, y, k3, rfl⟩⟩⟩
theorem zo_gb1y_ok {w : zq_Wd} (x_VM : zj_is w 336 (fun q => zo_VM (q 0) (q 1) (q 2) (q 3) (q 4) (q 5) (q 6) (q 7) (q 8))) (x_CD : zj_is w 224 (fun q => ze_CD (q 0) (q 1) (q 2) (q 3))) (x_EV : zj_is w 220 (fun q => ze_EV (q 0) (q 1) (q 2) (q 3) (q 4) (q 5) (q 6) (q 7) (q 8) (q 9))) (x_EVs : zj_is w 337 (fun q => zo_EVs (q 0) (q 1) (q 2) (q 3) (q 4) (q 5) (q 6) (q 7) (q 8))) : zq_okG1 w zo_gb1y := by
  refine ⟨rfl, rfl, zu_fac ⟨rfl, by decide⟩ zq_fan, ?_⟩
  intro r P h H hM
  have q0 : zq_ev r (-1, [(9, 1)]) = r 9 - 1 := zu_e3 _ _ _
  have q1 : zq_ev r (1, [(9, -1)]) = -r 9 + 1 := zu_e5 _ _ _
  have q2 : zq_ev r (0, [(0, 1)]) = r 0 := zu_e1 _ _
  have q3 : zq_ev r (0, [(1, 1)]) = r 1 := zu_e1 _ _
  have q4 : zq_ev r (0, [(2, 1)]) = r 2 := zu_e1 _ _
  have q5 : zq_ev r (0, [(3, 1)]) = r 3 := zu_e1 _ _
  have q6 : zq_ev r (0, [(4, 1)]) = r 4 := zu_e1 _ _
  have q7 : zq_ev r (0, [(5, 1)]) = r 5 := zu_e1 _ _
  have q8 : zq_ev r (0, [(6, 1)]) = r 6 := zu_e1 _ _
  have q9 : zq_ev r (0, [(7, 1)]) = r 7 := zu_e1 _ _
  have q10 : zq_ev r (0, [(8, 1)]) = r 8 := zu_e1 _ _
  have q11 : zq_ev r (4, []) = 4 := zu_e0 _ _
  have q12 : zq_ev r (10, []) = 10 := zu_e0 _ _
  have q13 : zq_ev r (1, []) = 1 := zu_e0 _ _
  have q14 : zq_ev r (0, []) = 0 := zu_e0 _ _
  have q15 : zq_ev r (1, [(8, 1)]) = r 8 + 1 := zu_e2 _ _ _
  have q16 : zq_ev r (0, [(9, 1)]) = r 9 := zu_e1 _ _
  have q17 : zq_ev r (0, [(10, 1)]) = r 10 := zu_e1 _ _
  obtain ⟨hT, hC, hF, hS, -, hK⟩ := hM
  have c := hC.1
  have a1 := zq_all_1 c
  rw [q0] at a1
  have c := zq_all_t c
  have a2 := zq_all_1 c
  rw [q1] at a2
  have k1 := zj_use x_VM (hK)
  have k1 : zo_VM (zq_ev r (0, [(0, 1)])) (zq_ev r (0, [(1, 1)])) (zq_ev r (0, [(2, 1)])) (zq_ev r (0, [(3, 1)])) (zq_ev r (0, [(4, 1)])) (zq_ev r (0, [(5, 1)])) (zq_ev r (0, [(6, 1)])) (zq_ev r (0, [(7, 1)])) (zq_ev r (0, [(8, 1)])) P h := k1
  simp only [q10, q2, q3, q4, q5, q6, q7, q8, q9] at k1
  have k2 := zj_use x_CD (zq_okX_t (hK))
  have k2 : ze_CD (zq_ev r (0, [(0, 1)])) (zq_ev r (0, [(1, 1)])) (zq_ev r (0, [(8, 1)])) (zq_ev r (4, [])) P h := k2
  simp only [q10, q11, q2, q3] at k2
  have k3 := zj_use x_EV (zq_okX_t (zq_okX_t (hK)))
  have k3 : ze_EV (zq_ev r (10, [])) (zq_ev r (0, [(0, 1)])) (zq_ev r (0, [(1, 1)])) (zq_ev r (1, [])) (zq_ev r (0, [(2, 1)])) (zq_ev r (0, [])) (zq_ev r (1, [(8, 1)])) (zq_ev r (0, [(9, 1)])) (zq_ev r (0, [])) (zq_ev r (0, [(10, 1)])) P h := k3
  simp only [q12, q13, q14, q15, q16, q17, q2, q3, q4] at k3
  obtain t1 := zo_gb1y_l (P := P) (h := h) (g := r 0) (l := r 1) (W := r 2) (p := r 3) (x0 := r 4) (x1 := r 5) (x2 := r 6) (su := r 7) (f := r 8) (r := r 9) (y := r 10) a1 a2 k1 k2 k3
  obtain ⟨rq, hr⟩ : ∃ rq : Nat → Int, (∀ i, i < 11 → rq i = r i) := ⟨r, fun i hi => rfl⟩
  have v0 : rq 0 = r 0 := hr 0 (by decide)
  have v1 : rq 1 = r 1 := hr 1 (by decide)
  have v2 : rq 2 = r 2 := hr 2 (by decide)
  have v3 : rq 3 = r 3 := hr 3 (by decide)
  have v4 : rq 4 = r 4 := hr 4 (by decide)
  have v5 : rq 5 = r 5 := hr 5 (by decide)
  have v6 : rq 6 = r 6 := hr 6 (by decide)
  have v7 : rq 7 = r 7 := hr 7 (by decide)
  have g0 : zq_ev rq (0, [(0, 1)]) = r 0 := zu_f1 v0
  have g1 : zq_ev rq (0, [(1, 1)]) = r 1 := zu_f1 v1
  have g2 : zq_ev rq (0, [(2, 1)]) = r 2 := zu_f1 v2
  have g3 : zq_ev rq (0, [(3, 1)]) = r 3 := zu_f1 v3
  have g4 : zq_ev rq (0, [(4, 1)]) = r 4 := zu_f1 v4
  have g5 : zq_ev rq (0, [(5, 1)]) = r 5 := zu_f1 v5
  have g6 : zq_ev rq (0, [(6, 1)]) = r 6 := zu_f1 v6
  have g7 : zq_ev rq (0, [(7, 1)]) = r 7 := zu_f1 v7
  have g8 : zq_ev rq (1, []) = 1 := zu_e0 _ _
  exact ⟨_, List.mem_cons_self .., rq, hr, zq_MeS_mk rfl hT (zq_all_nil) zq_fan (zq_fan) rfl (zu_fac ((x_EVs _ _ _).mpr (by show zo_EVs (zq_ev rq (0, [(0, 1)])) (zq_ev rq (0, [(1, 1)])) (zq_ev rq (0, [(2, 1)])) (zq_ev rq (0, [(3, 1)])) (zq_ev rq (0, [(4, 1)])) (zq_ev rq (0, [(5, 1)])) (zq_ev rq (0, [(6, 1)])) (zq_ev rq (0, [(7, 1)])) (zq_ev rq (1, [])) P h; simp only [g0, g1, g2, g3, g4, g5, g6, g7, g8]; exact t1)) zq_fan)⟩
noncomputable def zo_gb1l : zq_S × List zq_S := (([], [], [(0, [(9, -1)])], [], [], [], [(336, [(0, [(0, 1)]), (0, [(1, 1)]), (0, [(2, 1)]), (0, [(3, 1)]), (0, [(4, 1)]), (0, [(5, 1)]), (0, [(6, 1)]), (0, [(7, 1)]), (0, [(8, 1)])]), (224, [(0, [(0, 1)]), (0, [(1, 1)]), (0, [(8, 1)]), (4, [])]), (220, [(10, []), (0, [(0, 1)]), (0, [(1, 1)]), (1, []), (0, [(2, 1)]), (0, []), (1, [(8, 1)]), (0, [(9, 1)]), (0, [(11, 1)]), (0, [(10, 1)])])], 12), [([], [], [], [], [], [], [(337, [(0, [(0, 1)]), (0, [(1, 1)]), (0, [(2, 1)]), (0, [(3, 1)]), (0, [(4, 1)]), (0, [(5, 1)]), (0, [(6, 1)]), (0, [(7, 1)]), (0, [])])], 12)])
theorem zo_gb1l_l {P : zq_Ty} {h : zq_H} {g l W p x0 x1 x2 su f r y c : Int} (a1 : 0 ≤ -r) (k1 : zo_VM g l W p x0 x1 x2 su f P h) (k2 : ze_CD g l f 4 P h) (k3 : ze_EV 10 g l 1 W 0 (f + 1) r c y P h) : (zo_EVs g l W p x0 x1 x2 su 0 P h) := by
  have k2 : (4 : Int) = ze_c g l (f) := k2
  have k3 : ze_V (ze_c g l) (ze_v g l) (ze_w 1 W) 10 0 true (ze_on 0) (f + 1) r (ze_on c) y := k3
  rw [ze_on0] at k3
  obtain ⟨e, s, z1, z2⟩ := k1
  exact ⟨e, s, f, y + 1, z1, z2, Or.inr ⟨rfl, k2.symm, r, ze_on c, y, k3, fun q => by have := q.1; omega, rfl⟩⟩
theorem zo_gb1l_ok {w : zq_Wd} (x_VM : zj_is w 336 (fun q => zo_VM (q 0) (q 1) (q 2) (q 3) (q 4) (q 5) (q 6) (q 7) (q 8))) (x_CD : zj_is w 224 (fun q => ze_CD (q 0) (q 1) (q 2) (q 3))) (x_EV : zj_is w 220 (fun q => ze_EV (q 0) (q 1) (q 2) (q 3) (q 4) (q 5) (q 6) (q 7) (q 8) (q 9))) (x_EVs : zj_is w 337 (fun q => zo_EVs (q 0) (q 1) (q 2) (q 3) (q 4) (q 5) (q 6) (q 7) (q 8))) : zq_okG1 w zo_gb1l := by
  refine ⟨rfl, rfl, zu_fac ⟨rfl, by decide⟩ zq_fan, ?_⟩
  intro r P h H hM
  have q0 : zq_ev r (0, [(9, -1)]) = -r 9 := zu_e4 _ _
  have q1 : zq_ev r (0, [(0, 1)]) = r 0 := zu_e1 _ _
  have q2 : zq_ev r (0, [(1, 1)]) = r 1 := zu_e1 _ _
  have q3 : zq_ev r (0, [(2, 1)]) = r 2 := zu_e1 _ _
  have q4 : zq_ev r (0, [(3, 1)]) = r 3 := zu_e1 _ _
  have q5 : zq_ev r (0, [(4, 1)]) = r 4 := zu_e1 _ _
  have q6 : zq_ev r (0, [(5, 1)]) = r 5 := zu_e1 _ _
  have q7 : zq_ev r (0, [(6, 1)]) = r 6 := zu_e1 _ _
  have q8 : zq_ev r (0, [(7, 1)]) = r 7 := zu_e1 _ _
  have q9 : zq_ev r (0, [(8, 1)]) = r 8 := zu_e1 _ _
  have q10 : zq_ev r (4, []) = 4 := zu_e0 _ _
  have q11 : zq_ev r (10, []) = 10 := zu_e0 _ _
  have q12 : zq_ev r (1, []) = 1 := zu_e0 _ _
  have q13 : zq_ev r (0, []) = 0 := zu_e0 _ _
  have q14 : zq_ev r (1, [(8, 1)]) = r 8 + 1 := zu_e2 _ _ _
  have q15 : zq_ev r (0, [(9, 1)]) = r 9 := zu_e1 _ _
  have q16 : zq_ev r (0, [(11, 1)]) = r 11 := zu_e1 _ _
  have q17 : zq_ev r (0, [(10, 1)]) = r 10 := zu_e1 _ _
  obtain ⟨hT, hC, hF, hS, -, hK⟩ := hM
  have c := hC.1
  have a1 := zq_all_1 c
  rw [q0] at a1
  have k1 := zj_use x_VM (hK)
  have k1 : zo_VM (zq_ev r (0, [(0, 1)])) (zq_ev r (0, [(1, 1)])) (zq_ev r (0, [(2, 1)])) (zq_ev r (0, [(3, 1)])) (zq_ev r (0, [(4, 1)])) (zq_ev r (0, [(5, 1)])) (zq_ev r (0, [(6, 1)])) (zq_ev r (0, [(7, 1)])) (zq_ev r (0, [(8, 1)])) P h := k1
  simp only [q1, q2, q3, q4, q5, q6, q7, q8, q9] at k1
  have k2 := zj_use x_CD (zq_okX_t (hK))
  have k2 : ze_CD (zq_ev r (0, [(0, 1)])) (zq_ev r (0, [(1, 1)])) (zq_ev r (0, [(8, 1)])) (zq_ev r (4, [])) P h := k2
  simp only [q1, q10, q2, q9] at k2
  have k3 := zj_use x_EV (zq_okX_t (zq_okX_t (hK)))
  have k3 : ze_EV (zq_ev r (10, [])) (zq_ev r (0, [(0, 1)])) (zq_ev r (0, [(1, 1)])) (zq_ev r (1, [])) (zq_ev r (0, [(2, 1)])) (zq_ev r (0, [])) (zq_ev r (1, [(8, 1)])) (zq_ev r (0, [(9, 1)])) (zq_ev r (0, [(11, 1)])) (zq_ev r (0, [(10, 1)])) P h := k3
  simp only [q1, q11, q12, q13, q14, q15, q16, q17, q2, q3] at k3
  obtain t1 := zo_gb1l_l (P := P) (h := h) (g := r 0) (l := r 1) (W := r 2) (p := r 3) (x0 := r 4) (x1 := r 5) (x2 := r 6) (su := r 7) (f := r 8) (r := r 9) (y := r 10) (c := r 11) a1 k1 k2 k3
  obtain ⟨rq, hr⟩ : ∃ rq : Nat → Int, (∀ i, i < 12 → rq i = r i) := ⟨r, fun i hi => rfl⟩
  have v0 : rq 0 = r 0 := hr 0 (by decide)
  have v1 : rq 1 = r 1 := hr 1 (by decide)
  have v2 : rq 2 = r 2 := hr 2 (by decide)
  have v3 : rq 3 = r 3 := hr 3 (by decide)
  have v4 : rq 4 = r 4 := hr 4 (by decide)
  have v5 : rq 5 = r 5 := hr 5 (by decide)
  have v6 : rq 6 = r 6 := hr 6 (by decide)
  have v7 : rq 7 = r 7 := hr 7 (by decide)
  have g0 : zq_ev rq (0, [(0, 1)]) = r 0 := zu_f1 v0
  have g1 : zq_ev rq (0, [(1, 1)]) = r 1 := zu_f1 v1
  have g2 : zq_ev rq (0, [(2, 1)]) = r 2 := zu_f1 v2
  have g3 : zq_ev rq (0, [(3, 1)]) = r 3 := zu_f1 v3
  have g4 : zq_ev rq (0, [(4, 1)]) = r 4 := zu_f1 v4
  have g5 : zq_ev rq (0, [(5, 1)]) = r 5 := zu_f1 v5
  have g6 : zq_ev rq (0, [(6, 1)]) = r 6 := zu_f1 v6
  have g7 : zq_ev rq (0, [(7, 1)]) = r 7 := zu_f1 v7
  have g8 : zq_ev rq (0, []) = 0 := zu_e0 _ _
  exact ⟨_, List.mem_cons_self .., rq, hr, zq_MeS_mk rfl hT (zq_all_nil) zq_fan (zq_fan) rfl (zu_fac ((x_EVs _ _ _).mpr (by show zo_EVs (zq_ev rq (0, [(0, 1)])) (zq_ev rq (0, [(1, 1)])) (zq_ev rq (0, [(2, 1)])) (zq_ev rq (0, [(3, 1)])) (zq_ev rq (0, [(4, 1)])) (zq_ev rq (0, [(5, 1)])) (zq_ev rq (0, [(6, 1)])) (zq_ev rq (0, [(7, 1)])) (zq_ev rq (0, [])) P h; simp only [g0, g1, g2, g3, g4, g5, g6, g7, g8]; exact t1)) zq_fan)⟩
noncomputable def zo_gb1m : zq_S × List zq_S := (([], [], [(-2, [(9, 1)])], [], [], [], [(336, [(0, [(0, 1)]), (0, [(1, 1)]), (0, [(2, 1)]), (0, [(3, 1)]), (0, [(4, 1)]), (0, [(5, 1)]), (0, [(6, 1)]), (0, [(7, 1)]), (0, [(8, 1)])]), (224, [(0, [(0, 1)]), (0, [(1, 1)]), (0, [(8, 1)]), (4, [])]), (220, [(10, []), (0, [(0, 1)]), (0, [(1, 1)]), (1, []), (0, [(2, 1)]), (0, []), (1, [(8, 1)]), (0, [(9, 1)]), (0, [(11, 1)]), (0, [(10, 1)])])], 12), [([], [], [], [], [], [], [(337, [(0, [(0, 1)]), (0, [(1, 1)]), (0, [(2, 1)]), (0, [(3, 1)]), (0, [(4, 1)]), (0, [(5, 1)]), (0, [(6, 1)]), (0, [(7, 1)]), (0, [])])], 12)])
theorem zo_gb1m_l {P : zq_Ty} {h : zq_H} {g l W p x0 x1 x2 su f r y c : Int} (a1 : 0 ≤ r - 2) (k1 : zo_VM g l W p x0 x1 x2 su f P h) (k2 : ze_CD g l f 4 P h) (k3 : ze_EV 10 g l 1 W 0 (f + 1) r c y P h) : (zo_EVs g l W p x0 x1 x2 su 0 P h) := by
  have k2 : (4 : Int) = ze_c g l (f) := k2
  have k3 : ze_V (ze_c g l) (ze_v g l) (ze_w 1 W) 10 0 true (ze_on 0) (f + 1) r (ze_on c) y := k3
  rw [ze_on0] at k3
  obtain ⟨e, s, z1, z2⟩ := k1
  exact ⟨e, s, f, y + 1, z1, z2, Or.inr ⟨rfl, k2.symm, r, ze_on c, y, k3, fun q => by have := q.1; omega, rfl⟩⟩
theorem zo_gb1m_ok {w : zq_Wd} (x_VM : zj_is w 336 (fun q => zo_VM (q 0) (q 1) (q 2) (q 3) (q 4) (q 5) (q 6) (q 7) (q 8))) (x_CD : zj_is w 224 (fun q => ze_CD (q 0) (q 1) (q 2) (q 3))) (x_EV : zj_is w 220 (fun q => ze_EV (q 0) (q 1) (q 2) (q 3) (q 4) (q 5) (q 6) (q 7) (q 8) (q 9))) (x_EVs : zj_is w 337 (fun q => zo_EVs (q 0) (q 1) (q 2) (q 3) (q 4) (q 5) (q 6) (q 7) (q 8))) : zq_okG1 w zo_gb1m := by
  refine ⟨rfl, rfl, zu_fac ⟨rfl, by decide⟩ zq_fan, ?_⟩
  intro r P h H hM
  have q0 : zq_ev r (-2, [(9, 1)]) = r 9 - 2 := zu_e3 _ _ _
  have q1 : zq_ev r (0, [(0, 1)]) = r 0 := zu_e1 _ _
  have q2 : zq_ev r (0, [(1, 1)]) = r 1 := zu_e1 _ _
  have q3 : zq_ev r (0, [(2, 1)]) = r 2 := zu_e1 _ _
  have q4 : zq_ev r (0, [(3, 1)]) = r 3 := zu_e1 _ _
  have q5 : zq_ev r (0, [(4, 1)]) = r 4 := zu_e1 _ _
  have q6 : zq_ev r (0, [(5, 1)]) = r 5 := zu_e1 _ _
  have q7 : zq_ev r (0, [(6, 1)]) = r 6 := zu_e1 _ _
  have q8 : zq_ev r (0, [(7, 1)]) = r 7 := zu_e1 _ _
  have q9 : zq_ev r (0, [(8, 1)]) = r 8 := zu_e1 _ _
  have q10 : zq_ev r (4, []) = 4 := zu_e0 _ _
  have q11 : zq_ev r (10, []) = 10 := zu_e0 _ _
  have q12 : zq_ev r (1, []) = 1 := zu_e0 _ _
  have q13 : zq_ev r (0, []) = 0 := zu_e0 _ _
  have q14 : zq_ev r (1, [(8, 1)]) = r 8 + 1 := zu_e2 _ _ _
  have q15 : zq_ev r (0, [(9, 1)]) = r 9 := zu_e1 _ _
  have q16 : zq_ev r (0, [(11, 1)]) = r 11 := zu_e1 _ _
  have q17 : zq_ev r (0, [(10, 1)]) = r 10 := zu_e1 _ _
  obtain ⟨hT, hC, hF, hS, -, hK⟩ := hM
  have c := hC.1
  have a1 := zq_all_1 c
  rw [q0] at a1
  have k1 := zj_use x_VM (hK)
  have k1 : zo_VM (zq_ev r (0, [(0, 1)])) (zq_ev r (0, [(1, 1)])) (zq_ev r (0, [(2, 1)])) (zq_ev r (0, [(3, 1)])) (zq_ev r (0, [(4, 1)])) (zq_ev r (0, [(5, 1)])) (zq_ev r (0, [(6, 1)])) (zq_ev r (0, [(7, 1)])) (zq_ev r (0, [(8, 1)])) P h := k1
  simp only [q1, q2, q3, q4, q5, q6, q7, q8, q9] at k1
  have k2 := zj_use x_CD (zq_okX_t (hK))
  have k2 : ze_CD (zq_ev r (0, [(0, 1)])) (zq_ev r (0, [(1, 1)])) (zq_ev r (0, [(8, 1)])) (zq_ev r (4, [])) P h := k2
  simp only [q1, q10, q2, q9] at k2
  have k3 := zj_use x_EV (zq_okX_t (zq_okX_t (hK)))
  have k3 : ze_EV (zq_ev r (10, [])) (zq_ev r (0, [(0, 1)])) (zq_ev r (0, [(1, 1)])) (zq_ev r (1, [])) (zq_ev r (0, [(2, 1)])) (zq_ev r (0, [])) (zq_ev r (1, [(8, 1)])) (zq_ev r (0, [(9, 1)])) (zq_ev r (0, [(11, 1)])) (zq_ev r (0, [(10, 1)])) P h := k3
  simp only [q1, q11, q12, q13, q14, q15, q16, q17, q2, q3] at k3
  obtain t1 := zo_gb1m_l (P := P) (h := h) (g := r 0) (l := r 1) (W := r 2) (p := r 3) (x0 := r 4) (x1 := r 5) (x2 := r 6) (su := r 7) (f := r 8) (r := r 9) (y := r 10) (c := r 11) a1 k1 k2 k3
  obtain ⟨rq, hr⟩ : ∃ rq : Nat → Int, (∀ i, i < 12 → rq i = r i) := ⟨r, fun i hi => rfl⟩
  have v0 : rq 0 = r 0 := hr 0 (by decide)
  have v1 : rq 1 = r 1 := hr 1 (by decide)
  have v2 : rq 2 = r 2 := hr 2 (by decide)
  have v3 : rq 3 = r 3 := hr 3 (by decide)
  have v4 : rq 4 = r 4 := hr 4 (by decide)
  have v5 : rq 5 = r 5 := hr 5 (by decide)
  have v6 : rq 6 = r 6 := hr 6 (by decide)
  have v7 : rq 7 = r 7 := hr 7 (by decide)
  have g0 : zq_ev rq (0, [(0, 1)]) = r 0 := zu_f1 v0
  have g1 : zq_ev rq (0, [(1, 1)]) = r 1 := zu_f1 v1
  have g2 : zq_ev rq (0, [(2, 1)]) = r 2 := zu_f1 v2
  have g3 : zq_ev rq (0, [(3, 1)]) = r 3 := zu_f1 v3
  have g4 : zq_ev rq (0, [(4, 1)]) = r 4 := zu_f1 v4
  have g5 : zq_ev rq (0, [(5, 1)]) = r 5 := zu_f1 v5
  have g6 : zq_ev rq (0, [(6, 1)]) = r 6 := zu_f1 v6
  have g7 : zq_ev rq (0, [(7, 1)]) = r 7 := zu_f1 v7
  have g8 : zq_ev rq (0, []) = 0 := zu_e0 _ _
  exact ⟨_, List.mem_cons_self .., rq, hr, zq_MeS_mk rfl hT (zq_all_nil) zq_fan (zq_fan) rfl (zu_fac ((x_EVs _ _ _).mpr (by show zo_EVs (zq_ev rq (0, [(0, 1)])) (zq_ev rq (0, [(1, 1)])) (zq_ev rq (0, [(2, 1)])) (zq_ev rq (0, [(3, 1)])) (zq_ev rq (0, [(4, 1)])) (zq_ev rq (0, [(5, 1)])) (zq_ev rq (0, [(6, 1)])) (zq_ev rq (0, [(7, 1)])) (zq_ev rq (0, [])) P h; simp only [g0, g1, g2, g3, g4, g5, g6, g7, g8]; exact t1)) zq_fan)⟩
noncomputable def zo_gb1b : zq_S × List zq_S := (([], [], [], [], [], [], [(336, [(0, [(0, 1)]), (0, [(1, 1)]), (0, [(2, 1)]), (0, [(3, 1)]), (0, [(4, 1)]), (0, [(5, 1)]), (0, [(6, 1)]), (0, [(7, 1)]), (0, [(8, 1)])]), (224, [(0, [(0, 1)]), (0, [(1, 1)]), (0, [(8, 1)]), (4, [])]), (220, [(10, []), (0, [(0, 1)]), (0, [(1, 1)]), (1, []), (0, [(2, 1)]), (0, []), (1, [(8, 1)]), (0, [(9, 1)]), (1, []), (0, [(10, 1)])])], 11), [([], [], [], [], [], [], [(337, [(0, [(0, 1)]), (0, [(1, 1)]), (0, [(2, 1)]), (0, [(3, 1)]), (0, [(4, 1)]), (0, [(5, 1)]), (0, [(6, 1)]), (0, [(7, 1)]), (0, [])])], 11)])
theorem zo_gb1b_l {P : zq_Ty} {h : zq_H} {g l W p x0 x1 x2 su f r y : Int} (k1 : zo_VM g l W p x0 x1 x2 su f P h) (k2 : ze_CD g l f 4 P h) (k3 : ze_EV 10 g l 1 W 0 (f + 1) r 1 y P h) : (zo_EVs g l W p x0 x1 x2 su 0 P h) := by
  have k2 : (4 : Int) = ze_c g l (f) := k2
  have k3 : ze_V (ze_c g l) (ze_v g l) (ze_w 1 W) 10 0 true (ze_on 0) (f + 1) r (ze_on 1) y := k3
  rw [ze_on0] at k3
  obtain ⟨e, s, z1, z2⟩ := k1
  rw [ze_on1] at k3
  exact ⟨e, s, f, y + 1, z1, z2, Or.inr ⟨rfl, k2.symm, r, true, y, k3, fun q => absurd q.2 (by decide), rfl⟩⟩
theorem zo_gb1b_ok {w : zq_Wd} (x_VM : zj_is w 336 (fun q => zo_VM (q 0) (q 1) (q 2) (q 3) (q 4) (q 5) (q 6) (q 7) (q 8))) (x_CD : zj_is w 224 (fun q => ze_CD (q 0) (q 1) (q 2) (q 3))) (x_EV : zj_is w 220 (fun q => ze_EV (q 0) (q 1) (q 2) (q 3) (q 4) (q 5) (q 6) (q 7) (q 8) (q 9))) (x_EVs : zj_is w 337 (fun q => zo_EVs (q 0) (q 1) (q 2) (q 3) (q 4) (q 5) (q 6) (q 7) (q 8))) : zq_okG1 w zo_gb1b := by
  refine ⟨rfl, rfl, zu_fac ⟨rfl, by decide⟩ zq_fan, ?_⟩
  intro r P h H hM
  have q0 : zq_ev r (0, [(0, 1)]) = r 0 := zu_e1 _ _
  have q1 : zq_ev r (0, [(1, 1)]) = r 1 := zu_e1 _ _
  have q2 : zq_ev r (0, [(2, 1)]) = r 2 := zu_e1 _ _
  have q3 : zq_ev r (0, [(3, 1)]) = r 3 := zu_e1 _ _
  have q4 : zq_ev r (0, [(4, 1)]) = r 4 := zu_e1 _ _
  have q5 : zq_ev r (0, [(5, 1)]) = r 5 := zu_e1 _ _
  have q6 : zq_ev r (0, [(6, 1)]) = r 6 := zu_e1 _ _
  have q7 : zq_ev r (0, [(7, 1)]) = r 7 := zu_e1 _ _
  have q8 : zq_ev r (0, [(8, 1)]) = r 8 := zu_e1 _ _
  have q9 : zq_ev r (4, []) = 4 := zu_e0 _ _
  have q10 : zq_ev r (10, []) = 10 := zu_e0 _ _
  have q11 : zq_ev r (1, []) = 1 := zu_e0 _ _
  have q12 : zq_ev r (0, []) = 0 := zu_e0 _ _
  have q13 : zq_ev r (1, [(8, 1)]) = r 8 + 1 := zu_e2 _ _ _
  have q14 : zq_ev r (0, [(9, 1)]) = r 9 := zu_e1 _ _
  have q15 : zq_ev r (0, [(10, 1)]) = r 10 := zu_e1 _ _
  obtain ⟨hT, hC, hF, hS, -, hK⟩ := hM
  have c := hC.1
  have k1 := zj_use x_VM (hK)
  have k1 : zo_VM (zq_ev r (0, [(0, 1)])) (zq_ev r (0, [(1, 1)])) (zq_ev r (0, [(2, 1)])) (zq_ev r (0, [(3, 1)])) (zq_ev r (0, [(4, 1)])) (zq_ev r (0, [(5, 1)])) (zq_ev r (0, [(6, 1)])) (zq_ev r (0, [(7, 1)])) (zq_ev r (0, [(8, 1)])) P h := k1
  simp only [q0, q1, q2, q3, q4, q5, q6, q7, q8] at k1
  have k2 := zj_use x_CD (zq_okX_t (hK))
  have k2 : ze_CD (zq_ev r (0, [(0, 1)])) (zq_ev r (0, [(1, 1)])) (zq_ev r (0, [(8, 1)])) (zq_ev r (4, [])) P h := k2
  simp only [q0, q1, q8, q9] at k2
  have k3 := zj_use x_EV (zq_okX_t (zq_okX_t (hK)))
  have k3 : ze_EV (zq_ev r (10, [])) (zq_ev r (0, [(0, 1)])) (zq_ev r (0, [(1, 1)])) (zq_ev r (1, [])) (zq_ev r (0, [(2, 1)])) (zq_ev r (0, [])) (zq_ev r (1, [(8, 1)])) (zq_ev r (0, [(9, 1)])) (zq_ev r (1, [])) (zq_ev r (0, [(10, 1)])) P h := k3
  simp only [q0, q1, q10, q11, q12, q13, q14, q15, q2] at k3
  obtain t1 := zo_gb1b_l (P := P) (h := h) (g := r 0) (l := r 1) (W := r 2) (p := r 3) (x0 := r 4) (x1 := r 5) (x2 := r 6) (su := r 7) (f := r 8) (r := r 9) (y := r 10) k1 k2 k3
  obtain ⟨rq, hr⟩ : ∃ rq : Nat → Int, (∀ i, i < 11 → rq i = r i) := ⟨r, fun i hi => rfl⟩
  have v0 : rq 0 = r 0 := hr 0 (by decide)
  have v1 : rq 1 = r 1 := hr 1 (by decide)
  have v2 : rq 2 = r 2 := hr 2 (by decide)
  have v3 : rq 3 = r 3 := hr 3 (by decide)
  have v4 : rq 4 = r 4 := hr 4 (by decide)
  have v5 : rq 5 = r 5 := hr 5 (by decide)
  have v6 : rq 6 = r 6 := hr 6 (by decide)
  have v7 : rq 7 = r 7 := hr 7 (by decide)
  have g0 : zq_ev rq (0, [(0, 1)]) = r 0 := zu_f1 v0
  have g1 : zq_ev rq (0, [(1, 1)]) = r 1 := zu_f1 v1
  have g2 : zq_ev rq (0, [(2, 1)]) = r 2 := zu_f1 v2
  have g3 : zq_ev rq (0, [(3, 1)]) = r 3 := zu_f1 v3
  have g4 : zq_ev rq (0, [(4, 1)]) = r 4 := zu_f1 v4
  have g5 : zq_ev rq (0, [(5, 1)]) = r 5 := zu_f1 v5
  have g6 : zq_ev rq (0, [(6, 1)]) = r 6 := zu_f1 v6
  have g7 : zq_ev rq (0, [(7, 1)]) = r 7 := zu_f1 v7
  have g8 : zq_ev rq (0, []) = 0 := zu_e0 _ _
  exact ⟨_, List.mem_cons_self .., rq, hr, zq_MeS_mk rfl hT (zq_all_nil) zq_fan (zq_fan) rfl (zu_fac ((x_EVs _ _ _).mpr (by show zo_EVs (zq_ev rq (0, [(0, 1)])) (zq_ev rq (0, [(1, 1)])) (zq_ev rq (0, [(2, 1)])) (zq_ev rq (0, [(3, 1)])) (zq_ev rq (0, [(4, 1)])) (zq_ev rq (0, [(5, 1)])) (zq_ev rq (0, [(6, 1)])) (zq_ev rq (0, [(7, 1)])) (zq_ev rq (0, [])) P h; simp only [g0, g1, g2, g3, g4, g5, g6, g7, g8]; exact t1)) zq_fan)⟩
noncomputable def zo_gs : zq_S × List zq_S := (([], [], [], [], [], [], [(337, [(0, [(0, 1)]), (0, [(1, 1)]), (0, [(2, 1)]), (0, [(3, 1)]), (0, [(4, 1)]), (0, [(5, 1)]), (0, [(6, 1)]), (0, [(7, 1)]), (0, [(8, 1)])])], 9), [([], [], [], [], [], [], [(326, [(0, [(0, 1)]), (0, [(1, 1)]), (0, [(2, 1)]), (0, [(3, 1)]), (0, [(4, 1)]), (0, [(5, 1)]), (0, [(6, 1)]), (1, [(7, -1)]), (0, [(8, 1)])])], 9)])
theorem zo_gs_l {P : zq_Ty} {h : zq_H} {g l W p x0 x1 x2 su so : Int} (k1 : zo_EVs g l W p x0 x1 x2 su so P h) : (zo_EV g l W p x0 x1 x2 (-su + 1) so P h) := by
  have k1 : zo_EV g l W p x0 x1 x2 (1 - su) so P h := k1
  rw [show -su + 1 = 1 - su by omega]
  exact k1
theorem zo_gs_ok {w : zq_Wd} (x_EVs : zj_is w 337 (fun q => zo_EVs (q 0) (q 1) (q 2) (q 3) (q 4) (q 5) (q 6) (q 7) (q 8))) (x_EVo : zj_is w 326 (fun q => zo_EV (q 0) (q 1) (q 2) (q 3) (q 4) (q 5) (q 6) (q 7) (q 8))) : zq_okG1 w zo_gs := by
  refine ⟨rfl, rfl, zu_fac ⟨rfl, by decide⟩ zq_fan, ?_⟩
  intro r P h H hM
  have q0 : zq_ev r (0, [(0, 1)]) = r 0 := zu_e1 _ _
  have q1 : zq_ev r (0, [(1, 1)]) = r 1 := zu_e1 _ _
  have q2 : zq_ev r (0, [(2, 1)]) = r 2 := zu_e1 _ _
  have q3 : zq_ev r (0, [(3, 1)]) = r 3 := zu_e1 _ _
  have q4 : zq_ev r (0, [(4, 1)]) = r 4 := zu_e1 _ _
  have q5 : zq_ev r (0, [(5, 1)]) = r 5 := zu_e1 _ _
  have q6 : zq_ev r (0, [(6, 1)]) = r 6 := zu_e1 _ _
  have q7 : zq_ev r (0, [(7, 1)]) = r 7 := zu_e1 _ _
  have q8 : zq_ev r (0, [(8, 1)]) = r 8 := zu_e1 _ _
  obtain ⟨hT, hC, hF, hS, -, hK⟩ := hM
  have c := hC.1
  have k1 := zj_use x_EVs (hK)
  have k1 : zo_EVs (zq_ev r (0, [(0, 1)])) (zq_ev r (0, [(1, 1)])) (zq_ev r (0, [(2, 1)])) (zq_ev r (0, [(3, 1)])) (zq_ev r (0, [(4, 1)])) (zq_ev r (0, [(5, 1)])) (zq_ev r (0, [(6, 1)])) (zq_ev r (0, [(7, 1)])) (zq_ev r (0, [(8, 1)])) P h := k1
  simp only [q0, q1, q2, q3, q4, q5, q6, q7, q8] at k1
  obtain t1 := zo_gs_l (P := P) (h := h) (g := r 0) (l := r 1) (W := r 2) (p := r 3) (x0 := r 4) (x1 := r 5) (x2 := r 6) (su := r 7) (so := r 8) k1
  obtain ⟨rq, hr⟩ : ∃ rq : Nat → Int, (∀ i, i < 9 → rq i = r i) := ⟨r, fun i hi => rfl⟩
  have v0 : rq 0 = r 0 := hr 0 (by decide)
  have v1 : rq 1 = r 1 := hr 1 (by decide)
  have v2 : rq 2 = r 2 := hr 2 (by decide)
  have v3 : rq 3 = r 3 := hr 3 (by decide)
  have v4 : rq 4 = r 4 := hr 4 (by decide)
  have v5 : rq 5 = r 5 := hr 5 (by decide)
  have v6 : rq 6 = r 6 := hr 6 (by decide)
  have v7 : rq 7 = r 7 := hr 7 (by decide)
  have v8 : rq 8 = r 8 := hr 8 (by decide)
  have g0 : zq_ev rq (0, [(0, 1)]) = r 0 := zu_f1 v0
  have g1 : zq_ev rq (0, [(1, 1)]) = r 1 := zu_f1 v1
  have g2 : zq_ev rq (0, [(2, 1)]) = r 2 := zu_f1 v2
  have g3 : zq_ev rq (0, [(3, 1)]) = r 3 := zu_f1 v3
  have g4 : zq_ev rq (0, [(4, 1)]) = r 4 := zu_f1 v4
  have g5 : zq_ev rq (0, [(5, 1)]) = r 5 := zu_f1 v5
  have g6 : zq_ev rq (0, [(6, 1)]) = r 6 := zu_f1 v6
  have g7 : zq_ev rq (1, [(7, -1)]) = -r 7 + 1 := zu_f5 v7 _
  have g8 : zq_ev rq (0, [(8, 1)]) = r 8 := zu_f1 v8
  exact ⟨_, List.mem_cons_self .., rq, hr, zq_MeS_mk rfl hT (zq_all_nil) zq_fan (zq_fan) rfl (zu_fac ((x_EVo _ _ _).mpr (by show zo_EV (zq_ev rq (0, [(0, 1)])) (zq_ev rq (0, [(1, 1)])) (zq_ev rq (0, [(2, 1)])) (zq_ev rq (0, [(3, 1)])) (zq_ev rq (0, [(4, 1)])) (zq_ev rq (0, [(5, 1)])) (zq_ev rq (0, [(6, 1)])) (zq_ev rq (1, [(7, -1)])) (zq_ev rq (0, [(8, 1)])) P h; simp only [g0, g1, g2, g3, g4, g5, g6, g7, g8]; exact t1)) zq_fan)⟩
noncomputable def zo_ow : zq_S × List zq_S := (([], [], [], [], [], [], [], 4), [([], [], [], [], [], [], [(324, [(0, [(4, 1)]), (0, [(0, 1)]), (0, [(1, 1)]), (0, [(2, 1)]), (0, [(3, 1)])])], 5)])
theorem zo_ow_l {P : zq_Ty} {h : zq_H} {p M D L : Int}  : (∃ W : Int, zo_OD W p M D L P h) := by
  exact ⟨zo_W p M D L, rfl⟩
theorem zo_ow_ok {w : zq_Wd} (x_OD : zj_is w 324 (fun q => zo_OD (q 0) (q 1) (q 2) (q 3) (q 4))) : zq_okG1 w zo_ow := by
  refine ⟨rfl, rfl, zu_fac ⟨rfl, by decide⟩ zq_fan, ?_⟩
  intro r P h H hM
  obtain ⟨hT, hC, hF, hS, -, hK⟩ := hM
  have c := hC.1
  obtain ⟨y_0, t1⟩ := zo_ow_l (P := P) (h := h) (p := r 0) (M := r 1) (D := r 2) (L := r 3) 
  obtain ⟨rq, hr, w4⟩ : ∃ rq : Nat → Int, (∀ i, i < 4 → rq i = r i) ∧ rq 4 = y_0 := ⟨zq_up r 4 y_0, fun i hi => by rw [zu_up_ne (by omega)], rfl⟩
  have v0 : rq 0 = r 0 := hr 0 (by decide)
  have v1 : rq 1 = r 1 := hr 1 (by decide)
  have v2 : rq 2 = r 2 := hr 2 (by decide)
  have v3 : rq 3 = r 3 := hr 3 (by decide)
  have g0 : zq_ev rq (0, [(4, 1)]) = y_0 := zu_f1 w4
  have g1 : zq_ev rq (0, [(0, 1)]) = r 0 := zu_f1 v0
  have g2 : zq_ev rq (0, [(1, 1)]) = r 1 := zu_f1 v1
  have g3 : zq_ev rq (0, [(2, 1)]) = r 2 := zu_f1 v2
  have g4 : zq_ev rq (0, [(3, 1)]) = r 3 := zu_f1 v3
  exact ⟨_, List.mem_cons_self .., rq, hr, zq_MeS_mk rfl hT (zq_all_nil) zq_fan (zq_fan) rfl (zu_fac ((x_OD _ _ _).mpr (by show zo_OD (zq_ev rq (0, [(4, 1)])) (zq_ev rq (0, [(0, 1)])) (zq_ev rq (0, [(1, 1)])) (zq_ev rq (0, [(2, 1)])) (zq_ev rq (0, [(3, 1)])) P h; simp only [g0, g1, g2, g3, g4]; exact t1)) zq_fan)⟩
noncomputable def zo_sml : zq_S × List zq_S := (([], [], [(-1, [(0, -1)])], [], [], [], [], 1), [([], [], [], [], [], [], [(338, [(0, [(0, 1)]), (-1, [])])], 1)])
theorem zo_sml_l {P : zq_Ty} {h : zq_H} {v : Int} (a1 : 0 ≤ -v - 1) : (zo_SMt v (-1) P h) := by
  show (-1 : Int) = zo_sm v
  unfold zo_sm
  rw [if_pos (by omega)]
theorem zo_sml_ok {w : zq_Wd} (x_SM : zj_is w 338 (fun q => zo_SMt (q 0) (q 1))) : zq_okG1 w zo_sml := by
  refine ⟨rfl, rfl, zu_fac ⟨rfl, by decide⟩ zq_fan, ?_⟩
  intro r P h H hM
  have q0 : zq_ev r (-1, [(0, -1)]) = -r 0 - 1 := zu_e6 _ _ _
  obtain ⟨hT, hC, hF, hS, -, hK⟩ := hM
  have c := hC.1
  have a1 := zq_all_1 c
  rw [q0] at a1
  obtain t1 := zo_sml_l (P := P) (h := h) (v := r 0) a1
  obtain ⟨rq, hr⟩ : ∃ rq : Nat → Int, (∀ i, i < 1 → rq i = r i) := ⟨r, fun i hi => rfl⟩
  have v0 : rq 0 = r 0 := hr 0 (by decide)
  have g0 : zq_ev rq (0, [(0, 1)]) = r 0 := zu_f1 v0
  have g1 : zq_ev rq (-1, []) = -1 := zu_e0 _ _
  exact ⟨_, List.mem_cons_self .., rq, hr, zq_MeS_mk rfl hT (zq_all_nil) zq_fan (zq_fan) rfl (zu_fac ((x_SM _ _ _).mpr (by show zo_SMt (zq_ev rq (0, [(0, 1)])) (zq_ev rq (-1, [])) P h; simp only [g0, g1]; exact t1)) zq_fan)⟩
noncomputable def zo_smg : zq_S × List zq_S := (([], [], [(-1000001, [(0, 1)])], [], [], [], [], 1), [([], [], [], [], [], [], [(338, [(0, [(0, 1)]), (-1, [])])], 1)])
theorem zo_smg_l {P : zq_Ty} {h : zq_H} {v : Int} (a1 : 0 ≤ v - 1000001) : (zo_SMt v (-1) P h) := by
  show (-1 : Int) = zo_sm v
  unfold zo_sm
  rw [if_pos (by omega)]
theorem zo_smg_ok {w : zq_Wd} (x_SM : zj_is w 338 (fun q => zo_SMt (q 0) (q 1))) : zq_okG1 w zo_smg := by
  refine ⟨rfl, rfl, zu_fac ⟨rfl, by decide⟩ zq_fan, ?_⟩
  intro r P h H hM
  have q0 : zq_ev r (-1000001, [(0, 1)]) = r 0 - 1000001 := zu_e3 _ _ _
  obtain ⟨hT, hC, hF, hS, -, hK⟩ := hM
  have c := hC.1
  have a1 := zq_all_1 c
  rw [q0] at a1
  obtain t1 := zo_smg_l (P := P) (h := h) (v := r 0) a1
  obtain ⟨rq, hr⟩ : ∃ rq : Nat → Int, (∀ i, i < 1 → rq i = r i) := ⟨r, fun i hi => rfl⟩
  have v0 : rq 0 = r 0 := hr 0 (by decide)
  have g0 : zq_ev rq (0, [(0, 1)]) = r 0 := zu_f1 v0
  have g1 : zq_ev rq (-1, []) = -1 := zu_e0 _ _
  exact ⟨_, List.mem_cons_self .., rq, hr, zq_MeS_mk rfl hT (zq_all_nil) zq_fan (zq_fan) rfl (zu_fac ((x_SM _ _ _).mpr (by show zo_SMt (zq_ev rq (0, [(0, 1)])) (zq_ev rq (-1, [])) P h; simp only [g0, g1]; exact t1)) zq_fan)⟩
noncomputable def zo_smi : zq_S × List zq_S := (([], [], [(0, [(0, 1)]), (1000000, [(0, -1)])], [], [], [], [], 1), [([], [], [], [], [], [], [(338, [(0, [(0, 1)]), (0, [(0, 1)])])], 1)])
theorem zo_smi_l {P : zq_Ty} {h : zq_H} {v : Int} (a1 : 0 ≤ v) (a2 : 0 ≤ -v + 1000000) : (zo_SMt v v P h) := by
  exact (zo_sm_i (by omega) (by omega)).symm
theorem zo_smi_ok {w : zq_Wd} (x_SM : zj_is w 338 (fun q => zo_SMt (q 0) (q 1))) : zq_okG1 w zo_smi := by
  refine ⟨rfl, rfl, zu_fac ⟨rfl, by decide⟩ zq_fan, ?_⟩
  intro r P h H hM
  have q0 : zq_ev r (0, [(0, 1)]) = r 0 := zu_e1 _ _
  have q1 : zq_ev r (1000000, [(0, -1)]) = -r 0 + 1000000 := zu_e5 _ _ _
  obtain ⟨hT, hC, hF, hS, -, hK⟩ := hM
  have c := hC.1
  have a1 := zq_all_1 c
  rw [q0] at a1
  have c := zq_all_t c
  have a2 := zq_all_1 c
  rw [q1] at a2
  obtain t1 := zo_smi_l (P := P) (h := h) (v := r 0) a1 a2
  obtain ⟨rq, hr⟩ : ∃ rq : Nat → Int, (∀ i, i < 1 → rq i = r i) := ⟨r, fun i hi => rfl⟩
  have v0 : rq 0 = r 0 := hr 0 (by decide)
  have g0 : zq_ev rq (0, [(0, 1)]) = r 0 := zu_f1 v0
  exact ⟨_, List.mem_cons_self .., rq, hr, zq_MeS_mk rfl hT (zq_all_nil) zq_fan (zq_fan) rfl (zu_fac ((x_SM _ _ _).mpr (by show zo_SMt (zq_ev rq (0, [(0, 1)])) (zq_ev rq (0, [(0, 1)])) P h; simp only [g0]; exact t1)) zq_fan)⟩
noncomputable def zo_rC1 : zq_S × List zq_S := (([], [], [(0, [(16, 1)])], [], [], [], [(338, [(0, [(10, 1)]), (0, [(13, 1)])]), (338, [(0, [(11, 1)]), (0, [(14, 1)])]), (338, [(0, [(12, 1)]), (0, [(15, 1)])]), (304, [(0, [(0, 1)]), (0, [(1, 1)]), (0, [(2, 1)]), (0, [(3, 1)]), (0, [(4, 1)]), (0, [(5, 1)]), (0, [(6, 1)]), (0, [(7, 1)]), (0, [(8, 1)]), (0, [(13, 1)]), (0, [(14, 1)]), (0, [(15, 1)]), (0, [(16, 1)]), (0, [(17, 1)]), (0, [(18, 1)]), (0, [(19, 1)])])], 20), [([], [], [], [], [], [], [(329, [(0, [(0, 1)]), (0, [(1, 1)]), (0, [(2, 1)]), (0, [(3, 1)]), (0, [(4, 1)]), (0, [(5, 1)]), (0, [(6, 1)]), (0, [(7, 1)]), (0, [(8, 1)]), (0, [(9, 1)]), (22, []), (0, [(10, 1)]), (0, [(11, 1)]), (0, [(12, 1)]), (1, []), (0, [(17, 1)]), (0, [(18, 1)]), (0, [(19, 1)]), (0, [(16, 1)])])], 20)])
theorem zo_rC1_l {P : zq_Ty} {h : zq_H} {S m e T f u M n Z L x0 x1 x2 d w p r N i Y : Int} (a1 : 0 ≤ r) (k1 : zo_SMt x0 d P h) (k2 : zo_SMt x1 w P h) (k3 : zo_SMt x2 p P h) (k4 : zk_CM S m e T f u M n Z d w p r N i Y P h) : (zo_OOt S m e T f u M n Z L 22 x0 x1 x2 1 N i Y r P h) := by
  have k1 : d = zo_sm x0 := k1
  have k2 : w = zo_sm x1 := k2
  have k3 : p = zo_sm x2 := k3
  refine ⟨r, N, i, Y, r, Or.inr (Or.inr (Or.inr ⟨by decide, by decide, by decide, rfl, ?_⟩)), Or.inr ⟨by omega, rfl, rfl, rfl, rfl, rfl⟩⟩
  rw [← k1, ← k2, ← k3]
  exact k4
theorem zo_rC1_ok {w : zq_Wd} (x_SM : zj_is w 338 (fun q => zo_SMt (q 0) (q 1))) (x_CM : zj_is w 304 (fun q => zk_CM (q 0) (q 1) (q 2) (q 3) (q 4) (q 5) (q 6) (q 7) (q 8) (q 9) (q 10) (q 11) (q 12) (q 13) (q 14) (q 15))) (x_OO : zj_is w 329 (fun q => zo_OOt (q 0) (q 1) (q 2) (q 3) (q 4) (q 5) (q 6) (q 7) (q 8) (q 9) (q 10) (q 11) (q 12) (q 13) (q 14) (q 15) (q 16) (q 17) (q 18))) : zq_okG1 w zo_rC1 := by
  refine ⟨rfl, rfl, zu_fac ⟨rfl, by decide⟩ zq_fan, ?_⟩
  intro r P h H hM
  have q0 : zq_ev r (0, [(16, 1)]) = r 16 := zu_e1 _ _
  have q1 : zq_ev r (0, [(10, 1)]) = r 10 := zu_e1 _ _
  have q2 : zq_ev r (0, [(13, 1)]) = r 13 := zu_e1 _ _
  have q3 : zq_ev r (0, [(11, 1)]) = r 11 := zu_e1 _ _
  have q4 : zq_ev r (0, [(14, 1)]) = r 14 := zu_e1 _ _
  have q5 : zq_ev r (0, [(12, 1)]) = r 12 := zu_e1 _ _
  have q6 : zq_ev r (0, [(15, 1)]) = r 15 := zu_e1 _ _
  have q7 : zq_ev r (0, [(0, 1)]) = r 0 := zu_e1 _ _
  have q8 : zq_ev r (0, [(1, 1)]) = r 1 := zu_e1 _ _
  have q9 : zq_ev r (0, [(2, 1)]) = r 2 := zu_e1 _ _
  have q10 : zq_ev r (0, [(3, 1)]) = r 3 := zu_e1 _ _
  have q11 : zq_ev r (0, [(4, 1)]) = r 4 := zu_e1 _ _
  have q12 : zq_ev r (0, [(5, 1)]) = r 5 := zu_e1 _ _
  have q13 : zq_ev r (0, [(6, 1)]) = r 6 := zu_e1 _ _
  have q14 : zq_ev r (0, [(7, 1)]) = r 7 := zu_e1 _ _
  have q15 : zq_ev r (0, [(8, 1)]) = r 8 := zu_e1 _ _
  have q16 : zq_ev r (0, [(17, 1)]) = r 17 := zu_e1 _ _
  have q17 : zq_ev r (0, [(18, 1)]) = r 18 := zu_e1 _ _
  have q18 : zq_ev r (0, [(19, 1)]) = r 19 := zu_e1 _ _
  obtain ⟨hT, hC, hF, hS, -, hK⟩ := hM
  have c := hC.1
  have a1 := zq_all_1 c
  rw [q0] at a1
  have k1 := zj_use x_SM (hK)
  have k1 : zo_SMt (zq_ev r (0, [(10, 1)])) (zq_ev r (0, [(13, 1)])) P h := k1
  simp only [q1, q2] at k1
  have k2 := zj_use x_SM (zq_okX_t (hK))
  have k2 : zo_SMt (zq_ev r (0, [(11, 1)])) (zq_ev r (0, [(14, 1)])) P h := k2
  simp only [q3, q4] at k2
  have k3 := zj_use x_SM (zq_okX_t (zq_okX_t (hK)))
  have k3 : zo_SMt (zq_ev r (0, [(12, 1)])) (zq_ev r (0, [(15, 1)])) P h := k3
  simp only [q5, q6] at k3
  have k4 := zj_use x_CM (zq_okX_t (zq_okX_t (zq_okX_t (hK))))
  have k4 : zk_CM (zq_ev r (0, [(0, 1)])) (zq_ev r (0, [(1, 1)])) (zq_ev r (0, [(2, 1)])) (zq_ev r (0, [(3, 1)])) (zq_ev r (0, [(4, 1)])) (zq_ev r (0, [(5, 1)])) (zq_ev r (0, [(6, 1)])) (zq_ev r (0, [(7, 1)])) (zq_ev r (0, [(8, 1)])) (zq_ev r (0, [(13, 1)])) (zq_ev r (0, [(14, 1)])) (zq_ev r (0, [(15, 1)])) (zq_ev r (0, [(16, 1)])) (zq_ev r (0, [(17, 1)])) (zq_ev r (0, [(18, 1)])) (zq_ev r (0, [(19, 1)])) P h := k4
  simp only [q0, q10, q11, q12, q13, q14, q15, q16, q17, q18, q2, q4, q6, q7, q8, q9] at k4
  obtain t1 := zo_rC1_l (P := P) (h := h) (S := r 0) (m := r 1) (e := r 2) (T := r 3) (f := r 4) (u := r 5) (M := r 6) (n := r 7) (Z := r 8) (L := r 9) (x0 := r 10) (x1 := r 11) (x2 := r 12) (d := r 13) (w := r 14) (p := r 15) (r := r 16) (N := r 17) (i := r 18) (Y := r 19) a1 k1 k2 k3 k4
  obtain ⟨rq, hr⟩ : ∃ rq : Nat → Int, (∀ i, i < 20 → rq i = r i) := ⟨r, fun i hi => rfl⟩
  have v0 : rq 0 = r 0 := hr 0 (by decide)
  have v1 : rq 1 = r 1 := hr 1 (by decide)
  have v2 : rq 2 = r 2 := hr 2 (by decide)
  have v3 : rq 3 = r 3 := hr 3 (by decide)
  have v4 : rq 4 = r 4 := hr 4 (by decide)
  have v5 : rq 5 = r 5 := hr 5 (by decide)
  have v6 : rq 6 = r 6 := hr 6 (by decide)
  have v7 : rq 7 = r 7 := hr 7 (by decide)
  have v8 : rq 8 = r 8 := hr 8 (by decide)
  have v9 : rq 9 = r 9 := hr 9 (by decide)
  have v10 : rq 10 = r 10 := hr 10 (by decide)
  have v11 : rq 11 = r 11 := hr 11 (by decide)
  have v12 : rq 12 = r 12 := hr 12 (by decide)
  have v16 : rq 16 = r 16 := hr 16 (by decide)
  have v17 : rq 17 = r 17 := hr 17 (by decide)
  have v18 : rq 18 = r 18 := hr 18 (by decide)
  have v19 : rq 19 = r 19 := hr 19 (by decide)
  have g0 : zq_ev rq (0, [(0, 1)]) = r 0 := zu_f1 v0
  have g1 : zq_ev rq (0, [(1, 1)]) = r 1 := zu_f1 v1
  have g2 : zq_ev rq (0, [(2, 1)]) = r 2 := zu_f1 v2
  have g3 : zq_ev rq (0, [(3, 1)]) = r 3 := zu_f1 v3
  have g4 : zq_ev rq (0, [(4, 1)]) = r 4 := zu_f1 v4
  have g5 : zq_ev rq (0, [(5, 1)]) = r 5 := zu_f1 v5
  have g6 : zq_ev rq (0, [(6, 1)]) = r 6 := zu_f1 v6
  have g7 : zq_ev rq (0, [(7, 1)]) = r 7 := zu_f1 v7
  have g8 : zq_ev rq (0, [(8, 1)]) = r 8 := zu_f1 v8
  have g9 : zq_ev rq (0, [(9, 1)]) = r 9 := zu_f1 v9
  have g10 : zq_ev rq (22, []) = 22 := zu_e0 _ _
  have g11 : zq_ev rq (0, [(10, 1)]) = r 10 := zu_f1 v10
  have g12 : zq_ev rq (0, [(11, 1)]) = r 11 := zu_f1 v11
  have g13 : zq_ev rq (0, [(12, 1)]) = r 12 := zu_f1 v12
  have g14 : zq_ev rq (1, []) = 1 := zu_e0 _ _
  have g15 : zq_ev rq (0, [(17, 1)]) = r 17 := zu_f1 v17
  have g16 : zq_ev rq (0, [(18, 1)]) = r 18 := zu_f1 v18
  have g17 : zq_ev rq (0, [(19, 1)]) = r 19 := zu_f1 v19
  have g18 : zq_ev rq (0, [(16, 1)]) = r 16 := zu_f1 v16
  exact ⟨_, List.mem_cons_self .., rq, hr, zq_MeS_mk rfl hT (zq_all_nil) zq_fan (zq_fan) rfl (zu_fac ((x_OO _ _ _).mpr (by show zo_OOt (zq_ev rq (0, [(0, 1)])) (zq_ev rq (0, [(1, 1)])) (zq_ev rq (0, [(2, 1)])) (zq_ev rq (0, [(3, 1)])) (zq_ev rq (0, [(4, 1)])) (zq_ev rq (0, [(5, 1)])) (zq_ev rq (0, [(6, 1)])) (zq_ev rq (0, [(7, 1)])) (zq_ev rq (0, [(8, 1)])) (zq_ev rq (0, [(9, 1)])) (zq_ev rq (22, [])) (zq_ev rq (0, [(10, 1)])) (zq_ev rq (0, [(11, 1)])) (zq_ev rq (0, [(12, 1)])) (zq_ev rq (1, [])) (zq_ev rq (0, [(17, 1)])) (zq_ev rq (0, [(18, 1)])) (zq_ev rq (0, [(19, 1)])) (zq_ev rq (0, [(16, 1)])) P h; simp only [g0, g1, g10, g11, g12, g13, g14, g15, g16, g17, g18, g2, g3, g4, g5, g6, g7, g8, g9]; exact t1)) zq_fan)⟩
noncomputable def zo_rY1 : zq_S × List zq_S := (([], [], [(0, [(14, 1)])], [], [], [], [(338, [(0, [(10, 1)]), (0, [(12, 1)])]), (338, [(0, [(11, 1)]), (0, [(13, 1)])]), (303, [(0, [(1, 1)]), (0, [(6, 1)]), (0, [(7, 1)]), (0, [(8, 1)]), (0, [(12, 1)]), (0, [(13, 1)]), (1, []), (0, [(14, 1)]), (0, [(15, 1)]), (0, [(16, 1)]), (0, [(17, 1)])])], 18), [([], [], [], [], [], [], [(329, [(0, [(0, 1)]), (0, [(1, 1)]), (0, [(2, 1)]), (0, [(3, 1)]), (0, [(4, 1)]), (0, [(5, 1)]), (0, [(6, 1)]), (0, [(7, 1)]), (0, [(8, 1)]), (0, [(9, 1)]), (25, []), (0, [(10, 1)]), (0, [(11, 1)]), (0, []), (1, []), (0, [(15, 1)]), (0, [(16, 1)]), (0, [(17, 1)]), (0, [(9, 1)])])], 18)])
theorem zo_rY1_l {P : zq_Ty} {h : zq_H} {S m e T f u M n Z L x0 x1 a b r N i Y : Int} (a1 : 0 ≤ r) (k1 : zo_SMt x0 a P h) (k2 : zo_SMt x1 b P h) (k3 : zk_PY m M n Z a b 1 r N i Y P h) : (zo_OOt S m e T f u M n Z L 25 x0 x1 0 1 N i Y L P h) := by
  have k1 : a = zo_sm x0 := k1
  have k2 : b = zo_sm x1 := k2
  refine ⟨r, N, i, Y, L, Or.inr (Or.inr (Or.inl ⟨rfl, rfl, ?_⟩)), Or.inr ⟨by omega, rfl, rfl, rfl, rfl, rfl⟩⟩
  rw [← k1, ← k2]
  exact k3
theorem zo_rY1_ok {w : zq_Wd} (x_SM : zj_is w 338 (fun q => zo_SMt (q 0) (q 1))) (x_PY : zj_is w 303 (fun q => zk_PY (q 0) (q 1) (q 2) (q 3) (q 4) (q 5) (q 6) (q 7) (q 8) (q 9) (q 10))) (x_OO : zj_is w 329 (fun q => zo_OOt (q 0) (q 1) (q 2) (q 3) (q 4) (q 5) (q 6) (q 7) (q 8) (q 9) (q 10) (q 11) (q 12) (q 13) (q 14) (q 15) (q 16) (q 17) (q 18))) : zq_okG1 w zo_rY1 := by
  refine ⟨rfl, rfl, zu_fac ⟨rfl, by decide⟩ zq_fan, ?_⟩
  intro r P h H hM
  have q0 : zq_ev r (0, [(14, 1)]) = r 14 := zu_e1 _ _
  have q1 : zq_ev r (0, [(10, 1)]) = r 10 := zu_e1 _ _
  have q2 : zq_ev r (0, [(12, 1)]) = r 12 := zu_e1 _ _
  have q3 : zq_ev r (0, [(11, 1)]) = r 11 := zu_e1 _ _
  have q4 : zq_ev r (0, [(13, 1)]) = r 13 := zu_e1 _ _
  have q5 : zq_ev r (0, [(1, 1)]) = r 1 := zu_e1 _ _
  have q6 : zq_ev r (0, [(6, 1)]) = r 6 := zu_e1 _ _
  have q7 : zq_ev r (0, [(7, 1)]) = r 7 := zu_e1 _ _
  have q8 : zq_ev r (0, [(8, 1)]) = r 8 := zu_e1 _ _
  have q9 : zq_ev r (1, []) = 1 := zu_e0 _ _
  have q10 : zq_ev r (0, [(15, 1)]) = r 15 := zu_e1 _ _
  have q11 : zq_ev r (0, [(16, 1)]) = r 16 := zu_e1 _ _
  have q12 : zq_ev r (0, [(17, 1)]) = r 17 := zu_e1 _ _
  obtain ⟨hT, hC, hF, hS, -, hK⟩ := hM
  have c := hC.1
  have a1 := zq_all_1 c
  rw [q0] at a1
  have k1 := zj_use x_SM (hK)
  have k1 : zo_SMt (zq_ev r (0, [(10, 1)])) (zq_ev r (0, [(12, 1)])) P h := k1
  simp only [q1, q2] at k1
  have k2 := zj_use x_SM (zq_okX_t (hK))
  have k2 : zo_SMt (zq_ev r (0, [(11, 1)])) (zq_ev r (0, [(13, 1)])) P h := k2
  simp only [q3, q4] at k2
  have k3 := zj_use x_PY (zq_okX_t (zq_okX_t (hK)))
  have k3 : zk_PY (zq_ev r (0, [(1, 1)])) (zq_ev r (0, [(6, 1)])) (zq_ev r (0, [(7, 1)])) (zq_ev r (0, [(8, 1)])) (zq_ev r (0, [(12, 1)])) (zq_ev r (0, [(13, 1)])) (zq_ev r (1, [])) (zq_ev r (0, [(14, 1)])) (zq_ev r (0, [(15, 1)])) (zq_ev r (0, [(16, 1)])) (zq_ev r (0, [(17, 1)])) P h := k3
  simp only [q0, q10, q11, q12, q2, q4, q5, q6, q7, q8, q9] at k3
  obtain t1 := zo_rY1_l (P := P) (h := h) (S := r 0) (m := r 1) (e := r 2) (T := r 3) (f := r 4) (u := r 5) (M := r 6) (n := r 7) (Z := r 8) (L := r 9) (x0 := r 10) (x1 := r 11) (a := r 12) (b := r 13) (r := r 14) (N := r 15) (i := r 16) (Y := r 17) a1 k1 k2 k3
  obtain ⟨rq, hr⟩ : ∃ rq : Nat → Int, (∀ i, i < 18 → rq i = r i) := ⟨r, fun i hi => rfl⟩
  have v0 : rq 0 = r 0 := hr 0 (by decide)
  have v1 : rq 1 = r 1 := hr 1 (by decide)
  have v2 : rq 2 = r 2 := hr 2 (by decide)
  have v3 : rq 3 = r 3 := hr 3 (by decide)
  have v4 : rq 4 = r 4 := hr 4 (by decide)
  have v5 : rq 5 = r 5 := hr 5 (by decide)
  have v6 : rq 6 = r 6 := hr 6 (by decide)
  have v7 : rq 7 = r 7 := hr 7 (by decide)
  have v8 : rq 8 = r 8 := hr 8 (by decide)
  have v9 : rq 9 = r 9 := hr 9 (by decide)
  have v10 : rq 10 = r 10 := hr 10 (by decide)
  have v11 : rq 11 = r 11 := hr 11 (by decide)
  have v15 : rq 15 = r 15 := hr 15 (by decide)
  have v16 : rq 16 = r 16 := hr 16 (by decide)
  have v17 : rq 17 = r 17 := hr 17 (by decide)
  have g0 : zq_ev rq (0, [(0, 1)]) = r 0 := zu_f1 v0
  have g1 : zq_ev rq (0, [(1, 1)]) = r 1 := zu_f1 v1
  have g2 : zq_ev rq (0, [(2, 1)]) = r 2 := zu_f1 v2
  have g3 : zq_ev rq (0, [(3, 1)]) = r 3 := zu_f1 v3
  have g4 : zq_ev rq (0, [(4, 1)]) = r 4 := zu_f1 v4
  have g5 : zq_ev rq (0, [(5, 1)]) = r 5 := zu_f1 v5
  have g6 : zq_ev rq (0, [(6, 1)]) = r 6 := zu_f1 v6
  have g7 : zq_ev rq (0, [(7, 1)]) = r 7 := zu_f1 v7
  have g8 : zq_ev rq (0, [(8, 1)]) = r 8 := zu_f1 v8
  have g9 : zq_ev rq (0, [(9, 1)]) = r 9 := zu_f1 v9
  have g10 : zq_ev rq (25, []) = 25 := zu_e0 _ _
  have g11 : zq_ev rq (0, [(10, 1)]) = r 10 := zu_f1 v10
  have g12 : zq_ev rq (0, [(11, 1)]) = r 11 := zu_f1 v11
  have g13 : zq_ev rq (0, []) = 0 := zu_e0 _ _
  have g14 : zq_ev rq (1, []) = 1 := zu_e0 _ _
  have g15 : zq_ev rq (0, [(15, 1)]) = r 15 := zu_f1 v15
  have g16 : zq_ev rq (0, [(16, 1)]) = r 16 := zu_f1 v16
  have g17 : zq_ev rq (0, [(17, 1)]) = r 17 := zu_f1 v17
  exact ⟨_, List.mem_cons_self .., rq, hr, zq_MeS_mk rfl hT (zq_all_nil) zq_fan (zq_fan) rfl (zu_fac ((x_OO _ _ _).mpr (by show zo_OOt (zq_ev rq (0, [(0, 1)])) (zq_ev rq (0, [(1, 1)])) (zq_ev rq (0, [(2, 1)])) (zq_ev rq (0, [(3, 1)])) (zq_ev rq (0, [(4, 1)])) (zq_ev rq (0, [(5, 1)])) (zq_ev rq (0, [(6, 1)])) (zq_ev rq (0, [(7, 1)])) (zq_ev rq (0, [(8, 1)])) (zq_ev rq (0, [(9, 1)])) (zq_ev rq (25, [])) (zq_ev rq (0, [(10, 1)])) (zq_ev rq (0, [(11, 1)])) (zq_ev rq (0, [])) (zq_ev rq (1, [])) (zq_ev rq (0, [(15, 1)])) (zq_ev rq (0, [(16, 1)])) (zq_ev rq (0, [(17, 1)])) (zq_ev rq (0, [(9, 1)])) P h; simp only [g0, g1, g10, g11, g12, g13, g14, g15, g16, g17, g2, g3, g4, g5, g6, g7, g8, g9]; exact t1)) zq_fan)⟩
noncomputable def zo_rW1 : zq_S × List zq_S := (([], [], [(0, [(13, 1)]), (0, [(11, 1)]), (3, [(11, -1)]), (0, [(12, 1)]), (6, [(12, -1)]), (1, [(12, -1), (17, 1), (18, -7)]), (-1, [(12, 1), (17, -1), (18, 7)])], [], [], [], [(338, [(0, [(10, 1)]), (0, [(11, 1)])]), (301, [(0, [(6, 1)]), (0, [(7, 1)]), (0, [(8, 1)]), (0, [(11, 1)]), (0, [(12, 1)]), (0, [(13, 1)]), (0, [(14, 1)]), (0, [(15, 1)]), (0, [(16, 1)])]), (134, [(0, [(6, 1)]), (6, [(11, 1)]), (0, [(17, 1)])])], 19), [([], [], [], [], [], [], [(329, [(0, [(0, 1)]), (0, [(1, 1)]), (0, [(2, 1)]), (0, [(3, 1)]), (0, [(4, 1)]), (0, [(5, 1)]), (0, [(6, 1)]), (0, [(7, 1)]), (0, [(8, 1)]), (0, [(9, 1)]), (27, []), (0, [(10, 1)]), (0, []), (0, []), (1, []), (0, [(14, 1)]), (0, [(15, 1)]), (0, [(16, 1)]), (0, [(9, 1)])])], 19)])
theorem zo_rW1_l {P : zq_Ty} {h : zq_H} {S m e T f u M n Z L x0 q c r N i Y v k : Int} (a1 : 0 ≤ r) (a2 : 0 ≤ q) (a3 : 0 ≤ -q + 3) (a4 : 0 ≤ c) (a5 : 0 ≤ -c + 6) (a6 : 0 ≤ -c + v - 7 * k + 1) (a7 : 0 ≤ c - v + 7 * k - 1) (k1 : zo_SMt x0 q P h) (k2 : zk_WN M n Z q c r N i Y P h) (k3 : zn_DG M (q + 6) v P h) : (zo_OOt S m e T f u M n Z L 27 x0 0 0 1 N i Y L P h) := by
  have k1 : q = zo_sm x0 := k1
  have k3 : v = zn_dg M (q + 6) := k3
  refine ⟨r, N, i, Y, L, Or.inr (Or.inl ⟨rfl, rfl, ?_⟩), Or.inr ⟨by omega, rfl, rfl, rfl, rfl, rfl⟩⟩
  rw [← k1, if_pos (by omega), show 6 + q = q + 6 by omega, ← k3, show (v + 1) % 7 = c by omega]
  exact k2
theorem zo_rW1_ok {w : zq_Wd} (x_SM : zj_is w 338 (fun q => zo_SMt (q 0) (q 1))) (x_WN : zj_is w 301 (fun q => zk_WN (q 0) (q 1) (q 2) (q 3) (q 4) (q 5) (q 6) (q 7) (q 8))) (x_DG : zj_is w 134 (fun q => zn_DG (q 0) (q 1) (q 2))) (x_OO : zj_is w 329 (fun q => zo_OOt (q 0) (q 1) (q 2) (q 3) (q 4) (q 5) (q 6) (q 7) (q 8) (q 9) (q 10) (q 11) (q 12) (q 13) (q 14) (q 15) (q 16) (q 17) (q 18))) : zq_okG1 w zo_rW1 := by
  refine ⟨rfl, rfl, zu_fac ⟨rfl, by decide⟩ zq_fan, ?_⟩
  intro r P h H hM
  have q0 : zq_ev r (0, [(13, 1)]) = r 13 := zu_e1 _ _
  have q1 : zq_ev r (0, [(11, 1)]) = r 11 := zu_e1 _ _
  have q2 : zq_ev r (3, [(11, -1)]) = -r 11 + 3 := zu_e5 _ _ _
  have q3 : zq_ev r (0, [(12, 1)]) = r 12 := zu_e1 _ _
  have q4 : zq_ev r (6, [(12, -1)]) = -r 12 + 6 := zu_e5 _ _ _
  have q5 : zq_ev r (1, [(12, -1), (17, 1), (18, -7)]) = -r 12 + r 17 - 7 * r 18 + 1 := by simp only [zq_ev, zq_ts] <;> omega
  have q6 : zq_ev r (-1, [(12, 1), (17, -1), (18, 7)]) = r 12 - r 17 + 7 * r 18 - 1 := by simp only [zq_ev, zq_ts] <;> omega
  have q7 : zq_ev r (0, [(10, 1)]) = r 10 := zu_e1 _ _
  have q8 : zq_ev r (0, [(6, 1)]) = r 6 := zu_e1 _ _
  have q9 : zq_ev r (0, [(7, 1)]) = r 7 := zu_e1 _ _
  have q10 : zq_ev r (0, [(8, 1)]) = r 8 := zu_e1 _ _
  have q11 : zq_ev r (0, [(14, 1)]) = r 14 := zu_e1 _ _
  have q12 : zq_ev r (0, [(15, 1)]) = r 15 := zu_e1 _ _
  have q13 : zq_ev r (0, [(16, 1)]) = r 16 := zu_e1 _ _
  have q14 : zq_ev r (6, [(11, 1)]) = r 11 + 6 := zu_e2 _ _ _
  have q15 : zq_ev r (0, [(17, 1)]) = r 17 := zu_e1 _ _
  obtain ⟨hT, hC, hF, hS, -, hK⟩ := hM
  have c := hC.1
  have a1 := zq_all_1 c
  rw [q0] at a1
  have c := zq_all_t c
  have a2 := zq_all_1 c
  rw [q1] at a2
  have c := zq_all_t c
  have a3 := zq_all_1 c
  rw [q2] at a3
  have c := zq_all_t c
  have a4 := zq_all_1 c
  rw [q3] at a4
  have c := zq_all_t c
  have a5 := zq_all_1 c
  rw [q4] at a5
  have c := zq_all_t c
  have a6 := zq_all_1 c
  rw [q5] at a6
  have c := zq_all_t c
  have a7 := zq_all_1 c
  rw [q6] at a7
  have k1 := zj_use x_SM (hK)
  have k1 : zo_SMt (zq_ev r (0, [(10, 1)])) (zq_ev r (0, [(11, 1)])) P h := k1
  simp only [q1, q7] at k1
  have k2 := zj_use x_WN (zq_okX_t (hK))
  have k2 : zk_WN (zq_ev r (0, [(6, 1)])) (zq_ev r (0, [(7, 1)])) (zq_ev r (0, [(8, 1)])) (zq_ev r (0, [(11, 1)])) (zq_ev r (0, [(12, 1)])) (zq_ev r (0, [(13, 1)])) (zq_ev r (0, [(14, 1)])) (zq_ev r (0, [(15, 1)])) (zq_ev r (0, [(16, 1)])) P h := k2
  simp only [q0, q1, q10, q11, q12, q13, q3, q8, q9] at k2
  have k3 := zj_use x_DG (zq_okX_t (zq_okX_t (hK)))
  have k3 : zn_DG (zq_ev r (0, [(6, 1)])) (zq_ev r (6, [(11, 1)])) (zq_ev r (0, [(17, 1)])) P h := k3
  simp only [q14, q15, q8] at k3
  obtain t1 := zo_rW1_l (P := P) (h := h) (S := r 0) (m := r 1) (e := r 2) (T := r 3) (f := r 4) (u := r 5) (M := r 6) (n := r 7) (Z := r 8) (L := r 9) (x0 := r 10) (q := r 11) (c := r 12) (r := r 13) (N := r 14) (i := r 15) (Y := r 16) (v := r 17) (k := r 18) a1 a2 a3 a4 a5 a6 a7 k1 k2 k3
  obtain ⟨rq, hr⟩ : ∃ rq : Nat → Int, (∀ i, i < 19 → rq i = r i) := ⟨r, fun i hi => rfl⟩
  have v0 : rq 0 = r 0 := hr 0 (by decide)
  have v1 : rq 1 = r 1 := hr 1 (by decide)
  have v2 : rq 2 = r 2 := hr 2 (by decide)
  have v3 : rq 3 = r 3 := hr 3 (by decide)
  have v4 : rq 4 = r 4 := hr 4 (by decide)
  have v5 : rq 5 = r 5 := hr 5 (by decide)
  have v6 : rq 6 = r 6 := hr 6 (by decide)
  have v7 : rq 7 = r 7 := hr 7 (by decide)
  have v8 : rq 8 = r 8 := hr 8 (by decide)
  have v9 : rq 9 = r 9 := hr 9 (by decide)
  have v10 : rq 10 = r 10 := hr 10 (by decide)
  have v14 : rq 14 = r 14 := hr 14 (by decide)
  have v15 : rq 15 = r 15 := hr 15 (by decide)
  have v16 : rq 16 = r 16 := hr 16 (by decide)
  have g0 : zq_ev rq (0, [(0, 1)]) = r 0 := zu_f1 v0
  have g1 : zq_ev rq (0, [(1, 1)]) = r 1 := zu_f1 v1
  have g2 : zq_ev rq (0, [(2, 1)]) = r 2 := zu_f1 v2
  have g3 : zq_ev rq (0, [(3, 1)]) = r 3 := zu_f1 v3
  have g4 : zq_ev rq (0, [(4, 1)]) = r 4 := zu_f1 v4
  have g5 : zq_ev rq (0, [(5, 1)]) = r 5 := zu_f1 v5
  have g6 : zq_ev rq (0, [(6, 1)]) = r 6 := zu_f1 v6
  have g7 : zq_ev rq (0, [(7, 1)]) = r 7 := zu_f1 v7
  have g8 : zq_ev rq (0, [(8, 1)]) = r 8 := zu_f1 v8
  have g9 : zq_ev rq (0, [(9, 1)]) = r 9 := zu_f1 v9
  have g10 : zq_ev rq (27, []) = 27 := zu_e0 _ _
  have g11 : zq_ev rq (0, [(10, 1)]) = r 10 := zu_f1 v10
  have g12 : zq_ev rq (0, []) = 0 := zu_e0 _ _
  have g13 : zq_ev rq (1, []) = 1 := zu_e0 _ _
  have g14 : zq_ev rq (0, [(14, 1)]) = r 14 := zu_f1 v14
  have g15 : zq_ev rq (0, [(15, 1)]) = r 15 := zu_f1 v15
  have g16 : zq_ev rq (0, [(16, 1)]) = r 16 := zu_f1 v16
  exact ⟨_, List.mem_cons_self .., rq, hr, zq_MeS_mk rfl hT (zq_all_nil) zq_fan (zq_fan) rfl (zu_fac ((x_OO _ _ _).mpr (by show zo_OOt (zq_ev rq (0, [(0, 1)])) (zq_ev rq (0, [(1, 1)])) (zq_ev rq (0, [(2, 1)])) (zq_ev rq (0, [(3, 1)])) (zq_ev rq (0, [(4, 1)])) (zq_ev rq (0, [(5, 1)])) (zq_ev rq (0, [(6, 1)])) (zq_ev rq (0, [(7, 1)])) (zq_ev rq (0, [(8, 1)])) (zq_ev rq (0, [(9, 1)])) (zq_ev rq (27, [])) (zq_ev rq (0, [(10, 1)])) (zq_ev rq (0, [])) (zq_ev rq (0, [])) (zq_ev rq (1, [])) (zq_ev rq (0, [(14, 1)])) (zq_ev rq (0, [(15, 1)])) (zq_ev rq (0, [(16, 1)])) (zq_ev rq (0, [(9, 1)])) P h; simp only [g0, g1, g10, g11, g12, g13, g14, g15, g16, g2, g3, g4, g5, g6, g7, g8, g9]; exact t1)) zq_fan)⟩
noncomputable def zo_rC0 : zq_S × List zq_S := (([], [], [(-1, [(16, -1)])], [], [], [], [(338, [(0, [(10, 1)]), (0, [(13, 1)])]), (338, [(0, [(11, 1)]), (0, [(14, 1)])]), (338, [(0, [(12, 1)]), (0, [(15, 1)])]), (304, [(0, [(0, 1)]), (0, [(1, 1)]), (0, [(2, 1)]), (0, [(3, 1)]), (0, [(4, 1)]), (0, [(5, 1)]), (0, [(6, 1)]), (0, [(7, 1)]), (0, [(8, 1)]), (0, [(13, 1)]), (0, [(14, 1)]), (0, [(15, 1)]), (0, [(16, 1)]), (0, [(17, 1)]), (0, [(18, 1)]), (0, [(19, 1)])])], 20), [([], [], [], [], [], [], [(329, [(0, [(0, 1)]), (0, [(1, 1)]), (0, [(2, 1)]), (0, [(3, 1)]), (0, [(4, 1)]), (0, [(5, 1)]), (0, [(6, 1)]), (0, [(7, 1)]), (0, [(8, 1)]), (0, [(9, 1)]), (22, []), (0, [(10, 1)]), (0, [(11, 1)]), (0, [(12, 1)]), (0, []), (0, []), (0, []), (0, []), (0, [])])], 20)])
theorem zo_rC0_l {P : zq_Ty} {h : zq_H} {S m e T f u M n Z L x0 x1 x2 d w p r N i Y : Int} (a1 : 0 ≤ -r - 1) (k1 : zo_SMt x0 d P h) (k2 : zo_SMt x1 w P h) (k3 : zo_SMt x2 p P h) (k4 : zk_CM S m e T f u M n Z d w p r N i Y P h) : (zo_OOt S m e T f u M n Z L 22 x0 x1 x2 0 0 0 0 0 P h) := by
  have k1 : d = zo_sm x0 := k1
  have k2 : w = zo_sm x1 := k2
  have k3 : p = zo_sm x2 := k3
  refine ⟨r, N, i, Y, r, Or.inr (Or.inr (Or.inr ⟨by decide, by decide, by decide, rfl, ?_⟩)), Or.inl ⟨by omega, rfl, rfl, rfl, rfl, rfl⟩⟩
  rw [← k1, ← k2, ← k3]
  exact k4
theorem zo_rC0_ok {w : zq_Wd} (x_SM : zj_is w 338 (fun q => zo_SMt (q 0) (q 1))) (x_CM : zj_is w 304 (fun q => zk_CM (q 0) (q 1) (q 2) (q 3) (q 4) (q 5) (q 6) (q 7) (q 8) (q 9) (q 10) (q 11) (q 12) (q 13) (q 14) (q 15))) (x_OO : zj_is w 329 (fun q => zo_OOt (q 0) (q 1) (q 2) (q 3) (q 4) (q 5) (q 6) (q 7) (q 8) (q 9) (q 10) (q 11) (q 12) (q 13) (q 14) (q 15) (q 16) (q 17) (q 18))) : zq_okG1 w zo_rC0 := by
  refine ⟨rfl, rfl, zu_fac ⟨rfl, by decide⟩ zq_fan, ?_⟩
  intro r P h H hM
  have q0 : zq_ev r (-1, [(16, -1)]) = -r 16 - 1 := zu_e6 _ _ _
  have q1 : zq_ev r (0, [(10, 1)]) = r 10 := zu_e1 _ _
  have q2 : zq_ev r (0, [(13, 1)]) = r 13 := zu_e1 _ _
  have q3 : zq_ev r (0, [(11, 1)]) = r 11 := zu_e1 _ _
  have q4 : zq_ev r (0, [(14, 1)]) = r 14 := zu_e1 _ _
  have q5 : zq_ev r (0, [(12, 1)]) = r 12 := zu_e1 _ _
  have q6 : zq_ev r (0, [(15, 1)]) = r 15 := zu_e1 _ _
  have q7 : zq_ev r (0, [(0, 1)]) = r 0 := zu_e1 _ _
  have q8 : zq_ev r (0, [(1, 1)]) = r 1 := zu_e1 _ _
  have q9 : zq_ev r (0, [(2, 1)]) = r 2 := zu_e1 _ _
  have q10 : zq_ev r (0, [(3, 1)]) = r 3 := zu_e1 _ _
  have q11 : zq_ev r (0, [(4, 1)]) = r 4 := zu_e1 _ _
  have q12 : zq_ev r (0, [(5, 1)]) = r 5 := zu_e1 _ _
  have q13 : zq_ev r (0, [(6, 1)]) = r 6 := zu_e1 _ _
  have q14 : zq_ev r (0, [(7, 1)]) = r 7 := zu_e1 _ _
  have q15 : zq_ev r (0, [(8, 1)]) = r 8 := zu_e1 _ _
  have q16 : zq_ev r (0, [(16, 1)]) = r 16 := zu_e1 _ _
  have q17 : zq_ev r (0, [(17, 1)]) = r 17 := zu_e1 _ _
  have q18 : zq_ev r (0, [(18, 1)]) = r 18 := zu_e1 _ _
  have q19 : zq_ev r (0, [(19, 1)]) = r 19 := zu_e1 _ _
  obtain ⟨hT, hC, hF, hS, -, hK⟩ := hM
  have c := hC.1
  have a1 := zq_all_1 c
  rw [q0] at a1
  have k1 := zj_use x_SM (hK)
  have k1 : zo_SMt (zq_ev r (0, [(10, 1)])) (zq_ev r (0, [(13, 1)])) P h := k1
  simp only [q1, q2] at k1
  have k2 := zj_use x_SM (zq_okX_t (hK))
  have k2 : zo_SMt (zq_ev r (0, [(11, 1)])) (zq_ev r (0, [(14, 1)])) P h := k2
  simp only [q3, q4] at k2
  have k3 := zj_use x_SM (zq_okX_t (zq_okX_t (hK)))
  have k3 : zo_SMt (zq_ev r (0, [(12, 1)])) (zq_ev r (0, [(15, 1)])) P h := k3
  simp only [q5, q6] at k3
  have k4 := zj_use x_CM (zq_okX_t (zq_okX_t (zq_okX_t (hK))))
  have k4 : zk_CM (zq_ev r (0, [(0, 1)])) (zq_ev r (0, [(1, 1)])) (zq_ev r (0, [(2, 1)])) (zq_ev r (0, [(3, 1)])) (zq_ev r (0, [(4, 1)])) (zq_ev r (0, [(5, 1)])) (zq_ev r (0, [(6, 1)])) (zq_ev r (0, [(7, 1)])) (zq_ev r (0, [(8, 1)])) (zq_ev r (0, [(13, 1)])) (zq_ev r (0, [(14, 1)])) (zq_ev r (0, [(15, 1)])) (zq_ev r (0, [(16, 1)])) (zq_ev r (0, [(17, 1)])) (zq_ev r (0, [(18, 1)])) (zq_ev r (0, [(19, 1)])) P h := k4
  simp only [q10, q11, q12, q13, q14, q15, q16, q17, q18, q19, q2, q4, q6, q7, q8, q9] at k4
  obtain t1 := zo_rC0_l (P := P) (h := h) (S := r 0) (m := r 1) (e := r 2) (T := r 3) (f := r 4) (u := r 5) (M := r 6) (n := r 7) (Z := r 8) (L := r 9) (x0 := r 10) (x1 := r 11) (x2 := r 12) (d := r 13) (w := r 14) (p := r 15) (r := r 16) (N := r 17) (i := r 18) (Y := r 19) a1 k1 k2 k3 k4
  obtain ⟨rq, hr⟩ : ∃ rq : Nat → Int, (∀ i, i < 20 → rq i = r i) := ⟨r, fun i hi => rfl⟩
  have v0 : rq 0 = r 0 := hr 0 (by decide)
  have v1 : rq 1 = r 1 := hr 1 (by decide)
  have v2 : rq 2 = r 2 := hr 2 (by decide)
  have v3 : rq 3 = r 3 := hr 3 (by decide)
  have v4 : rq 4 = r 4 := hr 4 (by decide)
  have v5 : rq 5 = r 5 := hr 5 (by decide)
  have v6 : rq 6 = r 6 := hr 6 (by decide)
  have v7 : rq 7 = r 7 := hr 7 (by decide)
  have v8 : rq 8 = r 8 := hr 8 (by decide)
  have v9 : rq 9 = r 9 := hr 9 (by decide)
  have v10 : rq 10 = r 10 := hr 10 (by decide)
  have v11 : rq 11 = r 11 := hr 11 (by decide)
  have v12 : rq 12 = r 12 := hr 12 (by decide)
  have g0 : zq_ev rq (0, [(0, 1)]) = r 0 := zu_f1 v0
  have g1 : zq_ev rq (0, [(1, 1)]) = r 1 := zu_f1 v1
  have g2 : zq_ev rq (0, [(2, 1)]) = r 2 := zu_f1 v2
  have g3 : zq_ev rq (0, [(3, 1)]) = r 3 := zu_f1 v3
  have g4 : zq_ev rq (0, [(4, 1)]) = r 4 := zu_f1 v4
  have g5 : zq_ev rq (0, [(5, 1)]) = r 5 := zu_f1 v5
  have g6 : zq_ev rq (0, [(6, 1)]) = r 6 := zu_f1 v6
  have g7 : zq_ev rq (0, [(7, 1)]) = r 7 := zu_f1 v7
  have g8 : zq_ev rq (0, [(8, 1)]) = r 8 := zu_f1 v8
  have g9 : zq_ev rq (0, [(9, 1)]) = r 9 := zu_f1 v9
  have g10 : zq_ev rq (22, []) = 22 := zu_e0 _ _
  have g11 : zq_ev rq (0, [(10, 1)]) = r 10 := zu_f1 v10
  have g12 : zq_ev rq (0, [(11, 1)]) = r 11 := zu_f1 v11
  have g13 : zq_ev rq (0, [(12, 1)]) = r 12 := zu_f1 v12
  have g14 : zq_ev rq (0, []) = 0 := zu_e0 _ _
  exact ⟨_, List.mem_cons_self .., rq, hr, zq_MeS_mk rfl hT (zq_all_nil) zq_fan (zq_fan) rfl (zu_fac ((x_OO _ _ _).mpr (by show zo_OOt (zq_ev rq (0, [(0, 1)])) (zq_ev rq (0, [(1, 1)])) (zq_ev rq (0, [(2, 1)])) (zq_ev rq (0, [(3, 1)])) (zq_ev rq (0, [(4, 1)])) (zq_ev rq (0, [(5, 1)])) (zq_ev rq (0, [(6, 1)])) (zq_ev rq (0, [(7, 1)])) (zq_ev rq (0, [(8, 1)])) (zq_ev rq (0, [(9, 1)])) (zq_ev rq (22, [])) (zq_ev rq (0, [(10, 1)])) (zq_ev rq (0, [(11, 1)])) (zq_ev rq (0, [(12, 1)])) (zq_ev rq (0, [])) (zq_ev rq (0, [])) (zq_ev rq (0, [])) (zq_ev rq (0, [])) (zq_ev rq (0, [])) P h; simp only [g0, g1, g10, g11, g12, g13, g14, g2, g3, g4, g5, g6, g7, g8, g9]; exact t1)) zq_fan)⟩
noncomputable def zo_rY0 : zq_S × List zq_S := (([], [], [(-1, [(14, -1)])], [], [], [], [(338, [(0, [(10, 1)]), (0, [(12, 1)])]), (338, [(0, [(11, 1)]), (0, [(13, 1)])]), (303, [(0, [(1, 1)]), (0, [(6, 1)]), (0, [(7, 1)]), (0, [(8, 1)]), (0, [(12, 1)]), (0, [(13, 1)]), (1, []), (0, [(14, 1)]), (0, [(15, 1)]), (0, [(16, 1)]), (0, [(17, 1)])])], 18), [([], [], [], [], [], [], [(329, [(0, [(0, 1)]), (0, [(1, 1)]), (0, [(2, 1)]), (0, [(3, 1)]), (0, [(4, 1)]), (0, [(5, 1)]), (0, [(6, 1)]), (0, [(7, 1)]), (0, [(8, 1)]), (0, [(9, 1)]), (25, []), (0, [(10, 1)]), (0, [(11, 1)]), (0, []), (0, []), (0, []), (0, []), (0, []), (0, [])])], 18)])
theorem zo_rY0_l {P : zq_Ty} {h : zq_H} {S m e T f u M n Z L x0 x1 a b r N i Y : Int} (a1 : 0 ≤ -r - 1) (k1 : zo_SMt x0 a P h) (k2 : zo_SMt x1 b P h) (k3 : zk_PY m M n Z a b 1 r N i Y P h) : (zo_OOt S m e T f u M n Z L 25 x0 x1 0 0 0 0 0 0 P h) := by
  have k1 : a = zo_sm x0 := k1
  have k2 : b = zo_sm x1 := k2
  refine ⟨r, N, i, Y, L, Or.inr (Or.inr (Or.inl ⟨rfl, rfl, ?_⟩)), Or.inl ⟨by omega, rfl, rfl, rfl, rfl, rfl⟩⟩
  rw [← k1, ← k2]
  exact k3
theorem zo_rY0_ok {w : zq_Wd} (x_SM : zj_is w 338 (fun q => zo_SMt (q 0) (q 1))) (x_PY : zj_is w 303 (fun q => zk_PY (q 0) (q 1) (q 2) (q 3) (q 4) (q 5) (q 6) (q 7) (q 8) (q 9) (q 10))) (x_OO : zj_is w 329 (fun q => zo_OOt (q 0) (q 1) (q 2) (q 3) (q 4) (q 5) (q 6) (q 7) (q 8) (q 9) (q 10) (q 11) (q 12) (q 13) (q 14) (q 15) (q 16) (q 17) (q 18))) : zq_okG1 w zo_rY0 := by
  refine ⟨rfl, rfl, zu_fac ⟨rfl, by decide⟩ zq_fan, ?_⟩
  intro r P h H hM
  have q0 : zq_ev r (-1, [(14, -1)]) = -r 14 - 1 := zu_e6 _ _ _
  have q1 : zq_ev r (0, [(10, 1)]) = r 10 := zu_e1 _ _
  have q2 : zq_ev r (0, [(12, 1)]) = r 12 := zu_e1 _ _
  have q3 : zq_ev r (0, [(11, 1)]) = r 11 := zu_e1 _ _
  have q4 : zq_ev r (0, [(13, 1)]) = r 13 := zu_e1 _ _
  have q5 : zq_ev r (0, [(1, 1)]) = r 1 := zu_e1 _ _
  have q6 : zq_ev r (0, [(6, 1)]) = r 6 := zu_e1 _ _
  have q7 : zq_ev r (0, [(7, 1)]) = r 7 := zu_e1 _ _
  have q8 : zq_ev r (0, [(8, 1)]) = r 8 := zu_e1 _ _
  have q9 : zq_ev r (1, []) = 1 := zu_e0 _ _
  have q10 : zq_ev r (0, [(14, 1)]) = r 14 := zu_e1 _ _
  have q11 : zq_ev r (0, [(15, 1)]) = r 15 := zu_e1 _ _
  have q12 : zq_ev r (0, [(16, 1)]) = r 16 := zu_e1 _ _
  have q13 : zq_ev r (0, [(17, 1)]) = r 17 := zu_e1 _ _
  obtain ⟨hT, hC, hF, hS, -, hK⟩ := hM
  have c := hC.1
  have a1 := zq_all_1 c
  rw [q0] at a1
  have k1 := zj_use x_SM (hK)
  have k1 : zo_SMt (zq_ev r (0, [(10, 1)])) (zq_ev r (0, [(12, 1)])) P h := k1
  simp only [q1, q2] at k1
  have k2 := zj_use x_SM (zq_okX_t (hK))
  have k2 : zo_SMt (zq_ev r (0, [(11, 1)])) (zq_ev r (0, [(13, 1)])) P h := k2
  simp only [q3, q4] at k2
  have k3 := zj_use x_PY (zq_okX_t (zq_okX_t (hK)))
  have k3 : zk_PY (zq_ev r (0, [(1, 1)])) (zq_ev r (0, [(6, 1)])) (zq_ev r (0, [(7, 1)])) (zq_ev r (0, [(8, 1)])) (zq_ev r (0, [(12, 1)])) (zq_ev r (0, [(13, 1)])) (zq_ev r (1, [])) (zq_ev r (0, [(14, 1)])) (zq_ev r (0, [(15, 1)])) (zq_ev r (0, [(16, 1)])) (zq_ev r (0, [(17, 1)])) P h := k3
  simp only [q10, q11, q12, q13, q2, q4, q5, q6, q7, q8, q9] at k3
  obtain t1 := zo_rY0_l (P := P) (h := h) (S := r 0) (m := r 1) (e := r 2) (T := r 3) (f := r 4) (u := r 5) (M := r 6) (n := r 7) (Z := r 8) (L := r 9) (x0 := r 10) (x1 := r 11) (a := r 12) (b := r 13) (r := r 14) (N := r 15) (i := r 16) (Y := r 17) a1 k1 k2 k3
  obtain ⟨rq, hr⟩ : ∃ rq : Nat → Int, (∀ i, i < 18 → rq i = r i) := ⟨r, fun i hi => rfl⟩
  have v0 : rq 0 = r 0 := hr 0 (by decide)
  have v1 : rq 1 = r 1 := hr 1 (by decide)
  have v2 : rq 2 = r 2 := hr 2 (by decide)
  have v3 : rq 3 = r 3 := hr 3 (by decide)
  have v4 : rq 4 = r 4 := hr 4 (by decide)
  have v5 : rq 5 = r 5 := hr 5 (by decide)
  have v6 : rq 6 = r 6 := hr 6 (by decide)
  have v7 : rq 7 = r 7 := hr 7 (by decide)
  have v8 : rq 8 = r 8 := hr 8 (by decide)
  have v9 : rq 9 = r 9 := hr 9 (by decide)
  have v10 : rq 10 = r 10 := hr 10 (by decide)
  have v11 : rq 11 = r 11 := hr 11 (by decide)
  have g0 : zq_ev rq (0, [(0, 1)]) = r 0 := zu_f1 v0
  have g1 : zq_ev rq (0, [(1, 1)]) = r 1 := zu_f1 v1
  have g2 : zq_ev rq (0, [(2, 1)]) = r 2 := zu_f1 v2
  have g3 : zq_ev rq (0, [(3, 1)]) = r 3 := zu_f1 v3
  have g4 : zq_ev rq (0, [(4, 1)]) = r 4 := zu_f1 v4
  have g5 : zq_ev rq (0, [(5, 1)]) = r 5 := zu_f1 v5
  have g6 : zq_ev rq (0, [(6, 1)]) = r 6 := zu_f1 v6
  have g7 : zq_ev rq (0, [(7, 1)]) = r 7 := zu_f1 v7
  have g8 : zq_ev rq (0, [(8, 1)]) = r 8 := zu_f1 v8
  have g9 : zq_ev rq (0, [(9, 1)]) = r 9 := zu_f1 v9
  have g10 : zq_ev rq (25, []) = 25 := zu_e0 _ _
  have g11 : zq_ev rq (0, [(10, 1)]) = r 10 := zu_f1 v10
  have g12 : zq_ev rq (0, [(11, 1)]) = r 11 := zu_f1 v11
  have g13 : zq_ev rq (0, []) = 0 := zu_e0 _ _
  exact ⟨_, List.mem_cons_self .., rq, hr, zq_MeS_mk rfl hT (zq_all_nil) zq_fan (zq_fan) rfl (zu_fac ((x_OO _ _ _).mpr (by show zo_OOt (zq_ev rq (0, [(0, 1)])) (zq_ev rq (0, [(1, 1)])) (zq_ev rq (0, [(2, 1)])) (zq_ev rq (0, [(3, 1)])) (zq_ev rq (0, [(4, 1)])) (zq_ev rq (0, [(5, 1)])) (zq_ev rq (0, [(6, 1)])) (zq_ev rq (0, [(7, 1)])) (zq_ev rq (0, [(8, 1)])) (zq_ev rq (0, [(9, 1)])) (zq_ev rq (25, [])) (zq_ev rq (0, [(10, 1)])) (zq_ev rq (0, [(11, 1)])) (zq_ev rq (0, [])) (zq_ev rq (0, [])) (zq_ev rq (0, [])) (zq_ev rq (0, [])) (zq_ev rq (0, [])) (zq_ev rq (0, [])) P h; simp only [g0, g1, g10, g11, g12, g13, g2, g3, g4, g5, g6, g7, g8, g9]; exact t1)) zq_fan)⟩
noncomputable def zo_rW0 : zq_S × List zq_S := (([], [], [(-1, [(13, -1)]), (0, [(11, 1)]), (3, [(11, -1)]), (0, [(12, 1)]), (6, [(12, -1)]), (1, [(12, -1), (17, 1), (18, -7)]), (-1, [(12, 1), (17, -1), (18, 7)])], [], [], [], [(338, [(0, [(10, 1)]), (0, [(11, 1)])]), (301, [(0, [(6, 1)]), (0, [(7, 1)]), (0, [(8, 1)]), (0, [(11, 1)]), (0, [(12, 1)]), (0, [(13, 1)]), (0, [(14, 1)]), (0, [(15, 1)]), (0, [(16, 1)])]), (134, [(0, [(6, 1)]), (6, [(11, 1)]), (0, [(17, 1)])])], 19), [([], [], [], [], [], [], [(329, [(0, [(0, 1)]), (0, [(1, 1)]), (0, [(2, 1)]), (0, [(3, 1)]), (0, [(4, 1)]), (0, [(5, 1)]), (0, [(6, 1)]), (0, [(7, 1)]), (0, [(8, 1)]), (0, [(9, 1)]), (27, []), (0, [(10, 1)]), (0, []), (0, []), (0, []), (0, []), (0, []), (0, []), (0, [])])], 19)])
theorem zo_rW0_l {P : zq_Ty} {h : zq_H} {S m e T f u M n Z L x0 q c r N i Y v k : Int} (a1 : 0 ≤ -r - 1) (a2 : 0 ≤ q) (a3 : 0 ≤ -q + 3) (a4 : 0 ≤ c) (a5 : 0 ≤ -c + 6) (a6 : 0 ≤ -c + v - 7 * k + 1) (a7 : 0 ≤ c - v + 7 * k - 1) (k1 : zo_SMt x0 q P h) (k2 : zk_WN M n Z q c r N i Y P h) (k3 : zn_DG M (q + 6) v P h) : (zo_OOt S m e T f u M n Z L 27 x0 0 0 0 0 0 0 0 P h) := by
  have k1 : q = zo_sm x0 := k1
  have k3 : v = zn_dg M (q + 6) := k3
  refine ⟨r, N, i, Y, L, Or.inr (Or.inl ⟨rfl, rfl, ?_⟩), Or.inl ⟨by omega, rfl, rfl, rfl, rfl, rfl⟩⟩
  rw [← k1, if_pos (by omega), show 6 + q = q + 6 by omega, ← k3, show (v + 1) % 7 = c by omega]
  exact k2
theorem zo_rW0_ok {w : zq_Wd} (x_SM : zj_is w 338 (fun q => zo_SMt (q 0) (q 1))) (x_WN : zj_is w 301 (fun q => zk_WN (q 0) (q 1) (q 2) (q 3) (q 4) (q 5) (q 6) (q 7) (q 8))) (x_DG : zj_is w 134 (fun q => zn_DG (q 0) (q 1) (q 2))) (x_OO : zj_is w 329 (fun q => zo_OOt (q 0) (q 1) (q 2) (q 3) (q 4) (q 5) (q 6) (q 7) (q 8) (q 9) (q 10) (q 11) (q 12) (q 13) (q 14) (q 15) (q 16) (q 17) (q 18))) : zq_okG1 w zo_rW0 := by
  refine ⟨rfl, rfl, zu_fac ⟨rfl, by decide⟩ zq_fan, ?_⟩
  intro r P h H hM
  have q0 : zq_ev r (-1, [(13, -1)]) = -r 13 - 1 := zu_e6 _ _ _
  have q1 : zq_ev r (0, [(11, 1)]) = r 11 := zu_e1 _ _
  have q2 : zq_ev r (3, [(11, -1)]) = -r 11 + 3 := zu_e5 _ _ _
  have q3 : zq_ev r (0, [(12, 1)]) = r 12 := zu_e1 _ _
  have q4 : zq_ev r (6, [(12, -1)]) = -r 12 + 6 := zu_e5 _ _ _
  have q5 : zq_ev r (1, [(12, -1), (17, 1), (18, -7)]) = -r 12 + r 17 - 7 * r 18 + 1 := by simp only [zq_ev, zq_ts] <;> omega
  have q6 : zq_ev r (-1, [(12, 1), (17, -1), (18, 7)]) = r 12 - r 17 + 7 * r 18 - 1 := by simp only [zq_ev, zq_ts] <;> omega
  have q7 : zq_ev r (0, [(10, 1)]) = r 10 := zu_e1 _ _
  have q8 : zq_ev r (0, [(6, 1)]) = r 6 := zu_e1 _ _
  have q9 : zq_ev r (0, [(7, 1)]) = r 7 := zu_e1 _ _
  have q10 : zq_ev r (0, [(8, 1)]) = r 8 := zu_e1 _ _
  have q11 : zq_ev r (0, [(13, 1)]) = r 13 := zu_e1 _ _
  have q12 : zq_ev r (0, [(14, 1)]) = r 14 := zu_e1 _ _
  have q13 : zq_ev r (0, [(15, 1)]) = r 15 := zu_e1 _ _
  have q14 : zq_ev r (0, [(16, 1)]) = r 16 := zu_e1 _ _
  have q15 : zq_ev r (6, [(11, 1)]) = r 11 + 6 := zu_e2 _ _ _
  have q16 : zq_ev r (0, [(17, 1)]) = r 17 := zu_e1 _ _
  obtain ⟨hT, hC, hF, hS, -, hK⟩ := hM
  have c := hC.1
  have a1 := zq_all_1 c
  rw [q0] at a1
  have c := zq_all_t c
  have a2 := zq_all_1 c
  rw [q1] at a2
  have c := zq_all_t c
  have a3 := zq_all_1 c
  rw [q2] at a3
  have c := zq_all_t c
  have a4 := zq_all_1 c
  rw [q3] at a4
  have c := zq_all_t c
  have a5 := zq_all_1 c
  rw [q4] at a5
  have c := zq_all_t c
  have a6 := zq_all_1 c
  rw [q5] at a6
  have c := zq_all_t c
  have a7 := zq_all_1 c
  rw [q6] at a7
  have k1 := zj_use x_SM (hK)
  have k1 : zo_SMt (zq_ev r (0, [(10, 1)])) (zq_ev r (0, [(11, 1)])) P h := k1
  simp only [q1, q7] at k1
  have k2 := zj_use x_WN (zq_okX_t (hK))
  have k2 : zk_WN (zq_ev r (0, [(6, 1)])) (zq_ev r (0, [(7, 1)])) (zq_ev r (0, [(8, 1)])) (zq_ev r (0, [(11, 1)])) (zq_ev r (0, [(12, 1)])) (zq_ev r (0, [(13, 1)])) (zq_ev r (0, [(14, 1)])) (zq_ev r (0, [(15, 1)])) (zq_ev r (0, [(16, 1)])) P h := k2
  simp only [q1, q10, q11, q12, q13, q14, q3, q8, q9] at k2
  have k3 := zj_use x_DG (zq_okX_t (zq_okX_t (hK)))
  have k3 : zn_DG (zq_ev r (0, [(6, 1)])) (zq_ev r (6, [(11, 1)])) (zq_ev r (0, [(17, 1)])) P h := k3
  simp only [q15, q16, q8] at k3
  obtain t1 := zo_rW0_l (P := P) (h := h) (S := r 0) (m := r 1) (e := r 2) (T := r 3) (f := r 4) (u := r 5) (M := r 6) (n := r 7) (Z := r 8) (L := r 9) (x0 := r 10) (q := r 11) (c := r 12) (r := r 13) (N := r 14) (i := r 15) (Y := r 16) (v := r 17) (k := r 18) a1 a2 a3 a4 a5 a6 a7 k1 k2 k3
  obtain ⟨rq, hr⟩ : ∃ rq : Nat → Int, (∀ i, i < 19 → rq i = r i) := ⟨r, fun i hi => rfl⟩
  have v0 : rq 0 = r 0 := hr 0 (by decide)
  have v1 : rq 1 = r 1 := hr 1 (by decide)
  have v2 : rq 2 = r 2 := hr 2 (by decide)
  have v3 : rq 3 = r 3 := hr 3 (by decide)
  have v4 : rq 4 = r 4 := hr 4 (by decide)
  have v5 : rq 5 = r 5 := hr 5 (by decide)
  have v6 : rq 6 = r 6 := hr 6 (by decide)
  have v7 : rq 7 = r 7 := hr 7 (by decide)
  have v8 : rq 8 = r 8 := hr 8 (by decide)
  have v9 : rq 9 = r 9 := hr 9 (by decide)
  have v10 : rq 10 = r 10 := hr 10 (by decide)
  have g0 : zq_ev rq (0, [(0, 1)]) = r 0 := zu_f1 v0
  have g1 : zq_ev rq (0, [(1, 1)]) = r 1 := zu_f1 v1
  have g2 : zq_ev rq (0, [(2, 1)]) = r 2 := zu_f1 v2
  have g3 : zq_ev rq (0, [(3, 1)]) = r 3 := zu_f1 v3
  have g4 : zq_ev rq (0, [(4, 1)]) = r 4 := zu_f1 v4
  have g5 : zq_ev rq (0, [(5, 1)]) = r 5 := zu_f1 v5
  have g6 : zq_ev rq (0, [(6, 1)]) = r 6 := zu_f1 v6
  have g7 : zq_ev rq (0, [(7, 1)]) = r 7 := zu_f1 v7
  have g8 : zq_ev rq (0, [(8, 1)]) = r 8 := zu_f1 v8
  have g9 : zq_ev rq (0, [(9, 1)]) = r 9 := zu_f1 v9
  have g10 : zq_ev rq (27, []) = 27 := zu_e0 _ _
  have g11 : zq_ev rq (0, [(10, 1)]) = r 10 := zu_f1 v10
  have g12 : zq_ev rq (0, []) = 0 := zu_e0 _ _
  exact ⟨_, List.mem_cons_self .., rq, hr, zq_MeS_mk rfl hT (zq_all_nil) zq_fan (zq_fan) rfl (zu_fac ((x_OO _ _ _).mpr (by show zo_OOt (zq_ev rq (0, [(0, 1)])) (zq_ev rq (0, [(1, 1)])) (zq_ev rq (0, [(2, 1)])) (zq_ev rq (0, [(3, 1)])) (zq_ev rq (0, [(4, 1)])) (zq_ev rq (0, [(5, 1)])) (zq_ev rq (0, [(6, 1)])) (zq_ev rq (0, [(7, 1)])) (zq_ev rq (0, [(8, 1)])) (zq_ev rq (0, [(9, 1)])) (zq_ev rq (27, [])) (zq_ev rq (0, [(10, 1)])) (zq_ev rq (0, [])) (zq_ev rq (0, [])) (zq_ev rq (0, [])) (zq_ev rq (0, [])) (zq_ev rq (0, [])) (zq_ev rq (0, [])) (zq_ev rq (0, [])) P h; simp only [g0, g1, g10, g11, g12, g2, g3, g4, g5, g6, g7, g8, g9]; exact t1)) zq_fan)⟩
noncomputable def zo_rWl : zq_S × List zq_S := (([], [], [(-1, [(11, -1)]), (-1, [(12, -1)])], [], [], [], [(338, [(0, [(10, 1)]), (0, [(11, 1)])]), (301, [(0, [(6, 1)]), (0, [(7, 1)]), (0, [(8, 1)]), (0, [(11, 1)]), (0, []), (0, [(12, 1)]), (0, [(13, 1)]), (0, [(14, 1)]), (0, [(15, 1)])])], 16), [([], [], [], [], [], [], [(329, [(0, [(0, 1)]), (0, [(1, 1)]), (0, [(2, 1)]), (0, [(3, 1)]), (0, [(4, 1)]), (0, [(5, 1)]), (0, [(6, 1)]), (0, [(7, 1)]), (0, [(8, 1)]), (0, [(9, 1)]), (27, []), (0, [(10, 1)]), (0, []), (0, []), (0, []), (0, []), (0, []), (0, []), (0, [])])], 16)])
theorem zo_rWl_l {P : zq_Ty} {h : zq_H} {S m e T f u M n Z L x0 q r N i Y : Int} (a1 : 0 ≤ -q - 1) (a2 : 0 ≤ -r - 1) (k1 : zo_SMt x0 q P h) (k2 : zk_WN M n Z q 0 r N i Y P h) : (zo_OOt S m e T f u M n Z L 27 x0 0 0 0 0 0 0 0 P h) := by
  have k1 : q = zo_sm x0 := k1
  refine ⟨r, N, i, Y, L, Or.inr (Or.inl ⟨rfl, rfl, ?_⟩), Or.inl ⟨by omega, rfl, rfl, rfl, rfl, rfl⟩⟩
  rw [← k1, if_neg (by omega)]
  exact k2
theorem zo_rWl_ok {w : zq_Wd} (x_SM : zj_is w 338 (fun q => zo_SMt (q 0) (q 1))) (x_WN : zj_is w 301 (fun q => zk_WN (q 0) (q 1) (q 2) (q 3) (q 4) (q 5) (q 6) (q 7) (q 8))) (x_OO : zj_is w 329 (fun q => zo_OOt (q 0) (q 1) (q 2) (q 3) (q 4) (q 5) (q 6) (q 7) (q 8) (q 9) (q 10) (q 11) (q 12) (q 13) (q 14) (q 15) (q 16) (q 17) (q 18))) : zq_okG1 w zo_rWl := by
  refine ⟨rfl, rfl, zu_fac ⟨rfl, by decide⟩ zq_fan, ?_⟩
  intro r P h H hM
  have q0 : zq_ev r (-1, [(11, -1)]) = -r 11 - 1 := zu_e6 _ _ _
  have q1 : zq_ev r (-1, [(12, -1)]) = -r 12 - 1 := zu_e6 _ _ _
  have q2 : zq_ev r (0, [(10, 1)]) = r 10 := zu_e1 _ _
  have q3 : zq_ev r (0, [(11, 1)]) = r 11 := zu_e1 _ _
  have q4 : zq_ev r (0, [(6, 1)]) = r 6 := zu_e1 _ _
  have q5 : zq_ev r (0, [(7, 1)]) = r 7 := zu_e1 _ _
  have q6 : zq_ev r (0, [(8, 1)]) = r 8 := zu_e1 _ _
  have q7 : zq_ev r (0, []) = 0 := zu_e0 _ _
  have q8 : zq_ev r (0, [(12, 1)]) = r 12 := zu_e1 _ _
  have q9 : zq_ev r (0, [(13, 1)]) = r 13 := zu_e1 _ _
  have q10 : zq_ev r (0, [(14, 1)]) = r 14 := zu_e1 _ _
  have q11 : zq_ev r (0, [(15, 1)]) = r 15 := zu_e1 _ _
  obtain ⟨hT, hC, hF, hS, -, hK⟩ := hM
  have c := hC.1
  have a1 := zq_all_1 c
  rw [q0] at a1
  have c := zq_all_t c
  have a2 := zq_all_1 c
  rw [q1] at a2
  have k1 := zj_use x_SM (hK)
  have k1 : zo_SMt (zq_ev r (0, [(10, 1)])) (zq_ev r (0, [(11, 1)])) P h := k1
  simp only [q2, q3] at k1
  have k2 := zj_use x_WN (zq_okX_t (hK))
  have k2 : zk_WN (zq_ev r (0, [(6, 1)])) (zq_ev r (0, [(7, 1)])) (zq_ev r (0, [(8, 1)])) (zq_ev r (0, [(11, 1)])) (zq_ev r (0, [])) (zq_ev r (0, [(12, 1)])) (zq_ev r (0, [(13, 1)])) (zq_ev r (0, [(14, 1)])) (zq_ev r (0, [(15, 1)])) P h := k2
  simp only [q10, q11, q3, q4, q5, q6, q7, q8, q9] at k2
  obtain t1 := zo_rWl_l (P := P) (h := h) (S := r 0) (m := r 1) (e := r 2) (T := r 3) (f := r 4) (u := r 5) (M := r 6) (n := r 7) (Z := r 8) (L := r 9) (x0 := r 10) (q := r 11) (r := r 12) (N := r 13) (i := r 14) (Y := r 15) a1 a2 k1 k2
  obtain ⟨rq, hr⟩ : ∃ rq : Nat → Int, (∀ i, i < 16 → rq i = r i) := ⟨r, fun i hi => rfl⟩
  have v0 : rq 0 = r 0 := hr 0 (by decide)
  have v1 : rq 1 = r 1 := hr 1 (by decide)
  have v2 : rq 2 = r 2 := hr 2 (by decide)
  have v3 : rq 3 = r 3 := hr 3 (by decide)
  have v4 : rq 4 = r 4 := hr 4 (by decide)
  have v5 : rq 5 = r 5 := hr 5 (by decide)
  have v6 : rq 6 = r 6 := hr 6 (by decide)
  have v7 : rq 7 = r 7 := hr 7 (by decide)
  have v8 : rq 8 = r 8 := hr 8 (by decide)
  have v9 : rq 9 = r 9 := hr 9 (by decide)
  have v10 : rq 10 = r 10 := hr 10 (by decide)
  have g0 : zq_ev rq (0, [(0, 1)]) = r 0 := zu_f1 v0
  have g1 : zq_ev rq (0, [(1, 1)]) = r 1 := zu_f1 v1
  have g2 : zq_ev rq (0, [(2, 1)]) = r 2 := zu_f1 v2
  have g3 : zq_ev rq (0, [(3, 1)]) = r 3 := zu_f1 v3
  have g4 : zq_ev rq (0, [(4, 1)]) = r 4 := zu_f1 v4
  have g5 : zq_ev rq (0, [(5, 1)]) = r 5 := zu_f1 v5
  have g6 : zq_ev rq (0, [(6, 1)]) = r 6 := zu_f1 v6
  have g7 : zq_ev rq (0, [(7, 1)]) = r 7 := zu_f1 v7
  have g8 : zq_ev rq (0, [(8, 1)]) = r 8 := zu_f1 v8
  have g9 : zq_ev rq (0, [(9, 1)]) = r 9 := zu_f1 v9
  have g10 : zq_ev rq (27, []) = 27 := zu_e0 _ _
  have g11 : zq_ev rq (0, [(10, 1)]) = r 10 := zu_f1 v10
  have g12 : zq_ev rq (0, []) = 0 := zu_e0 _ _
  exact ⟨_, List.mem_cons_self .., rq, hr, zq_MeS_mk rfl hT (zq_all_nil) zq_fan (zq_fan) rfl (zu_fac ((x_OO _ _ _).mpr (by show zo_OOt (zq_ev rq (0, [(0, 1)])) (zq_ev rq (0, [(1, 1)])) (zq_ev rq (0, [(2, 1)])) (zq_ev rq (0, [(3, 1)])) (zq_ev rq (0, [(4, 1)])) (zq_ev rq (0, [(5, 1)])) (zq_ev rq (0, [(6, 1)])) (zq_ev rq (0, [(7, 1)])) (zq_ev rq (0, [(8, 1)])) (zq_ev rq (0, [(9, 1)])) (zq_ev rq (27, [])) (zq_ev rq (0, [(10, 1)])) (zq_ev rq (0, [])) (zq_ev rq (0, [])) (zq_ev rq (0, [])) (zq_ev rq (0, [])) (zq_ev rq (0, [])) (zq_ev rq (0, [])) (zq_ev rq (0, [])) P h; simp only [g0, g1, g10, g11, g12, g2, g3, g4, g5, g6, g7, g8, g9]; exact t1)) zq_fan)⟩
noncomputable def zo_rWg : zq_S × List zq_S := (([], [], [(-4, [(11, 1)]), (-1, [(12, -1)])], [], [], [], [(338, [(0, [(10, 1)]), (0, [(11, 1)])]), (301, [(0, [(6, 1)]), (0, [(7, 1)]), (0, [(8, 1)]), (0, [(11, 1)]), (0, []), (0, [(12, 1)]), (0, [(13, 1)]), (0, [(14, 1)]), (0, [(15, 1)])])], 16), [([], [], [], [], [], [], [(329, [(0, [(0, 1)]), (0, [(1, 1)]), (0, [(2, 1)]), (0, [(3, 1)]), (0, [(4, 1)]), (0, [(5, 1)]), (0, [(6, 1)]), (0, [(7, 1)]), (0, [(8, 1)]), (0, [(9, 1)]), (27, []), (0, [(10, 1)]), (0, []), (0, []), (0, []), (0, []), (0, []), (0, []), (0, [])])], 16)])
theorem zo_rWg_l {P : zq_Ty} {h : zq_H} {S m e T f u M n Z L x0 q r N i Y : Int} (a1 : 0 ≤ q - 4) (a2 : 0 ≤ -r - 1) (k1 : zo_SMt x0 q P h) (k2 : zk_WN M n Z q 0 r N i Y P h) : (zo_OOt S m e T f u M n Z L 27 x0 0 0 0 0 0 0 0 P h) := by
  have k1 : q = zo_sm x0 := k1
  refine ⟨r, N, i, Y, L, Or.inr (Or.inl ⟨rfl, rfl, ?_⟩), Or.inl ⟨by omega, rfl, rfl, rfl, rfl, rfl⟩⟩
  rw [← k1, if_neg (by omega)]
  exact k2
theorem zo_rWg_ok {w : zq_Wd} (x_SM : zj_is w 338 (fun q => zo_SMt (q 0) (q 1))) (x_WN : zj_is w 301 (fun q => zk_WN (q 0) (q 1) (q 2) (q 3) (q 4) (q 5) (q 6) (q 7) (q 8))) (x_OO : zj_is w 329 (fun q => zo_OOt (q 0) (q 1) (q 2) (q 3) (q 4) (q 5) (q 6) (q 7) (q 8) (q 9) (q 10) (q 11) (q 12) (q 13) (q 14) (q 15) (q 16) (q 17) (q 18))) : zq_okG1 w zo_rWg := by
  refine ⟨rfl, rfl, zu_fac ⟨rfl, by decide⟩ zq_fan, ?_⟩
  intro r P h H hM
  have q0 : zq_ev r (-4, [(11, 1)]) = r 11 - 4 := zu_e3 _ _ _
  have q1 : zq_ev r (-1, [(12, -1)]) = -r 12 - 1 := zu_e6 _ _ _
  have q2 : zq_ev r (0, [(10, 1)]) = r 10 := zu_e1 _ _
  have q3 : zq_ev r (0, [(11, 1)]) = r 11 := zu_e1 _ _
  have q4 : zq_ev r (0, [(6, 1)]) = r 6 := zu_e1 _ _
  have q5 : zq_ev r (0, [(7, 1)]) = r 7 := zu_e1 _ _
  have q6 : zq_ev r (0, [(8, 1)]) = r 8 := zu_e1 _ _
  have q7 : zq_ev r (0, []) = 0 := zu_e0 _ _
  have q8 : zq_ev r (0, [(12, 1)]) = r 12 := zu_e1 _ _
  have q9 : zq_ev r (0, [(13, 1)]) = r 13 := zu_e1 _ _
  have q10 : zq_ev r (0, [(14, 1)]) = r 14 := zu_e1 _ _
  have q11 : zq_ev r (0, [(15, 1)]) = r 15 := zu_e1 _ _
  obtain ⟨hT, hC, hF, hS, -, hK⟩ := hM
  have c := hC.1
  have a1 := zq_all_1 c
  rw [q0] at a1
  have c := zq_all_t c
  have a2 := zq_all_1 c
  rw [q1] at a2
  have k1 := zj_use x_SM (hK)
  have k1 : zo_SMt (zq_ev r (0, [(10, 1)])) (zq_ev r (0, [(11, 1)])) P h := k1
  simp only [q2, q3] at k1
  have k2 := zj_use x_WN (zq_okX_t (hK))
  have k2 : zk_WN (zq_ev r (0, [(6, 1)])) (zq_ev r (0, [(7, 1)])) (zq_ev r (0, [(8, 1)])) (zq_ev r (0, [(11, 1)])) (zq_ev r (0, [])) (zq_ev r (0, [(12, 1)])) (zq_ev r (0, [(13, 1)])) (zq_ev r (0, [(14, 1)])) (zq_ev r (0, [(15, 1)])) P h := k2
  simp only [q10, q11, q3, q4, q5, q6, q7, q8, q9] at k2
  obtain t1 := zo_rWg_l (P := P) (h := h) (S := r 0) (m := r 1) (e := r 2) (T := r 3) (f := r 4) (u := r 5) (M := r 6) (n := r 7) (Z := r 8) (L := r 9) (x0 := r 10) (q := r 11) (r := r 12) (N := r 13) (i := r 14) (Y := r 15) a1 a2 k1 k2
  obtain ⟨rq, hr⟩ : ∃ rq : Nat → Int, (∀ i, i < 16 → rq i = r i) := ⟨r, fun i hi => rfl⟩
  have v0 : rq 0 = r 0 := hr 0 (by decide)
  have v1 : rq 1 = r 1 := hr 1 (by decide)
  have v2 : rq 2 = r 2 := hr 2 (by decide)
  have v3 : rq 3 = r 3 := hr 3 (by decide)
  have v4 : rq 4 = r 4 := hr 4 (by decide)
  have v5 : rq 5 = r 5 := hr 5 (by decide)
  have v6 : rq 6 = r 6 := hr 6 (by decide)
  have v7 : rq 7 = r 7 := hr 7 (by decide)
  have v8 : rq 8 = r 8 := hr 8 (by decide)
  have v9 : rq 9 = r 9 := hr 9 (by decide)
  have v10 : rq 10 = r 10 := hr 10 (by decide)
  have g0 : zq_ev rq (0, [(0, 1)]) = r 0 := zu_f1 v0
  have g1 : zq_ev rq (0, [(1, 1)]) = r 1 := zu_f1 v1
  have g2 : zq_ev rq (0, [(2, 1)]) = r 2 := zu_f1 v2
  have g3 : zq_ev rq (0, [(3, 1)]) = r 3 := zu_f1 v3
  have g4 : zq_ev rq (0, [(4, 1)]) = r 4 := zu_f1 v4
  have g5 : zq_ev rq (0, [(5, 1)]) = r 5 := zu_f1 v5
  have g6 : zq_ev rq (0, [(6, 1)]) = r 6 := zu_f1 v6
  have g7 : zq_ev rq (0, [(7, 1)]) = r 7 := zu_f1 v7
  have g8 : zq_ev rq (0, [(8, 1)]) = r 8 := zu_f1 v8
  have g9 : zq_ev rq (0, [(9, 1)]) = r 9 := zu_f1 v9
  have g10 : zq_ev rq (27, []) = 27 := zu_e0 _ _
  have g11 : zq_ev rq (0, [(10, 1)]) = r 10 := zu_f1 v10
  have g12 : zq_ev rq (0, []) = 0 := zu_e0 _ _
  exact ⟨_, List.mem_cons_self .., rq, hr, zq_MeS_mk rfl hT (zq_all_nil) zq_fan (zq_fan) rfl (zu_fac ((x_OO _ _ _).mpr (by show zo_OOt (zq_ev rq (0, [(0, 1)])) (zq_ev rq (0, [(1, 1)])) (zq_ev rq (0, [(2, 1)])) (zq_ev rq (0, [(3, 1)])) (zq_ev rq (0, [(4, 1)])) (zq_ev rq (0, [(5, 1)])) (zq_ev rq (0, [(6, 1)])) (zq_ev rq (0, [(7, 1)])) (zq_ev rq (0, [(8, 1)])) (zq_ev rq (0, [(9, 1)])) (zq_ev rq (27, [])) (zq_ev rq (0, [(10, 1)])) (zq_ev rq (0, [])) (zq_ev rq (0, [])) (zq_ev rq (0, [])) (zq_ev rq (0, [])) (zq_ev rq (0, [])) (zq_ev rq (0, [])) (zq_ev rq (0, [])) P h; simp only [g0, g1, g10, g11, g12, g2, g3, g4, g5, g6, g7, g8, g9]; exact t1)) zq_fan)⟩
noncomputable def zo_q0a : zq_S × List zq_S := (([], [], [(0, [(0, 1)]), (0, [(1, 1)])], [((0, [(0, 1)]), 13), ((0, [(1, 1)]), 12)], [], [], [], 2), [([], [], [], [], [], [], [(339, [(0, [(0, 1)]), (0, [(1, 1)]), (0, [])])], 2)])
theorem zo_q0a_l {P : zq_Ty} {h : zq_H} {a b : Int} (a1 : 0 ≤ a) (a2 : 0 ≤ b) (b1 : 0 ≤ a → P (a).toNat = some 13) (b2 : 0 ≤ b → P (b).toNat = some 12) : (zo_CB 192 13 12 a b 0 P h) := by
  exact zo_CB_0 ⟨a1, b1 a1⟩ ⟨a2, b2 a2⟩
theorem zo_q0a_ok {w : zq_Wd} (x_CPa : zj_is w 339 (fun q => zo_CB 192 13 12 (q 0) (q 1) (q 2))) : zq_okG1 w zo_q0a := by
  refine ⟨rfl, rfl, zu_fac ⟨rfl, by decide⟩ zq_fan, ?_⟩
  intro r P h H hM
  have q0 : zq_ev r (0, [(0, 1)]) = r 0 := zu_e1 _ _
  have q1 : zq_ev r (0, [(1, 1)]) = r 1 := zu_e1 _ _
  obtain ⟨hT, hC, hF, hS, -, hK⟩ := hM
  have c := hC.1
  have a1 := zq_all_1 c
  rw [q0] at a1
  have c := zq_all_t c
  have a2 := zq_all_1 c
  rw [q1] at a2
  have b1 : 0 ≤ r 0 → P (r 0).toNat = some 13 := fun z => by
    have z1 : 0 ≤ zq_ev r (0, [(0, 1)]) := by rw [q0]; exact z
    have z2 := zq_okF_1 (hF) z1
    simp only [q0] at z2
    exact z2
  have b2 : 0 ≤ r 1 → P (r 1).toNat = some 12 := fun z => by
    have z1 : 0 ≤ zq_ev r (0, [(1, 1)]) := by rw [q1]; exact z
    have z2 := zq_okF_1 (zq_okF_t (hF)) z1
    simp only [q1] at z2
    exact z2
  obtain t1 := zo_q0a_l (P := P) (h := h) (a := r 0) (b := r 1) a1 a2 b1 b2
  obtain ⟨rq, hr⟩ : ∃ rq : Nat → Int, (∀ i, i < 2 → rq i = r i) := ⟨r, fun i hi => rfl⟩
  have v0 : rq 0 = r 0 := hr 0 (by decide)
  have v1 : rq 1 = r 1 := hr 1 (by decide)
  have g0 : zq_ev rq (0, [(0, 1)]) = r 0 := zu_f1 v0
  have g1 : zq_ev rq (0, [(1, 1)]) = r 1 := zu_f1 v1
  have g2 : zq_ev rq (0, []) = 0 := zu_e0 _ _
  exact ⟨_, List.mem_cons_self .., rq, hr, zq_MeS_mk rfl hT (zq_all_nil) zq_fan (zq_fan) rfl (zu_fac ((x_CPa _ _ _).mpr (by show zo_CB 192 13 12 (zq_ev rq (0, [(0, 1)])) (zq_ev rq (0, [(1, 1)])) (zq_ev rq (0, [])) P h; simp only [g0, g1, g2]; exact t1)) zq_fan)⟩
noncomputable def zo_q1a : zq_S × List zq_S := (([], [], [(191, [(2, -1)])], [], [((0, [(0, 1)]), (0, [(2, 1)]), (0, [(3, 1)])), ((0, [(1, 1)]), (0, [(2, 1)]), (0, [(3, 1)]))], [], [(339, [(0, [(0, 1)]), (0, [(1, 1)]), (0, [(2, 1)])])], 4), [([], [], [], [], [], [], [(339, [(0, [(0, 1)]), (0, [(1, 1)]), (1, [(2, 1)])])], 4)])
theorem zo_q1a_l {P : zq_Ty} {h : zq_H} {a b l v : Int} (a1 : 0 ≤ -l + 191) (s1 : 0 ≤ a ∧ P (a).toNat ≠ none ∧ h (a).toNat l = v) (s2 : 0 ≤ b ∧ P (b).toNat ≠ none ∧ h (b).toNat l = v) (k1 : zo_CB 192 13 12 a b l P h) : (zo_CB 192 13 12 a b (l + 1) P h) := by
  exact zo_CB_1 (by omega) k1 s1.2.2 s2.2.2
theorem zo_q1a_ok {w : zq_Wd} (x_CPa : zj_is w 339 (fun q => zo_CB 192 13 12 (q 0) (q 1) (q 2))) : zq_okG1 w zo_q1a := by
  refine ⟨rfl, rfl, zu_fac ⟨rfl, by decide⟩ zq_fan, ?_⟩
  intro r P h H hM
  have q0 : zq_ev r (191, [(2, -1)]) = -r 2 + 191 := zu_e5 _ _ _
  have q1 : zq_ev r (0, [(0, 1)]) = r 0 := zu_e1 _ _
  have q2 : zq_ev r (0, [(2, 1)]) = r 2 := zu_e1 _ _
  have q3 : zq_ev r (0, [(3, 1)]) = r 3 := zu_e1 _ _
  have q4 : zq_ev r (0, [(1, 1)]) = r 1 := zu_e1 _ _
  obtain ⟨hT, hC, hF, hS, -, hK⟩ := hM
  have c := hC.1
  have a1 := zq_all_1 c
  rw [q0] at a1
  have s1 := zq_okS_1 (hS)
  simp only [q1, q2, q3] at s1
  have s2 := zq_okS_1 (zq_okS_t (hS))
  simp only [q2, q3, q4] at s2
  have k1 := zj_use x_CPa (hK)
  have k1 : zo_CB 192 13 12 (zq_ev r (0, [(0, 1)])) (zq_ev r (0, [(1, 1)])) (zq_ev r (0, [(2, 1)])) P h := k1
  simp only [q1, q2, q4] at k1
  obtain t1 := zo_q1a_l (P := P) (h := h) (a := r 0) (b := r 1) (l := r 2) (v := r 3) a1 s1 s2 k1
  obtain ⟨rq, hr⟩ : ∃ rq : Nat → Int, (∀ i, i < 4 → rq i = r i) := ⟨r, fun i hi => rfl⟩
  have v0 : rq 0 = r 0 := hr 0 (by decide)
  have v1 : rq 1 = r 1 := hr 1 (by decide)
  have v2 : rq 2 = r 2 := hr 2 (by decide)
  have g0 : zq_ev rq (0, [(0, 1)]) = r 0 := zu_f1 v0
  have g1 : zq_ev rq (0, [(1, 1)]) = r 1 := zu_f1 v1
  have g2 : zq_ev rq (1, [(2, 1)]) = r 2 + 1 := zu_f2 v2 _
  exact ⟨_, List.mem_cons_self .., rq, hr, zq_MeS_mk rfl hT (zq_all_nil) zq_fan (zq_fan) rfl (zu_fac ((x_CPa _ _ _).mpr (by show zo_CB 192 13 12 (zq_ev rq (0, [(0, 1)])) (zq_ev rq (0, [(1, 1)])) (zq_ev rq (1, [(2, 1)])) P h; simp only [g0, g1, g2]; exact t1)) zq_fan)⟩
noncomputable def zo_q2a : zq_S × List zq_S := (([], [], [(-192, [(4, 1)])], [], [], [], [(339, [(0, [(0, 1)]), (0, [(1, 1)]), (0, [(4, 1)])]), (297, [(0, [(1, 1)]), (0, [(2, 1)]), (0, [(3, 1)])])], 5), [([], [], [], [], [], [], [(298, [(0, [(0, 1)]), (0, [(2, 1)]), (0, [(3, 1)])])], 5)])
theorem zo_q2a_l {P : zq_Ty} {h : zq_H} {a b n Z l : Int} (a1 : 0 ≤ l - 192) (k1 : zo_CB 192 13 12 a b l P h) (k2 : zk_ZR 12 b n Z P h) : (zk_ZR 13 a n Z P h) := by
  exact zo_CP_Z (by omega) (zo_CB_CP k1) k2
theorem zo_q2a_ok {w : zq_Wd} (x_CPa : zj_is w 339 (fun q => zo_CB 192 13 12 (q 0) (q 1) (q 2))) (x_ZR : zj_is w 297 (fun q => zk_ZR 12 (q 0) (q 1) (q 2))) (x_ZA : zj_is w 298 (fun q => zk_ZR 13 (q 0) (q 1) (q 2))) : zq_okG1 w zo_q2a := by
  refine ⟨rfl, rfl, zu_fac ⟨rfl, by decide⟩ zq_fan, ?_⟩
  intro r P h H hM
  have q0 : zq_ev r (-192, [(4, 1)]) = r 4 - 192 := zu_e3 _ _ _
  have q1 : zq_ev r (0, [(0, 1)]) = r 0 := zu_e1 _ _
  have q2 : zq_ev r (0, [(1, 1)]) = r 1 := zu_e1 _ _
  have q3 : zq_ev r (0, [(4, 1)]) = r 4 := zu_e1 _ _
  have q4 : zq_ev r (0, [(2, 1)]) = r 2 := zu_e1 _ _
  have q5 : zq_ev r (0, [(3, 1)]) = r 3 := zu_e1 _ _
  obtain ⟨hT, hC, hF, hS, -, hK⟩ := hM
  have c := hC.1
  have a1 := zq_all_1 c
  rw [q0] at a1
  have k1 := zj_use x_CPa (hK)
  have k1 : zo_CB 192 13 12 (zq_ev r (0, [(0, 1)])) (zq_ev r (0, [(1, 1)])) (zq_ev r (0, [(4, 1)])) P h := k1
  simp only [q1, q2, q3] at k1
  have k2 := zj_use x_ZR (zq_okX_t (hK))
  have k2 : zk_ZR 12 (zq_ev r (0, [(1, 1)])) (zq_ev r (0, [(2, 1)])) (zq_ev r (0, [(3, 1)])) P h := k2
  simp only [q2, q4, q5] at k2
  obtain t1 := zo_q2a_l (P := P) (h := h) (a := r 0) (b := r 1) (n := r 2) (Z := r 3) (l := r 4) a1 k1 k2
  obtain ⟨rq, hr⟩ : ∃ rq : Nat → Int, (∀ i, i < 5 → rq i = r i) := ⟨r, fun i hi => rfl⟩
  have v0 : rq 0 = r 0 := hr 0 (by decide)
  have v2 : rq 2 = r 2 := hr 2 (by decide)
  have v3 : rq 3 = r 3 := hr 3 (by decide)
  have g0 : zq_ev rq (0, [(0, 1)]) = r 0 := zu_f1 v0
  have g1 : zq_ev rq (0, [(2, 1)]) = r 2 := zu_f1 v2
  have g2 : zq_ev rq (0, [(3, 1)]) = r 3 := zu_f1 v3
  exact ⟨_, List.mem_cons_self .., rq, hr, zq_MeS_mk rfl hT (zq_all_nil) zq_fan (zq_fan) rfl (zu_fac ((x_ZA _ _ _).mpr (by show zk_ZR 13 (zq_ev rq (0, [(0, 1)])) (zq_ev rq (0, [(2, 1)])) (zq_ev rq (0, [(3, 1)])) P h; simp only [g0, g1, g2]; exact t1)) zq_fan)⟩
noncomputable def zo_q0b : zq_S × List zq_S := (([], [], [(0, [(0, 1)]), (0, [(1, 1)])], [((0, [(0, 1)]), 12), ((0, [(1, 1)]), 13)], [], [], [], 2), [([], [], [], [], [], [], [(340, [(0, [(0, 1)]), (0, [(1, 1)]), (0, [])])], 2)])
theorem zo_q0b_l {P : zq_Ty} {h : zq_H} {a b : Int} (a1 : 0 ≤ a) (a2 : 0 ≤ b) (b1 : 0 ≤ a → P (a).toNat = some 12) (b2 : 0 ≤ b → P (b).toNat = some 13) : (zo_CB 192 12 13 a b 0 P h) := by
  exact zo_CB_0 ⟨a1, b1 a1⟩ ⟨a2, b2 a2⟩
theorem zo_q0b_ok {w : zq_Wd} (x_CPb : zj_is w 340 (fun q => zo_CB 192 12 13 (q 0) (q 1) (q 2))) : zq_okG1 w zo_q0b := by
  refine ⟨rfl, rfl, zu_fac ⟨rfl, by decide⟩ zq_fan, ?_⟩
  intro r P h H hM
  have q0 : zq_ev r (0, [(0, 1)]) = r 0 := zu_e1 _ _
  have q1 : zq_ev r (0, [(1, 1)]) = r 1 := zu_e1 _ _
  obtain ⟨hT, hC, hF, hS, -, hK⟩ := hM
  have c := hC.1
  have a1 := zq_all_1 c
  rw [q0] at a1
  have c := zq_all_t c
  have a2 := zq_all_1 c
  rw [q1] at a2
  have b1 : 0 ≤ r 0 → P (r 0).toNat = some 12 := fun z => by
    have z1 : 0 ≤ zq_ev r (0, [(0, 1)]) := by rw [q0]; exact z
    have z2 := zq_okF_1 (hF) z1
    simp only [q0] at z2
    exact z2
  have b2 : 0 ≤ r 1 → P (r 1).toNat = some 13 := fun z => by
    have z1 : 0 ≤ zq_ev r (0, [(1, 1)]) := by rw [q1]; exact z
    have z2 := zq_okF_1 (zq_okF_t (hF)) z1
    simp only [q1] at z2
    exact z2
  obtain t1 := zo_q0b_l (P := P) (h := h) (a := r 0) (b := r 1) a1 a2 b1 b2
  obtain ⟨rq, hr⟩ : ∃ rq : Nat → Int, (∀ i, i < 2 → rq i = r i) := ⟨r, fun i hi => rfl⟩
  have v0 : rq 0 = r 0 := hr 0 (by decide)
  have v1 : rq 1 = r 1 := hr 1 (by decide)
  have g0 : zq_ev rq (0, [(0, 1)]) = r 0 := zu_f1 v0
  have g1 : zq_ev rq (0, [(1, 1)]) = r 1 := zu_f1 v1
  have g2 : zq_ev rq (0, []) = 0 := zu_e0 _ _
  exact ⟨_, List.mem_cons_self .., rq, hr, zq_MeS_mk rfl hT (zq_all_nil) zq_fan (zq_fan) rfl (zu_fac ((x_CPb _ _ _).mpr (by show zo_CB 192 12 13 (zq_ev rq (0, [(0, 1)])) (zq_ev rq (0, [(1, 1)])) (zq_ev rq (0, [])) P h; simp only [g0, g1, g2]; exact t1)) zq_fan)⟩
noncomputable def zo_q1b : zq_S × List zq_S := (([], [], [(191, [(2, -1)])], [], [((0, [(0, 1)]), (0, [(2, 1)]), (0, [(3, 1)])), ((0, [(1, 1)]), (0, [(2, 1)]), (0, [(3, 1)]))], [], [(340, [(0, [(0, 1)]), (0, [(1, 1)]), (0, [(2, 1)])])], 4), [([], [], [], [], [], [], [(340, [(0, [(0, 1)]), (0, [(1, 1)]), (1, [(2, 1)])])], 4)])
theorem zo_q1b_l {P : zq_Ty} {h : zq_H} {a b l v : Int} (a1 : 0 ≤ -l + 191) (s1 : 0 ≤ a ∧ P (a).toNat ≠ none ∧ h (a).toNat l = v) (s2 : 0 ≤ b ∧ P (b).toNat ≠ none ∧ h (b).toNat l = v) (k1 : zo_CB 192 12 13 a b l P h) : (zo_CB 192 12 13 a b (l + 1) P h) := by
  exact zo_CB_1 (by omega) k1 s1.2.2 s2.2.2
theorem zo_q1b_ok {w : zq_Wd} (x_CPb : zj_is w 340 (fun q => zo_CB 192 12 13 (q 0) (q 1) (q 2))) : zq_okG1 w zo_q1b := by
  refine ⟨rfl, rfl, zu_fac ⟨rfl, by decide⟩ zq_fan, ?_⟩
  intro r P h H hM
  have q0 : zq_ev r (191, [(2, -1)]) = -r 2 + 191 := zu_e5 _ _ _
  have q1 : zq_ev r (0, [(0, 1)]) = r 0 := zu_e1 _ _
  have q2 : zq_ev r (0, [(2, 1)]) = r 2 := zu_e1 _ _
  have q3 : zq_ev r (0, [(3, 1)]) = r 3 := zu_e1 _ _
  have q4 : zq_ev r (0, [(1, 1)]) = r 1 := zu_e1 _ _
  obtain ⟨hT, hC, hF, hS, -, hK⟩ := hM
  have c := hC.1
  have a1 := zq_all_1 c
  rw [q0] at a1
  have s1 := zq_okS_1 (hS)
  simp only [q1, q2, q3] at s1
  have s2 := zq_okS_1 (zq_okS_t (hS))
  simp only [q2, q3, q4] at s2
  have k1 := zj_use x_CPb (hK)
  have k1 : zo_CB 192 12 13 (zq_ev r (0, [(0, 1)])) (zq_ev r (0, [(1, 1)])) (zq_ev r (0, [(2, 1)])) P h := k1
  simp only [q1, q2, q4] at k1
  obtain t1 := zo_q1b_l (P := P) (h := h) (a := r 0) (b := r 1) (l := r 2) (v := r 3) a1 s1 s2 k1
  obtain ⟨rq, hr⟩ : ∃ rq : Nat → Int, (∀ i, i < 4 → rq i = r i) := ⟨r, fun i hi => rfl⟩
  have v0 : rq 0 = r 0 := hr 0 (by decide)
  have v1 : rq 1 = r 1 := hr 1 (by decide)
  have v2 : rq 2 = r 2 := hr 2 (by decide)
  have g0 : zq_ev rq (0, [(0, 1)]) = r 0 := zu_f1 v0
  have g1 : zq_ev rq (0, [(1, 1)]) = r 1 := zu_f1 v1
  have g2 : zq_ev rq (1, [(2, 1)]) = r 2 + 1 := zu_f2 v2 _
  exact ⟨_, List.mem_cons_self .., rq, hr, zq_MeS_mk rfl hT (zq_all_nil) zq_fan (zq_fan) rfl (zu_fac ((x_CPb _ _ _).mpr (by show zo_CB 192 12 13 (zq_ev rq (0, [(0, 1)])) (zq_ev rq (0, [(1, 1)])) (zq_ev rq (1, [(2, 1)])) P h; simp only [g0, g1, g2]; exact t1)) zq_fan)⟩
noncomputable def zo_q2b : zq_S × List zq_S := (([], [], [(-192, [(4, 1)])], [], [], [], [(340, [(0, [(0, 1)]), (0, [(1, 1)]), (0, [(4, 1)])]), (298, [(0, [(1, 1)]), (0, [(2, 1)]), (0, [(3, 1)])])], 5), [([], [], [], [], [], [], [(297, [(0, [(0, 1)]), (0, [(2, 1)]), (0, [(3, 1)])])], 5)])
theorem zo_q2b_l {P : zq_Ty} {h : zq_H} {a b n Z l : Int} (a1 : 0 ≤ l - 192) (k1 : zo_CB 192 12 13 a b l P h) (k2 : zk_ZR 13 b n Z P h) : (zk_ZR 12 a n Z P h) := by
  exact zo_CP_Z (by omega) (zo_CB_CP k1) k2
theorem zo_q2b_ok {w : zq_Wd} (x_CPb : zj_is w 340 (fun q => zo_CB 192 12 13 (q 0) (q 1) (q 2))) (x_ZA : zj_is w 298 (fun q => zk_ZR 13 (q 0) (q 1) (q 2))) (x_ZR : zj_is w 297 (fun q => zk_ZR 12 (q 0) (q 1) (q 2))) : zq_okG1 w zo_q2b := by
  refine ⟨rfl, rfl, zu_fac ⟨rfl, by decide⟩ zq_fan, ?_⟩
  intro r P h H hM
  have q0 : zq_ev r (-192, [(4, 1)]) = r 4 - 192 := zu_e3 _ _ _
  have q1 : zq_ev r (0, [(0, 1)]) = r 0 := zu_e1 _ _
  have q2 : zq_ev r (0, [(1, 1)]) = r 1 := zu_e1 _ _
  have q3 : zq_ev r (0, [(4, 1)]) = r 4 := zu_e1 _ _
  have q4 : zq_ev r (0, [(2, 1)]) = r 2 := zu_e1 _ _
  have q5 : zq_ev r (0, [(3, 1)]) = r 3 := zu_e1 _ _
  obtain ⟨hT, hC, hF, hS, -, hK⟩ := hM
  have c := hC.1
  have a1 := zq_all_1 c
  rw [q0] at a1
  have k1 := zj_use x_CPb (hK)
  have k1 : zo_CB 192 12 13 (zq_ev r (0, [(0, 1)])) (zq_ev r (0, [(1, 1)])) (zq_ev r (0, [(4, 1)])) P h := k1
  simp only [q1, q2, q3] at k1
  have k2 := zj_use x_ZA (zq_okX_t (hK))
  have k2 : zk_ZR 13 (zq_ev r (0, [(1, 1)])) (zq_ev r (0, [(2, 1)])) (zq_ev r (0, [(3, 1)])) P h := k2
  simp only [q2, q4, q5] at k2
  obtain t1 := zo_q2b_l (P := P) (h := h) (a := r 0) (b := r 1) (n := r 2) (Z := r 3) (l := r 4) a1 k1 k2
  obtain ⟨rq, hr⟩ : ∃ rq : Nat → Int, (∀ i, i < 5 → rq i = r i) := ⟨r, fun i hi => rfl⟩
  have v0 : rq 0 = r 0 := hr 0 (by decide)
  have v2 : rq 2 = r 2 := hr 2 (by decide)
  have v3 : rq 3 = r 3 := hr 3 (by decide)
  have g0 : zq_ev rq (0, [(0, 1)]) = r 0 := zu_f1 v0
  have g1 : zq_ev rq (0, [(2, 1)]) = r 2 := zu_f1 v2
  have g2 : zq_ev rq (0, [(3, 1)]) = r 3 := zu_f1 v3
  exact ⟨_, List.mem_cons_self .., rq, hr, zq_MeS_mk rfl hT (zq_all_nil) zq_fan (zq_fan) rfl (zu_fac ((x_ZR _ _ _).mpr (by show zk_ZR 12 (zq_ev rq (0, [(0, 1)])) (zq_ev rq (0, [(2, 1)])) (zq_ev rq (0, [(3, 1)])) P h; simp only [g0, g1, g2]; exact t1)) zq_fan)⟩
noncomputable def zo_as1 : zq_S × List zq_S := (([], [], [], [], [], [], [(316, [(0, [(0, 1)]), (1, []), (0, [(1, 1)]), (11, [])])], 2), [([], [], [], [], [], [], [(341, [(0, [(0, 1)]), (0, [(1, 1)])])], 2)])
theorem zo_as1_l {P : zq_Ty} {h : zq_H} {a M : Int} (k1 : zk_AS a 1 M 11 P h) : (zo_AS1 a M P h) := by
  exact k1
theorem zo_as1_ok {w : zq_Wd} (x_AS : zj_is w 316 (fun q => zk_AS (q 0) (q 1) (q 2) (q 3))) (x_AS1 : zj_is w 341 (fun q => zo_AS1 (q 0) (q 1))) : zq_okG1 w zo_as1 := by
  refine ⟨rfl, rfl, zu_fac ⟨rfl, by decide⟩ zq_fan, ?_⟩
  intro r P h H hM
  have q0 : zq_ev r (0, [(0, 1)]) = r 0 := zu_e1 _ _
  have q1 : zq_ev r (1, []) = 1 := zu_e0 _ _
  have q2 : zq_ev r (0, [(1, 1)]) = r 1 := zu_e1 _ _
  have q3 : zq_ev r (11, []) = 11 := zu_e0 _ _
  obtain ⟨hT, hC, hF, hS, -, hK⟩ := hM
  have c := hC.1
  have k1 := zj_use x_AS (hK)
  have k1 : zk_AS (zq_ev r (0, [(0, 1)])) (zq_ev r (1, [])) (zq_ev r (0, [(1, 1)])) (zq_ev r (11, [])) P h := k1
  simp only [q0, q1, q2, q3] at k1
  obtain t1 := zo_as1_l (P := P) (h := h) (a := r 0) (M := r 1) k1
  obtain ⟨rq, hr⟩ : ∃ rq : Nat → Int, (∀ i, i < 2 → rq i = r i) := ⟨r, fun i hi => rfl⟩
  have v0 : rq 0 = r 0 := hr 0 (by decide)
  have v1 : rq 1 = r 1 := hr 1 (by decide)
  have g0 : zq_ev rq (0, [(0, 1)]) = r 0 := zu_f1 v0
  have g1 : zq_ev rq (0, [(1, 1)]) = r 1 := zu_f1 v1
  exact ⟨_, List.mem_cons_self .., rq, hr, zq_MeS_mk rfl hT (zq_all_nil) zq_fan (zq_fan) rfl (zu_fac ((x_AS1 _ _ _).mpr (by show zo_AS1 (zq_ev rq (0, [(0, 1)])) (zq_ev rq (0, [(1, 1)])) P h; simp only [g0, g1]; exact t1)) zq_fan)⟩
noncomputable def zo_as2 : zq_S × List zq_S := (([], [], [], [], [], [], [(341, [(0, [(0, 1)]), (0, [(1, 1)])])], 2), [([], [], [], [], [], [], [(316, [(0, [(0, 1)]), (1, []), (0, [(1, 1)]), (11, [])])], 2)])
theorem zo_as2_l {P : zq_Ty} {h : zq_H} {a M : Int} (k1 : zo_AS1 a M P h) : (zk_AS a 1 M 11 P h) := by
  exact k1
theorem zo_as2_ok {w : zq_Wd} (x_AS1 : zj_is w 341 (fun q => zo_AS1 (q 0) (q 1))) (x_AS : zj_is w 316 (fun q => zk_AS (q 0) (q 1) (q 2) (q 3))) : zq_okG1 w zo_as2 := by
  refine ⟨rfl, rfl, zu_fac ⟨rfl, by decide⟩ zq_fan, ?_⟩
  intro r P h H hM
  have q0 : zq_ev r (0, [(0, 1)]) = r 0 := zu_e1 _ _
  have q1 : zq_ev r (0, [(1, 1)]) = r 1 := zu_e1 _ _
  obtain ⟨hT, hC, hF, hS, -, hK⟩ := hM
  have c := hC.1
  have k1 := zj_use x_AS1 (hK)
  have k1 : zo_AS1 (zq_ev r (0, [(0, 1)])) (zq_ev r (0, [(1, 1)])) P h := k1
  simp only [q0, q1] at k1
  obtain t1 := zo_as2_l (P := P) (h := h) (a := r 0) (M := r 1) k1
  obtain ⟨rq, hr⟩ : ∃ rq : Nat → Int, (∀ i, i < 2 → rq i = r i) := ⟨r, fun i hi => rfl⟩
  have v0 : rq 0 = r 0 := hr 0 (by decide)
  have v1 : rq 1 = r 1 := hr 1 (by decide)
  have g0 : zq_ev rq (0, [(0, 1)]) = r 0 := zu_f1 v0
  have g1 : zq_ev rq (1, []) = 1 := zu_e0 _ _
  have g2 : zq_ev rq (0, [(1, 1)]) = r 1 := zu_f1 v1
  have g3 : zq_ev rq (11, []) = 11 := zu_e0 _ _
  exact ⟨_, List.mem_cons_self .., rq, hr, zq_MeS_mk rfl hT (zq_all_nil) zq_fan (zq_fan) rfl (zu_fac ((x_AS _ _ _).mpr (by show zk_AS (zq_ev rq (0, [(0, 1)])) (zq_ev rq (1, [])) (zq_ev rq (0, [(1, 1)])) (zq_ev rq (11, [])) P h; simp only [g0, g1, g2, g3]; exact t1)) zq_fan)⟩
noncomputable def zo_tx : zq_S × List zq_S := (([], [], [], [], [], [], [(5, [(0, [(0, 1)]), (0, [(1, 1)]), (0, [(2, 1)]), (0, [(3, 1)]), (0, [(7, 1)])]), (107, [(0, [(2, 1)]), (0, [(3, 1)]), (0, [(4, 1)]), (0, [(5, 1)]), (0, [(6, 1)]), (0, [(7, 1)])]), (125, [(0, [(8, 1)]), (0, [(5, 1)]), (0, [(6, 1)]), (-1, [])])], 9), [([], [], [], [], [], [], [(226, [(0, [(0, 1)]), (0, [(1, 1)]), (0, [(1, 1), (7, 1)]), (0, [(5, 1)]), (0, [(6, 1)])])], 9)])
theorem zo_tx_l {P : zq_Ty} {h : zq_H} {a B co va pl g n t o : Int} (k1 : zo_X5 a B co va t P h) (k2 : zu_LXR co va pl g n t P h) (k3 : zu_FA o g n (-1) P h) : (ze_TX a B (B + t) g n P h) := by
  exact zo_laid k1 k2 k3
theorem zo_tx_ok {w : zq_Wd} (x_X5 : zj_is w 5 (fun q => zo_X5 (q 0) (q 1) (q 2) (q 3) (q 4))) (x_LXR : zj_is w 107 (fun q => zu_LXR (q 0) (q 1) (q 2) (q 3) (q 4) (q 5))) (x_FA : zj_is w 125 (fun q => zu_FA (q 0) (q 1) (q 2) (q 3))) (x_TX : zj_is w 226 (fun q => ze_TX (q 0) (q 1) (q 2) (q 3) (q 4))) : zq_okG1 w zo_tx := by
  refine ⟨rfl, rfl, zu_fac ⟨rfl, by decide⟩ zq_fan, ?_⟩
  intro r P h H hM
  have q0 : zq_ev r (0, [(0, 1)]) = r 0 := zu_e1 _ _
  have q1 : zq_ev r (0, [(1, 1)]) = r 1 := zu_e1 _ _
  have q2 : zq_ev r (0, [(2, 1)]) = r 2 := zu_e1 _ _
  have q3 : zq_ev r (0, [(3, 1)]) = r 3 := zu_e1 _ _
  have q4 : zq_ev r (0, [(7, 1)]) = r 7 := zu_e1 _ _
  have q5 : zq_ev r (0, [(4, 1)]) = r 4 := zu_e1 _ _
  have q6 : zq_ev r (0, [(5, 1)]) = r 5 := zu_e1 _ _
  have q7 : zq_ev r (0, [(6, 1)]) = r 6 := zu_e1 _ _
  have q8 : zq_ev r (0, [(8, 1)]) = r 8 := zu_e1 _ _
  have q9 : zq_ev r (-1, []) = -1 := zu_e0 _ _
  obtain ⟨hT, hC, hF, hS, -, hK⟩ := hM
  have c := hC.1
  have k1 := zj_use x_X5 (hK)
  have k1 : zo_X5 (zq_ev r (0, [(0, 1)])) (zq_ev r (0, [(1, 1)])) (zq_ev r (0, [(2, 1)])) (zq_ev r (0, [(3, 1)])) (zq_ev r (0, [(7, 1)])) P h := k1
  simp only [q0, q1, q2, q3, q4] at k1
  have k2 := zj_use x_LXR (zq_okX_t (hK))
  have k2 : zu_LXR (zq_ev r (0, [(2, 1)])) (zq_ev r (0, [(3, 1)])) (zq_ev r (0, [(4, 1)])) (zq_ev r (0, [(5, 1)])) (zq_ev r (0, [(6, 1)])) (zq_ev r (0, [(7, 1)])) P h := k2
  simp only [q2, q3, q4, q5, q6, q7] at k2
  have k3 := zj_use x_FA (zq_okX_t (zq_okX_t (hK)))
  have k3 : zu_FA (zq_ev r (0, [(8, 1)])) (zq_ev r (0, [(5, 1)])) (zq_ev r (0, [(6, 1)])) (zq_ev r (-1, [])) P h := k3
  simp only [q6, q7, q8, q9] at k3
  obtain t1 := zo_tx_l (P := P) (h := h) (a := r 0) (B := r 1) (co := r 2) (va := r 3) (pl := r 4) (g := r 5) (n := r 6) (t := r 7) (o := r 8) k1 k2 k3
  obtain ⟨rq, hr⟩ : ∃ rq : Nat → Int, (∀ i, i < 9 → rq i = r i) := ⟨r, fun i hi => rfl⟩
  have v0 : rq 0 = r 0 := hr 0 (by decide)
  have v1 : rq 1 = r 1 := hr 1 (by decide)
  have v5 : rq 5 = r 5 := hr 5 (by decide)
  have v6 : rq 6 = r 6 := hr 6 (by decide)
  have v7 : rq 7 = r 7 := hr 7 (by decide)
  have g0 : zq_ev rq (0, [(0, 1)]) = r 0 := zu_f1 v0
  have g1 : zq_ev rq (0, [(1, 1)]) = r 1 := zu_f1 v1
  have g2 : zq_ev rq (0, [(1, 1), (7, 1)]) = r 1 + r 7 := by simp only [zq_ev, zq_ts, v0, v1, v5, v6, v7] <;> omega
  have g3 : zq_ev rq (0, [(5, 1)]) = r 5 := zu_f1 v5
  have g4 : zq_ev rq (0, [(6, 1)]) = r 6 := zu_f1 v6
  exact ⟨_, List.mem_cons_self .., rq, hr, zq_MeS_mk rfl hT (zq_all_nil) zq_fan (zq_fan) rfl (zu_fac ((x_TX _ _ _).mpr (by show ze_TX (zq_ev rq (0, [(0, 1)])) (zq_ev rq (0, [(1, 1)])) (zq_ev rq (0, [(1, 1), (7, 1)])) (zq_ev rq (0, [(5, 1)])) (zq_ev rq (0, [(6, 1)])) P h; simp only [g0, g1, g2, g3, g4]; exact t1)) zq_fan)⟩
