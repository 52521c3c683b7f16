/-! THE RECKONER, THE JUDGE of the class: facts -/
noncomputable def zr_0 : zq_S × List zq_S := (([], [], [(0, [(0, 1)]), (0, [(1, 1)])], [((0, [(0, 1)]), 103), ((0, [(1, 1)]), 102)], [], [], [], 5), [([], [], [], [], [], [], [(263, [(0, [(0, 1)]), (0, [(1, 1)]), (0, [(2, 1)]), (0, [(3, 1)]), (0, [(4, 1)]), (0, []), (0, [(4, 1)]), (0, [])])], 5)])
theorem zr_0_l {P : zq_Ty} {h : zq_H} {a v Y z s : Int} (a1 : 0 ≤ a) (a2 : 0 ≤ v) (b1 : 0 ≤ a → P (a).toNat = some 103) (b2 : 0 ≤ v → P (v).toNat = some 102) : (zr_KS a v Y z s 0 s 0 P h) := by
  exact ⟨⟨a1, b1 a1⟩, by omega, by omega, ⟨a2, b2 a2⟩, zr_R_0⟩
theorem zr_0_ok {w : zq_Wd} (x_KS : zj_is w 263 (fun q => zr_KS (q 0) (q 1) (q 2) (q 3) (q 4) (q 5) (q 6) (q 7))) : zq_okG1 w zr_0 := by
  refine ⟨rfl, rfl, zu_fac ⟨rfl, by decide⟩ zq_fan, ?_⟩
  intro r P h H hM
  have q0 : zq_ev r (0, [(0, 1)]) = r 0 := zu_e1 _ _
  have q1 : zq_ev r (0, [(1, 1)]) = r 1 := zu_e1 _ _
  obtain ⟨hT, hC, hF, hS, -, hK⟩ := hM
  have c := hC.1
  have a1 := zq_all_1 c
  rw [q0] at a1
  have c := zq_all_t c
  have a2 := zq_all_1 c
  rw [q1] at a2
  have b1 : 0 ≤ r 0 → P (r 0).toNat = some 103 := fun z => by
    have z1 : 0 ≤ zq_ev r (0, [(0, 1)]) := by rw [q0]; exact z
    have z2 := zq_okF_1 (hF) z1
    simp only [q0] at z2
    exact z2
  have b2 : 0 ≤ r 1 → P (r 1).toNat = some 102 := fun z => by
    have z1 : 0 ≤ zq_ev r (0, [(1, 1)]) := by rw [q1]; exact z
    have z2 := zq_okF_1 (zq_okF_t (hF)) z1
    simp only [q1] at z2
    exact z2
  obtain t1 := zr_0_l (P := P) (h := h) (a := r 0) (v := r 1) (Y := r 2) (z := r 3) (s := r 4) a1 a2 b1 b2
  obtain ⟨rq, hr⟩ : ∃ rq : Nat → Int, (∀ i, i < 5 → rq i = r i) := ⟨r, fun i hi => rfl⟩
  have v0 : rq 0 = r 0 := hr 0 (by decide)
  have v1 : rq 1 = r 1 := hr 1 (by decide)
  have v2 : rq 2 = r 2 := hr 2 (by decide)
  have v3 : rq 3 = r 3 := hr 3 (by decide)
  have v4 : rq 4 = r 4 := hr 4 (by decide)
  have g0 : zq_ev rq (0, [(0, 1)]) = r 0 := zu_f1 v0
  have g1 : zq_ev rq (0, [(1, 1)]) = r 1 := zu_f1 v1
  have g2 : zq_ev rq (0, [(2, 1)]) = r 2 := zu_f1 v2
  have g3 : zq_ev rq (0, [(3, 1)]) = r 3 := zu_f1 v3
  have g4 : zq_ev rq (0, [(4, 1)]) = r 4 := zu_f1 v4
  have g5 : zq_ev rq (0, []) = 0 := zu_e0 _ _
  exact ⟨_, List.mem_cons_self .., rq, hr, zq_MeS_mk rfl hT (zq_all_nil) zq_fan (zq_fan) rfl (zu_fac ((x_KS _ _ _).mpr (by show zr_KS (zq_ev rq (0, [(0, 1)])) (zq_ev rq (0, [(1, 1)])) (zq_ev rq (0, [(2, 1)])) (zq_ev rq (0, [(3, 1)])) (zq_ev rq (0, [(4, 1)])) (zq_ev rq (0, [])) (zq_ev rq (0, [(4, 1)])) (zq_ev rq (0, [])) P h; simp only [g0, g1, g2, g3, g4, g5]; exact t1)) zq_fan)⟩
noncomputable def zr_ct : zq_S × List zq_S := (([], [], [(0, [(3, 1)]), (-1, [(1, 1), (3, -1)])], [], [((0, [(0, 1)]), (0, [(3, 1)]), (0, [(4, 1)]))], [], [(270, [(0, [(0, 1)]), (0, [(1, 1)]), (0, [(2, 1)])])], 5), [([], [], [], [], [], [], [(134, [(0, [(2, 1)]), (0, [(3, 1)]), (0, [(4, 1)])])], 5)])
theorem zr_ct_l {P : zq_Ty} {h : zq_H} {a z Y q c : Int} (a1 : 0 ≤ q) (a2 : 0 ≤ z - q - 1) (s1 : 0 ≤ a ∧ P (a).toNat ≠ none ∧ h (a).toNat q = c) (k1 : zr_CO 28 a z Y P h) : (zn_DG Y q c P h) := by
  have e := k1.2.2 q a1 (by omega)
  rw [s1.2.2] at e
  exact e
theorem zr_ct_ok {w : zq_Wd} (x_CT : zj_is w 270 (fun q => zr_CO 28 (q 0) (q 1) (q 2))) (x_DG : zj_is w 134 (fun q => zn_DG (q 0) (q 1) (q 2))) : zq_okG1 w zr_ct := by
  refine ⟨rfl, rfl, zu_fac ⟨rfl, by decide⟩ zq_fan, ?_⟩
  intro r P h H hM
  have q0 : zq_ev r (0, [(3, 1)]) = r 3 := zu_e1 _ _
  have q1 : zq_ev r (-1, [(1, 1), (3, -1)]) = r 1 - r 3 - 1 := by simp only [zq_ev, zq_ts] <;> omega
  have q2 : zq_ev r (0, [(0, 1)]) = r 0 := zu_e1 _ _
  have q3 : zq_ev r (0, [(4, 1)]) = r 4 := zu_e1 _ _
  have q4 : zq_ev r (0, [(1, 1)]) = r 1 := zu_e1 _ _
  have q5 : zq_ev r (0, [(2, 1)]) = r 2 := zu_e1 _ _
  obtain ⟨hT, hC, hF, hS, -, hK⟩ := hM
  have c := hC.1
  have a1 := zq_all_1 c
  rw [q0] at a1
  have c := zq_all_t c
  have a2 := zq_all_1 c
  rw [q1] at a2
  have s1 := zq_okS_1 (hS)
  simp only [q0, q2, q3] at s1
  have k1 := zj_use x_CT (hK)
  have k1 : zr_CO 28 (zq_ev r (0, [(0, 1)])) (zq_ev r (0, [(1, 1)])) (zq_ev r (0, [(2, 1)])) P h := k1
  simp only [q2, q4, q5] at k1
  obtain t1 := zr_ct_l (P := P) (h := h) (a := r 0) (z := r 1) (Y := r 2) (q := r 3) (c := r 4) a1 a2 s1 k1
  obtain ⟨rq, hr⟩ : ∃ rq : Nat → Int, (∀ i, i < 5 → rq i = r i) := ⟨r, fun i hi => rfl⟩
  have v2 : rq 2 = r 2 := hr 2 (by decide)
  have v3 : rq 3 = r 3 := hr 3 (by decide)
  have v4 : rq 4 = r 4 := hr 4 (by decide)
  have g0 : zq_ev rq (0, [(2, 1)]) = r 2 := zu_f1 v2
  have g1 : zq_ev rq (0, [(3, 1)]) = r 3 := zu_f1 v3
  have g2 : zq_ev rq (0, [(4, 1)]) = r 4 := zu_f1 v4
  exact ⟨_, List.mem_cons_self .., rq, hr, zq_MeS_mk rfl hT (zq_all_nil) zq_fan (zq_fan) rfl (zu_fac ((x_DG _ _ _).mpr (by show zn_DG (zq_ev rq (0, [(2, 1)])) (zq_ev rq (0, [(3, 1)])) (zq_ev rq (0, [(4, 1)])) P h; simp only [g0, g1, g2]; exact t1)) zq_fan)⟩
noncomputable def zr_cd : zq_S × List zq_S := (([], [], [(0, [(3, 1)]), (-1, [(1, 1), (3, -1)])], [], [((0, [(0, 1)]), (0, [(3, 1)]), (0, [(4, 1)]))], [], [(271, [(0, [(0, 1)]), (0, [(1, 1)]), (0, [(2, 1)])])], 5), [([], [], [], [], [], [], [(134, [(0, [(2, 1)]), (0, [(3, 1)]), (0, [(4, 1)])])], 5)])
theorem zr_cd_l {P : zq_Ty} {h : zq_H} {a z Y q c : Int} (a1 : 0 ≤ q) (a2 : 0 ≤ z - q - 1) (s1 : 0 ≤ a ∧ P (a).toNat ≠ none ∧ h (a).toNat q = c) (k1 : zr_CO 33 a z Y P h) : (zn_DG Y q c P h) := by
  have e := k1.2.2 q a1 (by omega)
  rw [s1.2.2] at e
  exact e
theorem zr_cd_ok {w : zq_Wd} (x_CD2 : zj_is w 271 (fun q => zr_CO 33 (q 0) (q 1) (q 2))) (x_DG : zj_is w 134 (fun q => zn_DG (q 0) (q 1) (q 2))) : zq_okG1 w zr_cd := by
  refine ⟨rfl, rfl, zu_fac ⟨rfl, by decide⟩ zq_fan, ?_⟩
  intro r P h H hM
  have q0 : zq_ev r (0, [(3, 1)]) = r 3 := zu_e1 _ _
  have q1 : zq_ev r (-1, [(1, 1), (3, -1)]) = r 1 - r 3 - 1 := by simp only [zq_ev, zq_ts] <;> omega
  have q2 : zq_ev r (0, [(0, 1)]) = r 0 := zu_e1 _ _
  have q3 : zq_ev r (0, [(4, 1)]) = r 4 := zu_e1 _ _
  have q4 : zq_ev r (0, [(1, 1)]) = r 1 := zu_e1 _ _
  have q5 : zq_ev r (0, [(2, 1)]) = r 2 := zu_e1 _ _
  obtain ⟨hT, hC, hF, hS, -, hK⟩ := hM
  have c := hC.1
  have a1 := zq_all_1 c
  rw [q0] at a1
  have c := zq_all_t c
  have a2 := zq_all_1 c
  rw [q1] at a2
  have s1 := zq_okS_1 (hS)
  simp only [q0, q2, q3] at s1
  have k1 := zj_use x_CD2 (hK)
  have k1 : zr_CO 33 (zq_ev r (0, [(0, 1)])) (zq_ev r (0, [(1, 1)])) (zq_ev r (0, [(2, 1)])) P h := k1
  simp only [q2, q4, q5] at k1
  obtain t1 := zr_cd_l (P := P) (h := h) (a := r 0) (z := r 1) (Y := r 2) (q := r 3) (c := r 4) a1 a2 s1 k1
  obtain ⟨rq, hr⟩ : ∃ rq : Nat → Int, (∀ i, i < 5 → rq i = r i) := ⟨r, fun i hi => rfl⟩
  have v2 : rq 2 = r 2 := hr 2 (by decide)
  have v3 : rq 3 = r 3 := hr 3 (by decide)
  have v4 : rq 4 = r 4 := hr 4 (by decide)
  have g0 : zq_ev rq (0, [(2, 1)]) = r 2 := zu_f1 v2
  have g1 : zq_ev rq (0, [(3, 1)]) = r 3 := zu_f1 v3
  have g2 : zq_ev rq (0, [(4, 1)]) = r 4 := zu_f1 v4
  exact ⟨_, List.mem_cons_self .., rq, hr, zq_MeS_mk rfl hT (zq_all_nil) zq_fan (zq_fan) rfl (zu_fac ((x_DG _ _ _).mpr (by show zn_DG (zq_ev rq (0, [(2, 1)])) (zq_ev rq (0, [(3, 1)])) (zq_ev rq (0, [(4, 1)])) P h; simp only [g0, g1, g2]; exact t1)) zq_fan)⟩
noncomputable def zr_n : zq_S × List zq_S := (([], [], [(0, [(6, 1)]), (-1, [(3, 1), (6, -1)]), (447, [(5, -1)]), (-1, [(8, 1), (9, -16)]), (1, [(8, -1), (9, 16)]), (31, [(7, -1)]), (0, [(9, 1), (10, -1)]), (0, [(9, -1), (10, 1)])], [], [((0, [(0, 1)]), (0, [(7, 1)]), (0, [(10, 1)]))], [], [(263, [(0, [(0, 1)]), (0, [(1, 1)]), (0, [(2, 1)]), (0, [(3, 1)]), (0, [(4, 1)]), (0, [(5, 1)]), (0, [(6, 1)]), (0, [(7, 1)])]), (134, [(0, [(2, 1)]), (0, [(6, 1)]), (0, [(8, 1)])])], 11), [([], [], [], [], [], [], [(263, [(0, [(0, 1)]), (0, [(1, 1)]), (0, [(2, 1)]), (0, [(3, 1)]), (0, [(4, 1)]), (1, [(5, 1)]), (1, [(6, 1)]), (1, [(7, 1)])])], 11)])
theorem zr_n_l {P : zq_Ty} {h : zq_H} {a v Y z s i q t c x y : Int} (a1 : 0 ≤ q) (a2 : 0 ≤ z - q - 1) (a3 : 0 ≤ -i + 447) (a4 : 0 ≤ c - 16 * x - 1) (a5 : 0 ≤ -c + 16 * x + 1) (a6 : 0 ≤ -t + 31) (a7 : 0 ≤ x - y) (a8 : 0 ≤ -x + y) (s1 : 0 ≤ a ∧ P (a).toNat ≠ none ∧ h (a).toNat t = y) (k1 : zr_KS a v Y z s i q t P h) (k2 : zn_DG Y q c P h) : (zr_KS a v Y z s (i + 1) (q + 1) (t + 1) P h) := by
  obtain ⟨w1, w2, w3, w5, w4⟩ := k1
  have hc : zn_dg Y q = 1 + 16 * x := by have e : c = zn_dg Y q := k2; omega
  refine ⟨w1, by omega, by omega, w5, ?_⟩
  rw [zr_st_1 w2, s1.2.2, show y = x by omega]
  exact zr_R_go w4 (by omega) (fun R => zr_s_num a1 (by omega) hc (by rw [zr_st_len]; omega))
theorem zr_n_ok {w : zq_Wd} (x_KS : zj_is w 263 (fun q => zr_KS (q 0) (q 1) (q 2) (q 3) (q 4) (q 5) (q 6) (q 7))) (x_DG : zj_is w 134 (fun q => zn_DG (q 0) (q 1) (q 2))) : zq_okG1 w zr_n := by
  refine ⟨rfl, rfl, zu_fac ⟨rfl, by decide⟩ zq_fan, ?_⟩
  intro r P h H hM
  have q0 : zq_ev r (0, [(6, 1)]) = r 6 := zu_e1 _ _
  have q1 : zq_ev r (-1, [(3, 1), (6, -1)]) = r 3 - r 6 - 1 := by simp only [zq_ev, zq_ts] <;> omega
  have q2 : zq_ev r (447, [(5, -1)]) = -r 5 + 447 := zu_e5 _ _ _
  have q3 : zq_ev r (-1, [(8, 1), (9, -16)]) = r 8 - 16 * r 9 - 1 := by simp only [zq_ev, zq_ts] <;> omega
  have q4 : zq_ev r (1, [(8, -1), (9, 16)]) = -r 8 + 16 * r 9 + 1 := by simp only [zq_ev, zq_ts] <;> omega
  have q5 : zq_ev r (31, [(7, -1)]) = -r 7 + 31 := zu_e5 _ _ _
  have q6 : zq_ev r (0, [(9, 1), (10, -1)]) = r 9 - r 10 := by simp only [zq_ev, zq_ts] <;> omega
  have q7 : zq_ev r (0, [(9, -1), (10, 1)]) = -r 9 + r 10 := by simp only [zq_ev, zq_ts] <;> omega
  have q8 : zq_ev r (0, [(0, 1)]) = r 0 := zu_e1 _ _
  have q9 : zq_ev r (0, [(7, 1)]) = r 7 := zu_e1 _ _
  have q10 : zq_ev r (0, [(10, 1)]) = r 10 := zu_e1 _ _
  have q11 : zq_ev r (0, [(1, 1)]) = r 1 := zu_e1 _ _
  have q12 : zq_ev r (0, [(2, 1)]) = r 2 := zu_e1 _ _
  have q13 : zq_ev r (0, [(3, 1)]) = r 3 := zu_e1 _ _
  have q14 : zq_ev r (0, [(4, 1)]) = r 4 := zu_e1 _ _
  have q15 : zq_ev r (0, [(5, 1)]) = r 5 := zu_e1 _ _
  have q16 : zq_ev r (0, [(8, 1)]) = r 8 := zu_e1 _ _
  obtain ⟨hT, hC, hF, hS, -, hK⟩ := hM
  have c := hC.1
  have a1 := zq_all_1 c
  rw [q0] at a1
  have c := zq_all_t c
  have a2 := zq_all_1 c
  rw [q1] at a2
  have c := zq_all_t c
  have a3 := zq_all_1 c
  rw [q2] at a3
  have c := zq_all_t c
  have a4 := zq_all_1 c
  rw [q3] at a4
  have c := zq_all_t c
  have a5 := zq_all_1 c
  rw [q4] at a5
  have c := zq_all_t c
  have a6 := zq_all_1 c
  rw [q5] at a6
  have c := zq_all_t c
  have a7 := zq_all_1 c
  rw [q6] at a7
  have c := zq_all_t c
  have a8 := zq_all_1 c
  rw [q7] at a8
  have s1 := zq_okS_1 (hS)
  simp only [q10, q8, q9] at s1
  have k1 := zj_use x_KS (hK)
  have k1 : zr_KS (zq_ev r (0, [(0, 1)])) (zq_ev r (0, [(1, 1)])) (zq_ev r (0, [(2, 1)])) (zq_ev r (0, [(3, 1)])) (zq_ev r (0, [(4, 1)])) (zq_ev r (0, [(5, 1)])) (zq_ev r (0, [(6, 1)])) (zq_ev r (0, [(7, 1)])) P h := k1
  simp only [q0, q11, q12, q13, q14, q15, q8, q9] at k1
  have k2 := zj_use x_DG (zq_okX_t (hK))
  have k2 : zn_DG (zq_ev r (0, [(2, 1)])) (zq_ev r (0, [(6, 1)])) (zq_ev r (0, [(8, 1)])) P h := k2
  simp only [q0, q12, q16] at k2
  obtain t1 := zr_n_l (P := P) (h := h) (a := r 0) (v := r 1) (Y := r 2) (z := r 3) (s := r 4) (i := r 5) (q := r 6) (t := r 7) (c := r 8) (x := r 9) (y := r 10) a1 a2 a3 a4 a5 a6 a7 a8 s1 k1 k2
  obtain ⟨rq, hr⟩ : ∃ rq : Nat → Int, (∀ i, i < 11 → rq i = r i) := ⟨r, fun i hi => rfl⟩
  have v0 : rq 0 = r 0 := hr 0 (by decide)
  have v1 : rq 1 = r 1 := hr 1 (by decide)
  have v2 : rq 2 = r 2 := hr 2 (by decide)
  have v3 : rq 3 = r 3 := hr 3 (by decide)
  have v4 : rq 4 = r 4 := hr 4 (by decide)
  have v5 : rq 5 = r 5 := hr 5 (by decide)
  have v6 : rq 6 = r 6 := hr 6 (by decide)
  have v7 : rq 7 = r 7 := hr 7 (by decide)
  have g0 : zq_ev rq (0, [(0, 1)]) = r 0 := zu_f1 v0
  have g1 : zq_ev rq (0, [(1, 1)]) = r 1 := zu_f1 v1
  have g2 : zq_ev rq (0, [(2, 1)]) = r 2 := zu_f1 v2
  have g3 : zq_ev rq (0, [(3, 1)]) = r 3 := zu_f1 v3
  have g4 : zq_ev rq (0, [(4, 1)]) = r 4 := zu_f1 v4
  have g5 : zq_ev rq (1, [(5, 1)]) = r 5 + 1 := zu_f2 v5 _
  have g6 : zq_ev rq (1, [(6, 1)]) = r 6 + 1 := zu_f2 v6 _
  have g7 : zq_ev rq (1, [(7, 1)]) = r 7 + 1 := zu_f2 v7 _
  exact ⟨_, List.mem_cons_self .., rq, hr, zq_MeS_mk rfl hT (zq_all_nil) zq_fan (zq_fan) rfl (zu_fac ((x_KS _ _ _).mpr (by show zr_KS (zq_ev rq (0, [(0, 1)])) (zq_ev rq (0, [(1, 1)])) (zq_ev rq (0, [(2, 1)])) (zq_ev rq (0, [(3, 1)])) (zq_ev rq (0, [(4, 1)])) (zq_ev rq (1, [(5, 1)])) (zq_ev rq (1, [(6, 1)])) (zq_ev rq (1, [(7, 1)])) P h; simp only [g0, g1, g2, g3, g4, g5, g6, g7]; exact t1)) zq_fan)⟩
noncomputable def zr_nf : zq_S × List zq_S := (([], [], [(0, [(6, 1)]), (-1, [(3, 1), (6, -1)]), (-1, [(8, 1), (9, -16)]), (1, [(8, -1), (9, 16)]), (-32, [(7, 1)])], [], [], [], [(263, [(0, [(0, 1)]), (0, [(1, 1)]), (0, [(2, 1)]), (0, [(3, 1)]), (0, [(4, 1)]), (0, [(5, 1)]), (0, [(6, 1)]), (0, [(7, 1)])]), (134, [(0, [(2, 1)]), (0, [(6, 1)]), (0, [(8, 1)])])], 11), [([], [], [], [], [], [], [(266, [(0, [(1, 1)]), (0, [(2, 1)]), (0, [(3, 1)]), (0, [(4, 1)]), (1, []), (0, [(10, 1)])])], 11)])
theorem zr_nf_l {P : zq_Ty} {h : zq_H} {a v Y z s i q t c x r : Int} (a1 : 0 ≤ q) (a2 : 0 ≤ z - q - 1) (a3 : 0 ≤ c - 16 * x - 1) (a4 : 0 ≤ -c + 16 * x + 1) (a5 : 0 ≤ t - 32) (k1 : zr_KS a v Y z s i q t P h) (k2 : zn_DG Y q c P h) : (zr_RK v Y z s 1 r P h) := by
  obtain ⟨w1, w2, w3, w5, w4⟩ := k1
  have hc : zn_dg Y q = 1 + 16 * x := by have e : c = zn_dg Y q := k2; omega
  refine ⟨w5, ?_⟩
  rw [if_pos rfl]
  exact zr_R_none w4 (fun _ R => zr_s_numf a1 (by omega) hc (by rw [zr_st_len]; omega))
theorem zr_nf_ok {w : zq_Wd} (x_KS : zj_is w 263 (fun q => zr_KS (q 0) (q 1) (q 2) (q 3) (q 4) (q 5) (q 6) (q 7))) (x_DG : zj_is w 134 (fun q => zn_DG (q 0) (q 1) (q 2))) (x_RK : zj_is w 266 (fun q => zr_RK (q 0) (q 1) (q 2) (q 3) (q 4) (q 5))) : zq_okG1 w zr_nf := by
  refine ⟨rfl, rfl, zu_fac ⟨rfl, by decide⟩ zq_fan, ?_⟩
  intro r P h H hM
  have q0 : zq_ev r (0, [(6, 1)]) = r 6 := zu_e1 _ _
  have q1 : zq_ev r (-1, [(3, 1), (6, -1)]) = r 3 - r 6 - 1 := by simp only [zq_ev, zq_ts] <;> omega
  have q2 : zq_ev r (-1, [(8, 1), (9, -16)]) = r 8 - 16 * r 9 - 1 := by simp only [zq_ev, zq_ts] <;> omega
  have q3 : zq_ev r (1, [(8, -1), (9, 16)]) = -r 8 + 16 * r 9 + 1 := by simp only [zq_ev, zq_ts] <;> omega
  have q4 : zq_ev r (-32, [(7, 1)]) = r 7 - 32 := zu_e3 _ _ _
  have q5 : zq_ev r (0, [(0, 1)]) = r 0 := zu_e1 _ _
  have q6 : zq_ev r (0, [(1, 1)]) = r 1 := zu_e1 _ _
  have q7 : zq_ev r (0, [(2, 1)]) = r 2 := zu_e1 _ _
  have q8 : zq_ev r (0, [(3, 1)]) = r 3 := zu_e1 _ _
  have q9 : zq_ev r (0, [(4, 1)]) = r 4 := zu_e1 _ _
  have q10 : zq_ev r (0, [(5, 1)]) = r 5 := zu_e1 _ _
  have q11 : zq_ev r (0, [(7, 1)]) = r 7 := zu_e1 _ _
  have q12 : zq_ev r (0, [(8, 1)]) = r 8 := zu_e1 _ _
  obtain ⟨hT, hC, hF, hS, -, hK⟩ := hM
  have c := hC.1
  have a1 := zq_all_1 c
  rw [q0] at a1
  have c := zq_all_t c
  have a2 := zq_all_1 c
  rw [q1] at a2
  have c := zq_all_t c
  have a3 := zq_all_1 c
  rw [q2] at a3
  have c := zq_all_t c
  have a4 := zq_all_1 c
  rw [q3] at a4
  have c := zq_all_t c
  have a5 := zq_all_1 c
  rw [q4] at a5
  have k1 := zj_use x_KS (hK)
  have k1 : zr_KS (zq_ev r (0, [(0, 1)])) (zq_ev r (0, [(1, 1)])) (zq_ev r (0, [(2, 1)])) (zq_ev r (0, [(3, 1)])) (zq_ev r (0, [(4, 1)])) (zq_ev r (0, [(5, 1)])) (zq_ev r (0, [(6, 1)])) (zq_ev r (0, [(7, 1)])) P h := k1
  simp only [q0, q10, q11, q5, q6, q7, q8, q9] at k1
  have k2 := zj_use x_DG (zq_okX_t (hK))
  have k2 : zn_DG (zq_ev r (0, [(2, 1)])) (zq_ev r (0, [(6, 1)])) (zq_ev r (0, [(8, 1)])) P h := k2
  simp only [q0, q12, q7] at k2
  obtain t1 := zr_nf_l (P := P) (h := h) (a := r 0) (v := r 1) (Y := r 2) (z := r 3) (s := r 4) (i := r 5) (q := r 6) (t := r 7) (c := r 8) (x := r 9) (r := r 10) a1 a2 a3 a4 a5 k1 k2
  obtain ⟨rq, hr⟩ : ∃ rq : Nat → Int, (∀ i, i < 11 → rq i = r i) := ⟨r, fun i hi => rfl⟩
  have v1 : rq 1 = r 1 := hr 1 (by decide)
  have v2 : rq 2 = r 2 := hr 2 (by decide)
  have v3 : rq 3 = r 3 := hr 3 (by decide)
  have v4 : rq 4 = r 4 := hr 4 (by decide)
  have v10 : rq 10 = r 10 := hr 10 (by decide)
  have g0 : zq_ev rq (0, [(1, 1)]) = r 1 := zu_f1 v1
  have g1 : zq_ev rq (0, [(2, 1)]) = r 2 := zu_f1 v2
  have g2 : zq_ev rq (0, [(3, 1)]) = r 3 := zu_f1 v3
  have g3 : zq_ev rq (0, [(4, 1)]) = r 4 := zu_f1 v4
  have g4 : zq_ev rq (1, []) = 1 := zu_e0 _ _
  have g5 : zq_ev rq (0, [(10, 1)]) = r 10 := zu_f1 v10
  exact ⟨_, List.mem_cons_self .., rq, hr, zq_MeS_mk rfl hT (zq_all_nil) zq_fan (zq_fan) rfl (zu_fac ((x_RK _ _ _).mpr (by show zr_RK (zq_ev rq (0, [(1, 1)])) (zq_ev rq (0, [(2, 1)])) (zq_ev rq (0, [(3, 1)])) (zq_ev rq (0, [(4, 1)])) (zq_ev rq (1, [])) (zq_ev rq (0, [(10, 1)])) P h; simp only [g0, g1, g2, g3, g4, g5]; exact t1)) zq_fan)⟩
noncomputable def zr_v : zq_S × List zq_S := (([], [], [(0, [(6, 1)]), (-1, [(3, 1), (6, -1)]), (447, [(5, -1)]), (-2, [(8, 1), (9, -16)]), (2, [(8, -1), (9, 16)]), (31, [(7, -1)]), (21, [(9, -1)]), (0, [(9, 1)]), (0, [(10, -1), (11, 1)]), (0, [(10, 1), (11, -1)])], [], [((0, [(0, 1)]), (0, [(7, 1)]), (0, [(10, 1)])), ((0, [(1, 1)]), (0, [(9, 1)]), (0, [(11, 1)]))], [], [(263, [(0, [(0, 1)]), (0, [(1, 1)]), (0, [(2, 1)]), (0, [(3, 1)]), (0, [(4, 1)]), (0, [(5, 1)]), (0, [(6, 1)]), (0, [(7, 1)])]), (134, [(0, [(2, 1)]), (0, [(6, 1)]), (0, [(8, 1)])])], 12), [([], [], [], [], [], [], [(263, [(0, [(0, 1)]), (0, [(1, 1)]), (0, [(2, 1)]), (0, [(3, 1)]), (0, [(4, 1)]), (1, [(5, 1)]), (1, [(6, 1)]), (1, [(7, 1)])])], 12)])
theorem zr_v_l {P : zq_Ty} {h : zq_H} {a v Y z s i q t c x y u : Int} (a1 : 0 ≤ q) (a2 : 0 ≤ z - q - 1) (a3 : 0 ≤ -i + 447) (a4 : 0 ≤ c - 16 * x - 2) (a5 : 0 ≤ -c + 16 * x + 2) (a6 : 0 ≤ -t + 31) (a7 : 0 ≤ -x + 21) (a8 : 0 ≤ x) (a9 : 0 ≤ -y + u) (a10 : 0 ≤ y - u) (s1 : 0 ≤ a ∧ P (a).toNat ≠ none ∧ h (a).toNat t = y) (s2 : 0 ≤ v ∧ P (v).toNat ≠ none ∧ h (v).toNat x = u) (k1 : zr_KS a v Y z s i q t P h) (k2 : zn_DG Y q c P h) : (zr_KS a v Y z s (i + 1) (q + 1) (t + 1) P h) := by
  obtain ⟨w1, w2, w3, w5, w4⟩ := k1
  have hc : zn_dg Y q = 2 + 16 * x := by have e : c = zn_dg Y q := k2; omega
  refine ⟨w1, by omega, by omega, w5, ?_⟩
  have e2 : zr_cw (h v.toNat) x = y := by rw [zr_cw_in (by omega) (by omega), s2.2.2]; omega
  rw [zr_st_1 w2, s1.2.2, ← e2]
  exact zr_R_go w4 (by omega) (fun R => zr_s_word a1 (by omega) hc (by rw [zr_st_len]; omega) (by omega))
theorem zr_v_ok {w : zq_Wd} (x_KS : zj_is w 263 (fun q => zr_KS (q 0) (q 1) (q 2) (q 3) (q 4) (q 5) (q 6) (q 7))) (x_DG : zj_is w 134 (fun q => zn_DG (q 0) (q 1) (q 2))) : zq_okG1 w zr_v := by
  refine ⟨rfl, rfl, zu_fac ⟨rfl, by decide⟩ zq_fan, ?_⟩
  intro r P h H hM
  have q0 : zq_ev r (0, [(6, 1)]) = r 6 := zu_e1 _ _
  have q1 : zq_ev r (-1, [(3, 1), (6, -1)]) = r 3 - r 6 - 1 := by simp only [zq_ev, zq_ts] <;> omega
  have q2 : zq_ev r (447, [(5, -1)]) = -r 5 + 447 := zu_e5 _ _ _
  have q3 : zq_ev r (-2, [(8, 1), (9, -16)]) = r 8 - 16 * r 9 - 2 := by simp only [zq_ev, zq_ts] <;> omega
  have q4 : zq_ev r (2, [(8, -1), (9, 16)]) = -r 8 + 16 * r 9 + 2 := by simp only [zq_ev, zq_ts] <;> omega
  have q5 : zq_ev r (31, [(7, -1)]) = -r 7 + 31 := zu_e5 _ _ _
  have q6 : zq_ev r (21, [(9, -1)]) = -r 9 + 21 := zu_e5 _ _ _
  have q7 : zq_ev r (0, [(9, 1)]) = r 9 := zu_e1 _ _
  have q8 : zq_ev r (0, [(10, -1), (11, 1)]) = -r 10 + r 11 := by simp only [zq_ev, zq_ts] <;> omega
  have q9 : zq_ev r (0, [(10, 1), (11, -1)]) = r 10 - r 11 := by simp only [zq_ev, zq_ts] <;> omega
  have q10 : zq_ev r (0, [(0, 1)]) = r 0 := zu_e1 _ _
  have q11 : zq_ev r (0, [(7, 1)]) = r 7 := zu_e1 _ _
  have q12 : zq_ev r (0, [(10, 1)]) = r 10 := zu_e1 _ _
  have q13 : zq_ev r (0, [(1, 1)]) = r 1 := zu_e1 _ _
  have q14 : zq_ev r (0, [(11, 1)]) = r 11 := zu_e1 _ _
  have q15 : zq_ev r (0, [(2, 1)]) = r 2 := zu_e1 _ _
  have q16 : zq_ev r (0, [(3, 1)]) = r 3 := zu_e1 _ _
  have q17 : zq_ev r (0, [(4, 1)]) = r 4 := zu_e1 _ _
  have q18 : zq_ev r (0, [(5, 1)]) = r 5 := zu_e1 _ _
  have q19 : zq_ev r (0, [(8, 1)]) = r 8 := zu_e1 _ _
  obtain ⟨hT, hC, hF, hS, -, hK⟩ := hM
  have c := hC.1
  have a1 := zq_all_1 c
  rw [q0] at a1
  have c := zq_all_t c
  have a2 := zq_all_1 c
  rw [q1] at a2
  have c := zq_all_t c
  have a3 := zq_all_1 c
  rw [q2] at a3
  have c := zq_all_t c
  have a4 := zq_all_1 c
  rw [q3] at a4
  have c := zq_all_t c
  have a5 := zq_all_1 c
  rw [q4] at a5
  have c := zq_all_t c
  have a6 := zq_all_1 c
  rw [q5] at a6
  have c := zq_all_t c
  have a7 := zq_all_1 c
  rw [q6] at a7
  have c := zq_all_t c
  have a8 := zq_all_1 c
  rw [q7] at a8
  have c := zq_all_t c
  have a9 := zq_all_1 c
  rw [q8] at a9
  have c := zq_all_t c
  have a10 := zq_all_1 c
  rw [q9] at a10
  have s1 := zq_okS_1 (hS)
  simp only [q10, q11, q12] at s1
  have s2 := zq_okS_1 (zq_okS_t (hS))
  simp only [q13, q14, q7] at s2
  have k1 := zj_use x_KS (hK)
  have k1 : zr_KS (zq_ev r (0, [(0, 1)])) (zq_ev r (0, [(1, 1)])) (zq_ev r (0, [(2, 1)])) (zq_ev r (0, [(3, 1)])) (zq_ev r (0, [(4, 1)])) (zq_ev r (0, [(5, 1)])) (zq_ev r (0, [(6, 1)])) (zq_ev r (0, [(7, 1)])) P h := k1
  simp only [q0, q10, q11, q13, q15, q16, q17, q18] at k1
  have k2 := zj_use x_DG (zq_okX_t (hK))
  have k2 : zn_DG (zq_ev r (0, [(2, 1)])) (zq_ev r (0, [(6, 1)])) (zq_ev r (0, [(8, 1)])) P h := k2
  simp only [q0, q15, q19] at k2
  obtain t1 := zr_v_l (P := P) (h := h) (a := r 0) (v := r 1) (Y := r 2) (z := r 3) (s := r 4) (i := r 5) (q := r 6) (t := r 7) (c := r 8) (x := r 9) (y := r 10) (u := r 11) a1 a2 a3 a4 a5 a6 a7 a8 a9 a10 s1 s2 k1 k2
  obtain ⟨rq, hr⟩ : ∃ rq : Nat → Int, (∀ i, i < 12 → rq i = r i) := ⟨r, fun i hi => rfl⟩
  have v0 : rq 0 = r 0 := hr 0 (by decide)
  have v1 : rq 1 = r 1 := hr 1 (by decide)
  have v2 : rq 2 = r 2 := hr 2 (by decide)
  have v3 : rq 3 = r 3 := hr 3 (by decide)
  have v4 : rq 4 = r 4 := hr 4 (by decide)
  have v5 : rq 5 = r 5 := hr 5 (by decide)
  have v6 : rq 6 = r 6 := hr 6 (by decide)
  have v7 : rq 7 = r 7 := hr 7 (by decide)
  have g0 : zq_ev rq (0, [(0, 1)]) = r 0 := zu_f1 v0
  have g1 : zq_ev rq (0, [(1, 1)]) = r 1 := zu_f1 v1
  have g2 : zq_ev rq (0, [(2, 1)]) = r 2 := zu_f1 v2
  have g3 : zq_ev rq (0, [(3, 1)]) = r 3 := zu_f1 v3
  have g4 : zq_ev rq (0, [(4, 1)]) = r 4 := zu_f1 v4
  have g5 : zq_ev rq (1, [(5, 1)]) = r 5 + 1 := zu_f2 v5 _
  have g6 : zq_ev rq (1, [(6, 1)]) = r 6 + 1 := zu_f2 v6 _
  have g7 : zq_ev rq (1, [(7, 1)]) = r 7 + 1 := zu_f2 v7 _
  exact ⟨_, List.mem_cons_self .., rq, hr, zq_MeS_mk rfl hT (zq_all_nil) zq_fan (zq_fan) rfl (zu_fac ((x_KS _ _ _).mpr (by show zr_KS (zq_ev rq (0, [(0, 1)])) (zq_ev rq (0, [(1, 1)])) (zq_ev rq (0, [(2, 1)])) (zq_ev rq (0, [(3, 1)])) (zq_ev rq (0, [(4, 1)])) (zq_ev rq (1, [(5, 1)])) (zq_ev rq (1, [(6, 1)])) (zq_ev rq (1, [(7, 1)])) P h; simp only [g0, g1, g2, g3, g4, g5, g6, g7]; exact t1)) zq_fan)⟩
noncomputable def zr_vf : zq_S × List zq_S := (([], [], [(0, [(6, 1)]), (-1, [(3, 1), (6, -1)]), (-2, [(8, 1), (9, -16)]), (2, [(8, -1), (9, 16)]), (-32, [(7, 1)])], [], [], [], [(263, [(0, [(0, 1)]), (0, [(1, 1)]), (0, [(2, 1)]), (0, [(3, 1)]), (0, [(4, 1)]), (0, [(5, 1)]), (0, [(6, 1)]), (0, [(7, 1)])]), (134, [(0, [(2, 1)]), (0, [(6, 1)]), (0, [(8, 1)])])], 11), [([], [], [], [], [], [], [(266, [(0, [(1, 1)]), (0, [(2, 1)]), (0, [(3, 1)]), (0, [(4, 1)]), (1, []), (0, [(10, 1)])])], 11)])
theorem zr_vf_l {P : zq_Ty} {h : zq_H} {a v Y z s i q t c x r : Int} (a1 : 0 ≤ q) (a2 : 0 ≤ z - q - 1) (a3 : 0 ≤ c - 16 * x - 2) (a4 : 0 ≤ -c + 16 * x + 2) (a5 : 0 ≤ t - 32) (k1 : zr_KS a v Y z s i q t P h) (k2 : zn_DG Y q c P h) : (zr_RK v Y z s 1 r P h) := by
  obtain ⟨w1, w2, w3, w5, w4⟩ := k1
  have hc : zn_dg Y q = 2 + 16 * x := by have e : c = zn_dg Y q := k2; omega
  refine ⟨w5, ?_⟩
  rw [if_pos rfl]
  exact zr_R_none w4 (fun _ R => zr_s_wordf a1 (by omega) hc (Or.inl (by rw [zr_st_len]; omega)))
theorem zr_vf_ok {w : zq_Wd} (x_KS : zj_is w 263 (fun q => zr_KS (q 0) (q 1) (q 2) (q 3) (q 4) (q 5) (q 6) (q 7))) (x_DG : zj_is w 134 (fun q => zn_DG (q 0) (q 1) (q 2))) (x_RK : zj_is w 266 (fun q => zr_RK (q 0) (q 1) (q 2) (q 3) (q 4) (q 5))) : zq_okG1 w zr_vf := by
  refine ⟨rfl, rfl, zu_fac ⟨rfl, by decide⟩ zq_fan, ?_⟩
  intro r P h H hM
  have q0 : zq_ev r (0, [(6, 1)]) = r 6 := zu_e1 _ _
  have q1 : zq_ev r (-1, [(3, 1), (6, -1)]) = r 3 - r 6 - 1 := by simp only [zq_ev, zq_ts] <;> omega
  have q2 : zq_ev r (-2, [(8, 1), (9, -16)]) = r 8 - 16 * r 9 - 2 := by simp only [zq_ev, zq_ts] <;> omega
  have q3 : zq_ev r (2, [(8, -1), (9, 16)]) = -r 8 + 16 * r 9 + 2 := by simp only [zq_ev, zq_ts] <;> omega
  have q4 : zq_ev r (-32, [(7, 1)]) = r 7 - 32 := zu_e3 _ _ _
  have q5 : zq_ev r (0, [(0, 1)]) = r 0 := zu_e1 _ _
  have q6 : zq_ev r (0, [(1, 1)]) = r 1 := zu_e1 _ _
  have q7 : zq_ev r (0, [(2, 1)]) = r 2 := zu_e1 _ _
  have q8 : zq_ev r (0, [(3, 1)]) = r 3 := zu_e1 _ _
  have q9 : zq_ev r (0, [(4, 1)]) = r 4 := zu_e1 _ _
  have q10 : zq_ev r (0, [(5, 1)]) = r 5 := zu_e1 _ _
  have q11 : zq_ev r (0, [(7, 1)]) = r 7 := zu_e1 _ _
  have q12 : zq_ev r (0, [(8, 1)]) = r 8 := zu_e1 _ _
  obtain ⟨hT, hC, hF, hS, -, hK⟩ := hM
  have c := hC.1
  have a1 := zq_all_1 c
  rw [q0] at a1
  have c := zq_all_t c
  have a2 := zq_all_1 c
  rw [q1] at a2
  have c := zq_all_t c
  have a3 := zq_all_1 c
  rw [q2] at a3
  have c := zq_all_t c
  have a4 := zq_all_1 c
  rw [q3] at a4
  have c := zq_all_t c
  have a5 := zq_all_1 c
  rw [q4] at a5
  have k1 := zj_use x_KS (hK)
  have k1 : zr_KS (zq_ev r (0, [(0, 1)])) (zq_ev r (0, [(1, 1)])) (zq_ev r (0, [(2, 1)])) (zq_ev r (0, [(3, 1)])) (zq_ev r (0, [(4, 1)])) (zq_ev r (0, [(5, 1)])) (zq_ev r (0, [(6, 1)])) (zq_ev r (0, [(7, 1)])) P h := k1
  simp only [q0, q10, q11, q5, q6, q7, q8, q9] at k1
  have k2 := zj_use x_DG (zq_okX_t (hK))
  have k2 : zn_DG (zq_ev r (0, [(2, 1)])) (zq_ev r (0, [(6, 1)])) (zq_ev r (0, [(8, 1)])) P h := k2
  simp only [q0, q12, q7] at k2
  obtain t1 := zr_vf_l (P := P) (h := h) (a := r 0) (v := r 1) (Y := r 2) (z := r 3) (s := r 4) (i := r 5) (q := r 6) (t := r 7) (c := r 8) (x := r 9) (r := r 10) a1 a2 a3 a4 a5 k1 k2
  obtain ⟨rq, hr⟩ : ∃ rq : Nat → Int, (∀ i, i < 11 → rq i = r i) := ⟨r, fun i hi => rfl⟩
  have v1 : rq 1 = r 1 := hr 1 (by decide)
  have v2 : rq 2 = r 2 := hr 2 (by decide)
  have v3 : rq 3 = r 3 := hr 3 (by decide)
  have v4 : rq 4 = r 4 := hr 4 (by decide)
  have v10 : rq 10 = r 10 := hr 10 (by decide)
  have g0 : zq_ev rq (0, [(1, 1)]) = r 1 := zu_f1 v1
  have g1 : zq_ev rq (0, [(2, 1)]) = r 2 := zu_f1 v2
  have g2 : zq_ev rq (0, [(3, 1)]) = r 3 := zu_f1 v3
  have g3 : zq_ev rq (0, [(4, 1)]) = r 4 := zu_f1 v4
  have g4 : zq_ev rq (1, []) = 1 := zu_e0 _ _
  have g5 : zq_ev rq (0, [(10, 1)]) = r 10 := zu_f1 v10
  exact ⟨_, List.mem_cons_self .., rq, hr, zq_MeS_mk rfl hT (zq_all_nil) zq_fan (zq_fan) rfl (zu_fac ((x_RK _ _ _).mpr (by show zr_RK (zq_ev rq (0, [(1, 1)])) (zq_ev rq (0, [(2, 1)])) (zq_ev rq (0, [(3, 1)])) (zq_ev rq (0, [(4, 1)])) (zq_ev rq (1, [])) (zq_ev rq (0, [(10, 1)])) P h; simp only [g0, g1, g2, g3, g4, g5]; exact t1)) zq_fan)⟩
noncomputable def zr_vg : zq_S × List zq_S := (([], [], [(0, [(6, 1)]), (-1, [(3, 1), (6, -1)]), (-2, [(8, 1), (9, -16)]), (2, [(8, -1), (9, 16)]), (-22, [(9, 1)])], [], [], [], [(263, [(0, [(0, 1)]), (0, [(1, 1)]), (0, [(2, 1)]), (0, [(3, 1)]), (0, [(4, 1)]), (0, [(5, 1)]), (0, [(6, 1)]), (0, [(7, 1)])]), (134, [(0, [(2, 1)]), (0, [(6, 1)]), (0, [(8, 1)])])], 11), [([], [], [], [], [], [], [(266, [(0, [(1, 1)]), (0, [(2, 1)]), (0, [(3, 1)]), (0, [(4, 1)]), (1, []), (0, [(10, 1)])])], 11)])
theorem zr_vg_l {P : zq_Ty} {h : zq_H} {a v Y z s i q t c x r : Int} (a1 : 0 ≤ q) (a2 : 0 ≤ z - q - 1) (a3 : 0 ≤ c - 16 * x - 2) (a4 : 0 ≤ -c + 16 * x + 2) (a5 : 0 ≤ x - 22) (k1 : zr_KS a v Y z s i q t P h) (k2 : zn_DG Y q c P h) : (zr_RK v Y z s 1 r P h) := by
  obtain ⟨w1, w2, w3, w5, w4⟩ := k1
  have hc : zn_dg Y q = 2 + 16 * x := by have e : c = zn_dg Y q := k2; omega
  refine ⟨w5, ?_⟩
  rw [if_pos rfl]
  exact zr_R_none w4 (fun _ R => zr_s_wordf a1 (by omega) hc (Or.inr (by omega)))
theorem zr_vg_ok {w : zq_Wd} (x_KS : zj_is w 263 (fun q => zr_KS (q 0) (q 1) (q 2) (q 3) (q 4) (q 5) (q 6) (q 7))) (x_DG : zj_is w 134 (fun q => zn_DG (q 0) (q 1) (q 2))) (x_RK : zj_is w 266 (fun q => zr_RK (q 0) (q 1) (q 2) (q 3) (q 4) (q 5))) : zq_okG1 w zr_vg := by
  refine ⟨rfl, rfl, zu_fac ⟨rfl, by decide⟩ zq_fan, ?_⟩
  intro r P h H hM
  have q0 : zq_ev r (0, [(6, 1)]) = r 6 := zu_e1 _ _
  have q1 : zq_ev r (-1, [(3, 1), (6, -1)]) = r 3 - r 6 - 1 := by simp only [zq_ev, zq_ts] <;> omega
  have q2 : zq_ev r (-2, [(8, 1), (9, -16)]) = r 8 - 16 * r 9 - 2 := by simp only [zq_ev, zq_ts] <;> omega
  have q3 : zq_ev r (2, [(8, -1), (9, 16)]) = -r 8 + 16 * r 9 + 2 := by simp only [zq_ev, zq_ts] <;> omega
  have q4 : zq_ev r (-22, [(9, 1)]) = r 9 - 22 := zu_e3 _ _ _
  have q5 : zq_ev r (0, [(0, 1)]) = r 0 := zu_e1 _ _
  have q6 : zq_ev r (0, [(1, 1)]) = r 1 := zu_e1 _ _
  have q7 : zq_ev r (0, [(2, 1)]) = r 2 := zu_e1 _ _
  have q8 : zq_ev r (0, [(3, 1)]) = r 3 := zu_e1 _ _
  have q9 : zq_ev r (0, [(4, 1)]) = r 4 := zu_e1 _ _
  have q10 : zq_ev r (0, [(5, 1)]) = r 5 := zu_e1 _ _
  have q11 : zq_ev r (0, [(7, 1)]) = r 7 := zu_e1 _ _
  have q12 : zq_ev r (0, [(8, 1)]) = r 8 := zu_e1 _ _
  obtain ⟨hT, hC, hF, hS, -, hK⟩ := hM
  have c := hC.1
  have a1 := zq_all_1 c
  rw [q0] at a1
  have c := zq_all_t c
  have a2 := zq_all_1 c
  rw [q1] at a2
  have c := zq_all_t c
  have a3 := zq_all_1 c
  rw [q2] at a3
  have c := zq_all_t c
  have a4 := zq_all_1 c
  rw [q3] at a4
  have c := zq_all_t c
  have a5 := zq_all_1 c
  rw [q4] at a5
  have k1 := zj_use x_KS (hK)
  have k1 : zr_KS (zq_ev r (0, [(0, 1)])) (zq_ev r (0, [(1, 1)])) (zq_ev r (0, [(2, 1)])) (zq_ev r (0, [(3, 1)])) (zq_ev r (0, [(4, 1)])) (zq_ev r (0, [(5, 1)])) (zq_ev r (0, [(6, 1)])) (zq_ev r (0, [(7, 1)])) P h := k1
  simp only [q0, q10, q11, q5, q6, q7, q8, q9] at k1
  have k2 := zj_use x_DG (zq_okX_t (hK))
  have k2 : zn_DG (zq_ev r (0, [(2, 1)])) (zq_ev r (0, [(6, 1)])) (zq_ev r (0, [(8, 1)])) P h := k2
  simp only [q0, q12, q7] at k2
  obtain t1 := zr_vg_l (P := P) (h := h) (a := r 0) (v := r 1) (Y := r 2) (z := r 3) (s := r 4) (i := r 5) (q := r 6) (t := r 7) (c := r 8) (x := r 9) (r := r 10) a1 a2 a3 a4 a5 k1 k2
  obtain ⟨rq, hr⟩ : ∃ rq : Nat → Int, (∀ i, i < 11 → rq i = r i) := ⟨r, fun i hi => rfl⟩
  have v1 : rq 1 = r 1 := hr 1 (by decide)
  have v2 : rq 2 = r 2 := hr 2 (by decide)
  have v3 : rq 3 = r 3 := hr 3 (by decide)
  have v4 : rq 4 = r 4 := hr 4 (by decide)
  have v10 : rq 10 = r 10 := hr 10 (by decide)
  have g0 : zq_ev rq (0, [(1, 1)]) = r 1 := zu_f1 v1
  have g1 : zq_ev rq (0, [(2, 1)]) = r 2 := zu_f1 v2
  have g2 : zq_ev rq (0, [(3, 1)]) = r 3 := zu_f1 v3
  have g3 : zq_ev rq (0, [(4, 1)]) = r 4 := zu_f1 v4
  have g4 : zq_ev rq (1, []) = 1 := zu_e0 _ _
  have g5 : zq_ev rq (0, [(10, 1)]) = r 10 := zu_f1 v10
  exact ⟨_, List.mem_cons_self .., rq, hr, zq_MeS_mk rfl hT (zq_all_nil) zq_fan (zq_fan) rfl (zu_fac ((x_RK _ _ _).mpr (by show zr_RK (zq_ev rq (0, [(1, 1)])) (zq_ev rq (0, [(2, 1)])) (zq_ev rq (0, [(3, 1)])) (zq_ev rq (0, [(4, 1)])) (zq_ev rq (1, [])) (zq_ev rq (0, [(10, 1)])) P h; simp only [g0, g1, g2, g3, g4, g5]; exact t1)) zq_fan)⟩
noncomputable def zr_e0 : zq_S × List zq_S := (([], [], [(0, [(6, 1)]), (-1, [(3, 1), (6, -1)]), (0, [(8, 1), (9, -1), (10, -16)]), (0, [(8, -1), (9, 1), (10, 16)]), (0, [(7, -1)]), (-3, [(9, 1)]), (15, [(9, -1)])], [], [], [], [(263, [(0, [(0, 1)]), (0, [(1, 1)]), (0, [(2, 1)]), (0, [(3, 1)]), (0, [(4, 1)]), (0, [(5, 1)]), (0, [(6, 1)]), (0, [(7, 1)])]), (134, [(0, [(2, 1)]), (0, [(6, 1)]), (0, [(8, 1)])])], 12), [([], [], [], [], [], [], [(266, [(0, [(1, 1)]), (0, [(2, 1)]), (0, [(3, 1)]), (0, [(4, 1)]), (1, []), (0, [(11, 1)])])], 12)])
theorem zr_e0_l {P : zq_Ty} {h : zq_H} {a v Y z s i q t c o x r : Int} (a1 : 0 ≤ q) (a2 : 0 ≤ z - q - 1) (a3 : 0 ≤ c - o - 16 * x) (a4 : 0 ≤ -c + o + 16 * x) (a5 : 0 ≤ -t) (a6 : 0 ≤ o - 3) (a7 : 0 ≤ -o + 15) (k1 : zr_KS a v Y z s i q t P h) (k2 : zn_DG Y q c P h) : (zr_RK v Y z s 1 r P h) := by
  obtain ⟨w1, w2, w3, w5, w4⟩ := k1
  have hc : zn_dg Y q = o + 16 * x := by have e : c = zn_dg Y q := k2; omega
  rw [show t.toNat = 0 by omega] at w4
  refine ⟨w5, ?_⟩
  rw [if_pos rfl]
  exact zr_R_none w4 (fun _ R => zr_s_nil a1 (by omega) hc (by omega) (by omega))
theorem zr_e0_ok {w : zq_Wd} (x_KS : zj_is w 263 (fun q => zr_KS (q 0) (q 1) (q 2) (q 3) (q 4) (q 5) (q 6) (q 7))) (x_DG : zj_is w 134 (fun q => zn_DG (q 0) (q 1) (q 2))) (x_RK : zj_is w 266 (fun q => zr_RK (q 0) (q 1) (q 2) (q 3) (q 4) (q 5))) : zq_okG1 w zr_e0 := by
  refine ⟨rfl, rfl, zu_fac ⟨rfl, by decide⟩ zq_fan, ?_⟩
  intro r P h H hM
  have q0 : zq_ev r (0, [(6, 1)]) = r 6 := zu_e1 _ _
  have q1 : zq_ev r (-1, [(3, 1), (6, -1)]) = r 3 - r 6 - 1 := by simp only [zq_ev, zq_ts] <;> omega
  have q2 : zq_ev r (0, [(8, 1), (9, -1), (10, -16)]) = r 8 - r 9 - 16 * r 10 := by simp only [zq_ev, zq_ts] <;> omega
  have q3 : zq_ev r (0, [(8, -1), (9, 1), (10, 16)]) = -r 8 + r 9 + 16 * r 10 := by simp only [zq_ev, zq_ts] <;> omega
  have q4 : zq_ev r (0, [(7, -1)]) = -r 7 := zu_e4 _ _
  have q5 : zq_ev r (-3, [(9, 1)]) = r 9 - 3 := zu_e3 _ _ _
  have q6 : zq_ev r (15, [(9, -1)]) = -r 9 + 15 := zu_e5 _ _ _
  have q7 : zq_ev r (0, [(0, 1)]) = r 0 := zu_e1 _ _
  have q8 : zq_ev r (0, [(1, 1)]) = r 1 := zu_e1 _ _
  have q9 : zq_ev r (0, [(2, 1)]) = r 2 := zu_e1 _ _
  have q10 : zq_ev r (0, [(3, 1)]) = r 3 := zu_e1 _ _
  have q11 : zq_ev r (0, [(4, 1)]) = r 4 := zu_e1 _ _
  have q12 : zq_ev r (0, [(5, 1)]) = r 5 := zu_e1 _ _
  have q13 : zq_ev r (0, [(7, 1)]) = r 7 := zu_e1 _ _
  have q14 : zq_ev r (0, [(8, 1)]) = r 8 := zu_e1 _ _
  obtain ⟨hT, hC, hF, hS, -, hK⟩ := hM
  have c := hC.1
  have a1 := zq_all_1 c
  rw [q0] at a1
  have c := zq_all_t c
  have a2 := zq_all_1 c
  rw [q1] at a2
  have c := zq_all_t c
  have a3 := zq_all_1 c
  rw [q2] at a3
  have c := zq_all_t c
  have a4 := zq_all_1 c
  rw [q3] at a4
  have c := zq_all_t c
  have a5 := zq_all_1 c
  rw [q4] at a5
  have c := zq_all_t c
  have a6 := zq_all_1 c
  rw [q5] at a6
  have c := zq_all_t c
  have a7 := zq_all_1 c
  rw [q6] at a7
  have k1 := zj_use x_KS (hK)
  have k1 : zr_KS (zq_ev r (0, [(0, 1)])) (zq_ev r (0, [(1, 1)])) (zq_ev r (0, [(2, 1)])) (zq_ev r (0, [(3, 1)])) (zq_ev r (0, [(4, 1)])) (zq_ev r (0, [(5, 1)])) (zq_ev r (0, [(6, 1)])) (zq_ev r (0, [(7, 1)])) P h := k1
  simp only [q0, q10, q11, q12, q13, q7, q8, q9] at k1
  have k2 := zj_use x_DG (zq_okX_t (hK))
  have k2 : zn_DG (zq_ev r (0, [(2, 1)])) (zq_ev r (0, [(6, 1)])) (zq_ev r (0, [(8, 1)])) P h := k2
  simp only [q0, q14, q9] at k2
  obtain t1 := zr_e0_l (P := P) (h := h) (a := r 0) (v := r 1) (Y := r 2) (z := r 3) (s := r 4) (i := r 5) (q := r 6) (t := r 7) (c := r 8) (o := r 9) (x := r 10) (r := r 11) a1 a2 a3 a4 a5 a6 a7 k1 k2
  obtain ⟨rq, hr⟩ : ∃ rq : Nat → Int, (∀ i, i < 12 → rq i = r i) := ⟨r, fun i hi => rfl⟩
  have v1 : rq 1 = r 1 := hr 1 (by decide)
  have v2 : rq 2 = r 2 := hr 2 (by decide)
  have v3 : rq 3 = r 3 := hr 3 (by decide)
  have v4 : rq 4 = r 4 := hr 4 (by decide)
  have v11 : rq 11 = r 11 := hr 11 (by decide)
  have g0 : zq_ev rq (0, [(1, 1)]) = r 1 := zu_f1 v1
  have g1 : zq_ev rq (0, [(2, 1)]) = r 2 := zu_f1 v2
  have g2 : zq_ev rq (0, [(3, 1)]) = r 3 := zu_f1 v3
  have g3 : zq_ev rq (0, [(4, 1)]) = r 4 := zu_f1 v4
  have g4 : zq_ev rq (1, []) = 1 := zu_e0 _ _
  have g5 : zq_ev rq (0, [(11, 1)]) = r 11 := zu_f1 v11
  exact ⟨_, List.mem_cons_self .., rq, hr, zq_MeS_mk rfl hT (zq_all_nil) zq_fan (zq_fan) rfl (zu_fac ((x_RK _ _ _).mpr (by show zr_RK (zq_ev rq (0, [(1, 1)])) (zq_ev rq (0, [(2, 1)])) (zq_ev rq (0, [(3, 1)])) (zq_ev rq (0, [(4, 1)])) (zq_ev rq (1, [])) (zq_ev rq (0, [(11, 1)])) P h; simp only [g0, g1, g2, g3, g4, g5]; exact t1)) zq_fan)⟩
noncomputable def zr_es : zq_S × List zq_S := (([], [], [(0, [(6, 1)]), (-1, [(3, 1), (6, -1)]), (0, [(8, 1), (9, -16)]), (0, [(8, -1), (9, 16)]), (0, [(7, -1)])], [], [], [], [(263, [(0, [(0, 1)]), (0, [(1, 1)]), (0, [(2, 1)]), (0, [(3, 1)]), (0, [(4, 1)]), (0, [(5, 1)]), (0, [(6, 1)]), (0, [(7, 1)])]), (134, [(0, [(2, 1)]), (0, [(6, 1)]), (0, [(8, 1)])])], 11), [([], [], [], [], [], [], [(266, [(0, [(1, 1)]), (0, [(2, 1)]), (0, [(3, 1)]), (0, [(4, 1)]), (1, []), (0, [(10, 1)])])], 11)])
theorem zr_es_l {P : zq_Ty} {h : zq_H} {a v Y z s i q t c x r : Int} (a1 : 0 ≤ q) (a2 : 0 ≤ z - q - 1) (a3 : 0 ≤ c - 16 * x) (a4 : 0 ≤ -c + 16 * x) (a5 : 0 ≤ -t) (k1 : zr_KS a v Y z s i q t P h) (k2 : zn_DG Y q c P h) : (zr_RK v Y z s 1 r P h) := by
  obtain ⟨w1, w2, w3, w5, w4⟩ := k1
  have hc : zn_dg Y q = 0 + 16 * x := by have e : c = zn_dg Y q := k2; omega
  rw [show t.toNat = 0 by omega] at w4
  refine ⟨w5, ?_⟩
  rw [if_pos rfl]
  exact zr_R_none w4 (fun _ R => zr_s_nil a1 (by omega) hc (by omega) (by omega))
theorem zr_es_ok {w : zq_Wd} (x_KS : zj_is w 263 (fun q => zr_KS (q 0) (q 1) (q 2) (q 3) (q 4) (q 5) (q 6) (q 7))) (x_DG : zj_is w 134 (fun q => zn_DG (q 0) (q 1) (q 2))) (x_RK : zj_is w 266 (fun q => zr_RK (q 0) (q 1) (q 2) (q 3) (q 4) (q 5))) : zq_okG1 w zr_es := by
  refine ⟨rfl, rfl, zu_fac ⟨rfl, by decide⟩ zq_fan, ?_⟩
  intro r P h H hM
  have q0 : zq_ev r (0, [(6, 1)]) = r 6 := zu_e1 _ _
  have q1 : zq_ev r (-1, [(3, 1), (6, -1)]) = r 3 - r 6 - 1 := by simp only [zq_ev, zq_ts] <;> omega
  have q2 : zq_ev r (0, [(8, 1), (9, -16)]) = r 8 - 16 * r 9 := by simp only [zq_ev, zq_ts] <;> omega
  have q3 : zq_ev r (0, [(8, -1), (9, 16)]) = -r 8 + 16 * r 9 := by simp only [zq_ev, zq_ts] <;> omega
  have q4 : zq_ev r (0, [(7, -1)]) = -r 7 := zu_e4 _ _
  have q5 : zq_ev r (0, [(0, 1)]) = r 0 := zu_e1 _ _
  have q6 : zq_ev r (0, [(1, 1)]) = r 1 := zu_e1 _ _
  have q7 : zq_ev r (0, [(2, 1)]) = r 2 := zu_e1 _ _
  have q8 : zq_ev r (0, [(3, 1)]) = r 3 := zu_e1 _ _
  have q9 : zq_ev r (0, [(4, 1)]) = r 4 := zu_e1 _ _
  have q10 : zq_ev r (0, [(5, 1)]) = r 5 := zu_e1 _ _
  have q11 : zq_ev r (0, [(7, 1)]) = r 7 := zu_e1 _ _
  have q12 : zq_ev r (0, [(8, 1)]) = r 8 := zu_e1 _ _
  obtain ⟨hT, hC, hF, hS, -, hK⟩ := hM
  have c := hC.1
  have a1 := zq_all_1 c
  rw [q0] at a1
  have c := zq_all_t c
  have a2 := zq_all_1 c
  rw [q1] at a2
  have c := zq_all_t c
  have a3 := zq_all_1 c
  rw [q2] at a3
  have c := zq_all_t c
  have a4 := zq_all_1 c
  rw [q3] at a4
  have c := zq_all_t c
  have a5 := zq_all_1 c
  rw [q4] at a5
  have k1 := zj_use x_KS (hK)
  have k1 : zr_KS (zq_ev r (0, [(0, 1)])) (zq_ev r (0, [(1, 1)])) (zq_ev r (0, [(2, 1)])) (zq_ev r (0, [(3, 1)])) (zq_ev r (0, [(4, 1)])) (zq_ev r (0, [(5, 1)])) (zq_ev r (0, [(6, 1)])) (zq_ev r (0, [(7, 1)])) P h := k1
  simp only [q0, q10, q11, q5, q6, q7, q8, q9] at k1
  have k2 := zj_use x_DG (zq_okX_t (hK))
  have k2 : zn_DG (zq_ev r (0, [(2, 1)])) (zq_ev r (0, [(6, 1)])) (zq_ev r (0, [(8, 1)])) P h := k2
  simp only [q0, q12, q7] at k2
  obtain t1 := zr_es_l (P := P) (h := h) (a := r 0) (v := r 1) (Y := r 2) (z := r 3) (s := r 4) (i := r 5) (q := r 6) (t := r 7) (c := r 8) (x := r 9) (r := r 10) a1 a2 a3 a4 a5 k1 k2
  obtain ⟨rq, hr⟩ : ∃ rq : Nat → Int, (∀ i, i < 11 → rq i = r i) := ⟨r, fun i hi => rfl⟩
  have v1 : rq 1 = r 1 := hr 1 (by decide)
  have v2 : rq 2 = r 2 := hr 2 (by decide)
  have v3 : rq 3 = r 3 := hr 3 (by decide)
  have v4 : rq 4 = r 4 := hr 4 (by decide)
  have v10 : rq 10 = r 10 := hr 10 (by decide)
  have g0 : zq_ev rq (0, [(1, 1)]) = r 1 := zu_f1 v1
  have g1 : zq_ev rq (0, [(2, 1)]) = r 2 := zu_f1 v2
  have g2 : zq_ev rq (0, [(3, 1)]) = r 3 := zu_f1 v3
  have g3 : zq_ev rq (0, [(4, 1)]) = r 4 := zu_f1 v4
  have g4 : zq_ev rq (1, []) = 1 := zu_e0 _ _
  have g5 : zq_ev rq (0, [(10, 1)]) = r 10 := zu_f1 v10
  exact ⟨_, List.mem_cons_self .., rq, hr, zq_MeS_mk rfl hT (zq_all_nil) zq_fan (zq_fan) rfl (zu_fac ((x_RK _ _ _).mpr (by show zr_RK (zq_ev rq (0, [(1, 1)])) (zq_ev rq (0, [(2, 1)])) (zq_ev rq (0, [(3, 1)])) (zq_ev rq (0, [(4, 1)])) (zq_ev rq (1, [])) (zq_ev rq (0, [(10, 1)])) P h; simp only [g0, g1, g2, g3, g4, g5]; exact t1)) zq_fan)⟩
noncomputable def zr_e1 : zq_S × List zq_S := (([], [], [(0, [(6, 1)]), (-1, [(3, 1), (6, -1)]), (0, [(8, 1), (9, -1), (10, -16)]), (0, [(8, -1), (9, 1), (10, 16)]), (1, [(7, -1)]), (-6, [(9, 1)]), (15, [(9, -1)])], [], [], [], [(263, [(0, [(0, 1)]), (0, [(1, 1)]), (0, [(2, 1)]), (0, [(3, 1)]), (0, [(4, 1)]), (0, [(5, 1)]), (0, [(6, 1)]), (0, [(7, 1)])]), (134, [(0, [(2, 1)]), (0, [(6, 1)]), (0, [(8, 1)])])], 12), [([], [], [], [], [], [], [(266, [(0, [(1, 1)]), (0, [(2, 1)]), (0, [(3, 1)]), (0, [(4, 1)]), (1, []), (0, [(11, 1)])])], 12)])
theorem zr_e1_l {P : zq_Ty} {h : zq_H} {a v Y z s i q t c o x r : Int} (a1 : 0 ≤ q) (a2 : 0 ≤ z - q - 1) (a3 : 0 ≤ c - o - 16 * x) (a4 : 0 ≤ -c + o + 16 * x) (a5 : 0 ≤ -t + 1) (a6 : 0 ≤ o - 6) (a7 : 0 ≤ -o + 15) (k1 : zr_KS a v Y z s i q t P h) (k2 : zn_DG Y q c P h) : (zr_RK v Y z s 1 r P h) := by
  obtain ⟨w1, w2, w3, w5, w4⟩ := k1
  have hc : zn_dg Y q = o + 16 * x := by have e : c = zn_dg Y q := k2; omega
  refine ⟨w5, ?_⟩
  rw [if_pos rfl]
  refine zr_R_none w4 (fun _ R => ?_)
  by_cases e : t = 0
  · rw [show t.toNat = 0 by omega]
    exact zr_s_nil a1 (by omega) hc (by omega) (by omega)
  · rw [show t.toNat = 0 + 1 by omega]
    exact zr_s_one a1 (by omega) hc (by omega) (by omega)
theorem zr_e1_ok {w : zq_Wd} (x_KS : zj_is w 263 (fun q => zr_KS (q 0) (q 1) (q 2) (q 3) (q 4) (q 5) (q 6) (q 7))) (x_DG : zj_is w 134 (fun q => zn_DG (q 0) (q 1) (q 2))) (x_RK : zj_is w 266 (fun q => zr_RK (q 0) (q 1) (q 2) (q 3) (q 4) (q 5))) : zq_okG1 w zr_e1 := by
  refine ⟨rfl, rfl, zu_fac ⟨rfl, by decide⟩ zq_fan, ?_⟩
  intro r P h H hM
  have q0 : zq_ev r (0, [(6, 1)]) = r 6 := zu_e1 _ _
  have q1 : zq_ev r (-1, [(3, 1), (6, -1)]) = r 3 - r 6 - 1 := by simp only [zq_ev, zq_ts] <;> omega
  have q2 : zq_ev r (0, [(8, 1), (9, -1), (10, -16)]) = r 8 - r 9 - 16 * r 10 := by simp only [zq_ev, zq_ts] <;> omega
  have q3 : zq_ev r (0, [(8, -1), (9, 1), (10, 16)]) = -r 8 + r 9 + 16 * r 10 := by simp only [zq_ev, zq_ts] <;> omega
  have q4 : zq_ev r (1, [(7, -1)]) = -r 7 + 1 := zu_e5 _ _ _
  have q5 : zq_ev r (-6, [(9, 1)]) = r 9 - 6 := zu_e3 _ _ _
  have q6 : zq_ev r (15, [(9, -1)]) = -r 9 + 15 := zu_e5 _ _ _
  have q7 : zq_ev r (0, [(0, 1)]) = r 0 := zu_e1 _ _
  have q8 : zq_ev r (0, [(1, 1)]) = r 1 := zu_e1 _ _
  have q9 : zq_ev r (0, [(2, 1)]) = r 2 := zu_e1 _ _
  have q10 : zq_ev r (0, [(3, 1)]) = r 3 := zu_e1 _ _
  have q11 : zq_ev r (0, [(4, 1)]) = r 4 := zu_e1 _ _
  have q12 : zq_ev r (0, [(5, 1)]) = r 5 := zu_e1 _ _
  have q13 : zq_ev r (0, [(7, 1)]) = r 7 := zu_e1 _ _
  have q14 : zq_ev r (0, [(8, 1)]) = r 8 := zu_e1 _ _
  obtain ⟨hT, hC, hF, hS, -, hK⟩ := hM
  have c := hC.1
  have a1 := zq_all_1 c
  rw [q0] at a1
  have c := zq_all_t c
  have a2 := zq_all_1 c
  rw [q1] at a2
  have c := zq_all_t c
  have a3 := zq_all_1 c
  rw [q2] at a3
  have c := zq_all_t c
  have a4 := zq_all_1 c
  rw [q3] at a4
  have c := zq_all_t c
  have a5 := zq_all_1 c
  rw [q4] at a5
  have c := zq_all_t c
  have a6 := zq_all_1 c
  rw [q5] at a6
  have c := zq_all_t c
  have a7 := zq_all_1 c
  rw [q6] at a7
  have k1 := zj_use x_KS (hK)
  have k1 : zr_KS (zq_ev r (0, [(0, 1)])) (zq_ev r (0, [(1, 1)])) (zq_ev r (0, [(2, 1)])) (zq_ev r (0, [(3, 1)])) (zq_ev r (0, [(4, 1)])) (zq_ev r (0, [(5, 1)])) (zq_ev r (0, [(6, 1)])) (zq_ev r (0, [(7, 1)])) P h := k1
  simp only [q0, q10, q11, q12, q13, q7, q8, q9] at k1
  have k2 := zj_use x_DG (zq_okX_t (hK))
  have k2 : zn_DG (zq_ev r (0, [(2, 1)])) (zq_ev r (0, [(6, 1)])) (zq_ev r (0, [(8, 1)])) P h := k2
  simp only [q0, q14, q9] at k2
  obtain t1 := zr_e1_l (P := P) (h := h) (a := r 0) (v := r 1) (Y := r 2) (z := r 3) (s := r 4) (i := r 5) (q := r 6) (t := r 7) (c := r 8) (o := r 9) (x := r 10) (r := r 11) a1 a2 a3 a4 a5 a6 a7 k1 k2
  obtain ⟨rq, hr⟩ : ∃ rq : Nat → Int, (∀ i, i < 12 → rq i = r i) := ⟨r, fun i hi => rfl⟩
  have v1 : rq 1 = r 1 := hr 1 (by decide)
  have v2 : rq 2 = r 2 := hr 2 (by decide)
  have v3 : rq 3 = r 3 := hr 3 (by decide)
  have v4 : rq 4 = r 4 := hr 4 (by decide)
  have v11 : rq 11 = r 11 := hr 11 (by decide)
  have g0 : zq_ev rq (0, [(1, 1)]) = r 1 := zu_f1 v1
  have g1 : zq_ev rq (0, [(2, 1)]) = r 2 := zu_f1 v2
  have g2 : zq_ev rq (0, [(3, 1)]) = r 3 := zu_f1 v3
  have g3 : zq_ev rq (0, [(4, 1)]) = r 4 := zu_f1 v4
  have g4 : zq_ev rq (1, []) = 1 := zu_e0 _ _
  have g5 : zq_ev rq (0, [(11, 1)]) = r 11 := zu_f1 v11
  exact ⟨_, List.mem_cons_self .., rq, hr, zq_MeS_mk rfl hT (zq_all_nil) zq_fan (zq_fan) rfl (zu_fac ((x_RK _ _ _).mpr (by show zr_RK (zq_ev rq (0, [(1, 1)])) (zq_ev rq (0, [(2, 1)])) (zq_ev rq (0, [(3, 1)])) (zq_ev rq (0, [(4, 1)])) (zq_ev rq (1, [])) (zq_ev rq (0, [(11, 1)])) P h; simp only [g0, g1, g2, g3, g4, g5]; exact t1)) zq_fan)⟩
noncomputable def zr_el : zq_S × List zq_S := (([], [], [(-448, [(5, 1)])], [], [], [], [(263, [(0, [(0, 1)]), (0, [(1, 1)]), (0, [(2, 1)]), (0, [(3, 1)]), (0, [(4, 1)]), (0, [(5, 1)]), (0, [(6, 1)]), (0, [(7, 1)])])], 9), [([], [], [], [], [], [], [(266, [(0, [(1, 1)]), (0, [(2, 1)]), (0, [(3, 1)]), (0, [(4, 1)]), (1, []), (0, [(8, 1)])])], 9)])
theorem zr_el_l {P : zq_Ty} {h : zq_H} {a v Y z s i q t r : Int} (a1 : 0 ≤ i - 448) (k1 : zr_KS a v Y z s i q t P h) : (zr_RK v Y z s 1 r P h) := by
  obtain ⟨w1, w2, w3, w5, w4⟩ := k1
  refine ⟨w5, ?_⟩
  rw [if_pos rfl]
  exact zr_R_none w4 (fun x => by omega)
theorem zr_el_ok {w : zq_Wd} (x_KS : zj_is w 263 (fun q => zr_KS (q 0) (q 1) (q 2) (q 3) (q 4) (q 5) (q 6) (q 7))) (x_RK : zj_is w 266 (fun q => zr_RK (q 0) (q 1) (q 2) (q 3) (q 4) (q 5))) : zq_okG1 w zr_el := by
  refine ⟨rfl, rfl, zu_fac ⟨rfl, by decide⟩ zq_fan, ?_⟩
  intro r P h H hM
  have q0 : zq_ev r (-448, [(5, 1)]) = r 5 - 448 := zu_e3 _ _ _
  have q1 : zq_ev r (0, [(0, 1)]) = r 0 := zu_e1 _ _
  have q2 : zq_ev r (0, [(1, 1)]) = r 1 := zu_e1 _ _
  have q3 : zq_ev r (0, [(2, 1)]) = r 2 := zu_e1 _ _
  have q4 : zq_ev r (0, [(3, 1)]) = r 3 := zu_e1 _ _
  have q5 : zq_ev r (0, [(4, 1)]) = r 4 := zu_e1 _ _
  have q6 : zq_ev r (0, [(5, 1)]) = r 5 := zu_e1 _ _
  have q7 : zq_ev r (0, [(6, 1)]) = r 6 := zu_e1 _ _
  have q8 : zq_ev r (0, [(7, 1)]) = r 7 := zu_e1 _ _
  obtain ⟨hT, hC, hF, hS, -, hK⟩ := hM
  have c := hC.1
  have a1 := zq_all_1 c
  rw [q0] at a1
  have k1 := zj_use x_KS (hK)
  have k1 : zr_KS (zq_ev r (0, [(0, 1)])) (zq_ev r (0, [(1, 1)])) (zq_ev r (0, [(2, 1)])) (zq_ev r (0, [(3, 1)])) (zq_ev r (0, [(4, 1)])) (zq_ev r (0, [(5, 1)])) (zq_ev r (0, [(6, 1)])) (zq_ev r (0, [(7, 1)])) P h := k1
  simp only [q1, q2, q3, q4, q5, q6, q7, q8] at k1
  obtain t1 := zr_el_l (P := P) (h := h) (a := r 0) (v := r 1) (Y := r 2) (z := r 3) (s := r 4) (i := r 5) (q := r 6) (t := r 7) (r := r 8) a1 k1
  obtain ⟨rq, hr⟩ : ∃ rq : Nat → Int, (∀ i, i < 9 → rq i = r i) := ⟨r, fun i hi => rfl⟩
  have v1 : rq 1 = r 1 := hr 1 (by decide)
  have v2 : rq 2 = r 2 := hr 2 (by decide)
  have v3 : rq 3 = r 3 := hr 3 (by decide)
  have v4 : rq 4 = r 4 := hr 4 (by decide)
  have v8 : rq 8 = r 8 := hr 8 (by decide)
  have g0 : zq_ev rq (0, [(1, 1)]) = r 1 := zu_f1 v1
  have g1 : zq_ev rq (0, [(2, 1)]) = r 2 := zu_f1 v2
  have g2 : zq_ev rq (0, [(3, 1)]) = r 3 := zu_f1 v3
  have g3 : zq_ev rq (0, [(4, 1)]) = r 4 := zu_f1 v4
  have g4 : zq_ev rq (1, []) = 1 := zu_e0 _ _
  have g5 : zq_ev rq (0, [(8, 1)]) = r 8 := zu_f1 v8
  exact ⟨_, List.mem_cons_self .., rq, hr, zq_MeS_mk rfl hT (zq_all_nil) zq_fan (zq_fan) rfl (zu_fac ((x_RK _ _ _).mpr (by show zr_RK (zq_ev rq (0, [(1, 1)])) (zq_ev rq (0, [(2, 1)])) (zq_ev rq (0, [(3, 1)])) (zq_ev rq (0, [(4, 1)])) (zq_ev rq (1, [])) (zq_ev rq (0, [(8, 1)])) P h; simp only [g0, g1, g2, g3, g4, g5]; exact t1)) zq_fan)⟩
noncomputable def zr_eq : zq_S × List zq_S := (([], [], [(0, [(3, -1), (6, 1)])], [], [], [], [(263, [(0, [(0, 1)]), (0, [(1, 1)]), (0, [(2, 1)]), (0, [(3, 1)]), (0, [(4, 1)]), (0, [(5, 1)]), (0, [(6, 1)]), (0, [(7, 1)])])], 9), [([], [], [], [], [], [], [(266, [(0, [(1, 1)]), (0, [(2, 1)]), (0, [(3, 1)]), (0, [(4, 1)]), (1, []), (0, [(8, 1)])])], 9)])
theorem zr_eq_l {P : zq_Ty} {h : zq_H} {a v Y z s i q t r : Int} (a1 : 0 ≤ -z + q) (k1 : zr_KS a v Y z s i q t P h) : (zr_RK v Y z s 1 r P h) := by
  obtain ⟨w1, w2, w3, w5, w4⟩ := k1
  refine ⟨w5, ?_⟩
  rw [if_pos rfl]
  exact zr_R_none w4 (fun _ R => zr_s_end (Or.inr (by omega)))
theorem zr_eq_ok {w : zq_Wd} (x_KS : zj_is w 263 (fun q => zr_KS (q 0) (q 1) (q 2) (q 3) (q 4) (q 5) (q 6) (q 7))) (x_RK : zj_is w 266 (fun q => zr_RK (q 0) (q 1) (q 2) (q 3) (q 4) (q 5))) : zq_okG1 w zr_eq := by
  refine ⟨rfl, rfl, zu_fac ⟨rfl, by decide⟩ zq_fan, ?_⟩
  intro r P h H hM
  have q0 : zq_ev r (0, [(3, -1), (6, 1)]) = -r 3 + r 6 := by simp only [zq_ev, zq_ts] <;> omega
  have q1 : zq_ev r (0, [(0, 1)]) = r 0 := zu_e1 _ _
  have q2 : zq_ev r (0, [(1, 1)]) = r 1 := zu_e1 _ _
  have q3 : zq_ev r (0, [(2, 1)]) = r 2 := zu_e1 _ _
  have q4 : zq_ev r (0, [(3, 1)]) = r 3 := zu_e1 _ _
  have q5 : zq_ev r (0, [(4, 1)]) = r 4 := zu_e1 _ _
  have q6 : zq_ev r (0, [(5, 1)]) = r 5 := zu_e1 _ _
  have q7 : zq_ev r (0, [(6, 1)]) = r 6 := zu_e1 _ _
  have q8 : zq_ev r (0, [(7, 1)]) = r 7 := zu_e1 _ _
  obtain ⟨hT, hC, hF, hS, -, hK⟩ := hM
  have c := hC.1
  have a1 := zq_all_1 c
  rw [q0] at a1
  have k1 := zj_use x_KS (hK)
  have k1 : zr_KS (zq_ev r (0, [(0, 1)])) (zq_ev r (0, [(1, 1)])) (zq_ev r (0, [(2, 1)])) (zq_ev r (0, [(3, 1)])) (zq_ev r (0, [(4, 1)])) (zq_ev r (0, [(5, 1)])) (zq_ev r (0, [(6, 1)])) (zq_ev r (0, [(7, 1)])) P h := k1
  simp only [q1, q2, q3, q4, q5, q6, q7, q8] at k1
  obtain t1 := zr_eq_l (P := P) (h := h) (a := r 0) (v := r 1) (Y := r 2) (z := r 3) (s := r 4) (i := r 5) (q := r 6) (t := r 7) (r := r 8) a1 k1
  obtain ⟨rq, hr⟩ : ∃ rq : Nat → Int, (∀ i, i < 9 → rq i = r i) := ⟨r, fun i hi => rfl⟩
  have v1 : rq 1 = r 1 := hr 1 (by decide)
  have v2 : rq 2 = r 2 := hr 2 (by decide)
  have v3 : rq 3 = r 3 := hr 3 (by decide)
  have v4 : rq 4 = r 4 := hr 4 (by decide)
  have v8 : rq 8 = r 8 := hr 8 (by decide)
  have g0 : zq_ev rq (0, [(1, 1)]) = r 1 := zu_f1 v1
  have g1 : zq_ev rq (0, [(2, 1)]) = r 2 := zu_f1 v2
  have g2 : zq_ev rq (0, [(3, 1)]) = r 3 := zu_f1 v3
  have g3 : zq_ev rq (0, [(4, 1)]) = r 4 := zu_f1 v4
  have g4 : zq_ev rq (1, []) = 1 := zu_e0 _ _
  have g5 : zq_ev rq (0, [(8, 1)]) = r 8 := zu_f1 v8
  exact ⟨_, List.mem_cons_self .., rq, hr, zq_MeS_mk rfl hT (zq_all_nil) zq_fan (zq_fan) rfl (zu_fac ((x_RK _ _ _).mpr (by show zr_RK (zq_ev rq (0, [(1, 1)])) (zq_ev rq (0, [(2, 1)])) (zq_ev rq (0, [(3, 1)])) (zq_ev rq (0, [(4, 1)])) (zq_ev rq (1, [])) (zq_ev rq (0, [(8, 1)])) P h; simp only [g0, g1, g2, g3, g4, g5]; exact t1)) zq_fan)⟩
noncomputable def zr_en : zq_S × List zq_S := (([], [], [(-1, [(6, -1)])], [], [], [], [(263, [(0, [(0, 1)]), (0, [(1, 1)]), (0, [(2, 1)]), (0, [(3, 1)]), (0, [(4, 1)]), (0, [(5, 1)]), (0, [(6, 1)]), (0, [(7, 1)])])], 9), [([], [], [], [], [], [], [(266, [(0, [(1, 1)]), (0, [(2, 1)]), (0, [(3, 1)]), (0, [(4, 1)]), (1, []), (0, [(8, 1)])])], 9)])
theorem zr_en_l {P : zq_Ty} {h : zq_H} {a v Y z s i q t r : Int} (a1 : 0 ≤ -q - 1) (k1 : zr_KS a v Y z s i q t P h) : (zr_RK v Y z s 1 r P h) := by
  obtain ⟨w1, w2, w3, w5, w4⟩ := k1
  refine ⟨w5, ?_⟩
  rw [if_pos rfl]
  exact zr_R_none w4 (fun _ R => zr_s_end (Or.inl (by omega)))
theorem zr_en_ok {w : zq_Wd} (x_KS : zj_is w 263 (fun q => zr_KS (q 0) (q 1) (q 2) (q 3) (q 4) (q 5) (q 6) (q 7))) (x_RK : zj_is w 266 (fun q => zr_RK (q 0) (q 1) (q 2) (q 3) (q 4) (q 5))) : zq_okG1 w zr_en := by
  refine ⟨rfl, rfl, zu_fac ⟨rfl, by decide⟩ zq_fan, ?_⟩
  intro r P h H hM
  have q0 : zq_ev r (-1, [(6, -1)]) = -r 6 - 1 := zu_e6 _ _ _
  have q1 : zq_ev r (0, [(0, 1)]) = r 0 := zu_e1 _ _
  have q2 : zq_ev r (0, [(1, 1)]) = r 1 := zu_e1 _ _
  have q3 : zq_ev r (0, [(2, 1)]) = r 2 := zu_e1 _ _
  have q4 : zq_ev r (0, [(3, 1)]) = r 3 := zu_e1 _ _
  have q5 : zq_ev r (0, [(4, 1)]) = r 4 := zu_e1 _ _
  have q6 : zq_ev r (0, [(5, 1)]) = r 5 := zu_e1 _ _
  have q7 : zq_ev r (0, [(6, 1)]) = r 6 := zu_e1 _ _
  have q8 : zq_ev r (0, [(7, 1)]) = r 7 := zu_e1 _ _
  obtain ⟨hT, hC, hF, hS, -, hK⟩ := hM
  have c := hC.1
  have a1 := zq_all_1 c
  rw [q0] at a1
  have k1 := zj_use x_KS (hK)
  have k1 : zr_KS (zq_ev r (0, [(0, 1)])) (zq_ev r (0, [(1, 1)])) (zq_ev r (0, [(2, 1)])) (zq_ev r (0, [(3, 1)])) (zq_ev r (0, [(4, 1)])) (zq_ev r (0, [(5, 1)])) (zq_ev r (0, [(6, 1)])) (zq_ev r (0, [(7, 1)])) P h := k1
  simp only [q1, q2, q3, q4, q5, q6, q7, q8] at k1
  obtain t1 := zr_en_l (P := P) (h := h) (a := r 0) (v := r 1) (Y := r 2) (z := r 3) (s := r 4) (i := r 5) (q := r 6) (t := r 7) (r := r 8) a1 k1
  obtain ⟨rq, hr⟩ : ∃ rq : Nat → Int, (∀ i, i < 9 → rq i = r i) := ⟨r, fun i hi => rfl⟩
  have v1 : rq 1 = r 1 := hr 1 (by decide)
  have v2 : rq 2 = r 2 := hr 2 (by decide)
  have v3 : rq 3 = r 3 := hr 3 (by decide)
  have v4 : rq 4 = r 4 := hr 4 (by decide)
  have v8 : rq 8 = r 8 := hr 8 (by decide)
  have g0 : zq_ev rq (0, [(1, 1)]) = r 1 := zu_f1 v1
  have g1 : zq_ev rq (0, [(2, 1)]) = r 2 := zu_f1 v2
  have g2 : zq_ev rq (0, [(3, 1)]) = r 3 := zu_f1 v3
  have g3 : zq_ev rq (0, [(4, 1)]) = r 4 := zu_f1 v4
  have g4 : zq_ev rq (1, []) = 1 := zu_e0 _ _
  have g5 : zq_ev rq (0, [(8, 1)]) = r 8 := zu_f1 v8
  exact ⟨_, List.mem_cons_self .., rq, hr, zq_MeS_mk rfl hT (zq_all_nil) zq_fan (zq_fan) rfl (zu_fac ((x_RK _ _ _).mpr (by show zr_RK (zq_ev rq (0, [(1, 1)])) (zq_ev rq (0, [(2, 1)])) (zq_ev rq (0, [(3, 1)])) (zq_ev rq (0, [(4, 1)])) (zq_ev rq (1, [])) (zq_ev rq (0, [(8, 1)])) P h; simp only [g0, g1, g2, g3, g4, g5]; exact t1)) zq_fan)⟩
noncomputable def zr_s : zq_S × List zq_S := (([], [], [(0, [(6, 1)]), (-1, [(3, 1), (6, -1)]), (447, [(5, -1)]), (0, [(8, 1), (9, -16)]), (0, [(8, -1), (9, 16)]), (-1, [(7, 1)])], [], [((0, [(0, 1)]), (0, []), (0, [(10, 1)]))], [], [(263, [(0, [(0, 1)]), (0, [(1, 1)]), (0, [(2, 1)]), (0, [(3, 1)]), (0, [(4, 1)]), (0, [(5, 1)]), (0, [(6, 1)]), (0, [(7, 1)])]), (134, [(0, [(2, 1)]), (0, [(6, 1)]), (0, [(8, 1)])])], 11), [([], [], [], [], [], [], [(266, [(0, [(1, 1)]), (0, [(2, 1)]), (0, [(3, 1)]), (0, [(4, 1)]), (0, []), (0, [(10, 1)])])], 11)])
theorem zr_s_l {P : zq_Ty} {h : zq_H} {a v Y z s i q t c x r : Int} (a1 : 0 ≤ q) (a2 : 0 ≤ z - q - 1) (a3 : 0 ≤ -i + 447) (a4 : 0 ≤ c - 16 * x) (a5 : 0 ≤ -c + 16 * x) (a6 : 0 ≤ t - 1) (s1 : 0 ≤ a ∧ P (a).toNat ≠ none ∧ h (a).toNat 0 = r) (k1 : zr_KS a v Y z s i q t P h) (k2 : zn_DG Y q c P h) : (zr_RK v Y z s 0 r P h) := by
  obtain ⟨w1, w2, w3, w5, w4⟩ := k1
  have hc : zn_dg Y q = 0 + 16 * x := by have e : c = zn_dg Y q := k2; omega
  refine ⟨w5, ?_⟩
  rw [if_neg (by decide)]
  refine zr_R_some w4 (by omega) (fun R => ?_)
  obtain ⟨k, hk⟩ : ∃ k, t.toNat = k + 1 := ⟨t.toNat - 1, by omega⟩
  rw [hk]
  show zc_s (zn_dg Y) (zr_cw (h v.toNat)) z R q (h a.toNat (k : Int) :: zr_st (h a.toNat) k) = some r
  rw [zr_s_stop a1 (by omega) hc]
  have e := zr_st_last (h a.toNat) 0 k
  rw [s1.2.2] at e
  exact congrArg some e
theorem zr_s_ok {w : zq_Wd} (x_KS : zj_is w 263 (fun q => zr_KS (q 0) (q 1) (q 2) (q 3) (q 4) (q 5) (q 6) (q 7))) (x_DG : zj_is w 134 (fun q => zn_DG (q 0) (q 1) (q 2))) (x_RK : zj_is w 266 (fun q => zr_RK (q 0) (q 1) (q 2) (q 3) (q 4) (q 5))) : zq_okG1 w zr_s := by
  refine ⟨rfl, rfl, zu_fac ⟨rfl, by decide⟩ zq_fan, ?_⟩
  intro r P h H hM
  have q0 : zq_ev r (0, [(6, 1)]) = r 6 := zu_e1 _ _
  have q1 : zq_ev r (-1, [(3, 1), (6, -1)]) = r 3 - r 6 - 1 := by simp only [zq_ev, zq_ts] <;> omega
  have q2 : zq_ev r (447, [(5, -1)]) = -r 5 + 447 := zu_e5 _ _ _
  have q3 : zq_ev r (0, [(8, 1), (9, -16)]) = r 8 - 16 * r 9 := by simp only [zq_ev, zq_ts] <;> omega
  have q4 : zq_ev r (0, [(8, -1), (9, 16)]) = -r 8 + 16 * r 9 := by simp only [zq_ev, zq_ts] <;> omega
  have q5 : zq_ev r (-1, [(7, 1)]) = r 7 - 1 := zu_e3 _ _ _
  have q6 : zq_ev r (0, [(0, 1)]) = r 0 := zu_e1 _ _
  have q7 : zq_ev r (0, []) = 0 := zu_e0 _ _
  have q8 : zq_ev r (0, [(10, 1)]) = r 10 := zu_e1 _ _
  have q9 : zq_ev r (0, [(1, 1)]) = r 1 := zu_e1 _ _
  have q10 : zq_ev r (0, [(2, 1)]) = r 2 := zu_e1 _ _
  have q11 : zq_ev r (0, [(3, 1)]) = r 3 := zu_e1 _ _
  have q12 : zq_ev r (0, [(4, 1)]) = r 4 := zu_e1 _ _
  have q13 : zq_ev r (0, [(5, 1)]) = r 5 := zu_e1 _ _
  have q14 : zq_ev r (0, [(7, 1)]) = r 7 := zu_e1 _ _
  have q15 : zq_ev r (0, [(8, 1)]) = r 8 := zu_e1 _ _
  obtain ⟨hT, hC, hF, hS, -, hK⟩ := hM
  have c := hC.1
  have a1 := zq_all_1 c
  rw [q0] at a1
  have c := zq_all_t c
  have a2 := zq_all_1 c
  rw [q1] at a2
  have c := zq_all_t c
  have a3 := zq_all_1 c
  rw [q2] at a3
  have c := zq_all_t c
  have a4 := zq_all_1 c
  rw [q3] at a4
  have c := zq_all_t c
  have a5 := zq_all_1 c
  rw [q4] at a5
  have c := zq_all_t c
  have a6 := zq_all_1 c
  rw [q5] at a6
  have s1 := zq_okS_1 (hS)
  simp only [q6, q7, q8] at s1
  have k1 := zj_use x_KS (hK)
  have k1 : zr_KS (zq_ev r (0, [(0, 1)])) (zq_ev r (0, [(1, 1)])) (zq_ev r (0, [(2, 1)])) (zq_ev r (0, [(3, 1)])) (zq_ev r (0, [(4, 1)])) (zq_ev r (0, [(5, 1)])) (zq_ev r (0, [(6, 1)])) (zq_ev r (0, [(7, 1)])) P h := k1
  simp only [q0, q10, q11, q12, q13, q14, q6, q9] at k1
  have k2 := zj_use x_DG (zq_okX_t (hK))
  have k2 : zn_DG (zq_ev r (0, [(2, 1)])) (zq_ev r (0, [(6, 1)])) (zq_ev r (0, [(8, 1)])) P h := k2
  simp only [q0, q10, q15] at k2
  obtain t1 := zr_s_l (P := P) (h := h) (a := r 0) (v := r 1) (Y := r 2) (z := r 3) (s := r 4) (i := r 5) (q := r 6) (t := r 7) (c := r 8) (x := r 9) (r := r 10) a1 a2 a3 a4 a5 a6 s1 k1 k2
  obtain ⟨rq, hr⟩ : ∃ rq : Nat → Int, (∀ i, i < 11 → rq i = r i) := ⟨r, fun i hi => rfl⟩
  have v1 : rq 1 = r 1 := hr 1 (by decide)
  have v2 : rq 2 = r 2 := hr 2 (by decide)
  have v3 : rq 3 = r 3 := hr 3 (by decide)
  have v4 : rq 4 = r 4 := hr 4 (by decide)
  have v10 : rq 10 = r 10 := hr 10 (by decide)
  have g0 : zq_ev rq (0, [(1, 1)]) = r 1 := zu_f1 v1
  have g1 : zq_ev rq (0, [(2, 1)]) = r 2 := zu_f1 v2
  have g2 : zq_ev rq (0, [(3, 1)]) = r 3 := zu_f1 v3
  have g3 : zq_ev rq (0, [(4, 1)]) = r 4 := zu_f1 v4
  have g4 : zq_ev rq (0, []) = 0 := zu_e0 _ _
  have g5 : zq_ev rq (0, [(10, 1)]) = r 10 := zu_f1 v10
  exact ⟨_, List.mem_cons_self .., rq, hr, zq_MeS_mk rfl hT (zq_all_nil) zq_fan (zq_fan) rfl (zu_fac ((x_RK _ _ _).mpr (by show zr_RK (zq_ev rq (0, [(1, 1)])) (zq_ev rq (0, [(2, 1)])) (zq_ev rq (0, [(3, 1)])) (zq_ev rq (0, [(4, 1)])) (zq_ev rq (0, [])) (zq_ev rq (0, [(10, 1)])) P h; simp only [g0, g1, g2, g3, g4, g5]; exact t1)) zq_fan)⟩
noncomputable def zr_h : zq_S × List zq_S := (([], [], [(-1, [(7, 1)])], [], [((0, [(0, 1)]), (-1, [(7, 1)]), (0, [(8, 1)]))], [], [(263, [(0, [(0, 1)]), (0, [(1, 1)]), (0, [(2, 1)]), (0, [(3, 1)]), (0, [(4, 1)]), (0, [(5, 1)]), (0, [(6, 1)]), (0, [(7, 1)])])], 9), [([], [], [], [], [], [], [(264, [(0, [(0, 1)]), (0, [(1, 1)]), (0, [(2, 1)]), (0, [(3, 1)]), (0, [(4, 1)]), (0, [(5, 1)]), (0, [(6, 1)]), (-1, [(7, 1)]), (0, [(8, 1)])])], 9)])
theorem zr_h_l {P : zq_Ty} {h : zq_H} {a v Y z s i q t x : Int} (a1 : 0 ≤ t - 1) (s1 : 0 ≤ a ∧ P (a).toNat ≠ none ∧ h (a).toNat (t - 1) = x) (k1 : zr_KS a v Y z s i q t P h) : (zr_KH a v Y z s i q (t - 1) x P h) := by
  obtain ⟨w1, w2, w3, w5, w4⟩ := k1
  refine ⟨w1, by omega, by omega, w5, ?_⟩
  have e := zr_st_1 (f := h a.toNat) (t := t - 1) (by omega)
  rw [show t - 1 + 1 = t by omega, s1.2.2] at e
  rw [e] at w4
  exact w4
theorem zr_h_ok {w : zq_Wd} (x_KS : zj_is w 263 (fun q => zr_KS (q 0) (q 1) (q 2) (q 3) (q 4) (q 5) (q 6) (q 7))) (x_KH : zj_is w 264 (fun q => zr_KH (q 0) (q 1) (q 2) (q 3) (q 4) (q 5) (q 6) (q 7) (q 8))) : zq_okG1 w zr_h := by
  refine ⟨rfl, rfl, zu_fac ⟨rfl, by decide⟩ zq_fan, ?_⟩
  intro r P h H hM
  have q0 : zq_ev r (-1, [(7, 1)]) = r 7 - 1 := zu_e3 _ _ _
  have q1 : zq_ev r (0, [(0, 1)]) = r 0 := zu_e1 _ _
  have q2 : zq_ev r (0, [(8, 1)]) = r 8 := zu_e1 _ _
  have q3 : zq_ev r (0, [(1, 1)]) = r 1 := zu_e1 _ _
  have q4 : zq_ev r (0, [(2, 1)]) = r 2 := zu_e1 _ _
  have q5 : zq_ev r (0, [(3, 1)]) = r 3 := zu_e1 _ _
  have q6 : zq_ev r (0, [(4, 1)]) = r 4 := zu_e1 _ _
  have q7 : zq_ev r (0, [(5, 1)]) = r 5 := zu_e1 _ _
  have q8 : zq_ev r (0, [(6, 1)]) = r 6 := zu_e1 _ _
  have q9 : zq_ev r (0, [(7, 1)]) = r 7 := zu_e1 _ _
  obtain ⟨hT, hC, hF, hS, -, hK⟩ := hM
  have c := hC.1
  have a1 := zq_all_1 c
  rw [q0] at a1
  have s1 := zq_okS_1 (hS)
  simp only [q0, q1, q2] at s1
  have k1 := zj_use x_KS (hK)
  have k1 : zr_KS (zq_ev r (0, [(0, 1)])) (zq_ev r (0, [(1, 1)])) (zq_ev r (0, [(2, 1)])) (zq_ev r (0, [(3, 1)])) (zq_ev r (0, [(4, 1)])) (zq_ev r (0, [(5, 1)])) (zq_ev r (0, [(6, 1)])) (zq_ev r (0, [(7, 1)])) P h := k1
  simp only [q1, q3, q4, q5, q6, q7, q8, q9] at k1
  obtain t1 := zr_h_l (P := P) (h := h) (a := r 0) (v := r 1) (Y := r 2) (z := r 3) (s := r 4) (i := r 5) (q := r 6) (t := r 7) (x := r 8) a1 s1 k1
  obtain ⟨rq, hr⟩ : ∃ rq : Nat → Int, (∀ i, i < 9 → rq i = r i) := ⟨r, fun i hi => rfl⟩
  have v0 : rq 0 = r 0 := hr 0 (by decide)
  have v1 : rq 1 = r 1 := hr 1 (by decide)
  have v2 : rq 2 = r 2 := hr 2 (by decide)
  have v3 : rq 3 = r 3 := hr 3 (by decide)
  have v4 : rq 4 = r 4 := hr 4 (by decide)
  have v5 : rq 5 = r 5 := hr 5 (by decide)
  have v6 : rq 6 = r 6 := hr 6 (by decide)
  have v7 : rq 7 = r 7 := hr 7 (by decide)
  have v8 : rq 8 = r 8 := hr 8 (by decide)
  have g0 : zq_ev rq (0, [(0, 1)]) = r 0 := zu_f1 v0
  have g1 : zq_ev rq (0, [(1, 1)]) = r 1 := zu_f1 v1
  have g2 : zq_ev rq (0, [(2, 1)]) = r 2 := zu_f1 v2
  have g3 : zq_ev rq (0, [(3, 1)]) = r 3 := zu_f1 v3
  have g4 : zq_ev rq (0, [(4, 1)]) = r 4 := zu_f1 v4
  have g5 : zq_ev rq (0, [(5, 1)]) = r 5 := zu_f1 v5
  have g6 : zq_ev rq (0, [(6, 1)]) = r 6 := zu_f1 v6
  have g7 : zq_ev rq (-1, [(7, 1)]) = r 7 - 1 := zu_f3 v7 _
  have g8 : zq_ev rq (0, [(8, 1)]) = r 8 := zu_f1 v8
  exact ⟨_, List.mem_cons_self .., rq, hr, zq_MeS_mk rfl hT (zq_all_nil) zq_fan (zq_fan) rfl (zu_fac ((x_KH _ _ _).mpr (by show zr_KH (zq_ev rq (0, [(0, 1)])) (zq_ev rq (0, [(1, 1)])) (zq_ev rq (0, [(2, 1)])) (zq_ev rq (0, [(3, 1)])) (zq_ev rq (0, [(4, 1)])) (zq_ev rq (0, [(5, 1)])) (zq_ev rq (0, [(6, 1)])) (zq_ev rq (-1, [(7, 1)])) (zq_ev rq (0, [(8, 1)])) P h; simp only [g0, g1, g2, g3, g4, g5, g6, g7, g8]; exact t1)) zq_fan)⟩
noncomputable def zr_g : zq_S × List zq_S := (([], [], [(-2, [(7, 1)])], [], [((0, [(0, 1)]), (-1, [(7, 1)]), (0, [(9, 1)])), ((0, [(0, 1)]), (-2, [(7, 1)]), (0, [(8, 1)]))], [], [(263, [(0, [(0, 1)]), (0, [(1, 1)]), (0, [(2, 1)]), (0, [(3, 1)]), (0, [(4, 1)]), (0, [(5, 1)]), (0, [(6, 1)]), (0, [(7, 1)])])], 10), [([], [], [], [], [], [], [(265, [(0, [(0, 1)]), (0, [(1, 1)]), (0, [(2, 1)]), (0, [(3, 1)]), (0, [(4, 1)]), (0, [(5, 1)]), (0, [(6, 1)]), (-2, [(7, 1)]), (0, [(8, 1)]), (0, [(9, 1)])])], 10)])
theorem zr_g_l {P : zq_Ty} {h : zq_H} {a v Y z s i q t x y : Int} (a1 : 0 ≤ t - 2) (s1 : 0 ≤ a ∧ P (a).toNat ≠ none ∧ h (a).toNat (t - 1) = y) (s2 : 0 ≤ a ∧ P (a).toNat ≠ none ∧ h (a).toNat (t - 2) = x) (k1 : zr_KS a v Y z s i q t P h) : (zr_KG a v Y z s i q (t - 2) x y P h) := by
  obtain ⟨w1, w2, w3, w5, w4⟩ := k1
  refine ⟨w1, by omega, by omega, w5, ?_⟩
  have e := zr_st_1 (f := h a.toNat) (t := t - 1) (by omega)
  have e2 := zr_st_1 (f := h a.toNat) (t := t - 2) (by omega)
  rw [show t - 1 + 1 = t by omega, s1.2.2] at e
  rw [show t - 2 + 1 = t - 1 by omega, s2.2.2] at e2
  rw [e, e2] at w4
  exact w4
theorem zr_g_ok {w : zq_Wd} (x_KS : zj_is w 263 (fun q => zr_KS (q 0) (q 1) (q 2) (q 3) (q 4) (q 5) (q 6) (q 7))) (x_KG : zj_is w 265 (fun q => zr_KG (q 0) (q 1) (q 2) (q 3) (q 4) (q 5) (q 6) (q 7) (q 8) (q 9))) : zq_okG1 w zr_g := by
  refine ⟨rfl, rfl, zu_fac ⟨rfl, by decide⟩ zq_fan, ?_⟩
  intro r P h H hM
  have q0 : zq_ev r (-2, [(7, 1)]) = r 7 - 2 := zu_e3 _ _ _
  have q1 : zq_ev r (0, [(0, 1)]) = r 0 := zu_e1 _ _
  have q2 : zq_ev r (-1, [(7, 1)]) = r 7 - 1 := zu_e3 _ _ _
  have q3 : zq_ev r (0, [(9, 1)]) = r 9 := zu_e1 _ _
  have q4 : zq_ev r (0, [(8, 1)]) = r 8 := zu_e1 _ _
  have q5 : zq_ev r (0, [(1, 1)]) = r 1 := zu_e1 _ _
  have q6 : zq_ev r (0, [(2, 1)]) = r 2 := zu_e1 _ _
  have q7 : zq_ev r (0, [(3, 1)]) = r 3 := zu_e1 _ _
  have q8 : zq_ev r (0, [(4, 1)]) = r 4 := zu_e1 _ _
  have q9 : zq_ev r (0, [(5, 1)]) = r 5 := zu_e1 _ _
  have q10 : zq_ev r (0, [(6, 1)]) = r 6 := zu_e1 _ _
  have q11 : zq_ev r (0, [(7, 1)]) = r 7 := zu_e1 _ _
  obtain ⟨hT, hC, hF, hS, -, hK⟩ := hM
  have c := hC.1
  have a1 := zq_all_1 c
  rw [q0] at a1
  have s1 := zq_okS_1 (hS)
  simp only [q1, q2, q3] at s1
  have s2 := zq_okS_1 (zq_okS_t (hS))
  simp only [q0, q1, q4] at s2
  have k1 := zj_use x_KS (hK)
  have k1 : zr_KS (zq_ev r (0, [(0, 1)])) (zq_ev r (0, [(1, 1)])) (zq_ev r (0, [(2, 1)])) (zq_ev r (0, [(3, 1)])) (zq_ev r (0, [(4, 1)])) (zq_ev r (0, [(5, 1)])) (zq_ev r (0, [(6, 1)])) (zq_ev r (0, [(7, 1)])) P h := k1
  simp only [q1, q10, q11, q5, q6, q7, q8, q9] at k1
  obtain t1 := zr_g_l (P := P) (h := h) (a := r 0) (v := r 1) (Y := r 2) (z := r 3) (s := r 4) (i := r 5) (q := r 6) (t := r 7) (x := r 8) (y := r 9) a1 s1 s2 k1
  obtain ⟨rq, hr⟩ : ∃ rq : Nat → Int, (∀ i, i < 10 → rq i = r i) := ⟨r, fun i hi => rfl⟩
  have v0 : rq 0 = r 0 := hr 0 (by decide)
  have v1 : rq 1 = r 1 := hr 1 (by decide)
  have v2 : rq 2 = r 2 := hr 2 (by decide)
  have v3 : rq 3 = r 3 := hr 3 (by decide)
  have v4 : rq 4 = r 4 := hr 4 (by decide)
  have v5 : rq 5 = r 5 := hr 5 (by decide)
  have v6 : rq 6 = r 6 := hr 6 (by decide)
  have v7 : rq 7 = r 7 := hr 7 (by decide)
  have v8 : rq 8 = r 8 := hr 8 (by decide)
  have v9 : rq 9 = r 9 := hr 9 (by decide)
  have g0 : zq_ev rq (0, [(0, 1)]) = r 0 := zu_f1 v0
  have g1 : zq_ev rq (0, [(1, 1)]) = r 1 := zu_f1 v1
  have g2 : zq_ev rq (0, [(2, 1)]) = r 2 := zu_f1 v2
  have g3 : zq_ev rq (0, [(3, 1)]) = r 3 := zu_f1 v3
  have g4 : zq_ev rq (0, [(4, 1)]) = r 4 := zu_f1 v4
  have g5 : zq_ev rq (0, [(5, 1)]) = r 5 := zu_f1 v5
  have g6 : zq_ev rq (0, [(6, 1)]) = r 6 := zu_f1 v6
  have g7 : zq_ev rq (-2, [(7, 1)]) = r 7 - 2 := zu_f3 v7 _
  have g8 : zq_ev rq (0, [(8, 1)]) = r 8 := zu_f1 v8
  have g9 : zq_ev rq (0, [(9, 1)]) = r 9 := zu_f1 v9
  exact ⟨_, List.mem_cons_self .., rq, hr, zq_MeS_mk rfl hT (zq_all_nil) zq_fan (zq_fan) rfl (zu_fac ((x_KG _ _ _).mpr (by show zr_KG (zq_ev rq (0, [(0, 1)])) (zq_ev rq (0, [(1, 1)])) (zq_ev rq (0, [(2, 1)])) (zq_ev rq (0, [(3, 1)])) (zq_ev rq (0, [(4, 1)])) (zq_ev rq (0, [(5, 1)])) (zq_ev rq (0, [(6, 1)])) (zq_ev rq (-2, [(7, 1)])) (zq_ev rq (0, [(8, 1)])) (zq_ev rq (0, [(9, 1)])) P h; simp only [g0, g1, g2, g3, g4, g5, g6, g7, g8, g9]; exact t1)) zq_fan)⟩
noncomputable def zr_t : zq_S × List zq_S := (([], [], [(0, [(6, 1)]), (-1, [(3, 1), (6, -1)]), (447, [(5, -1)]), (-3, [(9, 1), (10, -16)]), (3, [(9, -1), (10, 16)])], [], [((0, [(0, 1)]), (0, [(7, 1)]), (0, [(11, 1)]))], [], [(264, [(0, [(0, 1)]), (0, [(1, 1)]), (0, [(2, 1)]), (0, [(3, 1)]), (0, [(4, 1)]), (0, [(5, 1)]), (0, [(6, 1)]), (0, [(7, 1)]), (0, [(8, 1)])]), (134, [(0, [(2, 1)]), (0, [(6, 1)]), (0, [(9, 1)])]), (85, [(1, []), (1, []), (0, [(8, 1)]), (0, [(11, 1)])])], 12), [([], [], [], [], [], [], [(263, [(0, [(0, 1)]), (0, [(1, 1)]), (0, [(2, 1)]), (0, [(3, 1)]), (0, [(4, 1)]), (1, [(5, 1)]), (1, [(6, 1)]), (1, [(7, 1)])])], 12)])
theorem zr_t_l {P : zq_Ty} {h : zq_H} {a v Y z s i q t y c x b : Int} (a1 : 0 ≤ q) (a2 : 0 ≤ z - q - 1) (a3 : 0 ≤ -i + 447) (a4 : 0 ≤ c - 16 * x - 3) (a5 : 0 ≤ -c + 16 * x + 3) (s1 : 0 ≤ a ∧ P (a).toNat ≠ none ∧ h (a).toNat t = b) (k1 : zr_KH a v Y z s i q t y P h) (k2 : zn_DG Y q c P h) (k3 : zo_op 1 1 y b P h) : (zr_KS a v Y z s (i + 1) (q + 1) (t + 1) P h) := by
  obtain ⟨w1, w2, w3, w5, w4⟩ := k1
  have hc : zn_dg Y q = 3 + 16 * x := by have e : c = zn_dg Y q := k2; omega
  refine ⟨w1, by omega, by omega, w5, ?_⟩
  rw [zr_st_1 w2, s1.2.2, show b = zc_tn y from k3]
  exact zr_R_go w4 (by omega) (fun R => zr_s_turn a1 (by omega) hc)
theorem zr_t_ok {w : zq_Wd} (x_KH : zj_is w 264 (fun q => zr_KH (q 0) (q 1) (q 2) (q 3) (q 4) (q 5) (q 6) (q 7) (q 8))) (x_DG : zj_is w 134 (fun q => zn_DG (q 0) (q 1) (q 2))) (x_OP : zj_is w 85 (fun q => zo_op (q 0) (q 1) (q 2) (q 3))) (x_KS : zj_is w 263 (fun q => zr_KS (q 0) (q 1) (q 2) (q 3) (q 4) (q 5) (q 6) (q 7))) : zq_okG1 w zr_t := by
  refine ⟨rfl, rfl, zu_fac ⟨rfl, by decide⟩ zq_fan, ?_⟩
  intro r P h H hM
  have q0 : zq_ev r (0, [(6, 1)]) = r 6 := zu_e1 _ _
  have q1 : zq_ev r (-1, [(3, 1), (6, -1)]) = r 3 - r 6 - 1 := by simp only [zq_ev, zq_ts] <;> omega
  have q2 : zq_ev r (447, [(5, -1)]) = -r 5 + 447 := zu_e5 _ _ _
  have q3 : zq_ev r (-3, [(9, 1), (10, -16)]) = r 9 - 16 * r 10 - 3 := by simp only [zq_ev, zq_ts] <;> omega
  have q4 : zq_ev r (3, [(9, -1), (10, 16)]) = -r 9 + 16 * r 10 + 3 := by simp only [zq_ev, zq_ts] <;> omega
  have q5 : zq_ev r (0, [(0, 1)]) = r 0 := zu_e1 _ _
  have q6 : zq_ev r (0, [(7, 1)]) = r 7 := zu_e1 _ _
  have q7 : zq_ev r (0, [(11, 1)]) = r 11 := zu_e1 _ _
  have q8 : zq_ev r (0, [(1, 1)]) = r 1 := zu_e1 _ _
  have q9 : zq_ev r (0, [(2, 1)]) = r 2 := zu_e1 _ _
  have q10 : zq_ev r (0, [(3, 1)]) = r 3 := zu_e1 _ _
  have q11 : zq_ev r (0, [(4, 1)]) = r 4 := zu_e1 _ _
  have q12 : zq_ev r (0, [(5, 1)]) = r 5 := zu_e1 _ _
  have q13 : zq_ev r (0, [(8, 1)]) = r 8 := zu_e1 _ _
  have q14 : zq_ev r (0, [(9, 1)]) = r 9 := zu_e1 _ _
  have q15 : zq_ev r (1, []) = 1 := zu_e0 _ _
  obtain ⟨hT, hC, hF, hS, -, hK⟩ := hM
  have c := hC.1
  have a1 := zq_all_1 c
  rw [q0] at a1
  have c := zq_all_t c
  have a2 := zq_all_1 c
  rw [q1] at a2
  have c := zq_all_t c
  have a3 := zq_all_1 c
  rw [q2] at a3
  have c := zq_all_t c
  have a4 := zq_all_1 c
  rw [q3] at a4
  have c := zq_all_t c
  have a5 := zq_all_1 c
  rw [q4] at a5
  have s1 := zq_okS_1 (hS)
  simp only [q5, q6, q7] at s1
  have k1 := zj_use x_KH (hK)
  have k1 : zr_KH (zq_ev r (0, [(0, 1)])) (zq_ev r (0, [(1, 1)])) (zq_ev r (0, [(2, 1)])) (zq_ev r (0, [(3, 1)])) (zq_ev r (0, [(4, 1)])) (zq_ev r (0, [(5, 1)])) (zq_ev r (0, [(6, 1)])) (zq_ev r (0, [(7, 1)])) (zq_ev r (0, [(8, 1)])) P h := k1
  simp only [q0, q10, q11, q12, q13, q5, q6, q8, q9] at k1
  have k2 := zj_use x_DG (zq_okX_t (hK))
  have k2 : zn_DG (zq_ev r (0, [(2, 1)])) (zq_ev r (0, [(6, 1)])) (zq_ev r (0, [(9, 1)])) P h := k2
  simp only [q0, q14, q9] at k2
  have k3 := zj_use x_OP (zq_okX_t (zq_okX_t (hK)))
  have k3 : zo_op (zq_ev r (1, [])) (zq_ev r (1, [])) (zq_ev r (0, [(8, 1)])) (zq_ev r (0, [(11, 1)])) P h := k3
  simp only [q13, q15, q7] at k3
  obtain t1 := zr_t_l (P := P) (h := h) (a := r 0) (v := r 1) (Y := r 2) (z := r 3) (s := r 4) (i := r 5) (q := r 6) (t := r 7) (y := r 8) (c := r 9) (x := r 10) (b := r 11) a1 a2 a3 a4 a5 s1 k1 k2 k3
  obtain ⟨rq, hr⟩ : ∃ rq : Nat → Int, (∀ i, i < 12 → rq i = r i) := ⟨r, fun i hi => rfl⟩
  have v0 : rq 0 = r 0 := hr 0 (by decide)
  have v1 : rq 1 = r 1 := hr 1 (by decide)
  have v2 : rq 2 = r 2 := hr 2 (by decide)
  have v3 : rq 3 = r 3 := hr 3 (by decide)
  have v4 : rq 4 = r 4 := hr 4 (by decide)
  have v5 : rq 5 = r 5 := hr 5 (by decide)
  have v6 : rq 6 = r 6 := hr 6 (by decide)
  have v7 : rq 7 = r 7 := hr 7 (by decide)
  have g0 : zq_ev rq (0, [(0, 1)]) = r 0 := zu_f1 v0
  have g1 : zq_ev rq (0, [(1, 1)]) = r 1 := zu_f1 v1
  have g2 : zq_ev rq (0, [(2, 1)]) = r 2 := zu_f1 v2
  have g3 : zq_ev rq (0, [(3, 1)]) = r 3 := zu_f1 v3
  have g4 : zq_ev rq (0, [(4, 1)]) = r 4 := zu_f1 v4
  have g5 : zq_ev rq (1, [(5, 1)]) = r 5 + 1 := zu_f2 v5 _
  have g6 : zq_ev rq (1, [(6, 1)]) = r 6 + 1 := zu_f2 v6 _
  have g7 : zq_ev rq (1, [(7, 1)]) = r 7 + 1 := zu_f2 v7 _
  exact ⟨_, List.mem_cons_self .., rq, hr, zq_MeS_mk rfl hT (zq_all_nil) zq_fan (zq_fan) rfl (zu_fac ((x_KS _ _ _).mpr (by show zr_KS (zq_ev rq (0, [(0, 1)])) (zq_ev rq (0, [(1, 1)])) (zq_ev rq (0, [(2, 1)])) (zq_ev rq (0, [(3, 1)])) (zq_ev rq (0, [(4, 1)])) (zq_ev rq (1, [(5, 1)])) (zq_ev rq (1, [(6, 1)])) (zq_ev rq (1, [(7, 1)])) P h; simp only [g0, g1, g2, g3, g4, g5, g6, g7]; exact t1)) zq_fan)⟩
noncomputable def zr_j4 : zq_S × List zq_S := (([], [], [(0, [(6, 1)]), (-1, [(3, 1), (6, -1)]), (447, [(5, -1)]), (-4, [(8, 1), (9, -16)]), (4, [(8, -1), (9, 16)]), (-1, [(7, 1)]), (0, [(10, 1)]), (0, [(10, -1)])], [], [((0, [(0, 1)]), (-1, [(7, 1)]), (0, [(10, 1)]))], [], [(263, [(0, [(0, 1)]), (0, [(1, 1)]), (0, [(2, 1)]), (0, [(3, 1)]), (0, [(4, 1)]), (0, [(5, 1)]), (0, [(6, 1)]), (0, [(7, 1)])]), (134, [(0, [(2, 1)]), (0, [(6, 1)]), (0, [(8, 1)])])], 11), [([], [], [], [], [], [], [(263, [(0, [(0, 1)]), (0, [(1, 1)]), (0, [(2, 1)]), (0, [(3, 1)]), (0, [(4, 1)]), (1, [(5, 1)]), (0, [(9, 1)]), (0, [(7, 1)])])], 11)])
theorem zr_j4_l {P : zq_Ty} {h : zq_H} {a v Y z s i q t c x y : Int} (a1 : 0 ≤ q) (a2 : 0 ≤ z - q - 1) (a3 : 0 ≤ -i + 447) (a4 : 0 ≤ c - 16 * x - 4) (a5 : 0 ≤ -c + 16 * x + 4) (a6 : 0 ≤ t - 1) (a7 : 0 ≤ y) (a8 : 0 ≤ -y) (s1 : 0 ≤ a ∧ P (a).toNat ≠ none ∧ h (a).toNat (t - 1) = y) (k1 : zr_KS a v Y z s i q t P h) (k2 : zn_DG Y q c P h) : (zr_KS a v Y z s (i + 1) x t P h) := by
  obtain ⟨w1, w2, w3, w5, w4⟩ := k1
  have hc : zn_dg Y q = 4 + 16 * x := by have e : c = zn_dg Y q := k2; omega
  refine ⟨w1, by omega, by omega, w5, zr_R_go w4 (by omega) (fun R => ?_)⟩
  have e := zr_st_1 (f := h a.toNat) (t := t - 1) (by omega)
  rw [show t - 1 + 1 = t by omega, s1.2.2] at e
  rw [e, zr_s_j4 a1 (by omega) hc, if_pos (by omega)]
theorem zr_j4_ok {w : zq_Wd} (x_KS : zj_is w 263 (fun q => zr_KS (q 0) (q 1) (q 2) (q 3) (q 4) (q 5) (q 6) (q 7))) (x_DG : zj_is w 134 (fun q => zn_DG (q 0) (q 1) (q 2))) : zq_okG1 w zr_j4 := by
  refine ⟨rfl, rfl, zu_fac ⟨rfl, by decide⟩ zq_fan, ?_⟩
  intro r P h H hM
  have q0 : zq_ev r (0, [(6, 1)]) = r 6 := zu_e1 _ _
  have q1 : zq_ev r (-1, [(3, 1), (6, -1)]) = r 3 - r 6 - 1 := by simp only [zq_ev, zq_ts] <;> omega
  have q2 : zq_ev r (447, [(5, -1)]) = -r 5 + 447 := zu_e5 _ _ _
  have q3 : zq_ev r (-4, [(8, 1), (9, -16)]) = r 8 - 16 * r 9 - 4 := by simp only [zq_ev, zq_ts] <;> omega
  have q4 : zq_ev r (4, [(8, -1), (9, 16)]) = -r 8 + 16 * r 9 + 4 := by simp only [zq_ev, zq_ts] <;> omega
  have q5 : zq_ev r (-1, [(7, 1)]) = r 7 - 1 := zu_e3 _ _ _
  have q6 : zq_ev r (0, [(10, 1)]) = r 10 := zu_e1 _ _
  have q7 : zq_ev r (0, [(10, -1)]) = -r 10 := zu_e4 _ _
  have q8 : zq_ev r (0, [(0, 1)]) = r 0 := zu_e1 _ _
  have q9 : zq_ev r (0, [(1, 1)]) = r 1 := zu_e1 _ _
  have q10 : zq_ev r (0, [(2, 1)]) = r 2 := zu_e1 _ _
  have q11 : zq_ev r (0, [(3, 1)]) = r 3 := zu_e1 _ _
  have q12 : zq_ev r (0, [(4, 1)]) = r 4 := zu_e1 _ _
  have q13 : zq_ev r (0, [(5, 1)]) = r 5 := zu_e1 _ _
  have q14 : zq_ev r (0, [(7, 1)]) = r 7 := zu_e1 _ _
  have q15 : zq_ev r (0, [(8, 1)]) = r 8 := zu_e1 _ _
  obtain ⟨hT, hC, hF, hS, -, hK⟩ := hM
  have c := hC.1
  have a1 := zq_all_1 c
  rw [q0] at a1
  have c := zq_all_t c
  have a2 := zq_all_1 c
  rw [q1] at a2
  have c := zq_all_t c
  have a3 := zq_all_1 c
  rw [q2] at a3
  have c := zq_all_t c
  have a4 := zq_all_1 c
  rw [q3] at a4
  have c := zq_all_t c
  have a5 := zq_all_1 c
  rw [q4] at a5
  have c := zq_all_t c
  have a6 := zq_all_1 c
  rw [q5] at a6
  have c := zq_all_t c
  have a7 := zq_all_1 c
  rw [q6] at a7
  have c := zq_all_t c
  have a8 := zq_all_1 c
  rw [q7] at a8
  have s1 := zq_okS_1 (hS)
  simp only [q5, q6, q8] at s1
  have k1 := zj_use x_KS (hK)
  have k1 : zr_KS (zq_ev r (0, [(0, 1)])) (zq_ev r (0, [(1, 1)])) (zq_ev r (0, [(2, 1)])) (zq_ev r (0, [(3, 1)])) (zq_ev r (0, [(4, 1)])) (zq_ev r (0, [(5, 1)])) (zq_ev r (0, [(6, 1)])) (zq_ev r (0, [(7, 1)])) P h := k1
  simp only [q0, q10, q11, q12, q13, q14, q8, q9] at k1
  have k2 := zj_use x_DG (zq_okX_t (hK))
  have k2 : zn_DG (zq_ev r (0, [(2, 1)])) (zq_ev r (0, [(6, 1)])) (zq_ev r (0, [(8, 1)])) P h := k2
  simp only [q0, q10, q15] at k2
  obtain t1 := zr_j4_l (P := P) (h := h) (a := r 0) (v := r 1) (Y := r 2) (z := r 3) (s := r 4) (i := r 5) (q := r 6) (t := r 7) (c := r 8) (x := r 9) (y := r 10) a1 a2 a3 a4 a5 a6 a7 a8 s1 k1 k2
  obtain ⟨rq, hr⟩ : ∃ rq : Nat → Int, (∀ i, i < 11 → rq i = r i) := ⟨r, fun i hi => rfl⟩
  have v0 : rq 0 = r 0 := hr 0 (by decide)
  have v1 : rq 1 = r 1 := hr 1 (by decide)
  have v2 : rq 2 = r 2 := hr 2 (by decide)
  have v3 : rq 3 = r 3 := hr 3 (by decide)
  have v4 : rq 4 = r 4 := hr 4 (by decide)
  have v5 : rq 5 = r 5 := hr 5 (by decide)
  have v7 : rq 7 = r 7 := hr 7 (by decide)
  have v9 : rq 9 = r 9 := hr 9 (by decide)
  have g0 : zq_ev rq (0, [(0, 1)]) = r 0 := zu_f1 v0
  have g1 : zq_ev rq (0, [(1, 1)]) = r 1 := zu_f1 v1
  have g2 : zq_ev rq (0, [(2, 1)]) = r 2 := zu_f1 v2
  have g3 : zq_ev rq (0, [(3, 1)]) = r 3 := zu_f1 v3
  have g4 : zq_ev rq (0, [(4, 1)]) = r 4 := zu_f1 v4
  have g5 : zq_ev rq (1, [(5, 1)]) = r 5 + 1 := zu_f2 v5 _
  have g6 : zq_ev rq (0, [(9, 1)]) = r 9 := zu_f1 v9
  have g7 : zq_ev rq (0, [(7, 1)]) = r 7 := zu_f1 v7
  exact ⟨_, List.mem_cons_self .., rq, hr, zq_MeS_mk rfl hT (zq_all_nil) zq_fan (zq_fan) rfl (zu_fac ((x_KS _ _ _).mpr (by show zr_KS (zq_ev rq (0, [(0, 1)])) (zq_ev rq (0, [(1, 1)])) (zq_ev rq (0, [(2, 1)])) (zq_ev rq (0, [(3, 1)])) (zq_ev rq (0, [(4, 1)])) (zq_ev rq (1, [(5, 1)])) (zq_ev rq (0, [(9, 1)])) (zq_ev rq (0, [(7, 1)])) P h; simp only [g0, g1, g2, g3, g4, g5, g6, g7]; exact t1)) zq_fan)⟩
noncomputable def zr_k4l : zq_S × List zq_S := (([], [], [(0, [(6, 1)]), (-1, [(3, 1), (6, -1)]), (447, [(5, -1)]), (-4, [(8, 1), (9, -16)]), (4, [(8, -1), (9, 16)]), (-1, [(7, 1)]), (-1, [(10, -1)])], [], [((0, [(0, 1)]), (-1, [(7, 1)]), (0, [(10, 1)]))], [], [(263, [(0, [(0, 1)]), (0, [(1, 1)]), (0, [(2, 1)]), (0, [(3, 1)]), (0, [(4, 1)]), (0, [(5, 1)]), (0, [(6, 1)]), (0, [(7, 1)])]), (134, [(0, [(2, 1)]), (0, [(6, 1)]), (0, [(8, 1)])])], 11), [([], [], [], [], [], [], [(263, [(0, [(0, 1)]), (0, [(1, 1)]), (0, [(2, 1)]), (0, [(3, 1)]), (0, [(4, 1)]), (1, [(5, 1)]), (1, [(6, 1)]), (-1, [(7, 1)])])], 11)])
theorem zr_k4l_l {P : zq_Ty} {h : zq_H} {a v Y z s i q t c x y : Int} (a1 : 0 ≤ q) (a2 : 0 ≤ z - q - 1) (a3 : 0 ≤ -i + 447) (a4 : 0 ≤ c - 16 * x - 4) (a5 : 0 ≤ -c + 16 * x + 4) (a6 : 0 ≤ t - 1) (a7 : 0 ≤ -y - 1) (s1 : 0 ≤ a ∧ P (a).toNat ≠ none ∧ h (a).toNat (t - 1) = y) (k1 : zr_KS a v Y z s i q t P h) (k2 : zn_DG Y q c P h) : (zr_KS a v Y z s (i + 1) (q + 1) (t - 1) P h) := by
  obtain ⟨w1, w2, w3, w5, w4⟩ := k1
  have hc : zn_dg Y q = 4 + 16 * x := by have e : c = zn_dg Y q := k2; omega
  refine ⟨w1, by omega, by omega, w5, zr_R_go w4 (by omega) (fun R => ?_)⟩
  have e := zr_st_1 (f := h a.toNat) (t := t - 1) (by omega)
  rw [show t - 1 + 1 = t by omega, s1.2.2] at e
  rw [e, zr_s_j4 a1 (by omega) hc, if_neg (by omega)]
theorem zr_k4l_ok {w : zq_Wd} (x_KS : zj_is w 263 (fun q => zr_KS (q 0) (q 1) (q 2) (q 3) (q 4) (q 5) (q 6) (q 7))) (x_DG : zj_is w 134 (fun q => zn_DG (q 0) (q 1) (q 2))) : zq_okG1 w zr_k4l := by
  refine ⟨rfl, rfl, zu_fac ⟨rfl, by decide⟩ zq_fan, ?_⟩
  intro r P h H hM
  have q0 : zq_ev r (0, [(6, 1)]) = r 6 := zu_e1 _ _
  have q1 : zq_ev r (-1, [(3, 1), (6, -1)]) = r 3 - r 6 - 1 := by simp only [zq_ev, zq_ts] <;> omega
  have q2 : zq_ev r (447, [(5, -1)]) = -r 5 + 447 := zu_e5 _ _ _
  have q3 : zq_ev r (-4, [(8, 1), (9, -16)]) = r 8 - 16 * r 9 - 4 := by simp only [zq_ev, zq_ts] <;> omega
  have q4 : zq_ev r (4, [(8, -1), (9, 16)]) = -r 8 + 16 * r 9 + 4 := by simp only [zq_ev, zq_ts] <;> omega
  have q5 : zq_ev r (-1, [(7, 1)]) = r 7 - 1 := zu_e3 _ _ _
  have q6 : zq_ev r (-1, [(10, -1)]) = -r 10 - 1 := zu_e6 _ _ _
  have q7 : zq_ev r (0, [(0, 1)]) = r 0 := zu_e1 _ _
  have q8 : zq_ev r (0, [(10, 1)]) = r 10 := zu_e1 _ _
  have q9 : zq_ev r (0, [(1, 1)]) = r 1 := zu_e1 _ _
  have q10 : zq_ev r (0, [(2, 1)]) = r 2 := zu_e1 _ _
  have q11 : zq_ev r (0, [(3, 1)]) = r 3 := zu_e1 _ _
  have q12 : zq_ev r (0, [(4, 1)]) = r 4 := zu_e1 _ _
  have q13 : zq_ev r (0, [(5, 1)]) = r 5 := zu_e1 _ _
  have q14 : zq_ev r (0, [(7, 1)]) = r 7 := zu_e1 _ _
  have q15 : zq_ev r (0, [(8, 1)]) = r 8 := zu_e1 _ _
  obtain ⟨hT, hC, hF, hS, -, hK⟩ := hM
  have c := hC.1
  have a1 := zq_all_1 c
  rw [q0] at a1
  have c := zq_all_t c
  have a2 := zq_all_1 c
  rw [q1] at a2
  have c := zq_all_t c
  have a3 := zq_all_1 c
  rw [q2] at a3
  have c := zq_all_t c
  have a4 := zq_all_1 c
  rw [q3] at a4
  have c := zq_all_t c
  have a5 := zq_all_1 c
  rw [q4] at a5
  have c := zq_all_t c
  have a6 := zq_all_1 c
  rw [q5] at a6
  have c := zq_all_t c
  have a7 := zq_all_1 c
  rw [q6] at a7
  have s1 := zq_okS_1 (hS)
  simp only [q5, q7, q8] at s1
  have k1 := zj_use x_KS (hK)
  have k1 : zr_KS (zq_ev r (0, [(0, 1)])) (zq_ev r (0, [(1, 1)])) (zq_ev r (0, [(2, 1)])) (zq_ev r (0, [(3, 1)])) (zq_ev r (0, [(4, 1)])) (zq_ev r (0, [(5, 1)])) (zq_ev r (0, [(6, 1)])) (zq_ev r (0, [(7, 1)])) P h := k1
  simp only [q0, q10, q11, q12, q13, q14, q7, q9] at k1
  have k2 := zj_use x_DG (zq_okX_t (hK))
  have k2 : zn_DG (zq_ev r (0, [(2, 1)])) (zq_ev r (0, [(6, 1)])) (zq_ev r (0, [(8, 1)])) P h := k2
  simp only [q0, q10, q15] at k2
  obtain t1 := zr_k4l_l (P := P) (h := h) (a := r 0) (v := r 1) (Y := r 2) (z := r 3) (s := r 4) (i := r 5) (q := r 6) (t := r 7) (c := r 8) (x := r 9) (y := r 10) a1 a2 a3 a4 a5 a6 a7 s1 k1 k2
  obtain ⟨rq, hr⟩ : ∃ rq : Nat → Int, (∀ i, i < 11 → rq i = r i) := ⟨r, fun i hi => rfl⟩
  have v0 : rq 0 = r 0 := hr 0 (by decide)
  have v1 : rq 1 = r 1 := hr 1 (by decide)
  have v2 : rq 2 = r 2 := hr 2 (by decide)
  have v3 : rq 3 = r 3 := hr 3 (by decide)
  have v4 : rq 4 = r 4 := hr 4 (by decide)
  have v5 : rq 5 = r 5 := hr 5 (by decide)
  have v6 : rq 6 = r 6 := hr 6 (by decide)
  have v7 : rq 7 = r 7 := hr 7 (by decide)
  have g0 : zq_ev rq (0, [(0, 1)]) = r 0 := zu_f1 v0
  have g1 : zq_ev rq (0, [(1, 1)]) = r 1 := zu_f1 v1
  have g2 : zq_ev rq (0, [(2, 1)]) = r 2 := zu_f1 v2
  have g3 : zq_ev rq (0, [(3, 1)]) = r 3 := zu_f1 v3
  have g4 : zq_ev rq (0, [(4, 1)]) = r 4 := zu_f1 v4
  have g5 : zq_ev rq (1, [(5, 1)]) = r 5 + 1 := zu_f2 v5 _
  have g6 : zq_ev rq (1, [(6, 1)]) = r 6 + 1 := zu_f2 v6 _
  have g7 : zq_ev rq (-1, [(7, 1)]) = r 7 - 1 := zu_f3 v7 _
  exact ⟨_, List.mem_cons_self .., rq, hr, zq_MeS_mk rfl hT (zq_all_nil) zq_fan (zq_fan) rfl (zu_fac ((x_KS _ _ _).mpr (by show zr_KS (zq_ev rq (0, [(0, 1)])) (zq_ev rq (0, [(1, 1)])) (zq_ev rq (0, [(2, 1)])) (zq_ev rq (0, [(3, 1)])) (zq_ev rq (0, [(4, 1)])) (zq_ev rq (1, [(5, 1)])) (zq_ev rq (1, [(6, 1)])) (zq_ev rq (-1, [(7, 1)])) P h; simp only [g0, g1, g2, g3, g4, g5, g6, g7]; exact t1)) zq_fan)⟩
noncomputable def zr_k4g : zq_S × List zq_S := (([], [], [(0, [(6, 1)]), (-1, [(3, 1), (6, -1)]), (447, [(5, -1)]), (-4, [(8, 1), (9, -16)]), (4, [(8, -1), (9, 16)]), (-1, [(7, 1)]), (-1, [(10, 1)])], [], [((0, [(0, 1)]), (-1, [(7, 1)]), (0, [(10, 1)]))], [], [(263, [(0, [(0, 1)]), (0, [(1, 1)]), (0, [(2, 1)]), (0, [(3, 1)]), (0, [(4, 1)]), (0, [(5, 1)]), (0, [(6, 1)]), (0, [(7, 1)])]), (134, [(0, [(2, 1)]), (0, [(6, 1)]), (0, [(8, 1)])])], 11), [([], [], [], [], [], [], [(263, [(0, [(0, 1)]), (0, [(1, 1)]), (0, [(2, 1)]), (0, [(3, 1)]), (0, [(4, 1)]), (1, [(5, 1)]), (1, [(6, 1)]), (-1, [(7, 1)])])], 11)])
theorem zr_k4g_l {P : zq_Ty} {h : zq_H} {a v Y z s i q t c x y : Int} (a1 : 0 ≤ q) (a2 : 0 ≤ z - q - 1) (a3 : 0 ≤ -i + 447) (a4 : 0 ≤ c - 16 * x - 4) (a5 : 0 ≤ -c + 16 * x + 4) (a6 : 0 ≤ t - 1) (a7 : 0 ≤ y - 1) (s1 : 0 ≤ a ∧ P (a).toNat ≠ none ∧ h (a).toNat (t - 1) = y) (k1 : zr_KS a v Y z s i q t P h) (k2 : zn_DG Y q c P h) : (zr_KS a v Y z s (i + 1) (q + 1) (t - 1) P h) := by
  obtain ⟨w1, w2, w3, w5, w4⟩ := k1
  have hc : zn_dg Y q = 4 + 16 * x := by have e : c = zn_dg Y q := k2; omega
  refine ⟨w1, by omega, by omega, w5, zr_R_go w4 (by omega) (fun R => ?_)⟩
  have e := zr_st_1 (f := h a.toNat) (t := t - 1) (by omega)
  rw [show t - 1 + 1 = t by omega, s1.2.2] at e
  rw [e, zr_s_j4 a1 (by omega) hc, if_neg (by omega)]
theorem zr_k4g_ok {w : zq_Wd} (x_KS : zj_is w 263 (fun q => zr_KS (q 0) (q 1) (q 2) (q 3) (q 4) (q 5) (q 6) (q 7))) (x_DG : zj_is w 134 (fun q => zn_DG (q 0) (q 1) (q 2))) : zq_okG1 w zr_k4g := by
  refine ⟨rfl, rfl, zu_fac ⟨rfl, by decide⟩ zq_fan, ?_⟩
  intro r P h H hM
  have q0 : zq_ev r (0, [(6, 1)]) = r 6 := zu_e1 _ _
  have q1 : zq_ev r (-1, [(3, 1), (6, -1)]) = r 3 - r 6 - 1 := by simp only [zq_ev, zq_ts] <;> omega
  have q2 : zq_ev r (447, [(5, -1)]) = -r 5 + 447 := zu_e5 _ _ _
  have q3 : zq_ev r (-4, [(8, 1), (9, -16)]) = r 8 - 16 * r 9 - 4 := by simp only [zq_ev, zq_ts] <;> omega
  have q4 : zq_ev r (4, [(8, -1), (9, 16)]) = -r 8 + 16 * r 9 + 4 := by simp only [zq_ev, zq_ts] <;> omega
  have q5 : zq_ev r (-1, [(7, 1)]) = r 7 - 1 := zu_e3 _ _ _
  have q6 : zq_ev r (-1, [(10, 1)]) = r 10 - 1 := zu_e3 _ _ _
  have q7 : zq_ev r (0, [(0, 1)]) = r 0 := zu_e1 _ _
  have q8 : zq_ev r (0, [(10, 1)]) = r 10 := zu_e1 _ _
  have q9 : zq_ev r (0, [(1, 1)]) = r 1 := zu_e1 _ _
  have q10 : zq_ev r (0, [(2, 1)]) = r 2 := zu_e1 _ _
  have q11 : zq_ev r (0, [(3, 1)]) = r 3 := zu_e1 _ _
  have q12 : zq_ev r (0, [(4, 1)]) = r 4 := zu_e1 _ _
  have q13 : zq_ev r (0, [(5, 1)]) = r 5 := zu_e1 _ _
  have q14 : zq_ev r (0, [(7, 1)]) = r 7 := zu_e1 _ _
  have q15 : zq_ev r (0, [(8, 1)]) = r 8 := zu_e1 _ _
  obtain ⟨hT, hC, hF, hS, -, hK⟩ := hM
  have c := hC.1
  have a1 := zq_all_1 c
  rw [q0] at a1
  have c := zq_all_t c
  have a2 := zq_all_1 c
  rw [q1] at a2
  have c := zq_all_t c
  have a3 := zq_all_1 c
  rw [q2] at a3
  have c := zq_all_t c
  have a4 := zq_all_1 c
  rw [q3] at a4
  have c := zq_all_t c
  have a5 := zq_all_1 c
  rw [q4] at a5
  have c := zq_all_t c
  have a6 := zq_all_1 c
  rw [q5] at a6
  have c := zq_all_t c
  have a7 := zq_all_1 c
  rw [q6] at a7
  have s1 := zq_okS_1 (hS)
  simp only [q5, q7, q8] at s1
  have k1 := zj_use x_KS (hK)
  have k1 : zr_KS (zq_ev r (0, [(0, 1)])) (zq_ev r (0, [(1, 1)])) (zq_ev r (0, [(2, 1)])) (zq_ev r (0, [(3, 1)])) (zq_ev r (0, [(4, 1)])) (zq_ev r (0, [(5, 1)])) (zq_ev r (0, [(6, 1)])) (zq_ev r (0, [(7, 1)])) P h := k1
  simp only [q0, q10, q11, q12, q13, q14, q7, q9] at k1
  have k2 := zj_use x_DG (zq_okX_t (hK))
  have k2 : zn_DG (zq_ev r (0, [(2, 1)])) (zq_ev r (0, [(6, 1)])) (zq_ev r (0, [(8, 1)])) P h := k2
  simp only [q0, q10, q15] at k2
  obtain t1 := zr_k4g_l (P := P) (h := h) (a := r 0) (v := r 1) (Y := r 2) (z := r 3) (s := r 4) (i := r 5) (q := r 6) (t := r 7) (c := r 8) (x := r 9) (y := r 10) a1 a2 a3 a4 a5 a6 a7 s1 k1 k2
  obtain ⟨rq, hr⟩ : ∃ rq : Nat → Int, (∀ i, i < 11 → rq i = r i) := ⟨r, fun i hi => rfl⟩
  have v0 : rq 0 = r 0 := hr 0 (by decide)
  have v1 : rq 1 = r 1 := hr 1 (by decide)
  have v2 : rq 2 = r 2 := hr 2 (by decide)
  have v3 : rq 3 = r 3 := hr 3 (by decide)
  have v4 : rq 4 = r 4 := hr 4 (by decide)
  have v5 : rq 5 = r 5 := hr 5 (by decide)
  have v6 : rq 6 = r 6 := hr 6 (by decide)
  have v7 : rq 7 = r 7 := hr 7 (by decide)
  have g0 : zq_ev rq (0, [(0, 1)]) = r 0 := zu_f1 v0
  have g1 : zq_ev rq (0, [(1, 1)]) = r 1 := zu_f1 v1
  have g2 : zq_ev rq (0, [(2, 1)]) = r 2 := zu_f1 v2
  have g3 : zq_ev rq (0, [(3, 1)]) = r 3 := zu_f1 v3
  have g4 : zq_ev rq (0, [(4, 1)]) = r 4 := zu_f1 v4
  have g5 : zq_ev rq (1, [(5, 1)]) = r 5 + 1 := zu_f2 v5 _
  have g6 : zq_ev rq (1, [(6, 1)]) = r 6 + 1 := zu_f2 v6 _
  have g7 : zq_ev rq (-1, [(7, 1)]) = r 7 - 1 := zu_f3 v7 _
  exact ⟨_, List.mem_cons_self .., rq, hr, zq_MeS_mk rfl hT (zq_all_nil) zq_fan (zq_fan) rfl (zu_fac ((x_KS _ _ _).mpr (by show zr_KS (zq_ev rq (0, [(0, 1)])) (zq_ev rq (0, [(1, 1)])) (zq_ev rq (0, [(2, 1)])) (zq_ev rq (0, [(3, 1)])) (zq_ev rq (0, [(4, 1)])) (zq_ev rq (1, [(5, 1)])) (zq_ev rq (1, [(6, 1)])) (zq_ev rq (-1, [(7, 1)])) P h; simp only [g0, g1, g2, g3, g4, g5, g6, g7]; exact t1)) zq_fan)⟩
noncomputable def zr_j5 : zq_S × List zq_S := (([], [], [(0, [(6, 1)]), (-1, [(3, 1), (6, -1)]), (447, [(5, -1)]), (-5, [(8, 1), (9, -16)]), (5, [(8, -1), (9, 16)]), (-1, [(7, 1)]), (-1, [(10, 1)]), (1, [(10, -1)])], [], [((0, [(0, 1)]), (-1, [(7, 1)]), (0, [(10, 1)]))], [], [(263, [(0, [(0, 1)]), (0, [(1, 1)]), (0, [(2, 1)]), (0, [(3, 1)]), (0, [(4, 1)]), (0, [(5, 1)]), (0, [(6, 1)]), (0, [(7, 1)])]), (134, [(0, [(2, 1)]), (0, [(6, 1)]), (0, [(8, 1)])])], 11), [([], [], [], [], [], [], [(263, [(0, [(0, 1)]), (0, [(1, 1)]), (0, [(2, 1)]), (0, [(3, 1)]), (0, [(4, 1)]), (1, [(5, 1)]), (0, [(9, 1)]), (0, [(7, 1)])])], 11)])
theorem zr_j5_l {P : zq_Ty} {h : zq_H} {a v Y z s i q t c x y : Int} (a1 : 0 ≤ q) (a2 : 0 ≤ z - q - 1) (a3 : 0 ≤ -i + 447) (a4 : 0 ≤ c - 16 * x - 5) (a5 : 0 ≤ -c + 16 * x + 5) (a6 : 0 ≤ t - 1) (a7 : 0 ≤ y - 1) (a8 : 0 ≤ -y + 1) (s1 : 0 ≤ a ∧ P (a).toNat ≠ none ∧ h (a).toNat (t - 1) = y) (k1 : zr_KS a v Y z s i q t P h) (k2 : zn_DG Y q c P h) : (zr_KS a v Y z s (i + 1) x t P h) := by
  obtain ⟨w1, w2, w3, w5, w4⟩ := k1
  have hc : zn_dg Y q = 5 + 16 * x := by have e : c = zn_dg Y q := k2; omega
  refine ⟨w1, by omega, by omega, w5, zr_R_go w4 (by omega) (fun R => ?_)⟩
  have e := zr_st_1 (f := h a.toNat) (t := t - 1) (by omega)
  rw [show t - 1 + 1 = t by omega, s1.2.2] at e
  rw [e, zr_s_j5 a1 (by omega) hc, if_pos (by omega)]
theorem zr_j5_ok {w : zq_Wd} (x_KS : zj_is w 263 (fun q => zr_KS (q 0) (q 1) (q 2) (q 3) (q 4) (q 5) (q 6) (q 7))) (x_DG : zj_is w 134 (fun q => zn_DG (q 0) (q 1) (q 2))) : zq_okG1 w zr_j5 := by
  refine ⟨rfl, rfl, zu_fac ⟨rfl, by decide⟩ zq_fan, ?_⟩
  intro r P h H hM
  have q0 : zq_ev r (0, [(6, 1)]) = r 6 := zu_e1 _ _
  have q1 : zq_ev r (-1, [(3, 1), (6, -1)]) = r 3 - r 6 - 1 := by simp only [zq_ev, zq_ts] <;> omega
  have q2 : zq_ev r (447, [(5, -1)]) = -r 5 + 447 := zu_e5 _ _ _
  have q3 : zq_ev r (-5, [(8, 1), (9, -16)]) = r 8 - 16 * r 9 - 5 := by simp only [zq_ev, zq_ts] <;> omega
  have q4 : zq_ev r (5, [(8, -1), (9, 16)]) = -r 8 + 16 * r 9 + 5 := by simp only [zq_ev, zq_ts] <;> omega
  have q5 : zq_ev r (-1, [(7, 1)]) = r 7 - 1 := zu_e3 _ _ _
  have q6 : zq_ev r (-1, [(10, 1)]) = r 10 - 1 := zu_e3 _ _ _
  have q7 : zq_ev r (1, [(10, -1)]) = -r 10 + 1 := zu_e5 _ _ _
  have q8 : zq_ev r (0, [(0, 1)]) = r 0 := zu_e1 _ _
  have q9 : zq_ev r (0, [(10, 1)]) = r 10 := zu_e1 _ _
  have q10 : zq_ev r (0, [(1, 1)]) = r 1 := zu_e1 _ _
  have q11 : zq_ev r (0, [(2, 1)]) = r 2 := zu_e1 _ _
  have q12 : zq_ev r (0, [(3, 1)]) = r 3 := zu_e1 _ _
  have q13 : zq_ev r (0, [(4, 1)]) = r 4 := zu_e1 _ _
  have q14 : zq_ev r (0, [(5, 1)]) = r 5 := zu_e1 _ _
  have q15 : zq_ev r (0, [(7, 1)]) = r 7 := zu_e1 _ _
  have q16 : zq_ev r (0, [(8, 1)]) = r 8 := zu_e1 _ _
  obtain ⟨hT, hC, hF, hS, -, hK⟩ := hM
  have c := hC.1
  have a1 := zq_all_1 c
  rw [q0] at a1
  have c := zq_all_t c
  have a2 := zq_all_1 c
  rw [q1] at a2
  have c := zq_all_t c
  have a3 := zq_all_1 c
  rw [q2] at a3
  have c := zq_all_t c
  have a4 := zq_all_1 c
  rw [q3] at a4
  have c := zq_all_t c
  have a5 := zq_all_1 c
  rw [q4] at a5
  have c := zq_all_t c
  have a6 := zq_all_1 c
  rw [q5] at a6
  have c := zq_all_t c
  have a7 := zq_all_1 c
  rw [q6] at a7
  have c := zq_all_t c
  have a8 := zq_all_1 c
  rw [q7] at a8
  have s1 := zq_okS_1 (hS)
  simp only [q5, q8, q9] at s1
  have k1 := zj_use x_KS (hK)
  have k1 : zr_KS (zq_ev r (0, [(0, 1)])) (zq_ev r (0, [(1, 1)])) (zq_ev r (0, [(2, 1)])) (zq_ev r (0, [(3, 1)])) (zq_ev r (0, [(4, 1)])) (zq_ev r (0, [(5, 1)])) (zq_ev r (0, [(6, 1)])) (zq_ev r (0, [(7, 1)])) P h := k1
  simp only [q0, q10, q11, q12, q13, q14, q15, q8] at k1
  have k2 := zj_use x_DG (zq_okX_t (hK))
  have k2 : zn_DG (zq_ev r (0, [(2, 1)])) (zq_ev r (0, [(6, 1)])) (zq_ev r (0, [(8, 1)])) P h := k2
  simp only [q0, q11, q16] at k2
  obtain t1 := zr_j5_l (P := P) (h := h) (a := r 0) (v := r 1) (Y := r 2) (z := r 3) (s := r 4) (i := r 5) (q := r 6) (t := r 7) (c := r 8) (x := r 9) (y := r 10) a1 a2 a3 a4 a5 a6 a7 a8 s1 k1 k2
  obtain ⟨rq, hr⟩ : ∃ rq : Nat → Int, (∀ i, i < 11 → rq i = r i) := ⟨r, fun i hi => rfl⟩
  have v0 : rq 0 = r 0 := hr 0 (by decide)
  have v1 : rq 1 = r 1 := hr 1 (by decide)
  have v2 : rq 2 = r 2 := hr 2 (by decide)
  have v3 : rq 3 = r 3 := hr 3 (by decide)
  have v4 : rq 4 = r 4 := hr 4 (by decide)
  have v5 : rq 5 = r 5 := hr 5 (by decide)
  have v7 : rq 7 = r 7 := hr 7 (by decide)
  have v9 : rq 9 = r 9 := hr 9 (by decide)
  have g0 : zq_ev rq (0, [(0, 1)]) = r 0 := zu_f1 v0
  have g1 : zq_ev rq (0, [(1, 1)]) = r 1 := zu_f1 v1
  have g2 : zq_ev rq (0, [(2, 1)]) = r 2 := zu_f1 v2
  have g3 : zq_ev rq (0, [(3, 1)]) = r 3 := zu_f1 v3
  have g4 : zq_ev rq (0, [(4, 1)]) = r 4 := zu_f1 v4
  have g5 : zq_ev rq (1, [(5, 1)]) = r 5 + 1 := zu_f2 v5 _
  have g6 : zq_ev rq (0, [(9, 1)]) = r 9 := zu_f1 v9
  have g7 : zq_ev rq (0, [(7, 1)]) = r 7 := zu_f1 v7
  exact ⟨_, List.mem_cons_self .., rq, hr, zq_MeS_mk rfl hT (zq_all_nil) zq_fan (zq_fan) rfl (zu_fac ((x_KS _ _ _).mpr (by show zr_KS (zq_ev rq (0, [(0, 1)])) (zq_ev rq (0, [(1, 1)])) (zq_ev rq (0, [(2, 1)])) (zq_ev rq (0, [(3, 1)])) (zq_ev rq (0, [(4, 1)])) (zq_ev rq (1, [(5, 1)])) (zq_ev rq (0, [(9, 1)])) (zq_ev rq (0, [(7, 1)])) P h; simp only [g0, g1, g2, g3, g4, g5, g6, g7]; exact t1)) zq_fan)⟩
noncomputable def zr_k5l : zq_S × List zq_S := (([], [], [(0, [(6, 1)]), (-1, [(3, 1), (6, -1)]), (447, [(5, -1)]), (-5, [(8, 1), (9, -16)]), (5, [(8, -1), (9, 16)]), (-1, [(7, 1)]), (0, [(10, -1)])], [], [((0, [(0, 1)]), (-1, [(7, 1)]), (0, [(10, 1)]))], [], [(263, [(0, [(0, 1)]), (0, [(1, 1)]), (0, [(2, 1)]), (0, [(3, 1)]), (0, [(4, 1)]), (0, [(5, 1)]), (0, [(6, 1)]), (0, [(7, 1)])]), (134, [(0, [(2, 1)]), (0, [(6, 1)]), (0, [(8, 1)])])], 11), [([], [], [], [], [], [], [(263, [(0, [(0, 1)]), (0, [(1, 1)]), (0, [(2, 1)]), (0, [(3, 1)]), (0, [(4, 1)]), (1, [(5, 1)]), (1, [(6, 1)]), (-1, [(7, 1)])])], 11)])
theorem zr_k5l_l {P : zq_Ty} {h : zq_H} {a v Y z s i q t c x y : Int} (a1 : 0 ≤ q) (a2 : 0 ≤ z - q - 1) (a3 : 0 ≤ -i + 447) (a4 : 0 ≤ c - 16 * x - 5) (a5 : 0 ≤ -c + 16 * x + 5) (a6 : 0 ≤ t - 1) (a7 : 0 ≤ -y) (s1 : 0 ≤ a ∧ P (a).toNat ≠ none ∧ h (a).toNat (t - 1) = y) (k1 : zr_KS a v Y z s i q t P h) (k2 : zn_DG Y q c P h) : (zr_KS a v Y z s (i + 1) (q + 1) (t - 1) P h) := by
  obtain ⟨w1, w2, w3, w5, w4⟩ := k1
  have hc : zn_dg Y q = 5 + 16 * x := by have e : c = zn_dg Y q := k2; omega
  refine ⟨w1, by omega, by omega, w5, zr_R_go w4 (by omega) (fun R => ?_)⟩
  have e := zr_st_1 (f := h a.toNat) (t := t - 1) (by omega)
  rw [show t - 1 + 1 = t by omega, s1.2.2] at e
  rw [e, zr_s_j5 a1 (by omega) hc, if_neg (by omega)]
theorem zr_k5l_ok {w : zq_Wd} (x_KS : zj_is w 263 (fun q => zr_KS (q 0) (q 1) (q 2) (q 3) (q 4) (q 5) (q 6) (q 7))) (x_DG : zj_is w 134 (fun q => zn_DG (q 0) (q 1) (q 2))) : zq_okG1 w zr_k5l := by
  refine ⟨rfl, rfl, zu_fac ⟨rfl, by decide⟩ zq_fan, ?_⟩
  intro r P h H hM
  have q0 : zq_ev r (0, [(6, 1)]) = r 6 := zu_e1 _ _
  have q1 : zq_ev r (-1, [(3, 1), (6, -1)]) = r 3 - r 6 - 1 := by simp only [zq_ev, zq_ts] <;> omega
  have q2 : zq_ev r (447, [(5, -1)]) = -r 5 + 447 := zu_e5 _ _ _
  have q3 : zq_ev r (-5, [(8, 1), (9, -16)]) = r 8 - 16 * r 9 - 5 := by simp only [zq_ev, zq_ts] <;> omega
  have q4 : zq_ev r (5, [(8, -1), (9, 16)]) = -r 8 + 16 * r 9 + 5 := by simp only [zq_ev, zq_ts] <;> omega
  have q5 : zq_ev r (-1, [(7, 1)]) = r 7 - 1 := zu_e3 _ _ _
  have q6 : zq_ev r (0, [(10, -1)]) = -r 10 := zu_e4 _ _
  have q7 : zq_ev r (0, [(0, 1)]) = r 0 := zu_e1 _ _
  have q8 : zq_ev r (0, [(10, 1)]) = r 10 := zu_e1 _ _
  have q9 : zq_ev r (0, [(1, 1)]) = r 1 := zu_e1 _ _
  have q10 : zq_ev r (0, [(2, 1)]) = r 2 := zu_e1 _ _
  have q11 : zq_ev r (0, [(3, 1)]) = r 3 := zu_e1 _ _
  have q12 : zq_ev r (0, [(4, 1)]) = r 4 := zu_e1 _ _
  have q13 : zq_ev r (0, [(5, 1)]) = r 5 := zu_e1 _ _
  have q14 : zq_ev r (0, [(7, 1)]) = r 7 := zu_e1 _ _
  have q15 : zq_ev r (0, [(8, 1)]) = r 8 := zu_e1 _ _
  obtain ⟨hT, hC, hF, hS, -, hK⟩ := hM
  have c := hC.1
  have a1 := zq_all_1 c
  rw [q0] at a1
  have c := zq_all_t c
  have a2 := zq_all_1 c
  rw [q1] at a2
  have c := zq_all_t c
  have a3 := zq_all_1 c
  rw [q2] at a3
  have c := zq_all_t c
  have a4 := zq_all_1 c
  rw [q3] at a4
  have c := zq_all_t c
  have a5 := zq_all_1 c
  rw [q4] at a5
  have c := zq_all_t c
  have a6 := zq_all_1 c
  rw [q5] at a6
  have c := zq_all_t c
  have a7 := zq_all_1 c
  rw [q6] at a7
  have s1 := zq_okS_1 (hS)
  simp only [q5, q7, q8] at s1
  have k1 := zj_use x_KS (hK)
  have k1 : zr_KS (zq_ev r (0, [(0, 1)])) (zq_ev r (0, [(1, 1)])) (zq_ev r (0, [(2, 1)])) (zq_ev r (0, [(3, 1)])) (zq_ev r (0, [(4, 1)])) (zq_ev r (0, [(5, 1)])) (zq_ev r (0, [(6, 1)])) (zq_ev r (0, [(7, 1)])) P h := k1
  simp only [q0, q10, q11, q12, q13, q14, q7, q9] at k1
  have k2 := zj_use x_DG (zq_okX_t (hK))
  have k2 : zn_DG (zq_ev r (0, [(2, 1)])) (zq_ev r (0, [(6, 1)])) (zq_ev r (0, [(8, 1)])) P h := k2
  simp only [q0, q10, q15] at k2
  obtain t1 := zr_k5l_l (P := P) (h := h) (a := r 0) (v := r 1) (Y := r 2) (z := r 3) (s := r 4) (i := r 5) (q := r 6) (t := r 7) (c := r 8) (x := r 9) (y := r 10) a1 a2 a3 a4 a5 a6 a7 s1 k1 k2
  obtain ⟨rq, hr⟩ : ∃ rq : Nat → Int, (∀ i, i < 11 → rq i = r i) := ⟨r, fun i hi => rfl⟩
  have v0 : rq 0 = r 0 := hr 0 (by decide)
  have v1 : rq 1 = r 1 := hr 1 (by decide)
  have v2 : rq 2 = r 2 := hr 2 (by decide)
  have v3 : rq 3 = r 3 := hr 3 (by decide)
  have v4 : rq 4 = r 4 := hr 4 (by decide)
  have v5 : rq 5 = r 5 := hr 5 (by decide)
  have v6 : rq 6 = r 6 := hr 6 (by decide)
  have v7 : rq 7 = r 7 := hr 7 (by decide)
  have g0 : zq_ev rq (0, [(0, 1)]) = r 0 := zu_f1 v0
  have g1 : zq_ev rq (0, [(1, 1)]) = r 1 := zu_f1 v1
  have g2 : zq_ev rq (0, [(2, 1)]) = r 2 := zu_f1 v2
  have g3 : zq_ev rq (0, [(3, 1)]) = r 3 := zu_f1 v3
  have g4 : zq_ev rq (0, [(4, 1)]) = r 4 := zu_f1 v4
  have g5 : zq_ev rq (1, [(5, 1)]) = r 5 + 1 := zu_f2 v5 _
  have g6 : zq_ev rq (1, [(6, 1)]) = r 6 + 1 := zu_f2 v6 _
  have g7 : zq_ev rq (-1, [(7, 1)]) = r 7 - 1 := zu_f3 v7 _
  exact ⟨_, List.mem_cons_self .., rq, hr, zq_MeS_mk rfl hT (zq_all_nil) zq_fan (zq_fan) rfl (zu_fac ((x_KS _ _ _).mpr (by show zr_KS (zq_ev rq (0, [(0, 1)])) (zq_ev rq (0, [(1, 1)])) (zq_ev rq (0, [(2, 1)])) (zq_ev rq (0, [(3, 1)])) (zq_ev rq (0, [(4, 1)])) (zq_ev rq (1, [(5, 1)])) (zq_ev rq (1, [(6, 1)])) (zq_ev rq (-1, [(7, 1)])) P h; simp only [g0, g1, g2, g3, g4, g5, g6, g7]; exact t1)) zq_fan)⟩
noncomputable def zr_k5g : zq_S × List zq_S := (([], [], [(0, [(6, 1)]), (-1, [(3, 1), (6, -1)]), (447, [(5, -1)]), (-5, [(8, 1), (9, -16)]), (5, [(8, -1), (9, 16)]), (-1, [(7, 1)]), (-2, [(10, 1)])], [], [((0, [(0, 1)]), (-1, [(7, 1)]), (0, [(10, 1)]))], [], [(263, [(0, [(0, 1)]), (0, [(1, 1)]), (0, [(2, 1)]), (0, [(3, 1)]), (0, [(4, 1)]), (0, [(5, 1)]), (0, [(6, 1)]), (0, [(7, 1)])]), (134, [(0, [(2, 1)]), (0, [(6, 1)]), (0, [(8, 1)])])], 11), [([], [], [], [], [], [], [(263, [(0, [(0, 1)]), (0, [(1, 1)]), (0, [(2, 1)]), (0, [(3, 1)]), (0, [(4, 1)]), (1, [(5, 1)]), (1, [(6, 1)]), (-1, [(7, 1)])])], 11)])
theorem zr_k5g_l {P : zq_Ty} {h : zq_H} {a v Y z s i q t c x y : Int} (a1 : 0 ≤ q) (a2 : 0 ≤ z - q - 1) (a3 : 0 ≤ -i + 447) (a4 : 0 ≤ c - 16 * x - 5) (a5 : 0 ≤ -c + 16 * x + 5) (a6 : 0 ≤ t - 1) (a7 : 0 ≤ y - 2) (s1 : 0 ≤ a ∧ P (a).toNat ≠ none ∧ h (a).toNat (t - 1) = y) (k1 : zr_KS a v Y z s i q t P h) (k2 : zn_DG Y q c P h) : (zr_KS a v Y z s (i + 1) (q + 1) (t - 1) P h) := by
  obtain ⟨w1, w2, w3, w5, w4⟩ := k1
  have hc : zn_dg Y q = 5 + 16 * x := by have e : c = zn_dg Y q := k2; omega
  refine ⟨w1, by omega, by omega, w5, zr_R_go w4 (by omega) (fun R => ?_)⟩
  have e := zr_st_1 (f := h a.toNat) (t := t - 1) (by omega)
  rw [show t - 1 + 1 = t by omega, s1.2.2] at e
  rw [e, zr_s_j5 a1 (by omega) hc, if_neg (by omega)]
theorem zr_k5g_ok {w : zq_Wd} (x_KS : zj_is w 263 (fun q => zr_KS (q 0) (q 1) (q 2) (q 3) (q 4) (q 5) (q 6) (q 7))) (x_DG : zj_is w 134 (fun q => zn_DG (q 0) (q 1) (q 2))) : zq_okG1 w zr_k5g := by
  refine ⟨rfl, rfl, zu_fac ⟨rfl, by decide⟩ zq_fan, ?_⟩
  intro r P h H hM
  have q0 : zq_ev r (0, [(6, 1)]) = r 6 := zu_e1 _ _
  have q1 : zq_ev r (-1, [(3, 1), (6, -1)]) = r 3 - r 6 - 1 := by simp only [zq_ev, zq_ts] <;> omega
  have q2 : zq_ev r (447, [(5, -1)]) = -r 5 + 447 := zu_e5 _ _ _
  have q3 : zq_ev r (-5, [(8, 1), (9, -16)]) = r 8 - 16 * r 9 - 5 := by simp only [zq_ev, zq_ts] <;> omega
  have q4 : zq_ev r (5, [(8, -1), (9, 16)]) = -r 8 + 16 * r 9 + 5 := by simp only [zq_ev, zq_ts] <;> omega
  have q5 : zq_ev r (-1, [(7, 1)]) = r 7 - 1 := zu_e3 _ _ _
  have q6 : zq_ev r (-2, [(10, 1)]) = r 10 - 2 := zu_e3 _ _ _
  have q7 : zq_ev r (0, [(0, 1)]) = r 0 := zu_e1 _ _
  have q8 : zq_ev r (0, [(10, 1)]) = r 10 := zu_e1 _ _
  have q9 : zq_ev r (0, [(1, 1)]) = r 1 := zu_e1 _ _
  have q10 : zq_ev r (0, [(2, 1)]) = r 2 := zu_e1 _ _
  have q11 : zq_ev r (0, [(3, 1)]) = r 3 := zu_e1 _ _
  have q12 : zq_ev r (0, [(4, 1)]) = r 4 := zu_e1 _ _
  have q13 : zq_ev r (0, [(5, 1)]) = r 5 := zu_e1 _ _
  have q14 : zq_ev r (0, [(7, 1)]) = r 7 := zu_e1 _ _
  have q15 : zq_ev r (0, [(8, 1)]) = r 8 := zu_e1 _ _
  obtain ⟨hT, hC, hF, hS, -, hK⟩ := hM
  have c := hC.1
  have a1 := zq_all_1 c
  rw [q0] at a1
  have c := zq_all_t c
  have a2 := zq_all_1 c
  rw [q1] at a2
  have c := zq_all_t c
  have a3 := zq_all_1 c
  rw [q2] at a3
  have c := zq_all_t c
  have a4 := zq_all_1 c
  rw [q3] at a4
  have c := zq_all_t c
  have a5 := zq_all_1 c
  rw [q4] at a5
  have c := zq_all_t c
  have a6 := zq_all_1 c
  rw [q5] at a6
  have c := zq_all_t c
  have a7 := zq_all_1 c
  rw [q6] at a7
  have s1 := zq_okS_1 (hS)
  simp only [q5, q7, q8] at s1
  have k1 := zj_use x_KS (hK)
  have k1 : zr_KS (zq_ev r (0, [(0, 1)])) (zq_ev r (0, [(1, 1)])) (zq_ev r (0, [(2, 1)])) (zq_ev r (0, [(3, 1)])) (zq_ev r (0, [(4, 1)])) (zq_ev r (0, [(5, 1)])) (zq_ev r (0, [(6, 1)])) (zq_ev r (0, [(7, 1)])) P h := k1
  simp only [q0, q10, q11, q12, q13, q14, q7, q9] at k1
  have k2 := zj_use x_DG (zq_okX_t (hK))
  have k2 : zn_DG (zq_ev r (0, [(2, 1)])) (zq_ev r (0, [(6, 1)])) (zq_ev r (0, [(8, 1)])) P h := k2
  simp only [q0, q10, q15] at k2
  obtain t1 := zr_k5g_l (P := P) (h := h) (a := r 0) (v := r 1) (Y := r 2) (z := r 3) (s := r 4) (i := r 5) (q := r 6) (t := r 7) (c := r 8) (x := r 9) (y := r 10) a1 a2 a3 a4 a5 a6 a7 s1 k1 k2
  obtain ⟨rq, hr⟩ : ∃ rq : Nat → Int, (∀ i, i < 11 → rq i = r i) := ⟨r, fun i hi => rfl⟩
  have v0 : rq 0 = r 0 := hr 0 (by decide)
  have v1 : rq 1 = r 1 := hr 1 (by decide)
  have v2 : rq 2 = r 2 := hr 2 (by decide)
  have v3 : rq 3 = r 3 := hr 3 (by decide)
  have v4 : rq 4 = r 4 := hr 4 (by decide)
  have v5 : rq 5 = r 5 := hr 5 (by decide)
  have v6 : rq 6 = r 6 := hr 6 (by decide)
  have v7 : rq 7 = r 7 := hr 7 (by decide)
  have g0 : zq_ev rq (0, [(0, 1)]) = r 0 := zu_f1 v0
  have g1 : zq_ev rq (0, [(1, 1)]) = r 1 := zu_f1 v1
  have g2 : zq_ev rq (0, [(2, 1)]) = r 2 := zu_f1 v2
  have g3 : zq_ev rq (0, [(3, 1)]) = r 3 := zu_f1 v3
  have g4 : zq_ev rq (0, [(4, 1)]) = r 4 := zu_f1 v4
  have g5 : zq_ev rq (1, [(5, 1)]) = r 5 + 1 := zu_f2 v5 _
  have g6 : zq_ev rq (1, [(6, 1)]) = r 6 + 1 := zu_f2 v6 _
  have g7 : zq_ev rq (-1, [(7, 1)]) = r 7 - 1 := zu_f3 v7 _
  exact ⟨_, List.mem_cons_self .., rq, hr, zq_MeS_mk rfl hT (zq_all_nil) zq_fan (zq_fan) rfl (zu_fac ((x_KS _ _ _).mpr (by show zr_KS (zq_ev rq (0, [(0, 1)])) (zq_ev rq (0, [(1, 1)])) (zq_ev rq (0, [(2, 1)])) (zq_ev rq (0, [(3, 1)])) (zq_ev rq (0, [(4, 1)])) (zq_ev rq (1, [(5, 1)])) (zq_ev rq (1, [(6, 1)])) (zq_ev rq (-1, [(7, 1)])) P h; simp only [g0, g1, g2, g3, g4, g5, g6, g7]; exact t1)) zq_fan)⟩
noncomputable def zr_bt : zq_S × List zq_S := (([], [], [(0, [(6, 1)]), (-1, [(3, 1), (6, -1)]), (447, [(5, -1)]), (0, [(10, 1), (11, -1), (12, -16)]), (0, [(10, -1), (11, 1), (12, 16)]), (-6, [(11, 1)]), (15, [(11, -1)]), (-1000000001, [(13, 1)])], [], [], [], [(265, [(0, [(0, 1)]), (0, [(1, 1)]), (0, [(2, 1)]), (0, [(3, 1)]), (0, [(4, 1)]), (0, [(5, 1)]), (0, [(6, 1)]), (0, [(7, 1)]), (0, [(8, 1)]), (0, [(9, 1)])]), (134, [(0, [(2, 1)]), (0, [(6, 1)]), (0, [(10, 1)])]), (267, [(0, [(11, 1)]), (0, [(8, 1)]), (0, [(9, 1)]), (0, [(13, 1)])])], 15), [([], [], [], [], [], [], [(266, [(0, [(1, 1)]), (0, [(2, 1)]), (0, [(3, 1)]), (0, [(4, 1)]), (1, []), (0, [(14, 1)])])], 15)])
theorem zr_bt_l {P : zq_Ty} {h : zq_H} {a v Y z s i q t x y c o w b r : Int} (a1 : 0 ≤ q) (a2 : 0 ≤ z - q - 1) (a3 : 0 ≤ -i + 447) (a4 : 0 ≤ c - o - 16 * w) (a5 : 0 ≤ -c + o + 16 * w) (a6 : 0 ≤ o - 6) (a7 : 0 ≤ -o + 15) (a8 : 0 ≤ b - 1000000001) (k1 : zr_KG a v Y z s i q t x y P h) (k2 : zn_DG Y q c P h) (k3 : zr_JN o x y b P h) : (zr_RK v Y z s 1 r P h) := by
  obtain ⟨w1, w2, w3, w5, w4⟩ := k1
  have hc : zn_dg Y q = o + 16 * w := by have e : c = zn_dg Y q := k2; omega
  have k3 : b = zc_jn o x y := k3
  refine ⟨w5, ?_⟩
  rw [if_pos rfl]
  refine zr_R_none w4 (fun _ R => ?_)
  rw [zr_s_two a1 (by omega) hc (by omega) (by omega), ← k3, ze_out_t (Or.inl (by omega))]
  rfl
theorem zr_bt_ok {w : zq_Wd} (x_KG : zj_is w 265 (fun q => zr_KG (q 0) (q 1) (q 2) (q 3) (q 4) (q 5) (q 6) (q 7) (q 8) (q 9))) (x_DG : zj_is w 134 (fun q => zn_DG (q 0) (q 1) (q 2))) (x_JN : zj_is w 267 (fun q => zr_JN (q 0) (q 1) (q 2) (q 3))) (x_RK : zj_is w 266 (fun q => zr_RK (q 0) (q 1) (q 2) (q 3) (q 4) (q 5))) : zq_okG1 w zr_bt := by
  refine ⟨rfl, rfl, zu_fac ⟨rfl, by decide⟩ zq_fan, ?_⟩
  intro r P h H hM
  have q0 : zq_ev r (0, [(6, 1)]) = r 6 := zu_e1 _ _
  have q1 : zq_ev r (-1, [(3, 1), (6, -1)]) = r 3 - r 6 - 1 := by simp only [zq_ev, zq_ts] <;> omega
  have q2 : zq_ev r (447, [(5, -1)]) = -r 5 + 447 := zu_e5 _ _ _
  have q3 : zq_ev r (0, [(10, 1), (11, -1), (12, -16)]) = r 10 - r 11 - 16 * r 12 := by simp only [zq_ev, zq_ts] <;> omega
  have q4 : zq_ev r (0, [(10, -1), (11, 1), (12, 16)]) = -r 10 + r 11 + 16 * r 12 := by simp only [zq_ev, zq_ts] <;> omega
  have q5 : zq_ev r (-6, [(11, 1)]) = r 11 - 6 := zu_e3 _ _ _
  have q6 : zq_ev r (15, [(11, -1)]) = -r 11 + 15 := zu_e5 _ _ _
  have q7 : zq_ev r (-1000000001, [(13, 1)]) = r 13 - 1000000001 := zu_e3 _ _ _
  have q8 : zq_ev r (0, [(0, 1)]) = r 0 := zu_e1 _ _
  have q9 : zq_ev r (0, [(1, 1)]) = r 1 := zu_e1 _ _
  have q10 : zq_ev r (0, [(2, 1)]) = r 2 := zu_e1 _ _
  have q11 : zq_ev r (0, [(3, 1)]) = r 3 := zu_e1 _ _
  have q12 : zq_ev r (0, [(4, 1)]) = r 4 := zu_e1 _ _
  have q13 : zq_ev r (0, [(5, 1)]) = r 5 := zu_e1 _ _
  have q14 : zq_ev r (0, [(7, 1)]) = r 7 := zu_e1 _ _
  have q15 : zq_ev r (0, [(8, 1)]) = r 8 := zu_e1 _ _
  have q16 : zq_ev r (0, [(9, 1)]) = r 9 := zu_e1 _ _
  have q17 : zq_ev r (0, [(10, 1)]) = r 10 := zu_e1 _ _
  have q18 : zq_ev r (0, [(11, 1)]) = r 11 := zu_e1 _ _
  have q19 : zq_ev r (0, [(13, 1)]) = r 13 := zu_e1 _ _
  obtain ⟨hT, hC, hF, hS, -, hK⟩ := hM
  have c := hC.1
  have a1 := zq_all_1 c
  rw [q0] at a1
  have c := zq_all_t c
  have a2 := zq_all_1 c
  rw [q1] at a2
  have c := zq_all_t c
  have a3 := zq_all_1 c
  rw [q2] at a3
  have c := zq_all_t c
  have a4 := zq_all_1 c
  rw [q3] at a4
  have c := zq_all_t c
  have a5 := zq_all_1 c
  rw [q4] at a5
  have c := zq_all_t c
  have a6 := zq_all_1 c
  rw [q5] at a6
  have c := zq_all_t c
  have a7 := zq_all_1 c
  rw [q6] at a7
  have c := zq_all_t c
  have a8 := zq_all_1 c
  rw [q7] at a8
  have k1 := zj_use x_KG (hK)
  have k1 : zr_KG (zq_ev r (0, [(0, 1)])) (zq_ev r (0, [(1, 1)])) (zq_ev r (0, [(2, 1)])) (zq_ev r (0, [(3, 1)])) (zq_ev r (0, [(4, 1)])) (zq_ev r (0, [(5, 1)])) (zq_ev r (0, [(6, 1)])) (zq_ev r (0, [(7, 1)])) (zq_ev r (0, [(8, 1)])) (zq_ev r (0, [(9, 1)])) P h := k1
  simp only [q0, q10, q11, q12, q13, q14, q15, q16, q8, q9] at k1
  have k2 := zj_use x_DG (zq_okX_t (hK))
  have k2 : zn_DG (zq_ev r (0, [(2, 1)])) (zq_ev r (0, [(6, 1)])) (zq_ev r (0, [(10, 1)])) P h := k2
  simp only [q0, q10, q17] at k2
  have k3 := zj_use x_JN (zq_okX_t (zq_okX_t (hK)))
  have k3 : zr_JN (zq_ev r (0, [(11, 1)])) (zq_ev r (0, [(8, 1)])) (zq_ev r (0, [(9, 1)])) (zq_ev r (0, [(13, 1)])) P h := k3
  simp only [q15, q16, q18, q19] at k3
  obtain t1 := zr_bt_l (P := P) (h := h) (a := r 0) (v := r 1) (Y := r 2) (z := r 3) (s := r 4) (i := r 5) (q := r 6) (t := r 7) (x := r 8) (y := r 9) (c := r 10) (o := r 11) (w := r 12) (b := r 13) (r := r 14) a1 a2 a3 a4 a5 a6 a7 a8 k1 k2 k3
  obtain ⟨rq, hr⟩ : ∃ rq : Nat → Int, (∀ i, i < 15 → rq i = r i) := ⟨r, fun i hi => rfl⟩
  have v1 : rq 1 = r 1 := hr 1 (by decide)
  have v2 : rq 2 = r 2 := hr 2 (by decide)
  have v3 : rq 3 = r 3 := hr 3 (by decide)
  have v4 : rq 4 = r 4 := hr 4 (by decide)
  have v14 : rq 14 = r 14 := hr 14 (by decide)
  have g0 : zq_ev rq (0, [(1, 1)]) = r 1 := zu_f1 v1
  have g1 : zq_ev rq (0, [(2, 1)]) = r 2 := zu_f1 v2
  have g2 : zq_ev rq (0, [(3, 1)]) = r 3 := zu_f1 v3
  have g3 : zq_ev rq (0, [(4, 1)]) = r 4 := zu_f1 v4
  have g4 : zq_ev rq (1, []) = 1 := zu_e0 _ _
  have g5 : zq_ev rq (0, [(14, 1)]) = r 14 := zu_f1 v14
  exact ⟨_, List.mem_cons_self .., rq, hr, zq_MeS_mk rfl hT (zq_all_nil) zq_fan (zq_fan) rfl (zu_fac ((x_RK _ _ _).mpr (by show zr_RK (zq_ev rq (0, [(1, 1)])) (zq_ev rq (0, [(2, 1)])) (zq_ev rq (0, [(3, 1)])) (zq_ev rq (0, [(4, 1)])) (zq_ev rq (1, [])) (zq_ev rq (0, [(14, 1)])) P h; simp only [g0, g1, g2, g3, g4, g5]; exact t1)) zq_fan)⟩
noncomputable def zr_bu : zq_S × List zq_S := (([], [], [(0, [(6, 1)]), (-1, [(3, 1), (6, -1)]), (447, [(5, -1)]), (0, [(10, 1), (11, -1), (12, -16)]), (0, [(10, -1), (11, 1), (12, 16)]), (-6, [(11, 1)]), (15, [(11, -1)]), (-1000000001, [(13, -1)])], [], [], [], [(265, [(0, [(0, 1)]), (0, [(1, 1)]), (0, [(2, 1)]), (0, [(3, 1)]), (0, [(4, 1)]), (0, [(5, 1)]), (0, [(6, 1)]), (0, [(7, 1)]), (0, [(8, 1)]), (0, [(9, 1)])]), (134, [(0, [(2, 1)]), (0, [(6, 1)]), (0, [(10, 1)])]), (267, [(0, [(11, 1)]), (0, [(8, 1)]), (0, [(9, 1)]), (0, [(13, 1)])])], 15), [([], [], [], [], [], [], [(266, [(0, [(1, 1)]), (0, [(2, 1)]), (0, [(3, 1)]), (0, [(4, 1)]), (1, []), (0, [(14, 1)])])], 15)])
theorem zr_bu_l {P : zq_Ty} {h : zq_H} {a v Y z s i q t x y c o w b r : Int} (a1 : 0 ≤ q) (a2 : 0 ≤ z - q - 1) (a3 : 0 ≤ -i + 447) (a4 : 0 ≤ c - o - 16 * w) (a5 : 0 ≤ -c + o + 16 * w) (a6 : 0 ≤ o - 6) (a7 : 0 ≤ -o + 15) (a8 : 0 ≤ -b - 1000000001) (k1 : zr_KG a v Y z s i q t x y P h) (k2 : zn_DG Y q c P h) (k3 : zr_JN o x y b P h) : (zr_RK v Y z s 1 r P h) := by
  obtain ⟨w1, w2, w3, w5, w4⟩ := k1
  have hc : zn_dg Y q = o + 16 * w := by have e : c = zn_dg Y q := k2; omega
  have k3 : b = zc_jn o x y := k3
  refine ⟨w5, ?_⟩
  rw [if_pos rfl]
  refine zr_R_none w4 (fun _ R => ?_)
  rw [zr_s_two a1 (by omega) hc (by omega) (by omega), ← k3, ze_out_t (Or.inr (by omega))]
  rfl
theorem zr_bu_ok {w : zq_Wd} (x_KG : zj_is w 265 (fun q => zr_KG (q 0) (q 1) (q 2) (q 3) (q 4) (q 5) (q 6) (q 7) (q 8) (q 9))) (x_DG : zj_is w 134 (fun q => zn_DG (q 0) (q 1) (q 2))) (x_JN : zj_is w 267 (fun q => zr_JN (q 0) (q 1) (q 2) (q 3))) (x_RK : zj_is w 266 (fun q => zr_RK (q 0) (q 1) (q 2) (q 3) (q 4) (q 5))) : zq_okG1 w zr_bu := by
  refine ⟨rfl, rfl, zu_fac ⟨rfl, by decide⟩ zq_fan, ?_⟩
  intro r P h H hM
  have q0 : zq_ev r (0, [(6, 1)]) = r 6 := zu_e1 _ _
  have q1 : zq_ev r (-1, [(3, 1), (6, -1)]) = r 3 - r 6 - 1 := by simp only [zq_ev, zq_ts] <;> omega
  have q2 : zq_ev r (447, [(5, -1)]) = -r 5 + 447 := zu_e5 _ _ _
  have q3 : zq_ev r (0, [(10, 1), (11, -1), (12, -16)]) = r 10 - r 11 - 16 * r 12 := by simp only [zq_ev, zq_ts] <;> omega
  have q4 : zq_ev r (0, [(10, -1), (11, 1), (12, 16)]) = -r 10 + r 11 + 16 * r 12 := by simp only [zq_ev, zq_ts] <;> omega
  have q5 : zq_ev r (-6, [(11, 1)]) = r 11 - 6 := zu_e3 _ _ _
  have q6 : zq_ev r (15, [(11, -1)]) = -r 11 + 15 := zu_e5 _ _ _
  have q7 : zq_ev r (-1000000001, [(13, -1)]) = -r 13 - 1000000001 := zu_e6 _ _ _
  have q8 : zq_ev r (0, [(0, 1)]) = r 0 := zu_e1 _ _
  have q9 : zq_ev r (0, [(1, 1)]) = r 1 := zu_e1 _ _
  have q10 : zq_ev r (0, [(2, 1)]) = r 2 := zu_e1 _ _
  have q11 : zq_ev r (0, [(3, 1)]) = r 3 := zu_e1 _ _
  have q12 : zq_ev r (0, [(4, 1)]) = r 4 := zu_e1 _ _
  have q13 : zq_ev r (0, [(5, 1)]) = r 5 := zu_e1 _ _
  have q14 : zq_ev r (0, [(7, 1)]) = r 7 := zu_e1 _ _
  have q15 : zq_ev r (0, [(8, 1)]) = r 8 := zu_e1 _ _
  have q16 : zq_ev r (0, [(9, 1)]) = r 9 := zu_e1 _ _
  have q17 : zq_ev r (0, [(10, 1)]) = r 10 := zu_e1 _ _
  have q18 : zq_ev r (0, [(11, 1)]) = r 11 := zu_e1 _ _
  have q19 : zq_ev r (0, [(13, 1)]) = r 13 := zu_e1 _ _
  obtain ⟨hT, hC, hF, hS, -, hK⟩ := hM
  have c := hC.1
  have a1 := zq_all_1 c
  rw [q0] at a1
  have c := zq_all_t c
  have a2 := zq_all_1 c
  rw [q1] at a2
  have c := zq_all_t c
  have a3 := zq_all_1 c
  rw [q2] at a3
  have c := zq_all_t c
  have a4 := zq_all_1 c
  rw [q3] at a4
  have c := zq_all_t c
  have a5 := zq_all_1 c
  rw [q4] at a5
  have c := zq_all_t c
  have a6 := zq_all_1 c
  rw [q5] at a6
  have c := zq_all_t c
  have a7 := zq_all_1 c
  rw [q6] at a7
  have c := zq_all_t c
  have a8 := zq_all_1 c
  rw [q7] at a8
  have k1 := zj_use x_KG (hK)
  have k1 : zr_KG (zq_ev r (0, [(0, 1)])) (zq_ev r (0, [(1, 1)])) (zq_ev r (0, [(2, 1)])) (zq_ev r (0, [(3, 1)])) (zq_ev r (0, [(4, 1)])) (zq_ev r (0, [(5, 1)])) (zq_ev r (0, [(6, 1)])) (zq_ev r (0, [(7, 1)])) (zq_ev r (0, [(8, 1)])) (zq_ev r (0, [(9, 1)])) P h := k1
  simp only [q0, q10, q11, q12, q13, q14, q15, q16, q8, q9] at k1
  have k2 := zj_use x_DG (zq_okX_t (hK))
  have k2 : zn_DG (zq_ev r (0, [(2, 1)])) (zq_ev r (0, [(6, 1)])) (zq_ev r (0, [(10, 1)])) P h := k2
  simp only [q0, q10, q17] at k2
  have k3 := zj_use x_JN (zq_okX_t (zq_okX_t (hK)))
  have k3 : zr_JN (zq_ev r (0, [(11, 1)])) (zq_ev r (0, [(8, 1)])) (zq_ev r (0, [(9, 1)])) (zq_ev r (0, [(13, 1)])) P h := k3
  simp only [q15, q16, q18, q19] at k3
  obtain t1 := zr_bu_l (P := P) (h := h) (a := r 0) (v := r 1) (Y := r 2) (z := r 3) (s := r 4) (i := r 5) (q := r 6) (t := r 7) (x := r 8) (y := r 9) (c := r 10) (o := r 11) (w := r 12) (b := r 13) (r := r 14) a1 a2 a3 a4 a5 a6 a7 a8 k1 k2 k3
  obtain ⟨rq, hr⟩ : ∃ rq : Nat → Int, (∀ i, i < 15 → rq i = r i) := ⟨r, fun i hi => rfl⟩
  have v1 : rq 1 = r 1 := hr 1 (by decide)
  have v2 : rq 2 = r 2 := hr 2 (by decide)
  have v3 : rq 3 = r 3 := hr 3 (by decide)
  have v4 : rq 4 = r 4 := hr 4 (by decide)
  have v14 : rq 14 = r 14 := hr 14 (by decide)
  have g0 : zq_ev rq (0, [(1, 1)]) = r 1 := zu_f1 v1
  have g1 : zq_ev rq (0, [(2, 1)]) = r 2 := zu_f1 v2
  have g2 : zq_ev rq (0, [(3, 1)]) = r 3 := zu_f1 v3
  have g3 : zq_ev rq (0, [(4, 1)]) = r 4 := zu_f1 v4
  have g4 : zq_ev rq (1, []) = 1 := zu_e0 _ _
  have g5 : zq_ev rq (0, [(14, 1)]) = r 14 := zu_f1 v14
  exact ⟨_, List.mem_cons_self .., rq, hr, zq_MeS_mk rfl hT (zq_all_nil) zq_fan (zq_fan) rfl (zu_fac ((x_RK _ _ _).mpr (by show zr_RK (zq_ev rq (0, [(1, 1)])) (zq_ev rq (0, [(2, 1)])) (zq_ev rq (0, [(3, 1)])) (zq_ev rq (0, [(4, 1)])) (zq_ev rq (1, [])) (zq_ev rq (0, [(14, 1)])) P h; simp only [g0, g1, g2, g3, g4, g5]; exact t1)) zq_fan)⟩
noncomputable def zr_br : zq_S × List zq_S := (([], [], [(0, [(6, 1)]), (-1, [(3, 1), (6, -1)]), (447, [(5, -1)]), (0, [(10, 1), (11, -1), (12, -16)]), (0, [(10, -1), (11, 1), (12, 16)]), (-6, [(11, 1)]), (15, [(11, -1)]), (1000000000, [(13, 1)]), (1000000000, [(13, -1)]), (0, [(13, -1), (14, 1)]), (0, [(13, 1), (14, -1)])], [], [((0, [(0, 1)]), (0, [(7, 1)]), (0, [(14, 1)]))], [], [(265, [(0, [(0, 1)]), (0, [(1, 1)]), (0, [(2, 1)]), (0, [(3, 1)]), (0, [(4, 1)]), (0, [(5, 1)]), (0, [(6, 1)]), (0, [(7, 1)]), (0, [(8, 1)]), (0, [(9, 1)])]), (134, [(0, [(2, 1)]), (0, [(6, 1)]), (0, [(10, 1)])]), (267, [(0, [(11, 1)]), (0, [(8, 1)]), (0, [(9, 1)]), (0, [(13, 1)])])], 15), [([], [], [], [], [], [], [(263, [(0, [(0, 1)]), (0, [(1, 1)]), (0, [(2, 1)]), (0, [(3, 1)]), (0, [(4, 1)]), (1, [(5, 1)]), (1, [(6, 1)]), (1, [(7, 1)])])], 15)])
theorem zr_br_l {P : zq_Ty} {h : zq_H} {a v Y z s i q t x y c o w b u : Int} (a1 : 0 ≤ q) (a2 : 0 ≤ z - q - 1) (a3 : 0 ≤ -i + 447) (a4 : 0 ≤ c - o - 16 * w) (a5 : 0 ≤ -c + o + 16 * w) (a6 : 0 ≤ o - 6) (a7 : 0 ≤ -o + 15) (a8 : 0 ≤ b + 1000000000) (a9 : 0 ≤ -b + 1000000000) (a10 : 0 ≤ -b + u) (a11 : 0 ≤ b - u) (s1 : 0 ≤ a ∧ P (a).toNat ≠ none ∧ h (a).toNat t = u) (k1 : zr_KG a v Y z s i q t x y P h) (k2 : zn_DG Y q c P h) (k3 : zr_JN o x y b P h) : (zr_KS a v Y z s (i + 1) (q + 1) (t + 1) P h) := by
  obtain ⟨w1, w2, w3, w5, w4⟩ := k1
  have hc : zn_dg Y q = o + 16 * w := by have e : c = zn_dg Y q := k2; omega
  have k3 : b = zc_jn o x y := k3
  refine ⟨w1, by omega, by omega, w5, ?_⟩
  rw [zr_st_1 w2, s1.2.2, show u = b by omega]
  refine zr_R_go w4 (by omega) (fun R => ?_)
  rw [zr_s_two a1 (by omega) hc (by omega) (by omega), ← k3, ze_out_f (by omega) (by omega)]
  rfl
theorem zr_br_ok {w : zq_Wd} (x_KG : zj_is w 265 (fun q => zr_KG (q 0) (q 1) (q 2) (q 3) (q 4) (q 5) (q 6) (q 7) (q 8) (q 9))) (x_DG : zj_is w 134 (fun q => zn_DG (q 0) (q 1) (q 2))) (x_JN : zj_is w 267 (fun q => zr_JN (q 0) (q 1) (q 2) (q 3))) (x_KS : zj_is w 263 (fun q => zr_KS (q 0) (q 1) (q 2) (q 3) (q 4) (q 5) (q 6) (q 7))) : zq_okG1 w zr_br := by
  refine ⟨rfl, rfl, zu_fac ⟨rfl, by decide⟩ zq_fan, ?_⟩
  intro r P h H hM
  have q0 : zq_ev r (0, [(6, 1)]) = r 6 := zu_e1 _ _
  have q1 : zq_ev r (-1, [(3, 1), (6, -1)]) = r 3 - r 6 - 1 := by simp only [zq_ev, zq_ts] <;> omega
  have q2 : zq_ev r (447, [(5, -1)]) = -r 5 + 447 := zu_e5 _ _ _
  have q3 : zq_ev r (0, [(10, 1), (11, -1), (12, -16)]) = r 10 - r 11 - 16 * r 12 := by simp only [zq_ev, zq_ts] <;> omega
  have q4 : zq_ev r (0, [(10, -1), (11, 1), (12, 16)]) = -r 10 + r 11 + 16 * r 12 := by simp only [zq_ev, zq_ts] <;> omega
  have q5 : zq_ev r (-6, [(11, 1)]) = r 11 - 6 := zu_e3 _ _ _
  have q6 : zq_ev r (15, [(11, -1)]) = -r 11 + 15 := zu_e5 _ _ _
  have q7 : zq_ev r (1000000000, [(13, 1)]) = r 13 + 1000000000 := zu_e2 _ _ _
  have q8 : zq_ev r (1000000000, [(13, -1)]) = -r 13 + 1000000000 := zu_e5 _ _ _
  have q9 : zq_ev r (0, [(13, -1), (14, 1)]) = -r 13 + r 14 := by simp only [zq_ev, zq_ts] <;> omega
  have q10 : zq_ev r (0, [(13, 1), (14, -1)]) = r 13 - r 14 := by simp only [zq_ev, zq_ts] <;> omega
  have q11 : zq_ev r (0, [(0, 1)]) = r 0 := zu_e1 _ _
  have q12 : zq_ev r (0, [(7, 1)]) = r 7 := zu_e1 _ _
  have q13 : zq_ev r (0, [(14, 1)]) = r 14 := zu_e1 _ _
  have q14 : zq_ev r (0, [(1, 1)]) = r 1 := zu_e1 _ _
  have q15 : zq_ev r (0, [(2, 1)]) = r 2 := zu_e1 _ _
  have q16 : zq_ev r (0, [(3, 1)]) = r 3 := zu_e1 _ _
  have q17 : zq_ev r (0, [(4, 1)]) = r 4 := zu_e1 _ _
  have q18 : zq_ev r (0, [(5, 1)]) = r 5 := zu_e1 _ _
  have q19 : zq_ev r (0, [(8, 1)]) = r 8 := zu_e1 _ _
  have q20 : zq_ev r (0, [(9, 1)]) = r 9 := zu_e1 _ _
  have q21 : zq_ev r (0, [(10, 1)]) = r 10 := zu_e1 _ _
  have q22 : zq_ev r (0, [(11, 1)]) = r 11 := zu_e1 _ _
  have q23 : zq_ev r (0, [(13, 1)]) = r 13 := zu_e1 _ _
  obtain ⟨hT, hC, hF, hS, -, hK⟩ := hM
  have c := hC.1
  have a1 := zq_all_1 c
  rw [q0] at a1
  have c := zq_all_t c
  have a2 := zq_all_1 c
  rw [q1] at a2
  have c := zq_all_t c
  have a3 := zq_all_1 c
  rw [q2] at a3
  have c := zq_all_t c
  have a4 := zq_all_1 c
  rw [q3] at a4
  have c := zq_all_t c
  have a5 := zq_all_1 c
  rw [q4] at a5
  have c := zq_all_t c
  have a6 := zq_all_1 c
  rw [q5] at a6
  have c := zq_all_t c
  have a7 := zq_all_1 c
  rw [q6] at a7
  have c := zq_all_t c
  have a8 := zq_all_1 c
  rw [q7] at a8
  have c := zq_all_t c
  have a9 := zq_all_1 c
  rw [q8] at a9
  have c := zq_all_t c
  have a10 := zq_all_1 c
  rw [q9] at a10
  have c := zq_all_t c
  have a11 := zq_all_1 c
  rw [q10] at a11
  have s1 := zq_okS_1 (hS)
  simp only [q11, q12, q13] at s1
  have k1 := zj_use x_KG (hK)
  have k1 : zr_KG (zq_ev r (0, [(0, 1)])) (zq_ev r (0, [(1, 1)])) (zq_ev r (0, [(2, 1)])) (zq_ev r (0, [(3, 1)])) (zq_ev r (0, [(4, 1)])) (zq_ev r (0, [(5, 1)])) (zq_ev r (0, [(6, 1)])) (zq_ev r (0, [(7, 1)])) (zq_ev r (0, [(8, 1)])) (zq_ev r (0, [(9, 1)])) P h := k1
  simp only [q0, q11, q12, q14, q15, q16, q17, q18, q19, q20] at k1
  have k2 := zj_use x_DG (zq_okX_t (hK))
  have k2 : zn_DG (zq_ev r (0, [(2, 1)])) (zq_ev r (0, [(6, 1)])) (zq_ev r (0, [(10, 1)])) P h := k2
  simp only [q0, q15, q21] at k2
  have k3 := zj_use x_JN (zq_okX_t (zq_okX_t (hK)))
  have k3 : zr_JN (zq_ev r (0, [(11, 1)])) (zq_ev r (0, [(8, 1)])) (zq_ev r (0, [(9, 1)])) (zq_ev r (0, [(13, 1)])) P h := k3
  simp only [q19, q20, q22, q23] at k3
  obtain t1 := zr_br_l (P := P) (h := h) (a := r 0) (v := r 1) (Y := r 2) (z := r 3) (s := r 4) (i := r 5) (q := r 6) (t := r 7) (x := r 8) (y := r 9) (c := r 10) (o := r 11) (w := r 12) (b := r 13) (u := r 14) a1 a2 a3 a4 a5 a6 a7 a8 a9 a10 a11 s1 k1 k2 k3
  obtain ⟨rq, hr⟩ : ∃ rq : Nat → Int, (∀ i, i < 15 → rq i = r i) := ⟨r, fun i hi => rfl⟩
  have v0 : rq 0 = r 0 := hr 0 (by decide)
  have v1 : rq 1 = r 1 := hr 1 (by decide)
  have v2 : rq 2 = r 2 := hr 2 (by decide)
  have v3 : rq 3 = r 3 := hr 3 (by decide)
  have v4 : rq 4 = r 4 := hr 4 (by decide)
  have v5 : rq 5 = r 5 := hr 5 (by decide)
  have v6 : rq 6 = r 6 := hr 6 (by decide)
  have v7 : rq 7 = r 7 := hr 7 (by decide)
  have g0 : zq_ev rq (0, [(0, 1)]) = r 0 := zu_f1 v0
  have g1 : zq_ev rq (0, [(1, 1)]) = r 1 := zu_f1 v1
  have g2 : zq_ev rq (0, [(2, 1)]) = r 2 := zu_f1 v2
  have g3 : zq_ev rq (0, [(3, 1)]) = r 3 := zu_f1 v3
  have g4 : zq_ev rq (0, [(4, 1)]) = r 4 := zu_f1 v4
  have g5 : zq_ev rq (1, [(5, 1)]) = r 5 + 1 := zu_f2 v5 _
  have g6 : zq_ev rq (1, [(6, 1)]) = r 6 + 1 := zu_f2 v6 _
  have g7 : zq_ev rq (1, [(7, 1)]) = r 7 + 1 := zu_f2 v7 _
  exact ⟨_, List.mem_cons_self .., rq, hr, zq_MeS_mk rfl hT (zq_all_nil) zq_fan (zq_fan) rfl (zu_fac ((x_KS _ _ _).mpr (by show zr_KS (zq_ev rq (0, [(0, 1)])) (zq_ev rq (0, [(1, 1)])) (zq_ev rq (0, [(2, 1)])) (zq_ev rq (0, [(3, 1)])) (zq_ev rq (0, [(4, 1)])) (zq_ev rq (1, [(5, 1)])) (zq_ev rq (1, [(6, 1)])) (zq_ev rq (1, [(7, 1)])) P h; simp only [g0, g1, g2, g3, g4, g5, g6, g7]; exact t1)) zq_fan)⟩
noncomputable def zr_o6 : zq_S × List zq_S := (([], [], [(-6, [(0, 1)]), (6, [(0, -1)])], [], [], [], [], 3), [([], [], [], [], [], [], [(267, [(0, [(0, 1)]), (0, [(1, 1)]), (0, [(2, 1)]), (0, [(1, 1), (2, 1)])])], 3)])
theorem zr_o6_l {P : zq_Ty} {h : zq_H} {o x y : Int} (a1 : 0 ≤ o - 6) (a2 : 0 ≤ -o + 6) : (zr_JN o x y (x + y) P h) := by
  have ho : o = 6 := by omega
  subst ho
  show x + y = zc_jn 6 x y
  unfold zc_jn
  simp
theorem zr_o6_ok {w : zq_Wd} (x_JN : zj_is w 267 (fun q => zr_JN (q 0) (q 1) (q 2) (q 3))) : zq_okG1 w zr_o6 := by
  refine ⟨rfl, rfl, zu_fac ⟨rfl, by decide⟩ zq_fan, ?_⟩
  intro r P h H hM
  have q0 : zq_ev r (-6, [(0, 1)]) = r 0 - 6 := zu_e3 _ _ _
  have q1 : zq_ev r (6, [(0, -1)]) = -r 0 + 6 := zu_e5 _ _ _
  obtain ⟨hT, hC, hF, hS, -, hK⟩ := hM
  have c := hC.1
  have a1 := zq_all_1 c
  rw [q0] at a1
  have c := zq_all_t c
  have a2 := zq_all_1 c
  rw [q1] at a2
  obtain t1 := zr_o6_l (P := P) (h := h) (o := r 0) (x := r 1) (y := r 2) a1 a2
  obtain ⟨rq, hr⟩ : ∃ rq : Nat → Int, (∀ i, i < 3 → rq i = r i) := ⟨r, fun i hi => rfl⟩
  have v0 : rq 0 = r 0 := hr 0 (by decide)
  have v1 : rq 1 = r 1 := hr 1 (by decide)
  have v2 : rq 2 = r 2 := hr 2 (by decide)
  have g0 : zq_ev rq (0, [(0, 1)]) = r 0 := zu_f1 v0
  have g1 : zq_ev rq (0, [(1, 1)]) = r 1 := zu_f1 v1
  have g2 : zq_ev rq (0, [(2, 1)]) = r 2 := zu_f1 v2
  have g3 : zq_ev rq (0, [(1, 1), (2, 1)]) = r 1 + r 2 := by simp only [zq_ev, zq_ts, v0, v1, v2] <;> omega
  exact ⟨_, List.mem_cons_self .., rq, hr, zq_MeS_mk rfl hT (zq_all_nil) zq_fan (zq_fan) rfl (zu_fac ((x_JN _ _ _).mpr (by show zr_JN (zq_ev rq (0, [(0, 1)])) (zq_ev rq (0, [(1, 1)])) (zq_ev rq (0, [(2, 1)])) (zq_ev rq (0, [(1, 1), (2, 1)])) P h; simp only [g0, g1, g2, g3]; exact t1)) zq_fan)⟩
noncomputable def zr_o7 : zq_S × List zq_S := (([], [], [(-7, [(0, 1)]), (7, [(0, -1)])], [], [], [], [], 3), [([], [], [], [], [], [], [(267, [(0, [(0, 1)]), (0, [(1, 1)]), (0, [(2, 1)]), (0, [(1, 1), (2, -1)])])], 3)])
theorem zr_o7_l {P : zq_Ty} {h : zq_H} {o x y : Int} (a1 : 0 ≤ o - 7) (a2 : 0 ≤ -o + 7) : (zr_JN o x y (x - y) P h) := by
  have ho : o = 7 := by omega
  subst ho
  show x - y = zc_jn 7 x y
  unfold zc_jn
  simp
theorem zr_o7_ok {w : zq_Wd} (x_JN : zj_is w 267 (fun q => zr_JN (q 0) (q 1) (q 2) (q 3))) : zq_okG1 w zr_o7 := by
  refine ⟨rfl, rfl, zu_fac ⟨rfl, by decide⟩ zq_fan, ?_⟩
  intro r P h H hM
  have q0 : zq_ev r (-7, [(0, 1)]) = r 0 - 7 := zu_e3 _ _ _
  have q1 : zq_ev r (7, [(0, -1)]) = -r 0 + 7 := zu_e5 _ _ _
  obtain ⟨hT, hC, hF, hS, -, hK⟩ := hM
  have c := hC.1
  have a1 := zq_all_1 c
  rw [q0] at a1
  have c := zq_all_t c
  have a2 := zq_all_1 c
  rw [q1] at a2
  obtain t1 := zr_o7_l (P := P) (h := h) (o := r 0) (x := r 1) (y := r 2) a1 a2
  obtain ⟨rq, hr⟩ : ∃ rq : Nat → Int, (∀ i, i < 3 → rq i = r i) := ⟨r, fun i hi => rfl⟩
  have v0 : rq 0 = r 0 := hr 0 (by decide)
  have v1 : rq 1 = r 1 := hr 1 (by decide)
  have v2 : rq 2 = r 2 := hr 2 (by decide)
  have g0 : zq_ev rq (0, [(0, 1)]) = r 0 := zu_f1 v0
  have g1 : zq_ev rq (0, [(1, 1)]) = r 1 := zu_f1 v1
  have g2 : zq_ev rq (0, [(2, 1)]) = r 2 := zu_f1 v2
  have g3 : zq_ev rq (0, [(1, 1), (2, -1)]) = r 1 - r 2 := by simp only [zq_ev, zq_ts, v0, v1, v2] <;> omega
  exact ⟨_, List.mem_cons_self .., rq, hr, zq_MeS_mk rfl hT (zq_all_nil) zq_fan (zq_fan) rfl (zu_fac ((x_JN _ _ _).mpr (by show zr_JN (zq_ev rq (0, [(0, 1)])) (zq_ev rq (0, [(1, 1)])) (zq_ev rq (0, [(2, 1)])) (zq_ev rq (0, [(1, 1), (2, -1)])) P h; simp only [g0, g1, g2, g3]; exact t1)) zq_fan)⟩
noncomputable def zr_o8 : zq_S × List zq_S := (([], [], [(2147483648, [(1, 1)]), (2147483647, [(1, -1)]), (2147483648, [(2, 1)]), (2147483647, [(2, -1)]), (-8, [(0, 1)]), (8, [(0, -1)])], [], [], [], [(86, [(2, []), (0, [(1, 1)]), (0, [(2, 1)]), (0, [(3, 1)])])], 4), [([], [], [], [], [], [], [(267, [(0, [(0, 1)]), (0, [(1, 1)]), (0, [(2, 1)]), (0, [(3, 1)])])], 4)])
theorem zr_o8_l {P : zq_Ty} {h : zq_H} {o x y u : Int} (a1 : 0 ≤ x + 2147483648) (a2 : 0 ≤ -x + 2147483647) (a3 : 0 ≤ y + 2147483648) (a4 : 0 ≤ -y + 2147483647) (a5 : 0 ≤ o - 8) (a6 : 0 ≤ -o + 8) (k1 : zo_ol 2 x y u P h) : (zr_JN o x y u P h) := by
  have ho : o = 8 := by omega
  subst ho
  show u = zc_jn 8 x y
  rw [ze_op64 (show u = zq_fun 1 2 x y from k1) (by omega) (by omega) (by omega) (by omega)]
  unfold zc_jn
  simp
theorem zr_o8_ok {w : zq_Wd} (x_OL : zj_is w 86 (fun q => zo_ol (q 0) (q 1) (q 2) (q 3))) (x_JN : zj_is w 267 (fun q => zr_JN (q 0) (q 1) (q 2) (q 3))) : zq_okG1 w zr_o8 := by
  refine ⟨rfl, rfl, zu_fac ⟨rfl, by decide⟩ zq_fan, ?_⟩
  intro r P h H hM
  have q0 : zq_ev r (2147483648, [(1, 1)]) = r 1 + 2147483648 := zu_e2 _ _ _
  have q1 : zq_ev r (2147483647, [(1, -1)]) = -r 1 + 2147483647 := zu_e5 _ _ _
  have q2 : zq_ev r (2147483648, [(2, 1)]) = r 2 + 2147483648 := zu_e2 _ _ _
  have q3 : zq_ev r (2147483647, [(2, -1)]) = -r 2 + 2147483647 := zu_e5 _ _ _
  have q4 : zq_ev r (-8, [(0, 1)]) = r 0 - 8 := zu_e3 _ _ _
  have q5 : zq_ev r (8, [(0, -1)]) = -r 0 + 8 := zu_e5 _ _ _
  have q6 : zq_ev r (2, []) = 2 := zu_e0 _ _
  have q7 : zq_ev r (0, [(1, 1)]) = r 1 := zu_e1 _ _
  have q8 : zq_ev r (0, [(2, 1)]) = r 2 := zu_e1 _ _
  have q9 : zq_ev r (0, [(3, 1)]) = r 3 := zu_e1 _ _
  obtain ⟨hT, hC, hF, hS, -, hK⟩ := hM
  have c := hC.1
  have a1 := zq_all_1 c
  rw [q0] at a1
  have c := zq_all_t c
  have a2 := zq_all_1 c
  rw [q1] at a2
  have c := zq_all_t c
  have a3 := zq_all_1 c
  rw [q2] at a3
  have c := zq_all_t c
  have a4 := zq_all_1 c
  rw [q3] at a4
  have c := zq_all_t c
  have a5 := zq_all_1 c
  rw [q4] at a5
  have c := zq_all_t c
  have a6 := zq_all_1 c
  rw [q5] at a6
  have k1 := zj_use x_OL (hK)
  have k1 : zo_ol (zq_ev r (2, [])) (zq_ev r (0, [(1, 1)])) (zq_ev r (0, [(2, 1)])) (zq_ev r (0, [(3, 1)])) P h := k1
  simp only [q6, q7, q8, q9] at k1
  obtain t1 := zr_o8_l (P := P) (h := h) (o := r 0) (x := r 1) (y := r 2) (u := r 3) a1 a2 a3 a4 a5 a6 k1
  obtain ⟨rq, hr⟩ : ∃ rq : Nat → Int, (∀ i, i < 4 → rq i = r i) := ⟨r, fun i hi => rfl⟩
  have v0 : rq 0 = r 0 := hr 0 (by decide)
  have v1 : rq 1 = r 1 := hr 1 (by decide)
  have v2 : rq 2 = r 2 := hr 2 (by decide)
  have v3 : rq 3 = r 3 := hr 3 (by decide)
  have g0 : zq_ev rq (0, [(0, 1)]) = r 0 := zu_f1 v0
  have g1 : zq_ev rq (0, [(1, 1)]) = r 1 := zu_f1 v1
  have g2 : zq_ev rq (0, [(2, 1)]) = r 2 := zu_f1 v2
  have g3 : zq_ev rq (0, [(3, 1)]) = r 3 := zu_f1 v3
  exact ⟨_, List.mem_cons_self .., rq, hr, zq_MeS_mk rfl hT (zq_all_nil) zq_fan (zq_fan) rfl (zu_fac ((x_JN _ _ _).mpr (by show zr_JN (zq_ev rq (0, [(0, 1)])) (zq_ev rq (0, [(1, 1)])) (zq_ev rq (0, [(2, 1)])) (zq_ev rq (0, [(3, 1)])) P h; simp only [g0, g1, g2, g3]; exact t1)) zq_fan)⟩
noncomputable def zr_o9z : zq_S × List zq_S := (([], [], [(-9, [(0, 1)]), (9, [(0, -1)]), (0, [(2, 1)]), (0, [(2, -1)])], [], [], [], [], 3), [([], [], [], [], [], [], [(267, [(0, [(0, 1)]), (0, [(1, 1)]), (0, [(2, 1)]), (1000000001, [])])], 3)])
theorem zr_o9z_l {P : zq_Ty} {h : zq_H} {o x y : Int} (a1 : 0 ≤ o - 9) (a2 : 0 ≤ -o + 9) (a3 : 0 ≤ y) (a4 : 0 ≤ -y) : (zr_JN o x y 1000000001 P h) := by
  have ho : o = 9 := by omega
  subst ho
  have hy : y = 0 := by omega
  subst hy
  show 1000000001 = zc_jn 9 x 0
  unfold zc_jn
  simp
theorem zr_o9z_ok {w : zq_Wd} (x_JN : zj_is w 267 (fun q => zr_JN (q 0) (q 1) (q 2) (q 3))) : zq_okG1 w zr_o9z := by
  refine ⟨rfl, rfl, zu_fac ⟨rfl, by decide⟩ zq_fan, ?_⟩
  intro r P h H hM
  have q0 : zq_ev r (-9, [(0, 1)]) = r 0 - 9 := zu_e3 _ _ _
  have q1 : zq_ev r (9, [(0, -1)]) = -r 0 + 9 := zu_e5 _ _ _
  have q2 : zq_ev r (0, [(2, 1)]) = r 2 := zu_e1 _ _
  have q3 : zq_ev r (0, [(2, -1)]) = -r 2 := zu_e4 _ _
  obtain ⟨hT, hC, hF, hS, -, hK⟩ := hM
  have c := hC.1
  have a1 := zq_all_1 c
  rw [q0] at a1
  have c := zq_all_t c
  have a2 := zq_all_1 c
  rw [q1] at a2
  have c := zq_all_t c
  have a3 := zq_all_1 c
  rw [q2] at a3
  have c := zq_all_t c
  have a4 := zq_all_1 c
  rw [q3] at a4
  obtain t1 := zr_o9z_l (P := P) (h := h) (o := r 0) (x := r 1) (y := r 2) a1 a2 a3 a4
  obtain ⟨rq, hr⟩ : ∃ rq : Nat → Int, (∀ i, i < 3 → rq i = r i) := ⟨r, fun i hi => rfl⟩
  have v0 : rq 0 = r 0 := hr 0 (by decide)
  have v1 : rq 1 = r 1 := hr 1 (by decide)
  have v2 : rq 2 = r 2 := hr 2 (by decide)
  have g0 : zq_ev rq (0, [(0, 1)]) = r 0 := zu_f1 v0
  have g1 : zq_ev rq (0, [(1, 1)]) = r 1 := zu_f1 v1
  have g2 : zq_ev rq (0, [(2, 1)]) = r 2 := zu_f1 v2
  have g3 : zq_ev rq (1000000001, []) = 1000000001 := zu_e0 _ _
  exact ⟨_, List.mem_cons_self .., rq, hr, zq_MeS_mk rfl hT (zq_all_nil) zq_fan (zq_fan) rfl (zu_fac ((x_JN _ _ _).mpr (by show zr_JN (zq_ev rq (0, [(0, 1)])) (zq_ev rq (0, [(1, 1)])) (zq_ev rq (0, [(2, 1)])) (zq_ev rq (1000000001, [])) P h; simp only [g0, g1, g2, g3]; exact t1)) zq_fan)⟩
noncomputable def zr_o9p : zq_S × List zq_S := (([], [], [(2147483648, [(1, 1)]), (2147483647, [(1, -1)]), (2147483648, [(2, 1)]), (2147483647, [(2, -1)]), (-9, [(0, 1)]), (9, [(0, -1)]), (-1, [(2, 1)])], [], [], [], [(86, [(3, []), (0, [(1, 1)]), (0, [(2, 1)]), (0, [(3, 1)])])], 4), [([], [], [], [], [], [], [(267, [(0, [(0, 1)]), (0, [(1, 1)]), (0, [(2, 1)]), (0, [(3, 1)])])], 4)])
theorem zr_o9p_l {P : zq_Ty} {h : zq_H} {o x y u : Int} (a1 : 0 ≤ x + 2147483648) (a2 : 0 ≤ -x + 2147483647) (a3 : 0 ≤ y + 2147483648) (a4 : 0 ≤ -y + 2147483647) (a5 : 0 ≤ o - 9) (a6 : 0 ≤ -o + 9) (a7 : 0 ≤ y - 1) (k1 : zo_ol 3 x y u P h) : (zr_JN o x y u P h) := by
  have ho : o = 9 := by omega
  subst ho
  have hy : y ≠ 0 := by omega
  show u = zc_jn 9 x y
  rw [ze_tdiv64 (show u = zq_fun 1 3 x y from k1) (by omega) (by omega)]
  unfold zc_jn
  simp [hy]
theorem zr_o9p_ok {w : zq_Wd} (x_OL : zj_is w 86 (fun q => zo_ol (q 0) (q 1) (q 2) (q 3))) (x_JN : zj_is w 267 (fun q => zr_JN (q 0) (q 1) (q 2) (q 3))) : zq_okG1 w zr_o9p := by
  refine ⟨rfl, rfl, zu_fac ⟨rfl, by decide⟩ zq_fan, ?_⟩
  intro r P h H hM
  have q0 : zq_ev r (2147483648, [(1, 1)]) = r 1 + 2147483648 := zu_e2 _ _ _
  have q1 : zq_ev r (2147483647, [(1, -1)]) = -r 1 + 2147483647 := zu_e5 _ _ _
  have q2 : zq_ev r (2147483648, [(2, 1)]) = r 2 + 2147483648 := zu_e2 _ _ _
  have q3 : zq_ev r (2147483647, [(2, -1)]) = -r 2 + 2147483647 := zu_e5 _ _ _
  have q4 : zq_ev r (-9, [(0, 1)]) = r 0 - 9 := zu_e3 _ _ _
  have q5 : zq_ev r (9, [(0, -1)]) = -r 0 + 9 := zu_e5 _ _ _
  have q6 : zq_ev r (-1, [(2, 1)]) = r 2 - 1 := zu_e3 _ _ _
  have q7 : zq_ev r (3, []) = 3 := zu_e0 _ _
  have q8 : zq_ev r (0, [(1, 1)]) = r 1 := zu_e1 _ _
  have q9 : zq_ev r (0, [(2, 1)]) = r 2 := zu_e1 _ _
  have q10 : zq_ev r (0, [(3, 1)]) = r 3 := zu_e1 _ _
  obtain ⟨hT, hC, hF, hS, -, hK⟩ := hM
  have c := hC.1
  have a1 := zq_all_1 c
  rw [q0] at a1
  have c := zq_all_t c
  have a2 := zq_all_1 c
  rw [q1] at a2
  have c := zq_all_t c
  have a3 := zq_all_1 c
  rw [q2] at a3
  have c := zq_all_t c
  have a4 := zq_all_1 c
  rw [q3] at a4
  have c := zq_all_t c
  have a5 := zq_all_1 c
  rw [q4] at a5
  have c := zq_all_t c
  have a6 := zq_all_1 c
  rw [q5] at a6
  have c := zq_all_t c
  have a7 := zq_all_1 c
  rw [q6] at a7
  have k1 := zj_use x_OL (hK)
  have k1 : zo_ol (zq_ev r (3, [])) (zq_ev r (0, [(1, 1)])) (zq_ev r (0, [(2, 1)])) (zq_ev r (0, [(3, 1)])) P h := k1
  simp only [q10, q7, q8, q9] at k1
  obtain t1 := zr_o9p_l (P := P) (h := h) (o := r 0) (x := r 1) (y := r 2) (u := r 3) a1 a2 a3 a4 a5 a6 a7 k1
  obtain ⟨rq, hr⟩ : ∃ rq : Nat → Int, (∀ i, i < 4 → rq i = r i) := ⟨r, fun i hi => rfl⟩
  have v0 : rq 0 = r 0 := hr 0 (by decide)
  have v1 : rq 1 = r 1 := hr 1 (by decide)
  have v2 : rq 2 = r 2 := hr 2 (by decide)
  have v3 : rq 3 = r 3 := hr 3 (by decide)
  have g0 : zq_ev rq (0, [(0, 1)]) = r 0 := zu_f1 v0
  have g1 : zq_ev rq (0, [(1, 1)]) = r 1 := zu_f1 v1
  have g2 : zq_ev rq (0, [(2, 1)]) = r 2 := zu_f1 v2
  have g3 : zq_ev rq (0, [(3, 1)]) = r 3 := zu_f1 v3
  exact ⟨_, List.mem_cons_self .., rq, hr, zq_MeS_mk rfl hT (zq_all_nil) zq_fan (zq_fan) rfl (zu_fac ((x_JN _ _ _).mpr (by show zr_JN (zq_ev rq (0, [(0, 1)])) (zq_ev rq (0, [(1, 1)])) (zq_ev rq (0, [(2, 1)])) (zq_ev rq (0, [(3, 1)])) P h; simp only [g0, g1, g2, g3]; exact t1)) zq_fan)⟩
noncomputable def zr_o9m : zq_S × List zq_S := (([], [], [(2147483648, [(1, 1)]), (2147483647, [(1, -1)]), (2147483648, [(2, 1)]), (2147483647, [(2, -1)]), (-9, [(0, 1)]), (9, [(0, -1)]), (-1, [(2, -1)])], [], [], [], [(86, [(3, []), (0, [(1, 1)]), (0, [(2, 1)]), (0, [(3, 1)])])], 4), [([], [], [], [], [], [], [(267, [(0, [(0, 1)]), (0, [(1, 1)]), (0, [(2, 1)]), (0, [(3, 1)])])], 4)])
theorem zr_o9m_l {P : zq_Ty} {h : zq_H} {o x y u : Int} (a1 : 0 ≤ x + 2147483648) (a2 : 0 ≤ -x + 2147483647) (a3 : 0 ≤ y + 2147483648) (a4 : 0 ≤ -y + 2147483647) (a5 : 0 ≤ o - 9) (a6 : 0 ≤ -o + 9) (a7 : 0 ≤ -y - 1) (k1 : zo_ol 3 x y u P h) : (zr_JN o x y u P h) := by
  have ho : o = 9 := by omega
  subst ho
  have hy : y ≠ 0 := by omega
  show u = zc_jn 9 x y
  rw [ze_tdiv64 (show u = zq_fun 1 3 x y from k1) (by omega) (by omega)]
  unfold zc_jn
  simp [hy]
theorem zr_o9m_ok {w : zq_Wd} (x_OL : zj_is w 86 (fun q => zo_ol (q 0) (q 1) (q 2) (q 3))) (x_JN : zj_is w 267 (fun q => zr_JN (q 0) (q 1) (q 2) (q 3))) : zq_okG1 w zr_o9m := by
  refine ⟨rfl, rfl, zu_fac ⟨rfl, by decide⟩ zq_fan, ?_⟩
  intro r P h H hM
  have q0 : zq_ev r (2147483648, [(1, 1)]) = r 1 + 2147483648 := zu_e2 _ _ _
  have q1 : zq_ev r (2147483647, [(1, -1)]) = -r 1 + 2147483647 := zu_e5 _ _ _
  have q2 : zq_ev r (2147483648, [(2, 1)]) = r 2 + 2147483648 := zu_e2 _ _ _
  have q3 : zq_ev r (2147483647, [(2, -1)]) = -r 2 + 2147483647 := zu_e5 _ _ _
  have q4 : zq_ev r (-9, [(0, 1)]) = r 0 - 9 := zu_e3 _ _ _
  have q5 : zq_ev r (9, [(0, -1)]) = -r 0 + 9 := zu_e5 _ _ _
  have q6 : zq_ev r (-1, [(2, -1)]) = -r 2 - 1 := zu_e6 _ _ _
  have q7 : zq_ev r (3, []) = 3 := zu_e0 _ _
  have q8 : zq_ev r (0, [(1, 1)]) = r 1 := zu_e1 _ _
  have q9 : zq_ev r (0, [(2, 1)]) = r 2 := zu_e1 _ _
  have q10 : zq_ev r (0, [(3, 1)]) = r 3 := zu_e1 _ _
  obtain ⟨hT, hC, hF, hS, -, hK⟩ := hM
  have c := hC.1
  have a1 := zq_all_1 c
  rw [q0] at a1
  have c := zq_all_t c
  have a2 := zq_all_1 c
  rw [q1] at a2
  have c := zq_all_t c
  have a3 := zq_all_1 c
  rw [q2] at a3
  have c := zq_all_t c
  have a4 := zq_all_1 c
  rw [q3] at a4
  have c := zq_all_t c
  have a5 := zq_all_1 c
  rw [q4] at a5
  have c := zq_all_t c
  have a6 := zq_all_1 c
  rw [q5] at a6
  have c := zq_all_t c
  have a7 := zq_all_1 c
  rw [q6] at a7
  have k1 := zj_use x_OL (hK)
  have k1 : zo_ol (zq_ev r (3, [])) (zq_ev r (0, [(1, 1)])) (zq_ev r (0, [(2, 1)])) (zq_ev r (0, [(3, 1)])) P h := k1
  simp only [q10, q7, q8, q9] at k1
  obtain t1 := zr_o9m_l (P := P) (h := h) (o := r 0) (x := r 1) (y := r 2) (u := r 3) a1 a2 a3 a4 a5 a6 a7 k1
  obtain ⟨rq, hr⟩ : ∃ rq : Nat → Int, (∀ i, i < 4 → rq i = r i) := ⟨r, fun i hi => rfl⟩
  have v0 : rq 0 = r 0 := hr 0 (by decide)
  have v1 : rq 1 = r 1 := hr 1 (by decide)
  have v2 : rq 2 = r 2 := hr 2 (by decide)
  have v3 : rq 3 = r 3 := hr 3 (by decide)
  have g0 : zq_ev rq (0, [(0, 1)]) = r 0 := zu_f1 v0
  have g1 : zq_ev rq (0, [(1, 1)]) = r 1 := zu_f1 v1
  have g2 : zq_ev rq (0, [(2, 1)]) = r 2 := zu_f1 v2
  have g3 : zq_ev rq (0, [(3, 1)]) = r 3 := zu_f1 v3
  exact ⟨_, List.mem_cons_self .., rq, hr, zq_MeS_mk rfl hT (zq_all_nil) zq_fan (zq_fan) rfl (zu_fac ((x_JN _ _ _).mpr (by show zr_JN (zq_ev rq (0, [(0, 1)])) (zq_ev rq (0, [(1, 1)])) (zq_ev rq (0, [(2, 1)])) (zq_ev rq (0, [(3, 1)])) P h; simp only [g0, g1, g2, g3]; exact t1)) zq_fan)⟩
noncomputable def zr_o10z : zq_S × List zq_S := (([], [], [(-10, [(0, 1)]), (10, [(0, -1)]), (0, [(2, 1)]), (0, [(2, -1)])], [], [], [], [], 3), [([], [], [], [], [], [], [(267, [(0, [(0, 1)]), (0, [(1, 1)]), (0, [(2, 1)]), (1000000001, [])])], 3)])
theorem zr_o10z_l {P : zq_Ty} {h : zq_H} {o x y : Int} (a1 : 0 ≤ o - 10) (a2 : 0 ≤ -o + 10) (a3 : 0 ≤ y) (a4 : 0 ≤ -y) : (zr_JN o x y 1000000001 P h) := by
  have ho : o = 10 := by omega
  subst ho
  have hy : y = 0 := by omega
  subst hy
  show 1000000001 = zc_jn 10 x 0
  unfold zc_jn
  simp
theorem zr_o10z_ok {w : zq_Wd} (x_JN : zj_is w 267 (fun q => zr_JN (q 0) (q 1) (q 2) (q 3))) : zq_okG1 w zr_o10z := by
  refine ⟨rfl, rfl, zu_fac ⟨rfl, by decide⟩ zq_fan, ?_⟩
  intro r P h H hM
  have q0 : zq_ev r (-10, [(0, 1)]) = r 0 - 10 := zu_e3 _ _ _
  have q1 : zq_ev r (10, [(0, -1)]) = -r 0 + 10 := zu_e5 _ _ _
  have q2 : zq_ev r (0, [(2, 1)]) = r 2 := zu_e1 _ _
  have q3 : zq_ev r (0, [(2, -1)]) = -r 2 := zu_e4 _ _
  obtain ⟨hT, hC, hF, hS, -, hK⟩ := hM
  have c := hC.1
  have a1 := zq_all_1 c
  rw [q0] at a1
  have c := zq_all_t c
  have a2 := zq_all_1 c
  rw [q1] at a2
  have c := zq_all_t c
  have a3 := zq_all_1 c
  rw [q2] at a3
  have c := zq_all_t c
  have a4 := zq_all_1 c
  rw [q3] at a4
  obtain t1 := zr_o10z_l (P := P) (h := h) (o := r 0) (x := r 1) (y := r 2) a1 a2 a3 a4
  obtain ⟨rq, hr⟩ : ∃ rq : Nat → Int, (∀ i, i < 3 → rq i = r i) := ⟨r, fun i hi => rfl⟩
  have v0 : rq 0 = r 0 := hr 0 (by decide)
  have v1 : rq 1 = r 1 := hr 1 (by decide)
  have v2 : rq 2 = r 2 := hr 2 (by decide)
  have g0 : zq_ev rq (0, [(0, 1)]) = r 0 := zu_f1 v0
  have g1 : zq_ev rq (0, [(1, 1)]) = r 1 := zu_f1 v1
  have g2 : zq_ev rq (0, [(2, 1)]) = r 2 := zu_f1 v2
  have g3 : zq_ev rq (1000000001, []) = 1000000001 := zu_e0 _ _
  exact ⟨_, List.mem_cons_self .., rq, hr, zq_MeS_mk rfl hT (zq_all_nil) zq_fan (zq_fan) rfl (zu_fac ((x_JN _ _ _).mpr (by show zr_JN (zq_ev rq (0, [(0, 1)])) (zq_ev rq (0, [(1, 1)])) (zq_ev rq (0, [(2, 1)])) (zq_ev rq (1000000001, [])) P h; simp only [g0, g1, g2, g3]; exact t1)) zq_fan)⟩
noncomputable def zr_o10p : zq_S × List zq_S := (([], [], [(2147483648, [(1, 1)]), (2147483647, [(1, -1)]), (2147483648, [(2, 1)]), (2147483647, [(2, -1)]), (-10, [(0, 1)]), (10, [(0, -1)]), (-1, [(2, 1)])], [], [], [], [(86, [(4, []), (0, [(1, 1)]), (0, [(2, 1)]), (0, [(3, 1)])])], 4), [([], [], [], [], [], [], [(267, [(0, [(0, 1)]), (0, [(1, 1)]), (0, [(2, 1)]), (0, [(3, 1)])])], 4)])
theorem zr_o10p_l {P : zq_Ty} {h : zq_H} {o x y u : Int} (a1 : 0 ≤ x + 2147483648) (a2 : 0 ≤ -x + 2147483647) (a3 : 0 ≤ y + 2147483648) (a4 : 0 ≤ -y + 2147483647) (a5 : 0 ≤ o - 10) (a6 : 0 ≤ -o + 10) (a7 : 0 ≤ y - 1) (k1 : zo_ol 4 x y u P h) : (zr_JN o x y u P h) := by
  have ho : o = 10 := by omega
  subst ho
  have hy : y ≠ 0 := by omega
  show u = zc_jn 10 x y
  rw [ze_tmod64 (show u = zq_fun 1 4 x y from k1)]
  unfold zc_jn
  simp [hy]
theorem zr_o10p_ok {w : zq_Wd} (x_OL : zj_is w 86 (fun q => zo_ol (q 0) (q 1) (q 2) (q 3))) (x_JN : zj_is w 267 (fun q => zr_JN (q 0) (q 1) (q 2) (q 3))) : zq_okG1 w zr_o10p := by
  refine ⟨rfl, rfl, zu_fac ⟨rfl, by decide⟩ zq_fan, ?_⟩
  intro r P h H hM
  have q0 : zq_ev r (2147483648, [(1, 1)]) = r 1 + 2147483648 := zu_e2 _ _ _
  have q1 : zq_ev r (2147483647, [(1, -1)]) = -r 1 + 2147483647 := zu_e5 _ _ _
  have q2 : zq_ev r (2147483648, [(2, 1)]) = r 2 + 2147483648 := zu_e2 _ _ _
  have q3 : zq_ev r (2147483647, [(2, -1)]) = -r 2 + 2147483647 := zu_e5 _ _ _
  have q4 : zq_ev r (-10, [(0, 1)]) = r 0 - 10 := zu_e3 _ _ _
  have q5 : zq_ev r (10, [(0, -1)]) = -r 0 + 10 := zu_e5 _ _ _
  have q6 : zq_ev r (-1, [(2, 1)]) = r 2 - 1 := zu_e3 _ _ _
  have q7 : zq_ev r (4, []) = 4 := zu_e0 _ _
  have q8 : zq_ev r (0, [(1, 1)]) = r 1 := zu_e1 _ _
  have q9 : zq_ev r (0, [(2, 1)]) = r 2 := zu_e1 _ _
  have q10 : zq_ev r (0, [(3, 1)]) = r 3 := zu_e1 _ _
  obtain ⟨hT, hC, hF, hS, -, hK⟩ := hM
  have c := hC.1
  have a1 := zq_all_1 c
  rw [q0] at a1
  have c := zq_all_t c
  have a2 := zq_all_1 c
  rw [q1] at a2
  have c := zq_all_t c
  have a3 := zq_all_1 c
  rw [q2] at a3
  have c := zq_all_t c
  have a4 := zq_all_1 c
  rw [q3] at a4
  have c := zq_all_t c
  have a5 := zq_all_1 c
  rw [q4] at a5
  have c := zq_all_t c
  have a6 := zq_all_1 c
  rw [q5] at a6
  have c := zq_all_t c
  have a7 := zq_all_1 c
  rw [q6] at a7
  have k1 := zj_use x_OL (hK)
  have k1 : zo_ol (zq_ev r (4, [])) (zq_ev r (0, [(1, 1)])) (zq_ev r (0, [(2, 1)])) (zq_ev r (0, [(3, 1)])) P h := k1
  simp only [q10, q7, q8, q9] at k1
  obtain t1 := zr_o10p_l (P := P) (h := h) (o := r 0) (x := r 1) (y := r 2) (u := r 3) a1 a2 a3 a4 a5 a6 a7 k1
  obtain ⟨rq, hr⟩ : ∃ rq : Nat → Int, (∀ i, i < 4 → rq i = r i) := ⟨r, fun i hi => rfl⟩
  have v0 : rq 0 = r 0 := hr 0 (by decide)
  have v1 : rq 1 = r 1 := hr 1 (by decide)
  have v2 : rq 2 = r 2 := hr 2 (by decide)
  have v3 : rq 3 = r 3 := hr 3 (by decide)
  have g0 : zq_ev rq (0, [(0, 1)]) = r 0 := zu_f1 v0
  have g1 : zq_ev rq (0, [(1, 1)]) = r 1 := zu_f1 v1
  have g2 : zq_ev rq (0, [(2, 1)]) = r 2 := zu_f1 v2
  have g3 : zq_ev rq (0, [(3, 1)]) = r 3 := zu_f1 v3
  exact ⟨_, List.mem_cons_self .., rq, hr, zq_MeS_mk rfl hT (zq_all_nil) zq_fan (zq_fan) rfl (zu_fac ((x_JN _ _ _).mpr (by show zr_JN (zq_ev rq (0, [(0, 1)])) (zq_ev rq (0, [(1, 1)])) (zq_ev rq (0, [(2, 1)])) (zq_ev rq (0, [(3, 1)])) P h; simp only [g0, g1, g2, g3]; exact t1)) zq_fan)⟩
noncomputable def zr_o10m : zq_S × List zq_S := (([], [], [(2147483648, [(1, 1)]), (2147483647, [(1, -1)]), (2147483648, [(2, 1)]), (2147483647, [(2, -1)]), (-10, [(0, 1)]), (10, [(0, -1)]), (-1, [(2, -1)])], [], [], [], [(86, [(4, []), (0, [(1, 1)]), (0, [(2, 1)]), (0, [(3, 1)])])], 4), [([], [], [], [], [], [], [(267, [(0, [(0, 1)]), (0, [(1, 1)]), (0, [(2, 1)]), (0, [(3, 1)])])], 4)])
theorem zr_o10m_l {P : zq_Ty} {h : zq_H} {o x y u : Int} (a1 : 0 ≤ x + 2147483648) (a2 : 0 ≤ -x + 2147483647) (a3 : 0 ≤ y + 2147483648) (a4 : 0 ≤ -y + 2147483647) (a5 : 0 ≤ o - 10) (a6 : 0 ≤ -o + 10) (a7 : 0 ≤ -y - 1) (k1 : zo_ol 4 x y u P h) : (zr_JN o x y u P h) := by
  have ho : o = 10 := by omega
  subst ho
  have hy : y ≠ 0 := by omega
  show u = zc_jn 10 x y
  rw [ze_tmod64 (show u = zq_fun 1 4 x y from k1)]
  unfold zc_jn
  simp [hy]
theorem zr_o10m_ok {w : zq_Wd} (x_OL : zj_is w 86 (fun q => zo_ol (q 0) (q 1) (q 2) (q 3))) (x_JN : zj_is w 267 (fun q => zr_JN (q 0) (q 1) (q 2) (q 3))) : zq_okG1 w zr_o10m := by
  refine ⟨rfl, rfl, zu_fac ⟨rfl, by decide⟩ zq_fan, ?_⟩
  intro r P h H hM
  have q0 : zq_ev r (2147483648, [(1, 1)]) = r 1 + 2147483648 := zu_e2 _ _ _
  have q1 : zq_ev r (2147483647, [(1, -1)]) = -r 1 + 2147483647 := zu_e5 _ _ _
  have q2 : zq_ev r (2147483648, [(2, 1)]) = r 2 + 2147483648 := zu_e2 _ _ _
  have q3 : zq_ev r (2147483647, [(2, -1)]) = -r 2 + 2147483647 := zu_e5 _ _ _
  have q4 : zq_ev r (-10, [(0, 1)]) = r 0 - 10 := zu_e3 _ _ _
  have q5 : zq_ev r (10, [(0, -1)]) = -r 0 + 10 := zu_e5 _ _ _
  have q6 : zq_ev r (-1, [(2, -1)]) = -r 2 - 1 := zu_e6 _ _ _
  have q7 : zq_ev r (4, []) = 4 := zu_e0 _ _
  have q8 : zq_ev r (0, [(1, 1)]) = r 1 := zu_e1 _ _
  have q9 : zq_ev r (0, [(2, 1)]) = r 2 := zu_e1 _ _
  have q10 : zq_ev r (0, [(3, 1)]) = r 3 := zu_e1 _ _
  obtain ⟨hT, hC, hF, hS, -, hK⟩ := hM
  have c := hC.1
  have a1 := zq_all_1 c
  rw [q0] at a1
  have c := zq_all_t c
  have a2 := zq_all_1 c
  rw [q1] at a2
  have c := zq_all_t c
  have a3 := zq_all_1 c
  rw [q2] at a3
  have c := zq_all_t c
  have a4 := zq_all_1 c
  rw [q3] at a4
  have c := zq_all_t c
  have a5 := zq_all_1 c
  rw [q4] at a5
  have c := zq_all_t c
  have a6 := zq_all_1 c
  rw [q5] at a6
  have c := zq_all_t c
  have a7 := zq_all_1 c
  rw [q6] at a7
  have k1 := zj_use x_OL (hK)
  have k1 : zo_ol (zq_ev r (4, [])) (zq_ev r (0, [(1, 1)])) (zq_ev r (0, [(2, 1)])) (zq_ev r (0, [(3, 1)])) P h := k1
  simp only [q10, q7, q8, q9] at k1
  obtain t1 := zr_o10m_l (P := P) (h := h) (o := r 0) (x := r 1) (y := r 2) (u := r 3) a1 a2 a3 a4 a5 a6 a7 k1
  obtain ⟨rq, hr⟩ : ∃ rq : Nat → Int, (∀ i, i < 4 → rq i = r i) := ⟨r, fun i hi => rfl⟩
  have v0 : rq 0 = r 0 := hr 0 (by decide)
  have v1 : rq 1 = r 1 := hr 1 (by decide)
  have v2 : rq 2 = r 2 := hr 2 (by decide)
  have v3 : rq 3 = r 3 := hr 3 (by decide)
  have g0 : zq_ev rq (0, [(0, 1)]) = r 0 := zu_f1 v0
  have g1 : zq_ev rq (0, [(1, 1)]) = r 1 := zu_f1 v1
  have g2 : zq_ev rq (0, [(2, 1)]) = r 2 := zu_f1 v2
  have g3 : zq_ev rq (0, [(3, 1)]) = r 3 := zu_f1 v3
  exact ⟨_, List.mem_cons_self .., rq, hr, zq_MeS_mk rfl hT (zq_all_nil) zq_fan (zq_fan) rfl (zu_fac ((x_JN _ _ _).mpr (by show zr_JN (zq_ev rq (0, [(0, 1)])) (zq_ev rq (0, [(1, 1)])) (zq_ev rq (0, [(2, 1)])) (zq_ev rq (0, [(3, 1)])) P h; simp only [g0, g1, g2, g3]; exact t1)) zq_fan)⟩
noncomputable def zr_o11y : zq_S × List zq_S := (([], [], [(-11, [(0, 1)]), (11, [(0, -1)]), (-1, [(1, -1), (2, 1)])], [], [], [], [], 3), [([], [], [], [], [], [], [(267, [(0, [(0, 1)]), (0, [(1, 1)]), (0, [(2, 1)]), (1, [])])], 3)])
theorem zr_o11y_l {P : zq_Ty} {h : zq_H} {o x y : Int} (a1 : 0 ≤ o - 11) (a2 : 0 ≤ -o + 11) (a3 : 0 ≤ -x + y - 1) : (zr_JN o x y 1 P h) := by
  have ho : o = 11 := by omega
  subst ho
  show (1 : Int) = zc_jn 11 x y
  unfold zc_jn
  have hx : x < y := by omega
  simp [hx, ze_bi]
theorem zr_o11y_ok {w : zq_Wd} (x_JN : zj_is w 267 (fun q => zr_JN (q 0) (q 1) (q 2) (q 3))) : zq_okG1 w zr_o11y := by
  refine ⟨rfl, rfl, zu_fac ⟨rfl, by decide⟩ zq_fan, ?_⟩
  intro r P h H hM
  have q0 : zq_ev r (-11, [(0, 1)]) = r 0 - 11 := zu_e3 _ _ _
  have q1 : zq_ev r (11, [(0, -1)]) = -r 0 + 11 := zu_e5 _ _ _
  have q2 : zq_ev r (-1, [(1, -1), (2, 1)]) = -r 1 + r 2 - 1 := by simp only [zq_ev, zq_ts] <;> omega
  obtain ⟨hT, hC, hF, hS, -, hK⟩ := hM
  have c := hC.1
  have a1 := zq_all_1 c
  rw [q0] at a1
  have c := zq_all_t c
  have a2 := zq_all_1 c
  rw [q1] at a2
  have c := zq_all_t c
  have a3 := zq_all_1 c
  rw [q2] at a3
  obtain t1 := zr_o11y_l (P := P) (h := h) (o := r 0) (x := r 1) (y := r 2) a1 a2 a3
  obtain ⟨rq, hr⟩ : ∃ rq : Nat → Int, (∀ i, i < 3 → rq i = r i) := ⟨r, fun i hi => rfl⟩
  have v0 : rq 0 = r 0 := hr 0 (by decide)
  have v1 : rq 1 = r 1 := hr 1 (by decide)
  have v2 : rq 2 = r 2 := hr 2 (by decide)
  have g0 : zq_ev rq (0, [(0, 1)]) = r 0 := zu_f1 v0
  have g1 : zq_ev rq (0, [(1, 1)]) = r 1 := zu_f1 v1
  have g2 : zq_ev rq (0, [(2, 1)]) = r 2 := zu_f1 v2
  have g3 : zq_ev rq (1, []) = 1 := zu_e0 _ _
  exact ⟨_, List.mem_cons_self .., rq, hr, zq_MeS_mk rfl hT (zq_all_nil) zq_fan (zq_fan) rfl (zu_fac ((x_JN _ _ _).mpr (by show zr_JN (zq_ev rq (0, [(0, 1)])) (zq_ev rq (0, [(1, 1)])) (zq_ev rq (0, [(2, 1)])) (zq_ev rq (1, [])) P h; simp only [g0, g1, g2, g3]; exact t1)) zq_fan)⟩
noncomputable def zr_o11n : zq_S × List zq_S := (([], [], [(-11, [(0, 1)]), (11, [(0, -1)]), (0, [(1, 1), (2, -1)])], [], [], [], [], 3), [([], [], [], [], [], [], [(267, [(0, [(0, 1)]), (0, [(1, 1)]), (0, [(2, 1)]), (0, [])])], 3)])
theorem zr_o11n_l {P : zq_Ty} {h : zq_H} {o x y : Int} (a1 : 0 ≤ o - 11) (a2 : 0 ≤ -o + 11) (a3 : 0 ≤ x - y) : (zr_JN o x y 0 P h) := by
  have ho : o = 11 := by omega
  subst ho
  show (0 : Int) = zc_jn 11 x y
  unfold zc_jn
  have hx : ¬ x < y := by omega
  simp [hx, ze_bi]
theorem zr_o11n_ok {w : zq_Wd} (x_JN : zj_is w 267 (fun q => zr_JN (q 0) (q 1) (q 2) (q 3))) : zq_okG1 w zr_o11n := by
  refine ⟨rfl, rfl, zu_fac ⟨rfl, by decide⟩ zq_fan, ?_⟩
  intro r P h H hM
  have q0 : zq_ev r (-11, [(0, 1)]) = r 0 - 11 := zu_e3 _ _ _
  have q1 : zq_ev r (11, [(0, -1)]) = -r 0 + 11 := zu_e5 _ _ _
  have q2 : zq_ev r (0, [(1, 1), (2, -1)]) = r 1 - r 2 := by simp only [zq_ev, zq_ts] <;> omega
  obtain ⟨hT, hC, hF, hS, -, hK⟩ := hM
  have c := hC.1
  have a1 := zq_all_1 c
  rw [q0] at a1
  have c := zq_all_t c
  have a2 := zq_all_1 c
  rw [q1] at a2
  have c := zq_all_t c
  have a3 := zq_all_1 c
  rw [q2] at a3
  obtain t1 := zr_o11n_l (P := P) (h := h) (o := r 0) (x := r 1) (y := r 2) a1 a2 a3
  obtain ⟨rq, hr⟩ : ∃ rq : Nat → Int, (∀ i, i < 3 → rq i = r i) := ⟨r, fun i hi => rfl⟩
  have v0 : rq 0 = r 0 := hr 0 (by decide)
  have v1 : rq 1 = r 1 := hr 1 (by decide)
  have v2 : rq 2 = r 2 := hr 2 (by decide)
  have g0 : zq_ev rq (0, [(0, 1)]) = r 0 := zu_f1 v0
  have g1 : zq_ev rq (0, [(1, 1)]) = r 1 := zu_f1 v1
  have g2 : zq_ev rq (0, [(2, 1)]) = r 2 := zu_f1 v2
  have g3 : zq_ev rq (0, []) = 0 := zu_e0 _ _
  exact ⟨_, List.mem_cons_self .., rq, hr, zq_MeS_mk rfl hT (zq_all_nil) zq_fan (zq_fan) rfl (zu_fac ((x_JN _ _ _).mpr (by show zr_JN (zq_ev rq (0, [(0, 1)])) (zq_ev rq (0, [(1, 1)])) (zq_ev rq (0, [(2, 1)])) (zq_ev rq (0, [])) P h; simp only [g0, g1, g2, g3]; exact t1)) zq_fan)⟩
noncomputable def zr_o12y : zq_S × List zq_S := (([], [], [(-12, [(0, 1)]), (12, [(0, -1)]), (-1, [(1, 1), (2, -1)])], [], [], [], [], 3), [([], [], [], [], [], [], [(267, [(0, [(0, 1)]), (0, [(1, 1)]), (0, [(2, 1)]), (1, [])])], 3)])
theorem zr_o12y_l {P : zq_Ty} {h : zq_H} {o x y : Int} (a1 : 0 ≤ o - 12) (a2 : 0 ≤ -o + 12) (a3 : 0 ≤ x - y - 1) : (zr_JN o x y 1 P h) := by
  have ho : o = 12 := by omega
  subst ho
  show (1 : Int) = zc_jn 12 x y
  unfold zc_jn
  have hx : y < x := by omega
  simp [hx, ze_bi]
theorem zr_o12y_ok {w : zq_Wd} (x_JN : zj_is w 267 (fun q => zr_JN (q 0) (q 1) (q 2) (q 3))) : zq_okG1 w zr_o12y := by
  refine ⟨rfl, rfl, zu_fac ⟨rfl, by decide⟩ zq_fan, ?_⟩
  intro r P h H hM
  have q0 : zq_ev r (-12, [(0, 1)]) = r 0 - 12 := zu_e3 _ _ _
  have q1 : zq_ev r (12, [(0, -1)]) = -r 0 + 12 := zu_e5 _ _ _
  have q2 : zq_ev r (-1, [(1, 1), (2, -1)]) = r 1 - r 2 - 1 := by simp only [zq_ev, zq_ts] <;> omega
  obtain ⟨hT, hC, hF, hS, -, hK⟩ := hM
  have c := hC.1
  have a1 := zq_all_1 c
  rw [q0] at a1
  have c := zq_all_t c
  have a2 := zq_all_1 c
  rw [q1] at a2
  have c := zq_all_t c
  have a3 := zq_all_1 c
  rw [q2] at a3
  obtain t1 := zr_o12y_l (P := P) (h := h) (o := r 0) (x := r 1) (y := r 2) a1 a2 a3
  obtain ⟨rq, hr⟩ : ∃ rq : Nat → Int, (∀ i, i < 3 → rq i = r i) := ⟨r, fun i hi => rfl⟩
  have v0 : rq 0 = r 0 := hr 0 (by decide)
  have v1 : rq 1 = r 1 := hr 1 (by decide)
  have v2 : rq 2 = r 2 := hr 2 (by decide)
  have g0 : zq_ev rq (0, [(0, 1)]) = r 0 := zu_f1 v0
  have g1 : zq_ev rq (0, [(1, 1)]) = r 1 := zu_f1 v1
  have g2 : zq_ev rq (0, [(2, 1)]) = r 2 := zu_f1 v2
  have g3 : zq_ev rq (1, []) = 1 := zu_e0 _ _
  exact ⟨_, List.mem_cons_self .., rq, hr, zq_MeS_mk rfl hT (zq_all_nil) zq_fan (zq_fan) rfl (zu_fac ((x_JN _ _ _).mpr (by show zr_JN (zq_ev rq (0, [(0, 1)])) (zq_ev rq (0, [(1, 1)])) (zq_ev rq (0, [(2, 1)])) (zq_ev rq (1, [])) P h; simp only [g0, g1, g2, g3]; exact t1)) zq_fan)⟩
noncomputable def zr_o12n : zq_S × List zq_S := (([], [], [(-12, [(0, 1)]), (12, [(0, -1)]), (0, [(1, -1), (2, 1)])], [], [], [], [], 3), [([], [], [], [], [], [], [(267, [(0, [(0, 1)]), (0, [(1, 1)]), (0, [(2, 1)]), (0, [])])], 3)])
theorem zr_o12n_l {P : zq_Ty} {h : zq_H} {o x y : Int} (a1 : 0 ≤ o - 12) (a2 : 0 ≤ -o + 12) (a3 : 0 ≤ -x + y) : (zr_JN o x y 0 P h) := by
  have ho : o = 12 := by omega
  subst ho
  show (0 : Int) = zc_jn 12 x y
  unfold zc_jn
  have hx : ¬ y < x := by omega
  simp [hx, ze_bi]
theorem zr_o12n_ok {w : zq_Wd} (x_JN : zj_is w 267 (fun q => zr_JN (q 0) (q 1) (q 2) (q 3))) : zq_okG1 w zr_o12n := by
  refine ⟨rfl, rfl, zu_fac ⟨rfl, by decide⟩ zq_fan, ?_⟩
  intro r P h H hM
  have q0 : zq_ev r (-12, [(0, 1)]) = r 0 - 12 := zu_e3 _ _ _
  have q1 : zq_ev r (12, [(0, -1)]) = -r 0 + 12 := zu_e5 _ _ _
  have q2 : zq_ev r (0, [(1, -1), (2, 1)]) = -r 1 + r 2 := by simp only [zq_ev, zq_ts] <;> omega
  obtain ⟨hT, hC, hF, hS, -, hK⟩ := hM
  have c := hC.1
  have a1 := zq_all_1 c
  rw [q0] at a1
  have c := zq_all_t c
  have a2 := zq_all_1 c
  rw [q1] at a2
  have c := zq_all_t c
  have a3 := zq_all_1 c
  rw [q2] at a3
  obtain t1 := zr_o12n_l (P := P) (h := h) (o := r 0) (x := r 1) (y := r 2) a1 a2 a3
  obtain ⟨rq, hr⟩ : ∃ rq : Nat → Int, (∀ i, i < 3 → rq i = r i) := ⟨r, fun i hi => rfl⟩
  have v0 : rq 0 = r 0 := hr 0 (by decide)
  have v1 : rq 1 = r 1 := hr 1 (by decide)
  have v2 : rq 2 = r 2 := hr 2 (by decide)
  have g0 : zq_ev rq (0, [(0, 1)]) = r 0 := zu_f1 v0
  have g1 : zq_ev rq (0, [(1, 1)]) = r 1 := zu_f1 v1
  have g2 : zq_ev rq (0, [(2, 1)]) = r 2 := zu_f1 v2
  have g3 : zq_ev rq (0, []) = 0 := zu_e0 _ _
  exact ⟨_, List.mem_cons_self .., rq, hr, zq_MeS_mk rfl hT (zq_all_nil) zq_fan (zq_fan) rfl (zu_fac ((x_JN _ _ _).mpr (by show zr_JN (zq_ev rq (0, [(0, 1)])) (zq_ev rq (0, [(1, 1)])) (zq_ev rq (0, [(2, 1)])) (zq_ev rq (0, [])) P h; simp only [g0, g1, g2, g3]; exact t1)) zq_fan)⟩
noncomputable def zr_o13y : zq_S × List zq_S := (([], [], [(-13, [(0, 1)]), (0, [(1, 1), (2, -1)]), (0, [(1, -1), (2, 1)])], [], [], [], [], 3), [([], [], [], [], [], [], [(267, [(0, [(0, 1)]), (0, [(1, 1)]), (0, [(2, 1)]), (1, [])])], 3)])
theorem zr_o13y_l {P : zq_Ty} {h : zq_H} {o x y : Int} (a1 : 0 ≤ o - 13) (a2 : 0 ≤ x - y) (a3 : 0 ≤ -x + y) : (zr_JN o x y 1 P h) := by
  have h6 : ¬ o = 6 := by omega
  have h7 : ¬ o = 7 := by omega
  have h8 : ¬ o = 8 := by omega
  have h9 : ¬ o = 9 := by omega
  have h10 : ¬ o = 10 := by omega
  have h11 : ¬ o = 11 := by omega
  have h12 : ¬ o = 12 := by omega
  show (1 : Int) = zc_jn o x y
  unfold zc_jn
  have hx : x = y := by omega
  simp [h6, h7, h8, h9, h10, h11, h12, hx, ze_bi]
theorem zr_o13y_ok {w : zq_Wd} (x_JN : zj_is w 267 (fun q => zr_JN (q 0) (q 1) (q 2) (q 3))) : zq_okG1 w zr_o13y := by
  refine ⟨rfl, rfl, zu_fac ⟨rfl, by decide⟩ zq_fan, ?_⟩
  intro r P h H hM
  have q0 : zq_ev r (-13, [(0, 1)]) = r 0 - 13 := zu_e3 _ _ _
  have q1 : zq_ev r (0, [(1, 1), (2, -1)]) = r 1 - r 2 := by simp only [zq_ev, zq_ts] <;> omega
  have q2 : zq_ev r (0, [(1, -1), (2, 1)]) = -r 1 + r 2 := by simp only [zq_ev, zq_ts] <;> omega
  obtain ⟨hT, hC, hF, hS, -, hK⟩ := hM
  have c := hC.1
  have a1 := zq_all_1 c
  rw [q0] at a1
  have c := zq_all_t c
  have a2 := zq_all_1 c
  rw [q1] at a2
  have c := zq_all_t c
  have a3 := zq_all_1 c
  rw [q2] at a3
  obtain t1 := zr_o13y_l (P := P) (h := h) (o := r 0) (x := r 1) (y := r 2) a1 a2 a3
  obtain ⟨rq, hr⟩ : ∃ rq : Nat → Int, (∀ i, i < 3 → rq i = r i) := ⟨r, fun i hi => rfl⟩
  have v0 : rq 0 = r 0 := hr 0 (by decide)
  have v1 : rq 1 = r 1 := hr 1 (by decide)
  have v2 : rq 2 = r 2 := hr 2 (by decide)
  have g0 : zq_ev rq (0, [(0, 1)]) = r 0 := zu_f1 v0
  have g1 : zq_ev rq (0, [(1, 1)]) = r 1 := zu_f1 v1
  have g2 : zq_ev rq (0, [(2, 1)]) = r 2 := zu_f1 v2
  have g3 : zq_ev rq (1, []) = 1 := zu_e0 _ _
  exact ⟨_, List.mem_cons_self .., rq, hr, zq_MeS_mk rfl hT (zq_all_nil) zq_fan (zq_fan) rfl (zu_fac ((x_JN _ _ _).mpr (by show zr_JN (zq_ev rq (0, [(0, 1)])) (zq_ev rq (0, [(1, 1)])) (zq_ev rq (0, [(2, 1)])) (zq_ev rq (1, [])) P h; simp only [g0, g1, g2, g3]; exact t1)) zq_fan)⟩
noncomputable def zr_o13l : zq_S × List zq_S := (([], [], [(-13, [(0, 1)]), (-1, [(1, -1), (2, 1)])], [], [], [], [], 3), [([], [], [], [], [], [], [(267, [(0, [(0, 1)]), (0, [(1, 1)]), (0, [(2, 1)]), (0, [])])], 3)])
theorem zr_o13l_l {P : zq_Ty} {h : zq_H} {o x y : Int} (a1 : 0 ≤ o - 13) (a2 : 0 ≤ -x + y - 1) : (zr_JN o x y 0 P h) := by
  have h6 : ¬ o = 6 := by omega
  have h7 : ¬ o = 7 := by omega
  have h8 : ¬ o = 8 := by omega
  have h9 : ¬ o = 9 := by omega
  have h10 : ¬ o = 10 := by omega
  have h11 : ¬ o = 11 := by omega
  have h12 : ¬ o = 12 := by omega
  show (0 : Int) = zc_jn o x y
  unfold zc_jn
  have hx : ¬ x = y := by omega
  simp [h6, h7, h8, h9, h10, h11, h12, hx, ze_bi]
theorem zr_o13l_ok {w : zq_Wd} (x_JN : zj_is w 267 (fun q => zr_JN (q 0) (q 1) (q 2) (q 3))) : zq_okG1 w zr_o13l := by
  refine ⟨rfl, rfl, zu_fac ⟨rfl, by decide⟩ zq_fan, ?_⟩
  intro r P h H hM
  have q0 : zq_ev r (-13, [(0, 1)]) = r 0 - 13 := zu_e3 _ _ _
  have q1 : zq_ev r (-1, [(1, -1), (2, 1)]) = -r 1 + r 2 - 1 := by simp only [zq_ev, zq_ts] <;> omega
  obtain ⟨hT, hC, hF, hS, -, hK⟩ := hM
  have c := hC.1
  have a1 := zq_all_1 c
  rw [q0] at a1
  have c := zq_all_t c
  have a2 := zq_all_1 c
  rw [q1] at a2
  obtain t1 := zr_o13l_l (P := P) (h := h) (o := r 0) (x := r 1) (y := r 2) a1 a2
  obtain ⟨rq, hr⟩ : ∃ rq : Nat → Int, (∀ i, i < 3 → rq i = r i) := ⟨r, fun i hi => rfl⟩
  have v0 : rq 0 = r 0 := hr 0 (by decide)
  have v1 : rq 1 = r 1 := hr 1 (by decide)
  have v2 : rq 2 = r 2 := hr 2 (by decide)
  have g0 : zq_ev rq (0, [(0, 1)]) = r 0 := zu_f1 v0
  have g1 : zq_ev rq (0, [(1, 1)]) = r 1 := zu_f1 v1
  have g2 : zq_ev rq (0, [(2, 1)]) = r 2 := zu_f1 v2
  have g3 : zq_ev rq (0, []) = 0 := zu_e0 _ _
  exact ⟨_, List.mem_cons_self .., rq, hr, zq_MeS_mk rfl hT (zq_all_nil) zq_fan (zq_fan) rfl (zu_fac ((x_JN _ _ _).mpr (by show zr_JN (zq_ev rq (0, [(0, 1)])) (zq_ev rq (0, [(1, 1)])) (zq_ev rq (0, [(2, 1)])) (zq_ev rq (0, [])) P h; simp only [g0, g1, g2, g3]; exact t1)) zq_fan)⟩
noncomputable def zr_o13g : zq_S × List zq_S := (([], [], [(-13, [(0, 1)]), (-1, [(1, 1), (2, -1)])], [], [], [], [], 3), [([], [], [], [], [], [], [(267, [(0, [(0, 1)]), (0, [(1, 1)]), (0, [(2, 1)]), (0, [])])], 3)])
theorem zr_o13g_l {P : zq_Ty} {h : zq_H} {o x y : Int} (a1 : 0 ≤ o - 13) (a2 : 0 ≤ x - y - 1) : (zr_JN o x y 0 P h) := by
  have h6 : ¬ o = 6 := by omega
  have h7 : ¬ o = 7 := by omega
  have h8 : ¬ o = 8 := by omega
  have h9 : ¬ o = 9 := by omega
  have h10 : ¬ o = 10 := by omega
  have h11 : ¬ o = 11 := by omega
  have h12 : ¬ o = 12 := by omega
  show (0 : Int) = zc_jn o x y
  unfold zc_jn
  have hx : ¬ x = y := by omega
  simp [h6, h7, h8, h9, h10, h11, h12, hx, ze_bi]
theorem zr_o13g_ok {w : zq_Wd} (x_JN : zj_is w 267 (fun q => zr_JN (q 0) (q 1) (q 2) (q 3))) : zq_okG1 w zr_o13g := by
  refine ⟨rfl, rfl, zu_fac ⟨rfl, by decide⟩ zq_fan, ?_⟩
  intro r P h H hM
  have q0 : zq_ev r (-13, [(0, 1)]) = r 0 - 13 := zu_e3 _ _ _
  have q1 : zq_ev r (-1, [(1, 1), (2, -1)]) = r 1 - r 2 - 1 := by simp only [zq_ev, zq_ts] <;> omega
  obtain ⟨hT, hC, hF, hS, -, hK⟩ := hM
  have c := hC.1
  have a1 := zq_all_1 c
  rw [q0] at a1
  have c := zq_all_t c
  have a2 := zq_all_1 c
  rw [q1] at a2
  obtain t1 := zr_o13g_l (P := P) (h := h) (o := r 0) (x := r 1) (y := r 2) a1 a2
  obtain ⟨rq, hr⟩ : ∃ rq : Nat → Int, (∀ i, i < 3 → rq i = r i) := ⟨r, fun i hi => rfl⟩
  have v0 : rq 0 = r 0 := hr 0 (by decide)
  have v1 : rq 1 = r 1 := hr 1 (by decide)
  have v2 : rq 2 = r 2 := hr 2 (by decide)
  have g0 : zq_ev rq (0, [(0, 1)]) = r 0 := zu_f1 v0
  have g1 : zq_ev rq (0, [(1, 1)]) = r 1 := zu_f1 v1
  have g2 : zq_ev rq (0, [(2, 1)]) = r 2 := zu_f1 v2
  have g3 : zq_ev rq (0, []) = 0 := zu_e0 _ _
  exact ⟨_, List.mem_cons_self .., rq, hr, zq_MeS_mk rfl hT (zq_all_nil) zq_fan (zq_fan) rfl (zu_fac ((x_JN _ _ _).mpr (by show zr_JN (zq_ev rq (0, [(0, 1)])) (zq_ev rq (0, [(1, 1)])) (zq_ev rq (0, [(2, 1)])) (zq_ev rq (0, [])) P h; simp only [g0, g1, g2, g3]; exact t1)) zq_fan)⟩
noncomputable def zh_i1 : zq_S × List zq_S := (([], [], [(-1, [(6, -1)])], [], [], [], [(256, [(0, [(0, 1)]), (0, [(1, 1)]), (0, [(2, 1)]), (0, [(4, 1)]), (0, [(5, 1)]), (0, [(6, 1)]), (0, [(7, 1)]), (0, [(8, 1)])])], 9), [([], [], [], [], [], [], [(272, [(0, [(0, 1)]), (0, [(1, 1)]), (0, [(2, 1)]), (0, [(3, 1)]), (0, [(7, 1)]), (0, [(8, 1)]), (1, [])])], 9)])
theorem zh_i1_l {P : zq_Ty} {h : zq_H} {o g n W Y z d e p : Int} (a1 : 0 ≤ -d - 1) (k1 : zd_CI o g n Y z d e p P h) : (zr_IS o g n W e p 1 P h) := by
  rcases k1 with ⟨-, h1, h2⟩ | ⟨h1, -⟩
  · exact Or.inl ⟨rfl, Or.inl ⟨h1, h2⟩⟩
  · omega
theorem zh_i1_ok {w : zq_Wd} (x_CI : zj_is w 256 (fun q => zd_CI (q 0) (q 1) (q 2) (q 3) (q 4) (q 5) (q 6) (q 7))) (x_IS : zj_is w 272 (fun q => zr_IS (q 0) (q 1) (q 2) (q 3) (q 4) (q 5) (q 6))) : zq_okG1 w zh_i1 := by
  refine ⟨rfl, rfl, zu_fac ⟨rfl, by decide⟩ zq_fan, ?_⟩
  intro r P h H hM
  have q0 : zq_ev r (-1, [(6, -1)]) = -r 6 - 1 := zu_e6 _ _ _
  have q1 : zq_ev r (0, [(0, 1)]) = r 0 := zu_e1 _ _
  have q2 : zq_ev r (0, [(1, 1)]) = r 1 := zu_e1 _ _
  have q3 : zq_ev r (0, [(2, 1)]) = r 2 := zu_e1 _ _
  have q4 : zq_ev r (0, [(4, 1)]) = r 4 := zu_e1 _ _
  have q5 : zq_ev r (0, [(5, 1)]) = r 5 := zu_e1 _ _
  have q6 : zq_ev r (0, [(6, 1)]) = r 6 := zu_e1 _ _
  have q7 : zq_ev r (0, [(7, 1)]) = r 7 := zu_e1 _ _
  have q8 : zq_ev r (0, [(8, 1)]) = r 8 := zu_e1 _ _
  obtain ⟨hT, hC, hF, hS, -, hK⟩ := hM
  have c := hC.1
  have a1 := zq_all_1 c
  rw [q0] at a1
  have k1 := zj_use x_CI (hK)
  have k1 : zd_CI (zq_ev r (0, [(0, 1)])) (zq_ev r (0, [(1, 1)])) (zq_ev r (0, [(2, 1)])) (zq_ev r (0, [(4, 1)])) (zq_ev r (0, [(5, 1)])) (zq_ev r (0, [(6, 1)])) (zq_ev r (0, [(7, 1)])) (zq_ev r (0, [(8, 1)])) P h := k1
  simp only [q1, q2, q3, q4, q5, q6, q7, q8] at k1
  obtain t1 := zh_i1_l (P := P) (h := h) (o := r 0) (g := r 1) (n := r 2) (W := r 3) (Y := r 4) (z := r 5) (d := r 6) (e := r 7) (p := r 8) a1 k1
  obtain ⟨rq, hr⟩ : ∃ rq : Nat → Int, (∀ i, i < 9 → rq i = r i) := ⟨r, fun i hi => rfl⟩
  have v0 : rq 0 = r 0 := hr 0 (by decide)
  have v1 : rq 1 = r 1 := hr 1 (by decide)
  have v2 : rq 2 = r 2 := hr 2 (by decide)
  have v3 : rq 3 = r 3 := hr 3 (by decide)
  have v7 : rq 7 = r 7 := hr 7 (by decide)
  have v8 : rq 8 = r 8 := hr 8 (by decide)
  have g0 : zq_ev rq (0, [(0, 1)]) = r 0 := zu_f1 v0
  have g1 : zq_ev rq (0, [(1, 1)]) = r 1 := zu_f1 v1
  have g2 : zq_ev rq (0, [(2, 1)]) = r 2 := zu_f1 v2
  have g3 : zq_ev rq (0, [(3, 1)]) = r 3 := zu_f1 v3
  have g4 : zq_ev rq (0, [(7, 1)]) = r 7 := zu_f1 v7
  have g5 : zq_ev rq (0, [(8, 1)]) = r 8 := zu_f1 v8
  have g6 : zq_ev rq (1, []) = 1 := zu_e0 _ _
  exact ⟨_, List.mem_cons_self .., rq, hr, zq_MeS_mk rfl hT (zq_all_nil) zq_fan (zq_fan) rfl (zu_fac ((x_IS _ _ _).mpr (by show zr_IS (zq_ev rq (0, [(0, 1)])) (zq_ev rq (0, [(1, 1)])) (zq_ev rq (0, [(2, 1)])) (zq_ev rq (0, [(3, 1)])) (zq_ev rq (0, [(7, 1)])) (zq_ev rq (0, [(8, 1)])) (zq_ev rq (1, [])) P h; simp only [g0, g1, g2, g3, g4, g5, g6]; exact t1)) zq_fan)⟩
noncomputable def zh_iy : zq_S × List zq_S := (([], [], [(0, [(5, 1)]), (448, [(4, -1)]), (-1, [(9, 1)]), (1, [(9, -1)])], [], [], [], [(256, [(0, []), (0, [(0, 1)]), (0, [(1, 1)]), (0, [(3, 1)]), (0, [(4, 1)]), (0, [(5, 1)]), (0, [(6, 1)]), (0, [(7, 1)])]), (266, [(0, [(8, 1)]), (0, [(3, 1)]), (0, [(4, 1)]), (0, [(5, 1)]), (0, []), (0, [(9, 1)])]), (278, [(0, [(8, 1)]), (0, [(2, 1)])])], 10), [([], [], [], [], [], [], [(272, [(0, []), (0, [(0, 1)]), (0, [(1, 1)]), (0, [(2, 1)]), (0, [(6, 1)]), (0, [(7, 1)]), (1, [])])], 10)])
theorem zh_iy_l {P : zq_Ty} {h : zq_H} {g n W Y z d e p v r : Int} (a1 : 0 ≤ d) (a2 : 0 ≤ -z + 448) (a3 : 0 ≤ r - 1) (a4 : 0 ≤ -r + 1) (k1 : zd_CI 0 g n Y z d e p P h) (k2 : zr_RK v Y z d 0 r P h) (k3 : ze_AW 102 v W P h) : (zr_IS 0 g n W e p 1 P h) := by
  have hw := zr_cw0 k3
  rcases k1 with ⟨h1, -⟩ | ⟨-, h1, f, h2, h3⟩
  · omega
  obtain ⟨x, t, hx, y1, y2⟩ := zr_T_run h2 (by omega) hw k2.2
  obtain ⟨z1, z2⟩ := y2 (by decide)
  rw [z1, z2, show r = 1 by omega] at hx
  exact Or.inl ⟨rfl, Or.inr ⟨h1, f, hx, h3⟩⟩
theorem zh_iy_ok {w : zq_Wd} (x_CI : zj_is w 256 (fun q => zd_CI (q 0) (q 1) (q 2) (q 3) (q 4) (q 5) (q 6) (q 7))) (x_RK : zj_is w 266 (fun q => zr_RK (q 0) (q 1) (q 2) (q 3) (q 4) (q 5))) (x_AWc : zj_is w 278 (fun q => ze_AW 102 (q 0) (q 1))) (x_IS : zj_is w 272 (fun q => zr_IS (q 0) (q 1) (q 2) (q 3) (q 4) (q 5) (q 6))) : zq_okG1 w zh_iy := by
  refine ⟨rfl, rfl, zu_fac ⟨rfl, by decide⟩ zq_fan, ?_⟩
  intro r P h H hM
  have q0 : zq_ev r (0, [(5, 1)]) = r 5 := zu_e1 _ _
  have q1 : zq_ev r (448, [(4, -1)]) = -r 4 + 448 := zu_e5 _ _ _
  have q2 : zq_ev r (-1, [(9, 1)]) = r 9 - 1 := zu_e3 _ _ _
  have q3 : zq_ev r (1, [(9, -1)]) = -r 9 + 1 := zu_e5 _ _ _
  have q4 : zq_ev r (0, []) = 0 := zu_e0 _ _
  have q5 : zq_ev r (0, [(0, 1)]) = r 0 := zu_e1 _ _
  have q6 : zq_ev r (0, [(1, 1)]) = r 1 := zu_e1 _ _
  have q7 : zq_ev r (0, [(3, 1)]) = r 3 := zu_e1 _ _
  have q8 : zq_ev r (0, [(4, 1)]) = r 4 := zu_e1 _ _
  have q9 : zq_ev r (0, [(6, 1)]) = r 6 := zu_e1 _ _
  have q10 : zq_ev r (0, [(7, 1)]) = r 7 := zu_e1 _ _
  have q11 : zq_ev r (0, [(8, 1)]) = r 8 := zu_e1 _ _
  have q12 : zq_ev r (0, [(9, 1)]) = r 9 := zu_e1 _ _
  have q13 : zq_ev r (0, [(2, 1)]) = r 2 := zu_e1 _ _
  obtain ⟨hT, hC, hF, hS, -, hK⟩ := hM
  have c := hC.1
  have a1 := zq_all_1 c
  rw [q0] at a1
  have c := zq_all_t c
  have a2 := zq_all_1 c
  rw [q1] at a2
  have c := zq_all_t c
  have a3 := zq_all_1 c
  rw [q2] at a3
  have c := zq_all_t c
  have a4 := zq_all_1 c
  rw [q3] at a4
  have k1 := zj_use x_CI (hK)
  have k1 : zd_CI (zq_ev r (0, [])) (zq_ev r (0, [(0, 1)])) (zq_ev r (0, [(1, 1)])) (zq_ev r (0, [(3, 1)])) (zq_ev r (0, [(4, 1)])) (zq_ev r (0, [(5, 1)])) (zq_ev r (0, [(6, 1)])) (zq_ev r (0, [(7, 1)])) P h := k1
  simp only [q0, q10, q4, q5, q6, q7, q8, q9] at k1
  have k2 := zj_use x_RK (zq_okX_t (hK))
  have k2 : zr_RK (zq_ev r (0, [(8, 1)])) (zq_ev r (0, [(3, 1)])) (zq_ev r (0, [(4, 1)])) (zq_ev r (0, [(5, 1)])) (zq_ev r (0, [])) (zq_ev r (0, [(9, 1)])) P h := k2
  simp only [q0, q11, q12, q4, q7, q8] at k2
  have k3 := zj_use x_AWc (zq_okX_t (zq_okX_t (hK)))
  have k3 : ze_AW 102 (zq_ev r (0, [(8, 1)])) (zq_ev r (0, [(2, 1)])) P h := k3
  simp only [q11, q13] at k3
  obtain t1 := zh_iy_l (P := P) (h := h) (g := r 0) (n := r 1) (W := r 2) (Y := r 3) (z := r 4) (d := r 5) (e := r 6) (p := r 7) (v := r 8) (r := r 9) a1 a2 a3 a4 k1 k2 k3
  obtain ⟨rq, hr⟩ : ∃ rq : Nat → Int, (∀ i, i < 10 → rq i = r i) := ⟨r, fun i hi => rfl⟩
  have v0 : rq 0 = r 0 := hr 0 (by decide)
  have v1 : rq 1 = r 1 := hr 1 (by decide)
  have v2 : rq 2 = r 2 := hr 2 (by decide)
  have v6 : rq 6 = r 6 := hr 6 (by decide)
  have v7 : rq 7 = r 7 := hr 7 (by decide)
  have g0 : zq_ev rq (0, []) = 0 := zu_e0 _ _
  have g1 : zq_ev rq (0, [(0, 1)]) = r 0 := zu_f1 v0
  have g2 : zq_ev rq (0, [(1, 1)]) = r 1 := zu_f1 v1
  have g3 : zq_ev rq (0, [(2, 1)]) = r 2 := zu_f1 v2
  have g4 : zq_ev rq (0, [(6, 1)]) = r 6 := zu_f1 v6
  have g5 : zq_ev rq (0, [(7, 1)]) = r 7 := zu_f1 v7
  have g6 : zq_ev rq (1, []) = 1 := zu_e0 _ _
  exact ⟨_, List.mem_cons_self .., rq, hr, zq_MeS_mk rfl hT (zq_all_nil) zq_fan (zq_fan) rfl (zu_fac ((x_IS _ _ _).mpr (by show zr_IS (zq_ev rq (0, [])) (zq_ev rq (0, [(0, 1)])) (zq_ev rq (0, [(1, 1)])) (zq_ev rq (0, [(2, 1)])) (zq_ev rq (0, [(6, 1)])) (zq_ev rq (0, [(7, 1)])) (zq_ev rq (1, [])) P h; simp only [g0, g1, g2, g3, g4, g5, g6]; exact t1)) zq_fan)⟩
noncomputable def zh_i0l : zq_S × List zq_S := (([], [], [(0, [(5, 1)]), (448, [(4, -1)]), (0, [(9, -1)])], [], [], [], [(256, [(0, []), (0, [(0, 1)]), (0, [(1, 1)]), (0, [(3, 1)]), (0, [(4, 1)]), (0, [(5, 1)]), (0, [(6, 1)]), (0, [(7, 1)])]), (266, [(0, [(8, 1)]), (0, [(3, 1)]), (0, [(4, 1)]), (0, [(5, 1)]), (0, []), (0, [(9, 1)])]), (278, [(0, [(8, 1)]), (0, [(2, 1)])])], 10), [([], [], [], [], [], [], [(272, [(0, []), (0, [(0, 1)]), (0, [(1, 1)]), (0, [(2, 1)]), (0, [(6, 1)]), (0, [(7, 1)]), (0, [])])], 10)])
theorem zh_i0l_l {P : zq_Ty} {h : zq_H} {g n W Y z d e p v r : Int} (a1 : 0 ≤ d) (a2 : 0 ≤ -z + 448) (a3 : 0 ≤ -r) (k1 : zd_CI 0 g n Y z d e p P h) (k2 : zr_RK v Y z d 0 r P h) (k3 : ze_AW 102 v W P h) : (zr_IS 0 g n W e p 0 P h) := by
  have hw := zr_cw0 k3
  rcases k1 with ⟨h1, -⟩ | ⟨-, h1, f, h2, h3⟩
  · omega
  obtain ⟨x, t, hx, y1, y2⟩ := zr_T_run h2 (by omega) hw k2.2
  obtain ⟨z1, z2⟩ := y2 (by decide)
  exact Or.inr ⟨rfl, h1, x, t, f, hx, fun q => by have := q.1; omega, h3⟩
theorem zh_i0l_ok {w : zq_Wd} (x_CI : zj_is w 256 (fun q => zd_CI (q 0) (q 1) (q 2) (q 3) (q 4) (q 5) (q 6) (q 7))) (x_RK : zj_is w 266 (fun q => zr_RK (q 0) (q 1) (q 2) (q 3) (q 4) (q 5))) (x_AWc : zj_is w 278 (fun q => ze_AW 102 (q 0) (q 1))) (x_IS : zj_is w 272 (fun q => zr_IS (q 0) (q 1) (q 2) (q 3) (q 4) (q 5) (q 6))) : zq_okG1 w zh_i0l := by
  refine ⟨rfl, rfl, zu_fac ⟨rfl, by decide⟩ zq_fan, ?_⟩
  intro r P h H hM
  have q0 : zq_ev r (0, [(5, 1)]) = r 5 := zu_e1 _ _
  have q1 : zq_ev r (448, [(4, -1)]) = -r 4 + 448 := zu_e5 _ _ _
  have q2 : zq_ev r (0, [(9, -1)]) = -r 9 := zu_e4 _ _
  have q3 : zq_ev r (0, []) = 0 := zu_e0 _ _
  have q4 : zq_ev r (0, [(0, 1)]) = r 0 := zu_e1 _ _
  have q5 : zq_ev r (0, [(1, 1)]) = r 1 := zu_e1 _ _
  have q6 : zq_ev r (0, [(3, 1)]) = r 3 := zu_e1 _ _
  have q7 : zq_ev r (0, [(4, 1)]) = r 4 := zu_e1 _ _
  have q8 : zq_ev r (0, [(6, 1)]) = r 6 := zu_e1 _ _
  have q9 : zq_ev r (0, [(7, 1)]) = r 7 := zu_e1 _ _
  have q10 : zq_ev r (0, [(8, 1)]) = r 8 := zu_e1 _ _
  have q11 : zq_ev r (0, [(9, 1)]) = r 9 := zu_e1 _ _
  have q12 : zq_ev r (0, [(2, 1)]) = r 2 := zu_e1 _ _
  obtain ⟨hT, hC, hF, hS, -, hK⟩ := hM
  have c := hC.1
  have a1 := zq_all_1 c
  rw [q0] at a1
  have c := zq_all_t c
  have a2 := zq_all_1 c
  rw [q1] at a2
  have c := zq_all_t c
  have a3 := zq_all_1 c
  rw [q2] at a3
  have k1 := zj_use x_CI (hK)
  have k1 : zd_CI (zq_ev r (0, [])) (zq_ev r (0, [(0, 1)])) (zq_ev r (0, [(1, 1)])) (zq_ev r (0, [(3, 1)])) (zq_ev r (0, [(4, 1)])) (zq_ev r (0, [(5, 1)])) (zq_ev r (0, [(6, 1)])) (zq_ev r (0, [(7, 1)])) P h := k1
  simp only [q0, q3, q4, q5, q6, q7, q8, q9] at k1
  have k2 := zj_use x_RK (zq_okX_t (hK))
  have k2 : zr_RK (zq_ev r (0, [(8, 1)])) (zq_ev r (0, [(3, 1)])) (zq_ev r (0, [(4, 1)])) (zq_ev r (0, [(5, 1)])) (zq_ev r (0, [])) (zq_ev r (0, [(9, 1)])) P h := k2
  simp only [q0, q10, q11, q3, q6, q7] at k2
  have k3 := zj_use x_AWc (zq_okX_t (zq_okX_t (hK)))
  have k3 : ze_AW 102 (zq_ev r (0, [(8, 1)])) (zq_ev r (0, [(2, 1)])) P h := k3
  simp only [q10, q12] at k3
  obtain t1 := zh_i0l_l (P := P) (h := h) (g := r 0) (n := r 1) (W := r 2) (Y := r 3) (z := r 4) (d := r 5) (e := r 6) (p := r 7) (v := r 8) (r := r 9) a1 a2 a3 k1 k2 k3
  obtain ⟨rq, hr⟩ : ∃ rq : Nat → Int, (∀ i, i < 10 → rq i = r i) := ⟨r, fun i hi => rfl⟩
  have v0 : rq 0 = r 0 := hr 0 (by decide)
  have v1 : rq 1 = r 1 := hr 1 (by decide)
  have v2 : rq 2 = r 2 := hr 2 (by decide)
  have v6 : rq 6 = r 6 := hr 6 (by decide)
  have v7 : rq 7 = r 7 := hr 7 (by decide)
  have g0 : zq_ev rq (0, []) = 0 := zu_e0 _ _
  have g1 : zq_ev rq (0, [(0, 1)]) = r 0 := zu_f1 v0
  have g2 : zq_ev rq (0, [(1, 1)]) = r 1 := zu_f1 v1
  have g3 : zq_ev rq (0, [(2, 1)]) = r 2 := zu_f1 v2
  have g4 : zq_ev rq (0, [(6, 1)]) = r 6 := zu_f1 v6
  have g5 : zq_ev rq (0, [(7, 1)]) = r 7 := zu_f1 v7
  exact ⟨_, List.mem_cons_self .., rq, hr, zq_MeS_mk rfl hT (zq_all_nil) zq_fan (zq_fan) rfl (zu_fac ((x_IS _ _ _).mpr (by show zr_IS (zq_ev rq (0, [])) (zq_ev rq (0, [(0, 1)])) (zq_ev rq (0, [(1, 1)])) (zq_ev rq (0, [(2, 1)])) (zq_ev rq (0, [(6, 1)])) (zq_ev rq (0, [(7, 1)])) (zq_ev rq (0, [])) P h; simp only [g0, g1, g2, g3, g4, g5]; exact t1)) zq_fan)⟩
noncomputable def zh_i0g : zq_S × List zq_S := (([], [], [(0, [(5, 1)]), (448, [(4, -1)]), (-2, [(9, 1)])], [], [], [], [(256, [(0, []), (0, [(0, 1)]), (0, [(1, 1)]), (0, [(3, 1)]), (0, [(4, 1)]), (0, [(5, 1)]), (0, [(6, 1)]), (0, [(7, 1)])]), (266, [(0, [(8, 1)]), (0, [(3, 1)]), (0, [(4, 1)]), (0, [(5, 1)]), (0, []), (0, [(9, 1)])]), (278, [(0, [(8, 1)]), (0, [(2, 1)])])], 10), [([], [], [], [], [], [], [(272, [(0, []), (0, [(0, 1)]), (0, [(1, 1)]), (0, [(2, 1)]), (0, [(6, 1)]), (0, [(7, 1)]), (0, [])])], 10)])
theorem zh_i0g_l {P : zq_Ty} {h : zq_H} {g n W Y z d e p v r : Int} (a1 : 0 ≤ d) (a2 : 0 ≤ -z + 448) (a3 : 0 ≤ r - 2) (k1 : zd_CI 0 g n Y z d e p P h) (k2 : zr_RK v Y z d 0 r P h) (k3 : ze_AW 102 v W P h) : (zr_IS 0 g n W e p 0 P h) := by
  have hw := zr_cw0 k3
  rcases k1 with ⟨h1, -⟩ | ⟨-, h1, f, h2, h3⟩
  · omega
  obtain ⟨x, t, hx, y1, y2⟩ := zr_T_run h2 (by omega) hw k2.2
  obtain ⟨z1, z2⟩ := y2 (by decide)
  exact Or.inr ⟨rfl, h1, x, t, f, hx, fun q => by have := q.1; omega, h3⟩
theorem zh_i0g_ok {w : zq_Wd} (x_CI : zj_is w 256 (fun q => zd_CI (q 0) (q 1) (q 2) (q 3) (q 4) (q 5) (q 6) (q 7))) (x_RK : zj_is w 266 (fun q => zr_RK (q 0) (q 1) (q 2) (q 3) (q 4) (q 5))) (x_AWc : zj_is w 278 (fun q => ze_AW 102 (q 0) (q 1))) (x_IS : zj_is w 272 (fun q => zr_IS (q 0) (q 1) (q 2) (q 3) (q 4) (q 5) (q 6))) : zq_okG1 w zh_i0g := by
  refine ⟨rfl, rfl, zu_fac ⟨rfl, by decide⟩ zq_fan, ?_⟩
  intro r P h H hM
  have q0 : zq_ev r (0, [(5, 1)]) = r 5 := zu_e1 _ _
  have q1 : zq_ev r (448, [(4, -1)]) = -r 4 + 448 := zu_e5 _ _ _
  have q2 : zq_ev r (-2, [(9, 1)]) = r 9 - 2 := zu_e3 _ _ _
  have q3 : zq_ev r (0, []) = 0 := zu_e0 _ _
  have q4 : zq_ev r (0, [(0, 1)]) = r 0 := zu_e1 _ _
  have q5 : zq_ev r (0, [(1, 1)]) = r 1 := zu_e1 _ _
  have q6 : zq_ev r (0, [(3, 1)]) = r 3 := zu_e1 _ _
  have q7 : zq_ev r (0, [(4, 1)]) = r 4 := zu_e1 _ _
  have q8 : zq_ev r (0, [(6, 1)]) = r 6 := zu_e1 _ _
  have q9 : zq_ev r (0, [(7, 1)]) = r 7 := zu_e1 _ _
  have q10 : zq_ev r (0, [(8, 1)]) = r 8 := zu_e1 _ _
  have q11 : zq_ev r (0, [(9, 1)]) = r 9 := zu_e1 _ _
  have q12 : zq_ev r (0, [(2, 1)]) = r 2 := zu_e1 _ _
  obtain ⟨hT, hC, hF, hS, -, hK⟩ := hM
  have c := hC.1
  have a1 := zq_all_1 c
  rw [q0] at a1
  have c := zq_all_t c
  have a2 := zq_all_1 c
  rw [q1] at a2
  have c := zq_all_t c
  have a3 := zq_all_1 c
  rw [q2] at a3
  have k1 := zj_use x_CI (hK)
  have k1 : zd_CI (zq_ev r (0, [])) (zq_ev r (0, [(0, 1)])) (zq_ev r (0, [(1, 1)])) (zq_ev r (0, [(3, 1)])) (zq_ev r (0, [(4, 1)])) (zq_ev r (0, [(5, 1)])) (zq_ev r (0, [(6, 1)])) (zq_ev r (0, [(7, 1)])) P h := k1
  simp only [q0, q3, q4, q5, q6, q7, q8, q9] at k1
  have k2 := zj_use x_RK (zq_okX_t (hK))
  have k2 : zr_RK (zq_ev r (0, [(8, 1)])) (zq_ev r (0, [(3, 1)])) (zq_ev r (0, [(4, 1)])) (zq_ev r (0, [(5, 1)])) (zq_ev r (0, [])) (zq_ev r (0, [(9, 1)])) P h := k2
  simp only [q0, q10, q11, q3, q6, q7] at k2
  have k3 := zj_use x_AWc (zq_okX_t (zq_okX_t (hK)))
  have k3 : ze_AW 102 (zq_ev r (0, [(8, 1)])) (zq_ev r (0, [(2, 1)])) P h := k3
  simp only [q10, q12] at k3
  obtain t1 := zh_i0g_l (P := P) (h := h) (g := r 0) (n := r 1) (W := r 2) (Y := r 3) (z := r 4) (d := r 5) (e := r 6) (p := r 7) (v := r 8) (r := r 9) a1 a2 a3 k1 k2 k3
  obtain ⟨rq, hr⟩ : ∃ rq : Nat → Int, (∀ i, i < 10 → rq i = r i) := ⟨r, fun i hi => rfl⟩
  have v0 : rq 0 = r 0 := hr 0 (by decide)
  have v1 : rq 1 = r 1 := hr 1 (by decide)
  have v2 : rq 2 = r 2 := hr 2 (by decide)
  have v6 : rq 6 = r 6 := hr 6 (by decide)
  have v7 : rq 7 = r 7 := hr 7 (by decide)
  have g0 : zq_ev rq (0, []) = 0 := zu_e0 _ _
  have g1 : zq_ev rq (0, [(0, 1)]) = r 0 := zu_f1 v0
  have g2 : zq_ev rq (0, [(1, 1)]) = r 1 := zu_f1 v1
  have g3 : zq_ev rq (0, [(2, 1)]) = r 2 := zu_f1 v2
  have g4 : zq_ev rq (0, [(6, 1)]) = r 6 := zu_f1 v6
  have g5 : zq_ev rq (0, [(7, 1)]) = r 7 := zu_f1 v7
  exact ⟨_, List.mem_cons_self .., rq, hr, zq_MeS_mk rfl hT (zq_all_nil) zq_fan (zq_fan) rfl (zu_fac ((x_IS _ _ _).mpr (by show zr_IS (zq_ev rq (0, [])) (zq_ev rq (0, [(0, 1)])) (zq_ev rq (0, [(1, 1)])) (zq_ev rq (0, [(2, 1)])) (zq_ev rq (0, [(6, 1)])) (zq_ev rq (0, [(7, 1)])) (zq_ev rq (0, [])) P h; simp only [g0, g1, g2, g3, g4, g5]; exact t1)) zq_fan)⟩
noncomputable def zh_ib : zq_S × List zq_S := (([], [], [(0, [(5, 1)]), (448, [(4, -1)])], [], [], [], [(256, [(0, []), (0, [(0, 1)]), (0, [(1, 1)]), (0, [(3, 1)]), (0, [(4, 1)]), (0, [(5, 1)]), (0, [(6, 1)]), (0, [(7, 1)])]), (266, [(0, [(8, 1)]), (0, [(3, 1)]), (0, [(4, 1)]), (0, [(5, 1)]), (1, []), (0, [(9, 1)])]), (278, [(0, [(8, 1)]), (0, [(2, 1)])])], 10), [([], [], [], [], [], [], [(272, [(0, []), (0, [(0, 1)]), (0, [(1, 1)]), (0, [(2, 1)]), (0, [(6, 1)]), (0, [(7, 1)]), (0, [])])], 10)])
theorem zh_ib_l {P : zq_Ty} {h : zq_H} {g n W Y z d e p v r : Int} (a1 : 0 ≤ d) (a2 : 0 ≤ -z + 448) (k1 : zd_CI 0 g n Y z d e p P h) (k2 : zr_RK v Y z d 1 r P h) (k3 : ze_AW 102 v W P h) : (zr_IS 0 g n W e p 0 P h) := by
  have hw := zr_cw0 k3
  rcases k1 with ⟨h1, -⟩ | ⟨-, h1, f, h2, h3⟩
  · omega
  obtain ⟨x, t, hx, y1, y2⟩ := zr_T_run h2 (by omega) hw k2.2
  have z1 := y1 rfl
  exact Or.inr ⟨rfl, h1, x, t, f, hx, fun q => by rw [z1] at q; exact absurd q.2 (by decide), h3⟩
theorem zh_ib_ok {w : zq_Wd} (x_CI : zj_is w 256 (fun q => zd_CI (q 0) (q 1) (q 2) (q 3) (q 4) (q 5) (q 6) (q 7))) (x_RK : zj_is w 266 (fun q => zr_RK (q 0) (q 1) (q 2) (q 3) (q 4) (q 5))) (x_AWc : zj_is w 278 (fun q => ze_AW 102 (q 0) (q 1))) (x_IS : zj_is w 272 (fun q => zr_IS (q 0) (q 1) (q 2) (q 3) (q 4) (q 5) (q 6))) : zq_okG1 w zh_ib := by
  refine ⟨rfl, rfl, zu_fac ⟨rfl, by decide⟩ zq_fan, ?_⟩
  intro r P h H hM
  have q0 : zq_ev r (0, [(5, 1)]) = r 5 := zu_e1 _ _
  have q1 : zq_ev r (448, [(4, -1)]) = -r 4 + 448 := zu_e5 _ _ _
  have q2 : zq_ev r (0, []) = 0 := zu_e0 _ _
  have q3 : zq_ev r (0, [(0, 1)]) = r 0 := zu_e1 _ _
  have q4 : zq_ev r (0, [(1, 1)]) = r 1 := zu_e1 _ _
  have q5 : zq_ev r (0, [(3, 1)]) = r 3 := zu_e1 _ _
  have q6 : zq_ev r (0, [(4, 1)]) = r 4 := zu_e1 _ _
  have q7 : zq_ev r (0, [(6, 1)]) = r 6 := zu_e1 _ _
  have q8 : zq_ev r (0, [(7, 1)]) = r 7 := zu_e1 _ _
  have q9 : zq_ev r (0, [(8, 1)]) = r 8 := zu_e1 _ _
  have q10 : zq_ev r (1, []) = 1 := zu_e0 _ _
  have q11 : zq_ev r (0, [(9, 1)]) = r 9 := zu_e1 _ _
  have q12 : zq_ev r (0, [(2, 1)]) = r 2 := zu_e1 _ _
  obtain ⟨hT, hC, hF, hS, -, hK⟩ := hM
  have c := hC.1
  have a1 := zq_all_1 c
  rw [q0] at a1
  have c := zq_all_t c
  have a2 := zq_all_1 c
  rw [q1] at a2
  have k1 := zj_use x_CI (hK)
  have k1 : zd_CI (zq_ev r (0, [])) (zq_ev r (0, [(0, 1)])) (zq_ev r (0, [(1, 1)])) (zq_ev r (0, [(3, 1)])) (zq_ev r (0, [(4, 1)])) (zq_ev r (0, [(5, 1)])) (zq_ev r (0, [(6, 1)])) (zq_ev r (0, [(7, 1)])) P h := k1
  simp only [q0, q2, q3, q4, q5, q6, q7, q8] at k1
  have k2 := zj_use x_RK (zq_okX_t (hK))
  have k2 : zr_RK (zq_ev r (0, [(8, 1)])) (zq_ev r (0, [(3, 1)])) (zq_ev r (0, [(4, 1)])) (zq_ev r (0, [(5, 1)])) (zq_ev r (1, [])) (zq_ev r (0, [(9, 1)])) P h := k2
  simp only [q0, q10, q11, q5, q6, q9] at k2
  have k3 := zj_use x_AWc (zq_okX_t (zq_okX_t (hK)))
  have k3 : ze_AW 102 (zq_ev r (0, [(8, 1)])) (zq_ev r (0, [(2, 1)])) P h := k3
  simp only [q12, q9] at k3
  obtain t1 := zh_ib_l (P := P) (h := h) (g := r 0) (n := r 1) (W := r 2) (Y := r 3) (z := r 4) (d := r 5) (e := r 6) (p := r 7) (v := r 8) (r := r 9) a1 a2 k1 k2 k3
  obtain ⟨rq, hr⟩ : ∃ rq : Nat → Int, (∀ i, i < 10 → rq i = r i) := ⟨r, fun i hi => rfl⟩
  have v0 : rq 0 = r 0 := hr 0 (by decide)
  have v1 : rq 1 = r 1 := hr 1 (by decide)
  have v2 : rq 2 = r 2 := hr 2 (by decide)
  have v6 : rq 6 = r 6 := hr 6 (by decide)
  have v7 : rq 7 = r 7 := hr 7 (by decide)
  have g0 : zq_ev rq (0, []) = 0 := zu_e0 _ _
  have g1 : zq_ev rq (0, [(0, 1)]) = r 0 := zu_f1 v0
  have g2 : zq_ev rq (0, [(1, 1)]) = r 1 := zu_f1 v1
  have g3 : zq_ev rq (0, [(2, 1)]) = r 2 := zu_f1 v2
  have g4 : zq_ev rq (0, [(6, 1)]) = r 6 := zu_f1 v6
  have g5 : zq_ev rq (0, [(7, 1)]) = r 7 := zu_f1 v7
  exact ⟨_, List.mem_cons_self .., rq, hr, zq_MeS_mk rfl hT (zq_all_nil) zq_fan (zq_fan) rfl (zu_fac ((x_IS _ _ _).mpr (by show zr_IS (zq_ev rq (0, [])) (zq_ev rq (0, [(0, 1)])) (zq_ev rq (0, [(1, 1)])) (zq_ev rq (0, [(2, 1)])) (zq_ev rq (0, [(6, 1)])) (zq_ev rq (0, [(7, 1)])) (zq_ev rq (0, [])) P h; simp only [g0, g1, g2, g3, g4, g5]; exact t1)) zq_fan)⟩
noncomputable def zh_x0t : zq_S × List zq_S := (([], [], [], [], [], [], [(262, [(0, [(0, 1)]), (0, [(1, 1)]), (0, [(2, 1)]), (0, [(3, 1)]), (0, [(4, 1)]), (0, [(5, 1)]), (0, [(6, 1)]), (0, [(7, 1)]), (0, [(8, 1)])])], 9), [([], [], [], [], [], [], [(273, [(0, [(0, 1)]), (0, [(1, 1)]), (0, [(2, 1)]), (0, [(3, 1)]), (0, [(4, 1)]), (0, [(5, 1)]), (0, [(6, 1)]), (0, [(7, 1)]), (0, [(8, 1)]), (0, [(9, 1)]), (0, []), (0, [])]), (270, [(0, [(3, 1)]), (0, [(8, 1)]), (0, [(9, 1)])])], 10)])
theorem zh_x0t_l {P : zq_Ty} {h : zq_H} {ak at_ as_ ac o g n m z : Int} (k1 : zd_TX 25 26 27 28 ak at_ as_ ac o g n m z P h) : (∃ Y : Int, zr_XP 25 26 27 28 ak at_ as_ ac o g n m z Y 0 0 P h ∧ zr_CO 28 ac z Y P h) := by
  obtain ⟨q1, q2, q3, q4, b1, b2, b3, b4, Y, c1, ps, d1, d2, d3⟩ := k1
  exact ⟨Y, ⟨q1, q2, q3, q4, by omega, by omega, b2, b3, b4, c1, ps, d1, d2, d1, d3⟩, q4, ⟨b3, b4⟩, c1⟩
theorem zh_x0t_ok {w : zq_Wd} (x_XT : zj_is w 262 (fun q => zd_TX 25 26 27 28 (q 0) (q 1) (q 2) (q 3) (q 4) (q 5) (q 6) (q 7) (q 8))) (x_XP : zj_is w 273 (fun q => zr_XP 25 26 27 28 (q 0) (q 1) (q 2) (q 3) (q 4) (q 5) (q 6) (q 7) (q 8) (q 9) (q 10) (q 11))) (x_CT : zj_is w 270 (fun q => zr_CO 28 (q 0) (q 1) (q 2))) : zq_okG1 w zh_x0t := by
  refine ⟨rfl, rfl, zu_fac ⟨rfl, by decide⟩ zq_fan, ?_⟩
  intro r P h H hM
  have q0 : zq_ev r (0, [(0, 1)]) = r 0 := zu_e1 _ _
  have q1 : zq_ev r (0, [(1, 1)]) = r 1 := zu_e1 _ _
  have q2 : zq_ev r (0, [(2, 1)]) = r 2 := zu_e1 _ _
  have q3 : zq_ev r (0, [(3, 1)]) = r 3 := zu_e1 _ _
  have q4 : zq_ev r (0, [(4, 1)]) = r 4 := zu_e1 _ _
  have q5 : zq_ev r (0, [(5, 1)]) = r 5 := zu_e1 _ _
  have q6 : zq_ev r (0, [(6, 1)]) = r 6 := zu_e1 _ _
  have q7 : zq_ev r (0, [(7, 1)]) = r 7 := zu_e1 _ _
  have q8 : zq_ev r (0, [(8, 1)]) = r 8 := zu_e1 _ _
  obtain ⟨hT, hC, hF, hS, -, hK⟩ := hM
  have c := hC.1
  have k1 := zj_use x_XT (hK)
  have k1 : zd_TX 25 26 27 28 (zq_ev r (0, [(0, 1)])) (zq_ev r (0, [(1, 1)])) (zq_ev r (0, [(2, 1)])) (zq_ev r (0, [(3, 1)])) (zq_ev r (0, [(4, 1)])) (zq_ev r (0, [(5, 1)])) (zq_ev r (0, [(6, 1)])) (zq_ev r (0, [(7, 1)])) (zq_ev r (0, [(8, 1)])) P h := k1
  simp only [q0, q1, q2, q3, q4, q5, q6, q7, q8] at k1
  obtain ⟨y_0, t1, t2⟩ := zh_x0t_l (P := P) (h := h) (ak := r 0) (at_ := r 1) (as_ := r 2) (ac := r 3) (o := r 4) (g := r 5) (n := r 6) (m := r 7) (z := r 8) k1
  obtain ⟨rq, hr, w9⟩ : ∃ rq : Nat → Int, (∀ i, i < 9 → rq i = r i) ∧ rq 9 = y_0 := ⟨zq_up r 9 y_0, fun i hi => by rw [zu_up_ne (by omega)], rfl⟩
  have v0 : rq 0 = r 0 := hr 0 (by decide)
  have v1 : rq 1 = r 1 := hr 1 (by decide)
  have v2 : rq 2 = r 2 := hr 2 (by decide)
  have v3 : rq 3 = r 3 := hr 3 (by decide)
  have v4 : rq 4 = r 4 := hr 4 (by decide)
  have v5 : rq 5 = r 5 := hr 5 (by decide)
  have v6 : rq 6 = r 6 := hr 6 (by decide)
  have v7 : rq 7 = r 7 := hr 7 (by decide)
  have v8 : rq 8 = r 8 := hr 8 (by decide)
  have g0 : zq_ev rq (0, [(3, 1)]) = r 3 := zu_f1 v3
  have g1 : zq_ev rq (0, [(8, 1)]) = r 8 := zu_f1 v8
  have g2 : zq_ev rq (0, [(9, 1)]) = y_0 := zu_f1 w9
  have g3 : zq_ev rq (0, [(0, 1)]) = r 0 := zu_f1 v0
  have g4 : zq_ev rq (0, [(1, 1)]) = r 1 := zu_f1 v1
  have g5 : zq_ev rq (0, [(2, 1)]) = r 2 := zu_f1 v2
  have g6 : zq_ev rq (0, [(4, 1)]) = r 4 := zu_f1 v4
  have g7 : zq_ev rq (0, [(5, 1)]) = r 5 := zu_f1 v5
  have g8 : zq_ev rq (0, [(6, 1)]) = r 6 := zu_f1 v6
  have g9 : zq_ev rq (0, [(7, 1)]) = r 7 := zu_f1 v7
  have g10 : zq_ev rq (0, []) = 0 := zu_e0 _ _
  exact ⟨_, List.mem_cons_self .., rq, hr, zq_MeS_mk rfl hT (zq_all_nil) zq_fan (zq_fan) rfl (zu_fac ((x_XP _ _ _).mpr (by show zr_XP 25 26 27 28 (zq_ev rq (0, [(0, 1)])) (zq_ev rq (0, [(1, 1)])) (zq_ev rq (0, [(2, 1)])) (zq_ev rq (0, [(3, 1)])) (zq_ev rq (0, [(4, 1)])) (zq_ev rq (0, [(5, 1)])) (zq_ev rq (0, [(6, 1)])) (zq_ev rq (0, [(7, 1)])) (zq_ev rq (0, [(8, 1)])) (zq_ev rq (0, [(9, 1)])) (zq_ev rq (0, [])) (zq_ev rq (0, [])) P h; simp only [g0, g1, g10, g2, g3, g4, g5, g6, g7, g8, g9]; exact t1)) (zu_fac ((x_CT _ _ _).mpr (by show zr_CO 28 (zq_ev rq (0, [(3, 1)])) (zq_ev rq (0, [(8, 1)])) (zq_ev rq (0, [(9, 1)])) P h; simp only [g0, g1, g2]; exact t2)) zq_fan))⟩
noncomputable def zh_x1t : zq_S × List zq_S := (([], [], [(-1, [(7, 1), (10, -1)]), (0, [(4, 1)]), (0, [(4, -1)])], [], [], [], [(273, [(0, [(0, 1)]), (0, [(1, 1)]), (0, [(2, 1)]), (0, [(3, 1)]), (0, [(4, 1)]), (0, [(5, 1)]), (0, [(6, 1)]), (0, [(7, 1)]), (0, [(8, 1)]), (0, [(9, 1)]), (0, [(10, 1)]), (0, [(11, 1)])])], 12), [([], [], [(-14, [(12, 1)]), (16, [(12, -1)]), (1, [(17, 1)]), (448, [(17, -1)])], [], [((0, [(0, 1)]), (0, [(10, 1)]), (0, [(12, 1)])), ((0, [(1, 1)]), (0, [(10, 1)]), (0, [(13, 1)])), ((0, [(2, 1)]), (0, [(10, 4)]), (0, [(14, 1)])), ((0, [(2, 1)]), (1, [(10, 4)]), (0, [(15, 1)])), ((0, [(2, 1)]), (2, [(10, 4)]), (0, [(16, 1)])), ((0, [(2, 1)]), (3, [(10, 4)]), (0, [(17, 1)]))], [], [(259, [(0, [(4, 1)]), (0, [(5, 1)]), (0, [(6, 1)]), (0, [(9, 1)]), (0, [(8, 1)]), (0, [(12, 1)]), (0, [(13, 1)]), (0, [(14, 1)]), (0, [(15, 1)]), (0, [(16, 1)]), (0, [(11, 1)]), (0, [(18, 1)])]), (256, [(0, [(4, 1)]), (0, [(5, 1)]), (0, [(6, 1)]), (0, [(9, 1)]), (0, [(8, 1)]), (0, [(17, 1)]), (0, [(18, 1)]), (0, [(19, 1)])]), (273, [(0, [(0, 1)]), (0, [(1, 1)]), (0, [(2, 1)]), (0, [(3, 1)]), (0, [(4, 1)]), (0, [(5, 1)]), (0, [(6, 1)]), (0, [(7, 1)]), (0, [(8, 1)]), (0, [(9, 1)]), (1, [(10, 1)]), (0, [(19, 1)])])], 20)])
theorem zh_x1t_l {P : zq_Ty} {h : zq_H} {ak at_ as_ ac o g n m z Y c p : Int} (a1 : 0 ≤ m - c - 1) (a2 : 0 ≤ o) (a3 : 0 ≤ -o) (k1 : zr_XP 25 26 27 28 ak at_ as_ ac o g n m z Y c p P h) : (∃ k t a b e d f w : Int, 0 ≤ k - 14 ∧ 0 ≤ -k + 16 ∧ 0 ≤ d + 1 ∧ 0 ≤ -d + 448 ∧ (0 ≤ ak ∧ P (ak).toNat ≠ none ∧ h (ak).toNat c = k) ∧ (0 ≤ at_ ∧ P (at_).toNat ≠ none ∧ h (at_).toNat c = t) ∧ (0 ≤ as_ ∧ P (as_).toNat ≠ none ∧ h (as_).toNat (4 * c) = a) ∧ (0 ≤ as_ ∧ P (as_).toNat ≠ none ∧ h (as_).toNat (4 * c + 1) = b) ∧ (0 ≤ as_ ∧ P (as_).toNat ≠ none ∧ h (as_).toNat (4 * c + 2) = e) ∧ (0 ≤ as_ ∧ P (as_).toNat ≠ none ∧ h (as_).toNat (4 * c + 3) = d) ∧ zd_CB o g n Y z k t a b e p f P h ∧ zd_CI o g n Y z d f w P h ∧ zr_XP 25 26 27 28 ak at_ as_ ac o g n m z Y (c + 1) w P h) := by
  obtain ⟨q1, q2, q3, q4, b1_, b2_, b3_, b4_, b5_, c1, ps, d1, d2, d3, d4⟩ := k1
  have q := d4 c b1_ (by omega)
  rw [d3] at q
  obtain ⟨f, u1, u2⟩ := q
  have hk : 14 ≤ h ak.toNat c ∧ h ak.toNat c ≤ 16 := by
    rcases u1 with ⟨_, _, ⟨h1, _⟩ | ⟨h1, _⟩⟩ | ⟨_, _, ⟨h1, _⟩ | ⟨h1, _⟩ | ⟨h1, _⟩ | ⟨h1, _⟩, _⟩ <;> omega
  have hd : -1 ≤ h as_.toNat (4 * c + 3) ∧ h as_.toNat (4 * c + 3) ≤ 448 := by
    rcases u2 with ⟨h1, _⟩ | ⟨h1, _, e, ⟨t, h2, _, h3⟩, _⟩
    · omega
    · have := h2.1.2.1
      omega
  have pn : ∀ {x : Int} {k : Nat}, zn_on x k P → P x.toNat ≠ none := fun z => by rw [z.2]; exact Option.some_ne_none _
  exact ⟨h ak.toNat c, h at_.toNat c, h as_.toNat (4 * c), h as_.toNat (4 * c + 1), h as_.toNat (4 * c + 2), h as_.toNat (4 * c + 3), f, ps (c + 1), by omega, by omega, by omega, by omega, ⟨q1.1, pn q1, rfl⟩, ⟨q2.1, pn q2, rfl⟩, ⟨q3.1, pn q3, rfl⟩, ⟨q3.1, pn q3, rfl⟩, ⟨q3.1, pn q3, rfl⟩, ⟨q3.1, pn q3, rfl⟩, u1, u2, q1, q2, q3, q4, by omega, by omega, b3_, b4_, b5_, c1, ps, d1, d2, rfl, d4⟩
theorem zh_x1t_ok {w : zq_Wd} (x_XP : zj_is w 273 (fun q => zr_XP 25 26 27 28 (q 0) (q 1) (q 2) (q 3) (q 4) (q 5) (q 6) (q 7) (q 8) (q 9) (q 10) (q 11))) (x_CB : zj_is w 259 (fun q => zd_CB (q 0) (q 1) (q 2) (q 3) (q 4) (q 5) (q 6) (q 7) (q 8) (q 9) (q 10) (q 11))) (x_CI : zj_is w 256 (fun q => zd_CI (q 0) (q 1) (q 2) (q 3) (q 4) (q 5) (q 6) (q 7))) : zq_okG1 w zh_x1t := by
  refine ⟨rfl, rfl, zu_fac ⟨rfl, by decide⟩ zq_fan, ?_⟩
  intro r P h H hM
  have q0 : zq_ev r (-1, [(7, 1), (10, -1)]) = r 7 - r 10 - 1 := by simp only [zq_ev, zq_ts] <;> omega
  have q1 : zq_ev r (0, [(4, 1)]) = r 4 := zu_e1 _ _
  have q2 : zq_ev r (0, [(4, -1)]) = -r 4 := zu_e4 _ _
  have q3 : zq_ev r (0, [(0, 1)]) = r 0 := zu_e1 _ _
  have q4 : zq_ev r (0, [(1, 1)]) = r 1 := zu_e1 _ _
  have q5 : zq_ev r (0, [(2, 1)]) = r 2 := zu_e1 _ _
  have q6 : zq_ev r (0, [(3, 1)]) = r 3 := zu_e1 _ _
  have q7 : zq_ev r (0, [(5, 1)]) = r 5 := zu_e1 _ _
  have q8 : zq_ev r (0, [(6, 1)]) = r 6 := zu_e1 _ _
  have q9 : zq_ev r (0, [(7, 1)]) = r 7 := zu_e1 _ _
  have q10 : zq_ev r (0, [(8, 1)]) = r 8 := zu_e1 _ _
  have q11 : zq_ev r (0, [(9, 1)]) = r 9 := zu_e1 _ _
  have q12 : zq_ev r (0, [(10, 1)]) = r 10 := zu_e1 _ _
  have q13 : zq_ev r (0, [(11, 1)]) = r 11 := zu_e1 _ _
  obtain ⟨hT, hC, hF, hS, -, hK⟩ := hM
  have c := hC.1
  have a1 := zq_all_1 c
  rw [q0] at a1
  have c := zq_all_t c
  have a2 := zq_all_1 c
  rw [q1] at a2
  have c := zq_all_t c
  have a3 := zq_all_1 c
  rw [q2] at a3
  have k1 := zj_use x_XP (hK)
  have k1 : zr_XP 25 26 27 28 (zq_ev r (0, [(0, 1)])) (zq_ev r (0, [(1, 1)])) (zq_ev r (0, [(2, 1)])) (zq_ev r (0, [(3, 1)])) (zq_ev r (0, [(4, 1)])) (zq_ev r (0, [(5, 1)])) (zq_ev r (0, [(6, 1)])) (zq_ev r (0, [(7, 1)])) (zq_ev r (0, [(8, 1)])) (zq_ev r (0, [(9, 1)])) (zq_ev r (0, [(10, 1)])) (zq_ev r (0, [(11, 1)])) P h := k1
  simp only [q1, q10, q11, q12, q13, q3, q4, q5, q6, q7, q8, q9] at k1
  obtain ⟨y_0, y_1, y_2, y_3, y_4, y_5, y_6, y_7, c1, c2, c3, c4, d1, d2, d3, d4, d5, d6, t1, t2, t3⟩ := zh_x1t_l (P := P) (h := h) (ak := r 0) (at_ := r 1) (as_ := r 2) (ac := r 3) (o := r 4) (g := r 5) (n := r 6) (m := r 7) (z := r 8) (Y := r 9) (c := r 10) (p := r 11) a1 a2 a3 k1
  obtain ⟨rq, hr, w12, w13, w14, w15, w16, w17, w18, w19⟩ : ∃ rq : Nat → Int, (∀ i, i < 12 → rq i = r i) ∧ rq 12 = y_0 ∧ rq 13 = y_1 ∧ rq 14 = y_2 ∧ rq 15 = y_3 ∧ rq 16 = y_4 ∧ rq 17 = y_5 ∧ rq 18 = y_6 ∧ rq 19 = y_7 := ⟨zq_up (zq_up (zq_up (zq_up (zq_up (zq_up (zq_up (zq_up r 12 y_0) 13 y_1) 14 y_2) 15 y_3) 16 y_4) 17 y_5) 18 y_6) 19 y_7, fun i hi => by rw [zu_up_ne (by omega)]; rw [zu_up_ne (by omega)]; rw [zu_up_ne (by omega)]; rw [zu_up_ne (by omega)]; rw [zu_up_ne (by omega)]; rw [zu_up_ne (by omega)]; rw [zu_up_ne (by omega)]; rw [zu_up_ne (by omega)], rfl, rfl, rfl, rfl, rfl, rfl, rfl, rfl⟩
  have v0 : rq 0 = r 0 := hr 0 (by decide)
  have v1 : rq 1 = r 1 := hr 1 (by decide)
  have v2 : rq 2 = r 2 := hr 2 (by decide)
  have v3 : rq 3 = r 3 := hr 3 (by decide)
  have v4 : rq 4 = r 4 := hr 4 (by decide)
  have v5 : rq 5 = r 5 := hr 5 (by decide)
  have v6 : rq 6 = r 6 := hr 6 (by decide)
  have v7 : rq 7 = r 7 := hr 7 (by decide)
  have v8 : rq 8 = r 8 := hr 8 (by decide)
  have v9 : rq 9 = r 9 := hr 9 (by decide)
  have v10 : rq 10 = r 10 := hr 10 (by decide)
  have v11 : rq 11 = r 11 := hr 11 (by decide)
  have g0 : zq_ev rq (448, [(17, -1)]) = -y_5 + 448 := zu_f5 w17 _
  have g1 : zq_ev rq (1, [(17, 1)]) = y_5 + 1 := zu_f2 w17 _
  have g2 : zq_ev rq (16, [(12, -1)]) = -y_0 + 16 := zu_f5 w12 _
  have g3 : zq_ev rq (-14, [(12, 1)]) = y_0 - 14 := zu_f3 w12 _
  have g4 : zq_ev rq (0, [(2, 1)]) = r 2 := zu_f1 v2
  have g5 : zq_ev rq (3, [(10, 4)]) = 4 * r 10 + 3 := by simp only [zq_ev, zq_ts, v0, v1, v2, v3, v4, v5, v6, v7, v8, v9, v10, v11, w12, w13, w14, w15, w16, w17, w18, w19] <;> omega
  have g6 : zq_ev rq (0, [(17, 1)]) = y_5 := zu_f1 w17
  have g7 : zq_ev rq (2, [(10, 4)]) = 4 * r 10 + 2 := by simp only [zq_ev, zq_ts, v0, v1, v2, v3, v4, v5, v6, v7, v8, v9, v10, v11, w12, w13, w14, w15, w16, w17, w18, w19] <;> omega
  have g8 : zq_ev rq (0, [(16, 1)]) = y_4 := zu_f1 w16
  have g9 : zq_ev rq (1, [(10, 4)]) = 4 * r 10 + 1 := by simp only [zq_ev, zq_ts, v0, v1, v2, v3, v4, v5, v6, v7, v8, v9, v10, v11, w12, w13, w14, w15, w16, w17, w18, w19] <;> omega
  have g10 : zq_ev rq (0, [(15, 1)]) = y_3 := zu_f1 w15
  have g11 : zq_ev rq (0, [(10, 4)]) = 4 * r 10 := by simp only [zq_ev, zq_ts, v0, v1, v2, v3, v4, v5, v6, v7, v8, v9, v10, v11, w12, w13, w14, w15, w16, w17, w18, w19] <;> omega
  have g12 : zq_ev rq (0, [(14, 1)]) = y_2 := zu_f1 w14
  have g13 : zq_ev rq (0, [(1, 1)]) = r 1 := zu_f1 v1
  have g14 : zq_ev rq (0, [(10, 1)]) = r 10 := zu_f1 v10
  have g15 : zq_ev rq (0, [(13, 1)]) = y_1 := zu_f1 w13
  have g16 : zq_ev rq (0, [(0, 1)]) = r 0 := zu_f1 v0
  have g17 : zq_ev rq (0, [(12, 1)]) = y_0 := zu_f1 w12
  have g18 : zq_ev rq (0, [(3, 1)]) = r 3 := zu_f1 v3
  have g19 : zq_ev rq (0, [(4, 1)]) = r 4 := zu_f1 v4
  have g20 : zq_ev rq (0, [(5, 1)]) = r 5 := zu_f1 v5
  have g21 : zq_ev rq (0, [(6, 1)]) = r 6 := zu_f1 v6
  have g22 : zq_ev rq (0, [(7, 1)]) = r 7 := zu_f1 v7
  have g23 : zq_ev rq (0, [(8, 1)]) = r 8 := zu_f1 v8
  have g24 : zq_ev rq (0, [(9, 1)]) = r 9 := zu_f1 v9
  have g25 : zq_ev rq (1, [(10, 1)]) = r 10 + 1 := zu_f2 v10 _
  have g26 : zq_ev rq (0, [(19, 1)]) = y_7 := zu_f1 w19
  have g27 : zq_ev rq (0, [(18, 1)]) = y_6 := zu_f1 w18
  have g28 : zq_ev rq (0, [(11, 1)]) = r 11 := zu_f1 v11
  exact ⟨_, List.mem_cons_self .., rq, hr, zq_MeS_mk rfl hT (zq_all_cons (by rw [g3]; exact c1) (zq_all_cons (by rw [g2]; exact c2) (zq_all_cons (by rw [g1]; exact c3) (zq_all_cons (by rw [g0]; exact c4) (zq_all_nil))))) zq_fan (zu_fac (zu_stm g16 d1.1 d1.2.1 (by simp only [g14, g17]; exact d1.2.2)) (zu_fac (zu_stm g13 d2.1 d2.2.1 (by simp only [g14, g15]; exact d2.2.2)) (zu_fac (zu_stm g4 d3.1 d3.2.1 (by simp only [g11, g12]; exact d3.2.2)) (zu_fac (zu_stm g4 d4.1 d4.2.1 (by simp only [g10, g9]; exact d4.2.2)) (zu_fac (zu_stm g4 d5.1 d5.2.1 (by simp only [g7, g8]; exact d5.2.2)) (zu_fac (zu_stm g4 d6.1 d6.2.1 (by simp only [g5, g6]; exact d6.2.2)) (zq_fan))))))) rfl (zu_fac ((x_CB _ _ _).mpr (by show zd_CB (zq_ev rq (0, [(4, 1)])) (zq_ev rq (0, [(5, 1)])) (zq_ev rq (0, [(6, 1)])) (zq_ev rq (0, [(9, 1)])) (zq_ev rq (0, [(8, 1)])) (zq_ev rq (0, [(12, 1)])) (zq_ev rq (0, [(13, 1)])) (zq_ev rq (0, [(14, 1)])) (zq_ev rq (0, [(15, 1)])) (zq_ev rq (0, [(16, 1)])) (zq_ev rq (0, [(11, 1)])) (zq_ev rq (0, [(18, 1)])) P h; simp only [g10, g12, g15, g17, g19, g20, g21, g23, g24, g27, g28, g8]; exact t1)) (zu_fac ((x_CI _ _ _).mpr (by show zd_CI (zq_ev rq (0, [(4, 1)])) (zq_ev rq (0, [(5, 1)])) (zq_ev rq (0, [(6, 1)])) (zq_ev rq (0, [(9, 1)])) (zq_ev rq (0, [(8, 1)])) (zq_ev rq (0, [(17, 1)])) (zq_ev rq (0, [(18, 1)])) (zq_ev rq (0, [(19, 1)])) P h; simp only [g19, g20, g21, g23, g24, g26, g27, g6]; exact t2)) (zu_fac ((x_XP _ _ _).mpr (by show zr_XP 25 26 27 28 (zq_ev rq (0, [(0, 1)])) (zq_ev rq (0, [(1, 1)])) (zq_ev rq (0, [(2, 1)])) (zq_ev rq (0, [(3, 1)])) (zq_ev rq (0, [(4, 1)])) (zq_ev rq (0, [(5, 1)])) (zq_ev rq (0, [(6, 1)])) (zq_ev rq (0, [(7, 1)])) (zq_ev rq (0, [(8, 1)])) (zq_ev rq (0, [(9, 1)])) (zq_ev rq (1, [(10, 1)])) (zq_ev rq (0, [(19, 1)])) P h; simp only [g13, g16, g18, g19, g20, g21, g22, g23, g24, g25, g26, g4]; exact t3)) zq_fan)))⟩
noncomputable def zh_x0d : zq_S × List zq_S := (([], [], [], [], [], [], [(261, [(0, [(0, 1)]), (0, [(1, 1)]), (0, [(2, 1)]), (0, [(3, 1)]), (0, [(4, 1)]), (0, [(5, 1)]), (0, [(6, 1)]), (0, [(7, 1)]), (0, [(8, 1)])])], 9), [([], [], [], [], [], [], [(274, [(0, [(0, 1)]), (0, [(1, 1)]), (0, [(2, 1)]), (0, [(3, 1)]), (0, [(4, 1)]), (0, [(5, 1)]), (0, [(6, 1)]), (0, [(7, 1)]), (0, [(8, 1)]), (0, [(9, 1)]), (0, []), (0, [])]), (271, [(0, [(3, 1)]), (0, [(8, 1)]), (0, [(9, 1)])])], 10)])
theorem zh_x0d_l {P : zq_Ty} {h : zq_H} {ak at_ as_ ac o g n m z : Int} (k1 : zd_TX 30 31 32 33 ak at_ as_ ac o g n m z P h) : (∃ Y : Int, zr_XP 30 31 32 33 ak at_ as_ ac o g n m z Y 0 0 P h ∧ zr_CO 33 ac z Y P h) := by
  obtain ⟨q1, q2, q3, q4, b1, b2, b3, b4, Y, c1, ps, d1, d2, d3⟩ := k1
  exact ⟨Y, ⟨q1, q2, q3, q4, by omega, by omega, b2, b3, b4, c1, ps, d1, d2, d1, d3⟩, q4, ⟨b3, b4⟩, c1⟩
theorem zh_x0d_ok {w : zq_Wd} (x_XD : zj_is w 261 (fun q => zd_TX 30 31 32 33 (q 0) (q 1) (q 2) (q 3) (q 4) (q 5) (q 6) (q 7) (q 8))) (x_XO : zj_is w 274 (fun q => zr_XP 30 31 32 33 (q 0) (q 1) (q 2) (q 3) (q 4) (q 5) (q 6) (q 7) (q 8) (q 9) (q 10) (q 11))) (x_CD2 : zj_is w 271 (fun q => zr_CO 33 (q 0) (q 1) (q 2))) : zq_okG1 w zh_x0d := by
  refine ⟨rfl, rfl, zu_fac ⟨rfl, by decide⟩ zq_fan, ?_⟩
  intro r P h H hM
  have q0 : zq_ev r (0, [(0, 1)]) = r 0 := zu_e1 _ _
  have q1 : zq_ev r (0, [(1, 1)]) = r 1 := zu_e1 _ _
  have q2 : zq_ev r (0, [(2, 1)]) = r 2 := zu_e1 _ _
  have q3 : zq_ev r (0, [(3, 1)]) = r 3 := zu_e1 _ _
  have q4 : zq_ev r (0, [(4, 1)]) = r 4 := zu_e1 _ _
  have q5 : zq_ev r (0, [(5, 1)]) = r 5 := zu_e1 _ _
  have q6 : zq_ev r (0, [(6, 1)]) = r 6 := zu_e1 _ _
  have q7 : zq_ev r (0, [(7, 1)]) = r 7 := zu_e1 _ _
  have q8 : zq_ev r (0, [(8, 1)]) = r 8 := zu_e1 _ _
  obtain ⟨hT, hC, hF, hS, -, hK⟩ := hM
  have c := hC.1
  have k1 := zj_use x_XD (hK)
  have k1 : zd_TX 30 31 32 33 (zq_ev r (0, [(0, 1)])) (zq_ev r (0, [(1, 1)])) (zq_ev r (0, [(2, 1)])) (zq_ev r (0, [(3, 1)])) (zq_ev r (0, [(4, 1)])) (zq_ev r (0, [(5, 1)])) (zq_ev r (0, [(6, 1)])) (zq_ev r (0, [(7, 1)])) (zq_ev r (0, [(8, 1)])) P h := k1
  simp only [q0, q1, q2, q3, q4, q5, q6, q7, q8] at k1
  obtain ⟨y_0, t1, t2⟩ := zh_x0d_l (P := P) (h := h) (ak := r 0) (at_ := r 1) (as_ := r 2) (ac := r 3) (o := r 4) (g := r 5) (n := r 6) (m := r 7) (z := r 8) k1
  obtain ⟨rq, hr, w9⟩ : ∃ rq : Nat → Int, (∀ i, i < 9 → rq i = r i) ∧ rq 9 = y_0 := ⟨zq_up r 9 y_0, fun i hi => by rw [zu_up_ne (by omega)], rfl⟩
  have v0 : rq 0 = r 0 := hr 0 (by decide)
  have v1 : rq 1 = r 1 := hr 1 (by decide)
  have v2 : rq 2 = r 2 := hr 2 (by decide)
  have v3 : rq 3 = r 3 := hr 3 (by decide)
  have v4 : rq 4 = r 4 := hr 4 (by decide)
  have v5 : rq 5 = r 5 := hr 5 (by decide)
  have v6 : rq 6 = r 6 := hr 6 (by decide)
  have v7 : rq 7 = r 7 := hr 7 (by decide)
  have v8 : rq 8 = r 8 := hr 8 (by decide)
  have g0 : zq_ev rq (0, [(3, 1)]) = r 3 := zu_f1 v3
  have g1 : zq_ev rq (0, [(8, 1)]) = r 8 := zu_f1 v8
  have g2 : zq_ev rq (0, [(9, 1)]) = y_0 := zu_f1 w9
  have g3 : zq_ev rq (0, [(0, 1)]) = r 0 := zu_f1 v0
  have g4 : zq_ev rq (0, [(1, 1)]) = r 1 := zu_f1 v1
  have g5 : zq_ev rq (0, [(2, 1)]) = r 2 := zu_f1 v2
  have g6 : zq_ev rq (0, [(4, 1)]) = r 4 := zu_f1 v4
  have g7 : zq_ev rq (0, [(5, 1)]) = r 5 := zu_f1 v5
  have g8 : zq_ev rq (0, [(6, 1)]) = r 6 := zu_f1 v6
  have g9 : zq_ev rq (0, [(7, 1)]) = r 7 := zu_f1 v7
  have g10 : zq_ev rq (0, []) = 0 := zu_e0 _ _
  exact ⟨_, List.mem_cons_self .., rq, hr, zq_MeS_mk rfl hT (zq_all_nil) zq_fan (zq_fan) rfl (zu_fac ((x_XO _ _ _).mpr (by show zr_XP 30 31 32 33 (zq_ev rq (0, [(0, 1)])) (zq_ev rq (0, [(1, 1)])) (zq_ev rq (0, [(2, 1)])) (zq_ev rq (0, [(3, 1)])) (zq_ev rq (0, [(4, 1)])) (zq_ev rq (0, [(5, 1)])) (zq_ev rq (0, [(6, 1)])) (zq_ev rq (0, [(7, 1)])) (zq_ev rq (0, [(8, 1)])) (zq_ev rq (0, [(9, 1)])) (zq_ev rq (0, [])) (zq_ev rq (0, [])) P h; simp only [g0, g1, g10, g2, g3, g4, g5, g6, g7, g8, g9]; exact t1)) (zu_fac ((x_CD2 _ _ _).mpr (by show zr_CO 33 (zq_ev rq (0, [(3, 1)])) (zq_ev rq (0, [(8, 1)])) (zq_ev rq (0, [(9, 1)])) P h; simp only [g0, g1, g2]; exact t2)) zq_fan))⟩
noncomputable def zh_x1d : zq_S × List zq_S := (([], [], [(-1, [(7, 1), (10, -1)]), (-1, [(4, 1)]), (1, [(4, -1)])], [], [], [], [(274, [(0, [(0, 1)]), (0, [(1, 1)]), (0, [(2, 1)]), (0, [(3, 1)]), (0, [(4, 1)]), (0, [(5, 1)]), (0, [(6, 1)]), (0, [(7, 1)]), (0, [(8, 1)]), (0, [(9, 1)]), (0, [(10, 1)]), (0, [(11, 1)])])], 12), [([], [], [(-17, [(12, 1)]), (20, [(12, -1)]), (1, [(17, 1)]), (448, [(17, -1)])], [], [((0, [(0, 1)]), (0, [(10, 1)]), (0, [(12, 1)])), ((0, [(1, 1)]), (0, [(10, 1)]), (0, [(13, 1)])), ((0, [(2, 1)]), (0, [(10, 4)]), (0, [(14, 1)])), ((0, [(2, 1)]), (1, [(10, 4)]), (0, [(15, 1)])), ((0, [(2, 1)]), (2, [(10, 4)]), (0, [(16, 1)])), ((0, [(2, 1)]), (3, [(10, 4)]), (0, [(17, 1)]))], [], [(259, [(0, [(4, 1)]), (0, [(5, 1)]), (0, [(6, 1)]), (0, [(9, 1)]), (0, [(8, 1)]), (0, [(12, 1)]), (0, [(13, 1)]), (0, [(14, 1)]), (0, [(15, 1)]), (0, [(16, 1)]), (0, [(11, 1)]), (0, [(18, 1)])]), (256, [(0, [(4, 1)]), (0, [(5, 1)]), (0, [(6, 1)]), (0, [(9, 1)]), (0, [(8, 1)]), (0, [(17, 1)]), (0, [(18, 1)]), (0, [(19, 1)])]), (274, [(0, [(0, 1)]), (0, [(1, 1)]), (0, [(2, 1)]), (0, [(3, 1)]), (0, [(4, 1)]), (0, [(5, 1)]), (0, [(6, 1)]), (0, [(7, 1)]), (0, [(8, 1)]), (0, [(9, 1)]), (1, [(10, 1)]), (0, [(19, 1)])])], 20)])
theorem zh_x1d_l {P : zq_Ty} {h : zq_H} {ak at_ as_ ac o g n m z Y c p : Int} (a1 : 0 ≤ m - c - 1) (a2 : 0 ≤ o - 1) (a3 : 0 ≤ -o + 1) (k1 : zr_XP 30 31 32 33 ak at_ as_ ac o g n m z Y c p P h) : (∃ k t a b e d f w : Int, 0 ≤ k - 17 ∧ 0 ≤ -k + 20 ∧ 0 ≤ d + 1 ∧ 0 ≤ -d + 448 ∧ (0 ≤ ak ∧ P (ak).toNat ≠ none ∧ h (ak).toNat c = k) ∧ (0 ≤ at_ ∧ P (at_).toNat ≠ none ∧ h (at_).toNat c = t) ∧ (0 ≤ as_ ∧ P (as_).toNat ≠ none ∧ h (as_).toNat (4 * c) = a) ∧ (0 ≤ as_ ∧ P (as_).toNat ≠ none ∧ h (as_).toNat (4 * c + 1) = b) ∧ (0 ≤ as_ ∧ P (as_).toNat ≠ none ∧ h (as_).toNat (4 * c + 2) = e) ∧ (0 ≤ as_ ∧ P (as_).toNat ≠ none ∧ h (as_).toNat (4 * c + 3) = d) ∧ zd_CB o g n Y z k t a b e p f P h ∧ zd_CI o g n Y z d f w P h ∧ zr_XP 30 31 32 33 ak at_ as_ ac o g n m z Y (c + 1) w P h) := by
  obtain ⟨q1, q2, q3, q4, b1_, b2_, b3_, b4_, b5_, c1, ps, d1, d2, d3, d4⟩ := k1
  have q := d4 c b1_ (by omega)
  rw [d3] at q
  obtain ⟨f, u1, u2⟩ := q
  have hk : 17 ≤ h ak.toNat c ∧ h ak.toNat c ≤ 20 := by
    rcases u1 with ⟨_, _, ⟨h1, _⟩ | ⟨h1, _⟩⟩ | ⟨_, _, ⟨h1, _⟩ | ⟨h1, _⟩ | ⟨h1, _⟩ | ⟨h1, _⟩, _⟩ <;> omega
  have hd : -1 ≤ h as_.toNat (4 * c + 3) ∧ h as_.toNat (4 * c + 3) ≤ 448 := by
    rcases u2 with ⟨h1, _⟩ | ⟨h1, _, e, ⟨t, h2, _, h3⟩, _⟩
    · omega
    · have := h2.1.2.1
      omega
  have pn : ∀ {x : Int} {k : Nat}, zn_on x k P → P x.toNat ≠ none := fun z => by rw [z.2]; exact Option.some_ne_none _
  exact ⟨h ak.toNat c, h at_.toNat c, h as_.toNat (4 * c), h as_.toNat (4 * c + 1), h as_.toNat (4 * c + 2), h as_.toNat (4 * c + 3), f, ps (c + 1), by omega, by omega, by omega, by omega, ⟨q1.1, pn q1, rfl⟩, ⟨q2.1, pn q2, rfl⟩, ⟨q3.1, pn q3, rfl⟩, ⟨q3.1, pn q3, rfl⟩, ⟨q3.1, pn q3, rfl⟩, ⟨q3.1, pn q3, rfl⟩, u1, u2, q1, q2, q3, q4, by omega, by omega, b3_, b4_, b5_, c1, ps, d1, d2, rfl, d4⟩
theorem zh_x1d_ok {w : zq_Wd} (x_XO : zj_is w 274 (fun q => zr_XP 30 31 32 33 (q 0) (q 1) (q 2) (q 3) (q 4) (q 5) (q 6) (q 7) (q 8) (q 9) (q 10) (q 11))) (x_CB : zj_is w 259 (fun q => zd_CB (q 0) (q 1) (q 2) (q 3) (q 4) (q 5) (q 6) (q 7) (q 8) (q 9) (q 10) (q 11))) (x_CI : zj_is w 256 (fun q => zd_CI (q 0) (q 1) (q 2) (q 3) (q 4) (q 5) (q 6) (q 7))) : zq_okG1 w zh_x1d := by
  refine ⟨rfl, rfl, zu_fac ⟨rfl, by decide⟩ zq_fan, ?_⟩
  intro r P h H hM
  have q0 : zq_ev r (-1, [(7, 1), (10, -1)]) = r 7 - r 10 - 1 := by simp only [zq_ev, zq_ts] <;> omega
  have q1 : zq_ev r (-1, [(4, 1)]) = r 4 - 1 := zu_e3 _ _ _
  have q2 : zq_ev r (1, [(4, -1)]) = -r 4 + 1 := zu_e5 _ _ _
  have q3 : zq_ev r (0, [(0, 1)]) = r 0 := zu_e1 _ _
  have q4 : zq_ev r (0, [(1, 1)]) = r 1 := zu_e1 _ _
  have q5 : zq_ev r (0, [(2, 1)]) = r 2 := zu_e1 _ _
  have q6 : zq_ev r (0, [(3, 1)]) = r 3 := zu_e1 _ _
  have q7 : zq_ev r (0, [(4, 1)]) = r 4 := zu_e1 _ _
  have q8 : zq_ev r (0, [(5, 1)]) = r 5 := zu_e1 _ _
  have q9 : zq_ev r (0, [(6, 1)]) = r 6 := zu_e1 _ _
  have q10 : zq_ev r (0, [(7, 1)]) = r 7 := zu_e1 _ _
  have q11 : zq_ev r (0, [(8, 1)]) = r 8 := zu_e1 _ _
  have q12 : zq_ev r (0, [(9, 1)]) = r 9 := zu_e1 _ _
  have q13 : zq_ev r (0, [(10, 1)]) = r 10 := zu_e1 _ _
  have q14 : zq_ev r (0, [(11, 1)]) = r 11 := zu_e1 _ _
  obtain ⟨hT, hC, hF, hS, -, hK⟩ := hM
  have c := hC.1
  have a1 := zq_all_1 c
  rw [q0] at a1
  have c := zq_all_t c
  have a2 := zq_all_1 c
  rw [q1] at a2
  have c := zq_all_t c
  have a3 := zq_all_1 c
  rw [q2] at a3
  have k1 := zj_use x_XO (hK)
  have k1 : zr_XP 30 31 32 33 (zq_ev r (0, [(0, 1)])) (zq_ev r (0, [(1, 1)])) (zq_ev r (0, [(2, 1)])) (zq_ev r (0, [(3, 1)])) (zq_ev r (0, [(4, 1)])) (zq_ev r (0, [(5, 1)])) (zq_ev r (0, [(6, 1)])) (zq_ev r (0, [(7, 1)])) (zq_ev r (0, [(8, 1)])) (zq_ev r (0, [(9, 1)])) (zq_ev r (0, [(10, 1)])) (zq_ev r (0, [(11, 1)])) P h := k1
  simp only [q10, q11, q12, q13, q14, q3, q4, q5, q6, q7, q8, q9] at k1
  obtain ⟨y_0, y_1, y_2, y_3, y_4, y_5, y_6, y_7, c1, c2, c3, c4, d1, d2, d3, d4, d5, d6, t1, t2, t3⟩ := zh_x1d_l (P := P) (h := h) (ak := r 0) (at_ := r 1) (as_ := r 2) (ac := r 3) (o := r 4) (g := r 5) (n := r 6) (m := r 7) (z := r 8) (Y := r 9) (c := r 10) (p := r 11) a1 a2 a3 k1
  obtain ⟨rq, hr, w12, w13, w14, w15, w16, w17, w18, w19⟩ : ∃ rq : Nat → Int, (∀ i, i < 12 → rq i = r i) ∧ rq 12 = y_0 ∧ rq 13 = y_1 ∧ rq 14 = y_2 ∧ rq 15 = y_3 ∧ rq 16 = y_4 ∧ rq 17 = y_5 ∧ rq 18 = y_6 ∧ rq 19 = y_7 := ⟨zq_up (zq_up (zq_up (zq_up (zq_up (zq_up (zq_up (zq_up r 12 y_0) 13 y_1) 14 y_2) 15 y_3) 16 y_4) 17 y_5) 18 y_6) 19 y_7, fun i hi => by rw [zu_up_ne (by omega)]; rw [zu_up_ne (by omega)]; rw [zu_up_ne (by omega)]; rw [zu_up_ne (by omega)]; rw [zu_up_ne (by omega)]; rw [zu_up_ne (by omega)]; rw [zu_up_ne (by omega)]; rw [zu_up_ne (by omega)], rfl, rfl, rfl, rfl, rfl, rfl, rfl, rfl⟩
  have v0 : rq 0 = r 0 := hr 0 (by decide)
  have v1 : rq 1 = r 1 := hr 1 (by decide)
  have v2 : rq 2 = r 2 := hr 2 (by decide)
  have v3 : rq 3 = r 3 := hr 3 (by decide)
  have v4 : rq 4 = r 4 := hr 4 (by decide)
  have v5 : rq 5 = r 5 := hr 5 (by decide)
  have v6 : rq 6 = r 6 := hr 6 (by decide)
  have v7 : rq 7 = r 7 := hr 7 (by decide)
  have v8 : rq 8 = r 8 := hr 8 (by decide)
  have v9 : rq 9 = r 9 := hr 9 (by decide)
  have v10 : rq 10 = r 10 := hr 10 (by decide)
  have v11 : rq 11 = r 11 := hr 11 (by decide)
  have g0 : zq_ev rq (448, [(17, -1)]) = -y_5 + 448 := zu_f5 w17 _
  have g1 : zq_ev rq (1, [(17, 1)]) = y_5 + 1 := zu_f2 w17 _
  have g2 : zq_ev rq (20, [(12, -1)]) = -y_0 + 20 := zu_f5 w12 _
  have g3 : zq_ev rq (-17, [(12, 1)]) = y_0 - 17 := zu_f3 w12 _
  have g4 : zq_ev rq (0, [(2, 1)]) = r 2 := zu_f1 v2
  have g5 : zq_ev rq (3, [(10, 4)]) = 4 * r 10 + 3 := by simp only [zq_ev, zq_ts, v0, v1, v2, v3, v4, v5, v6, v7, v8, v9, v10, v11, w12, w13, w14, w15, w16, w17, w18, w19] <;> omega
  have g6 : zq_ev rq (0, [(17, 1)]) = y_5 := zu_f1 w17
  have g7 : zq_ev rq (2, [(10, 4)]) = 4 * r 10 + 2 := by simp only [zq_ev, zq_ts, v0, v1, v2, v3, v4, v5, v6, v7, v8, v9, v10, v11, w12, w13, w14, w15, w16, w17, w18, w19] <;> omega
  have g8 : zq_ev rq (0, [(16, 1)]) = y_4 := zu_f1 w16
  have g9 : zq_ev rq (1, [(10, 4)]) = 4 * r 10 + 1 := by simp only [zq_ev, zq_ts, v0, v1, v2, v3, v4, v5, v6, v7, v8, v9, v10, v11, w12, w13, w14, w15, w16, w17, w18, w19] <;> omega
  have g10 : zq_ev rq (0, [(15, 1)]) = y_3 := zu_f1 w15
  have g11 : zq_ev rq (0, [(10, 4)]) = 4 * r 10 := by simp only [zq_ev, zq_ts, v0, v1, v2, v3, v4, v5, v6, v7, v8, v9, v10, v11, w12, w13, w14, w15, w16, w17, w18, w19] <;> omega
  have g12 : zq_ev rq (0, [(14, 1)]) = y_2 := zu_f1 w14
  have g13 : zq_ev rq (0, [(1, 1)]) = r 1 := zu_f1 v1
  have g14 : zq_ev rq (0, [(10, 1)]) = r 10 := zu_f1 v10
  have g15 : zq_ev rq (0, [(13, 1)]) = y_1 := zu_f1 w13
  have g16 : zq_ev rq (0, [(0, 1)]) = r 0 := zu_f1 v0
  have g17 : zq_ev rq (0, [(12, 1)]) = y_0 := zu_f1 w12
  have g18 : zq_ev rq (0, [(3, 1)]) = r 3 := zu_f1 v3
  have g19 : zq_ev rq (0, [(4, 1)]) = r 4 := zu_f1 v4
  have g20 : zq_ev rq (0, [(5, 1)]) = r 5 := zu_f1 v5
  have g21 : zq_ev rq (0, [(6, 1)]) = r 6 := zu_f1 v6
  have g22 : zq_ev rq (0, [(7, 1)]) = r 7 := zu_f1 v7
  have g23 : zq_ev rq (0, [(8, 1)]) = r 8 := zu_f1 v8
  have g24 : zq_ev rq (0, [(9, 1)]) = r 9 := zu_f1 v9
  have g25 : zq_ev rq (1, [(10, 1)]) = r 10 + 1 := zu_f2 v10 _
  have g26 : zq_ev rq (0, [(19, 1)]) = y_7 := zu_f1 w19
  have g27 : zq_ev rq (0, [(18, 1)]) = y_6 := zu_f1 w18
  have g28 : zq_ev rq (0, [(11, 1)]) = r 11 := zu_f1 v11
  exact ⟨_, List.mem_cons_self .., rq, hr, zq_MeS_mk rfl hT (zq_all_cons (by rw [g3]; exact c1) (zq_all_cons (by rw [g2]; exact c2) (zq_all_cons (by rw [g1]; exact c3) (zq_all_cons (by rw [g0]; exact c4) (zq_all_nil))))) zq_fan (zu_fac (zu_stm g16 d1.1 d1.2.1 (by simp only [g14, g17]; exact d1.2.2)) (zu_fac (zu_stm g13 d2.1 d2.2.1 (by simp only [g14, g15]; exact d2.2.2)) (zu_fac (zu_stm g4 d3.1 d3.2.1 (by simp only [g11, g12]; exact d3.2.2)) (zu_fac (zu_stm g4 d4.1 d4.2.1 (by simp only [g10, g9]; exact d4.2.2)) (zu_fac (zu_stm g4 d5.1 d5.2.1 (by simp only [g7, g8]; exact d5.2.2)) (zu_fac (zu_stm g4 d6.1 d6.2.1 (by simp only [g5, g6]; exact d6.2.2)) (zq_fan))))))) rfl (zu_fac ((x_CB _ _ _).mpr (by show zd_CB (zq_ev rq (0, [(4, 1)])) (zq_ev rq (0, [(5, 1)])) (zq_ev rq (0, [(6, 1)])) (zq_ev rq (0, [(9, 1)])) (zq_ev rq (0, [(8, 1)])) (zq_ev rq (0, [(12, 1)])) (zq_ev rq (0, [(13, 1)])) (zq_ev rq (0, [(14, 1)])) (zq_ev rq (0, [(15, 1)])) (zq_ev rq (0, [(16, 1)])) (zq_ev rq (0, [(11, 1)])) (zq_ev rq (0, [(18, 1)])) P h; simp only [g10, g12, g15, g17, g19, g20, g21, g23, g24, g27, g28, g8]; exact t1)) (zu_fac ((x_CI _ _ _).mpr (by show zd_CI (zq_ev rq (0, [(4, 1)])) (zq_ev rq (0, [(5, 1)])) (zq_ev rq (0, [(6, 1)])) (zq_ev rq (0, [(9, 1)])) (zq_ev rq (0, [(8, 1)])) (zq_ev rq (0, [(17, 1)])) (zq_ev rq (0, [(18, 1)])) (zq_ev rq (0, [(19, 1)])) P h; simp only [g19, g20, g21, g23, g24, g26, g27, g6]; exact t2)) (zu_fac ((x_XO _ _ _).mpr (by show zr_XP 30 31 32 33 (zq_ev rq (0, [(0, 1)])) (zq_ev rq (0, [(1, 1)])) (zq_ev rq (0, [(2, 1)])) (zq_ev rq (0, [(3, 1)])) (zq_ev rq (0, [(4, 1)])) (zq_ev rq (0, [(5, 1)])) (zq_ev rq (0, [(6, 1)])) (zq_ev rq (0, [(7, 1)])) (zq_ev rq (0, [(8, 1)])) (zq_ev rq (0, [(9, 1)])) (zq_ev rq (1, [(10, 1)])) (zq_ev rq (0, [(19, 1)])) P h; simp only [g13, g16, g18, g19, g20, g21, g22, g23, g24, g25, g26, g4]; exact t3)) zq_fan)))⟩
noncomputable def zh_h0 : zq_S × List zq_S := (([], [], [], [], [], [], [], 6), [([], [], [], [], [], [], [(275, [(0, [(0, 1)]), (0, [(1, 1)]), (0, [(2, 1)]), (0, [(3, 1)]), (0, [(4, 1)]), (0, [(5, 1)]), (0, []), (0, [(3, 1)]), (0, [(5, 1)]), (0, [])])], 6)])
theorem zh_h0_l {P : zq_Ty} {h : zq_H} {g n W w m x : Int}  : (zr_HS g n W w m x 0 w x 0 P h) := by
  exact ⟨-4000000000, -4000000000, -4000000000, fun r hr => hr, fun r hr => hr, fun r hr => hr, by unfold zl_w1; rw [if_pos rfl], by unfold zr_o1; rw [if_pos rfl], Or.inl ⟨rfl, rfl⟩⟩
theorem zh_h0_ok {w : zq_Wd} (x_HS : zj_is w 275 (fun q => zr_HS (q 0) (q 1) (q 2) (q 3) (q 4) (q 5) (q 6) (q 7) (q 8) (q 9))) : zq_okG1 w zh_h0 := by
  refine ⟨rfl, rfl, zu_fac ⟨rfl, by decide⟩ zq_fan, ?_⟩
  intro r P h H hM
  obtain ⟨hT, hC, hF, hS, -, hK⟩ := hM
  have c := hC.1
  obtain t1 := zh_h0_l (P := P) (h := h) (g := r 0) (n := r 1) (W := r 2) (w := r 3) (m := r 4) (x := r 5) 
  obtain ⟨rq, hr⟩ : ∃ rq : Nat → Int, (∀ i, i < 6 → rq i = r i) := ⟨r, fun i hi => rfl⟩
  have v0 : rq 0 = r 0 := hr 0 (by decide)
  have v1 : rq 1 = r 1 := hr 1 (by decide)
  have v2 : rq 2 = r 2 := hr 2 (by decide)
  have v3 : rq 3 = r 3 := hr 3 (by decide)
  have v4 : rq 4 = r 4 := hr 4 (by decide)
  have v5 : rq 5 = r 5 := hr 5 (by decide)
  have g0 : zq_ev rq (0, [(0, 1)]) = r 0 := zu_f1 v0
  have g1 : zq_ev rq (0, [(1, 1)]) = r 1 := zu_f1 v1
  have g2 : zq_ev rq (0, [(2, 1)]) = r 2 := zu_f1 v2
  have g3 : zq_ev rq (0, [(3, 1)]) = r 3 := zu_f1 v3
  have g4 : zq_ev rq (0, [(4, 1)]) = r 4 := zu_f1 v4
  have g5 : zq_ev rq (0, [(5, 1)]) = r 5 := zu_f1 v5
  have g6 : zq_ev rq (0, []) = 0 := zu_e0 _ _
  exact ⟨_, List.mem_cons_self .., rq, hr, zq_MeS_mk rfl hT (zq_all_nil) zq_fan (zq_fan) rfl (zu_fac ((x_HS _ _ _).mpr (by show zr_HS (zq_ev rq (0, [(0, 1)])) (zq_ev rq (0, [(1, 1)])) (zq_ev rq (0, [(2, 1)])) (zq_ev rq (0, [(3, 1)])) (zq_ev rq (0, [(4, 1)])) (zq_ev rq (0, [(5, 1)])) (zq_ev rq (0, [])) (zq_ev rq (0, [(3, 1)])) (zq_ev rq (0, [(5, 1)])) (zq_ev rq (0, [])) P h; simp only [g0, g1, g2, g3, g4, g5, g6]; exact t1)) zq_fan)⟩
noncomputable def zh_hn : zq_S × List zq_S := (([], [], [], [], [], [], [(275, [(0, [(0, 1)]), (0, [(1, 1)]), (0, [(2, 1)]), (0, [(3, 1)]), (0, [(4, 1)]), (0, [(5, 1)]), (0, [(13, 1)]), (0, [(16, 1)]), (0, [(17, 1)]), (0, [(18, 1)])]), (259, [(0, []), (0, [(0, 1)]), (0, [(1, 1)]), (0, [(6, 1)]), (0, [(7, 1)]), (0, [(8, 1)]), (0, [(9, 1)]), (0, [(10, 1)]), (0, [(11, 1)]), (0, [(12, 1)]), (0, [(13, 1)]), (0, [(14, 1)])]), (272, [(0, []), (0, [(0, 1)]), (0, [(1, 1)]), (0, [(2, 1)]), (0, [(14, 1)]), (0, [(15, 1)]), (0, [])])], 19), [([], [], [], [], [], [], [(275, [(0, [(0, 1)]), (0, [(1, 1)]), (0, [(2, 1)]), (0, [(3, 1)]), (0, [(4, 1)]), (0, [(5, 1)]), (0, [(15, 1)]), (0, [(16, 1)]), (0, [(17, 1)]), (0, [(18, 1)])])], 19)])
theorem zh_hn_l {P : zq_Ty} {h : zq_H} {g n W w m x Y z k t a b c p e q A O B : Int} (k1 : zr_HS g n W w m x p A O B P h) (k2 : zd_CB 0 g n Y z k t a b c p e P h) (k3 : zr_IS 0 g n W e q 0 P h) : (zr_HS g n W w m x q A O B P h) := by
  obtain ⟨a1_, a2_, a3_, l1, l2, l3, hA, hO, hB⟩ := k1
  exact ⟨a1_, a2_, a3_, zr_LW_go l1 (zr_row0 k2 k3), zr_LW_go l2 (zr_row0 k2 k3), zr_LW_go l3 (zr_row0 k2 k3), hA, hO, hB⟩
theorem zh_hn_ok {w : zq_Wd} (x_HS : zj_is w 275 (fun q => zr_HS (q 0) (q 1) (q 2) (q 3) (q 4) (q 5) (q 6) (q 7) (q 8) (q 9))) (x_CB : zj_is w 259 (fun q => zd_CB (q 0) (q 1) (q 2) (q 3) (q 4) (q 5) (q 6) (q 7) (q 8) (q 9) (q 10) (q 11))) (x_IS : zj_is w 272 (fun q => zr_IS (q 0) (q 1) (q 2) (q 3) (q 4) (q 5) (q 6))) : zq_okG1 w zh_hn := by
  refine ⟨rfl, rfl, zu_fac ⟨rfl, by decide⟩ zq_fan, ?_⟩
  intro r P h H hM
  have q0 : zq_ev r (0, [(0, 1)]) = r 0 := zu_e1 _ _
  have q1 : zq_ev r (0, [(1, 1)]) = r 1 := zu_e1 _ _
  have q2 : zq_ev r (0, [(2, 1)]) = r 2 := zu_e1 _ _
  have q3 : zq_ev r (0, [(3, 1)]) = r 3 := zu_e1 _ _
  have q4 : zq_ev r (0, [(4, 1)]) = r 4 := zu_e1 _ _
  have q5 : zq_ev r (0, [(5, 1)]) = r 5 := zu_e1 _ _
  have q6 : zq_ev r (0, [(13, 1)]) = r 13 := zu_e1 _ _
  have q7 : zq_ev r (0, [(16, 1)]) = r 16 := zu_e1 _ _
  have q8 : zq_ev r (0, [(17, 1)]) = r 17 := zu_e1 _ _
  have q9 : zq_ev r (0, [(18, 1)]) = r 18 := zu_e1 _ _
  have q10 : zq_ev r (0, []) = 0 := zu_e0 _ _
  have q11 : zq_ev r (0, [(6, 1)]) = r 6 := zu_e1 _ _
  have q12 : zq_ev r (0, [(7, 1)]) = r 7 := zu_e1 _ _
  have q13 : zq_ev r (0, [(8, 1)]) = r 8 := zu_e1 _ _
  have q14 : zq_ev r (0, [(9, 1)]) = r 9 := zu_e1 _ _
  have q15 : zq_ev r (0, [(10, 1)]) = r 10 := zu_e1 _ _
  have q16 : zq_ev r (0, [(11, 1)]) = r 11 := zu_e1 _ _
  have q17 : zq_ev r (0, [(12, 1)]) = r 12 := zu_e1 _ _
  have q18 : zq_ev r (0, [(14, 1)]) = r 14 := zu_e1 _ _
  have q19 : zq_ev r (0, [(15, 1)]) = r 15 := zu_e1 _ _
  obtain ⟨hT, hC, hF, hS, -, hK⟩ := hM
  have c := hC.1
  have k1 := zj_use x_HS (hK)
  have k1 : zr_HS (zq_ev r (0, [(0, 1)])) (zq_ev r (0, [(1, 1)])) (zq_ev r (0, [(2, 1)])) (zq_ev r (0, [(3, 1)])) (zq_ev r (0, [(4, 1)])) (zq_ev r (0, [(5, 1)])) (zq_ev r (0, [(13, 1)])) (zq_ev r (0, [(16, 1)])) (zq_ev r (0, [(17, 1)])) (zq_ev r (0, [(18, 1)])) P h := k1
  simp only [q0, q1, q2, q3, q4, q5, q6, q7, q8, q9] at k1
  have k2 := zj_use x_CB (zq_okX_t (hK))
  have k2 : zd_CB (zq_ev r (0, [])) (zq_ev r (0, [(0, 1)])) (zq_ev r (0, [(1, 1)])) (zq_ev r (0, [(6, 1)])) (zq_ev r (0, [(7, 1)])) (zq_ev r (0, [(8, 1)])) (zq_ev r (0, [(9, 1)])) (zq_ev r (0, [(10, 1)])) (zq_ev r (0, [(11, 1)])) (zq_ev r (0, [(12, 1)])) (zq_ev r (0, [(13, 1)])) (zq_ev r (0, [(14, 1)])) P h := k2
  simp only [q0, q1, q10, q11, q12, q13, q14, q15, q16, q17, q18, q6] at k2
  have k3 := zj_use x_IS (zq_okX_t (zq_okX_t (hK)))
  have k3 : zr_IS (zq_ev r (0, [])) (zq_ev r (0, [(0, 1)])) (zq_ev r (0, [(1, 1)])) (zq_ev r (0, [(2, 1)])) (zq_ev r (0, [(14, 1)])) (zq_ev r (0, [(15, 1)])) (zq_ev r (0, [])) P h := k3
  simp only [q0, q1, q10, q18, q19, q2] at k3
  obtain t1 := zh_hn_l (P := P) (h := h) (g := r 0) (n := r 1) (W := r 2) (w := r 3) (m := r 4) (x := r 5) (Y := r 6) (z := r 7) (k := r 8) (t := r 9) (a := r 10) (b := r 11) (c := r 12) (p := r 13) (e := r 14) (q := r 15) (A := r 16) (O := r 17) (B := r 18) k1 k2 k3
  obtain ⟨rq, hr⟩ : ∃ rq : Nat → Int, (∀ i, i < 19 → rq i = r i) := ⟨r, fun i hi => rfl⟩
  have v0 : rq 0 = r 0 := hr 0 (by decide)
  have v1 : rq 1 = r 1 := hr 1 (by decide)
  have v2 : rq 2 = r 2 := hr 2 (by decide)
  have v3 : rq 3 = r 3 := hr 3 (by decide)
  have v4 : rq 4 = r 4 := hr 4 (by decide)
  have v5 : rq 5 = r 5 := hr 5 (by decide)
  have v15 : rq 15 = r 15 := hr 15 (by decide)
  have v16 : rq 16 = r 16 := hr 16 (by decide)
  have v17 : rq 17 = r 17 := hr 17 (by decide)
  have v18 : rq 18 = r 18 := hr 18 (by decide)
  have g0 : zq_ev rq (0, [(0, 1)]) = r 0 := zu_f1 v0
  have g1 : zq_ev rq (0, [(1, 1)]) = r 1 := zu_f1 v1
  have g2 : zq_ev rq (0, [(2, 1)]) = r 2 := zu_f1 v2
  have g3 : zq_ev rq (0, [(3, 1)]) = r 3 := zu_f1 v3
  have g4 : zq_ev rq (0, [(4, 1)]) = r 4 := zu_f1 v4
  have g5 : zq_ev rq (0, [(5, 1)]) = r 5 := zu_f1 v5
  have g6 : zq_ev rq (0, [(15, 1)]) = r 15 := zu_f1 v15
  have g7 : zq_ev rq (0, [(16, 1)]) = r 16 := zu_f1 v16
  have g8 : zq_ev rq (0, [(17, 1)]) = r 17 := zu_f1 v17
  have g9 : zq_ev rq (0, [(18, 1)]) = r 18 := zu_f1 v18
  exact ⟨_, List.mem_cons_self .., rq, hr, zq_MeS_mk rfl hT (zq_all_nil) zq_fan (zq_fan) rfl (zu_fac ((x_HS _ _ _).mpr (by show zr_HS (zq_ev rq (0, [(0, 1)])) (zq_ev rq (0, [(1, 1)])) (zq_ev rq (0, [(2, 1)])) (zq_ev rq (0, [(3, 1)])) (zq_ev rq (0, [(4, 1)])) (zq_ev rq (0, [(5, 1)])) (zq_ev rq (0, [(15, 1)])) (zq_ev rq (0, [(16, 1)])) (zq_ev rq (0, [(17, 1)])) (zq_ev rq (0, [(18, 1)])) P h; simp only [g0, g1, g2, g3, g4, g5, g6, g7, g8, g9]; exact t1)) zq_fan)⟩
noncomputable def zh_hb : zq_S × List zq_S := (([], [], [(-16, [(8, 1)]), (16, [(8, -1)])], [], [], [], [(275, [(0, [(0, 1)]), (0, [(1, 1)]), (0, [(2, 1)]), (0, [(3, 1)]), (0, [(4, 1)]), (0, [(5, 1)]), (0, [(13, 1)]), (0, [(16, 1)]), (0, [(17, 1)]), (0, [(18, 1)])]), (259, [(0, []), (0, [(0, 1)]), (0, [(1, 1)]), (0, [(6, 1)]), (0, [(7, 1)]), (0, [(8, 1)]), (0, [(9, 1)]), (0, [(10, 1)]), (0, [(11, 1)]), (0, [(12, 1)]), (0, [(13, 1)]), (0, [(14, 1)])]), (272, [(0, []), (0, [(0, 1)]), (0, [(1, 1)]), (0, [(2, 1)]), (0, [(14, 1)]), (0, [(15, 1)]), (1, [])])], 19), [([], [], [], [], [], [], [(275, [(0, [(0, 1)]), (0, [(1, 1)]), (0, [(2, 1)]), (0, [(3, 1)]), (0, [(4, 1)]), (0, [(5, 1)]), (0, [(15, 1)]), (0, [(16, 1)]), (0, [(17, 1)]), (1, [])])], 19)])
theorem zh_hb_l {P : zq_Ty} {h : zq_H} {g n W w m x Y z k t a b c p e q A O B : Int} (a1 : 0 ≤ k - 16) (a2 : 0 ≤ -k + 16) (k1 : zr_HS g n W w m x p A O B P h) (k2 : zd_CB 0 g n Y z k t a b c p e P h) (k3 : zr_IS 0 g n W e q 1 P h) : (zr_HS g n W w m x q A O 1 P h) := by
  obtain ⟨a1_, a2_, a3_, l1, l2, l3, hA, hO, hB⟩ := k1
  refine ⟨a1_, a2_, 1, zr_LW_go l1 (fun r hr => zr_row3 k2 (by omega) k3 r (by rw [if_neg (by decide)]; exact hr)), zr_LW_go l2 (fun r hr => zr_row3 k2 (by omega) k3 r (by rw [if_neg (by decide)]; exact hr)), zr_LW_go l3 (fun r hr => zr_row3 k2 (by omega) k3 r (by rw [if_pos rfl]; exact hr)), hA, hO, Or.inr ⟨by decide, rfl⟩⟩
theorem zh_hb_ok {w : zq_Wd} (x_HS : zj_is w 275 (fun q => zr_HS (q 0) (q 1) (q 2) (q 3) (q 4) (q 5) (q 6) (q 7) (q 8) (q 9))) (x_CB : zj_is w 259 (fun q => zd_CB (q 0) (q 1) (q 2) (q 3) (q 4) (q 5) (q 6) (q 7) (q 8) (q 9) (q 10) (q 11))) (x_IS : zj_is w 272 (fun q => zr_IS (q 0) (q 1) (q 2) (q 3) (q 4) (q 5) (q 6))) : zq_okG1 w zh_hb := by
  refine ⟨rfl, rfl, zu_fac ⟨rfl, by decide⟩ zq_fan, ?_⟩
  intro r P h H hM
  have q0 : zq_ev r (-16, [(8, 1)]) = r 8 - 16 := zu_e3 _ _ _
  have q1 : zq_ev r (16, [(8, -1)]) = -r 8 + 16 := zu_e5 _ _ _
  have q2 : zq_ev r (0, [(0, 1)]) = r 0 := zu_e1 _ _
  have q3 : zq_ev r (0, [(1, 1)]) = r 1 := zu_e1 _ _
  have q4 : zq_ev r (0, [(2, 1)]) = r 2 := zu_e1 _ _
  have q5 : zq_ev r (0, [(3, 1)]) = r 3 := zu_e1 _ _
  have q6 : zq_ev r (0, [(4, 1)]) = r 4 := zu_e1 _ _
  have q7 : zq_ev r (0, [(5, 1)]) = r 5 := zu_e1 _ _
  have q8 : zq_ev r (0, [(13, 1)]) = r 13 := zu_e1 _ _
  have q9 : zq_ev r (0, [(16, 1)]) = r 16 := zu_e1 _ _
  have q10 : zq_ev r (0, [(17, 1)]) = r 17 := zu_e1 _ _
  have q11 : zq_ev r (0, [(18, 1)]) = r 18 := zu_e1 _ _
  have q12 : zq_ev r (0, []) = 0 := zu_e0 _ _
  have q13 : zq_ev r (0, [(6, 1)]) = r 6 := zu_e1 _ _
  have q14 : zq_ev r (0, [(7, 1)]) = r 7 := zu_e1 _ _
  have q15 : zq_ev r (0, [(8, 1)]) = r 8 := zu_e1 _ _
  have q16 : zq_ev r (0, [(9, 1)]) = r 9 := zu_e1 _ _
  have q17 : zq_ev r (0, [(10, 1)]) = r 10 := zu_e1 _ _
  have q18 : zq_ev r (0, [(11, 1)]) = r 11 := zu_e1 _ _
  have q19 : zq_ev r (0, [(12, 1)]) = r 12 := zu_e1 _ _
  have q20 : zq_ev r (0, [(14, 1)]) = r 14 := zu_e1 _ _
  have q21 : zq_ev r (0, [(15, 1)]) = r 15 := zu_e1 _ _
  have q22 : zq_ev r (1, []) = 1 := zu_e0 _ _
  obtain ⟨hT, hC, hF, hS, -, hK⟩ := hM
  have c := hC.1
  have a1 := zq_all_1 c
  rw [q0] at a1
  have c := zq_all_t c
  have a2 := zq_all_1 c
  rw [q1] at a2
  have k1 := zj_use x_HS (hK)
  have k1 : zr_HS (zq_ev r (0, [(0, 1)])) (zq_ev r (0, [(1, 1)])) (zq_ev r (0, [(2, 1)])) (zq_ev r (0, [(3, 1)])) (zq_ev r (0, [(4, 1)])) (zq_ev r (0, [(5, 1)])) (zq_ev r (0, [(13, 1)])) (zq_ev r (0, [(16, 1)])) (zq_ev r (0, [(17, 1)])) (zq_ev r (0, [(18, 1)])) P h := k1
  simp only [q10, q11, q2, q3, q4, q5, q6, q7, q8, q9] at k1
  have k2 := zj_use x_CB (zq_okX_t (hK))
  have k2 : zd_CB (zq_ev r (0, [])) (zq_ev r (0, [(0, 1)])) (zq_ev r (0, [(1, 1)])) (zq_ev r (0, [(6, 1)])) (zq_ev r (0, [(7, 1)])) (zq_ev r (0, [(8, 1)])) (zq_ev r (0, [(9, 1)])) (zq_ev r (0, [(10, 1)])) (zq_ev r (0, [(11, 1)])) (zq_ev r (0, [(12, 1)])) (zq_ev r (0, [(13, 1)])) (zq_ev r (0, [(14, 1)])) P h := k2
  simp only [q12, q13, q14, q15, q16, q17, q18, q19, q2, q20, q3, q8] at k2
  have k3 := zj_use x_IS (zq_okX_t (zq_okX_t (hK)))
  have k3 : zr_IS (zq_ev r (0, [])) (zq_ev r (0, [(0, 1)])) (zq_ev r (0, [(1, 1)])) (zq_ev r (0, [(2, 1)])) (zq_ev r (0, [(14, 1)])) (zq_ev r (0, [(15, 1)])) (zq_ev r (1, [])) P h := k3
  simp only [q12, q2, q20, q21, q22, q3, q4] at k3
  obtain t1 := zh_hb_l (P := P) (h := h) (g := r 0) (n := r 1) (W := r 2) (w := r 3) (m := r 4) (x := r 5) (Y := r 6) (z := r 7) (k := r 8) (t := r 9) (a := r 10) (b := r 11) (c := r 12) (p := r 13) (e := r 14) (q := r 15) (A := r 16) (O := r 17) (B := r 18) a1 a2 k1 k2 k3
  obtain ⟨rq, hr⟩ : ∃ rq : Nat → Int, (∀ i, i < 19 → rq i = r i) := ⟨r, fun i hi => rfl⟩
  have v0 : rq 0 = r 0 := hr 0 (by decide)
  have v1 : rq 1 = r 1 := hr 1 (by decide)
  have v2 : rq 2 = r 2 := hr 2 (by decide)
  have v3 : rq 3 = r 3 := hr 3 (by decide)
  have v4 : rq 4 = r 4 := hr 4 (by decide)
  have v5 : rq 5 = r 5 := hr 5 (by decide)
  have v15 : rq 15 = r 15 := hr 15 (by decide)
  have v16 : rq 16 = r 16 := hr 16 (by decide)
  have v17 : rq 17 = r 17 := hr 17 (by decide)
  have g0 : zq_ev rq (0, [(0, 1)]) = r 0 := zu_f1 v0
  have g1 : zq_ev rq (0, [(1, 1)]) = r 1 := zu_f1 v1
  have g2 : zq_ev rq (0, [(2, 1)]) = r 2 := zu_f1 v2
  have g3 : zq_ev rq (0, [(3, 1)]) = r 3 := zu_f1 v3
  have g4 : zq_ev rq (0, [(4, 1)]) = r 4 := zu_f1 v4
  have g5 : zq_ev rq (0, [(5, 1)]) = r 5 := zu_f1 v5
  have g6 : zq_ev rq (0, [(15, 1)]) = r 15 := zu_f1 v15
  have g7 : zq_ev rq (0, [(16, 1)]) = r 16 := zu_f1 v16
  have g8 : zq_ev rq (0, [(17, 1)]) = r 17 := zu_f1 v17
  have g9 : zq_ev rq (1, []) = 1 := zu_e0 _ _
  exact ⟨_, List.mem_cons_self .., rq, hr, zq_MeS_mk rfl hT (zq_all_nil) zq_fan (zq_fan) rfl (zu_fac ((x_HS _ _ _).mpr (by show zr_HS (zq_ev rq (0, [(0, 1)])) (zq_ev rq (0, [(1, 1)])) (zq_ev rq (0, [(2, 1)])) (zq_ev rq (0, [(3, 1)])) (zq_ev rq (0, [(4, 1)])) (zq_ev rq (0, [(5, 1)])) (zq_ev rq (0, [(15, 1)])) (zq_ev rq (0, [(16, 1)])) (zq_ev rq (0, [(17, 1)])) (zq_ev rq (1, [])) P h; simp only [g0, g1, g2, g3, g4, g5, g6, g7, g8, g9]; exact t1)) zq_fan)⟩
noncomputable def zh_hx : zq_S × List zq_S := (([], [], [(-14, [(8, 1)]), (15, [(8, -1)]), (448, [(7, -1)])], [], [], [], [(275, [(0, [(0, 1)]), (0, [(1, 1)]), (0, [(2, 1)]), (0, [(3, 1)]), (0, [(4, 1)]), (0, [(5, 1)]), (0, [(13, 1)]), (0, [(16, 1)]), (0, [(17, 1)]), (0, [(18, 1)])]), (259, [(0, []), (0, [(0, 1)]), (0, [(1, 1)]), (0, [(6, 1)]), (0, [(7, 1)]), (0, [(8, 1)]), (0, [(9, 1)]), (0, [(10, 1)]), (0, [(11, 1)]), (0, [(12, 1)]), (0, [(13, 1)]), (0, [(14, 1)])]), (272, [(0, []), (0, [(0, 1)]), (0, [(1, 1)]), (0, [(2, 1)]), (0, [(14, 1)]), (0, [(15, 1)]), (1, [])]), (266, [(0, [(19, 1)]), (0, [(6, 1)]), (0, [(7, 1)]), (0, [(10, 1)]), (1, []), (0, [(20, 1)])]), (278, [(0, [(19, 1)]), (0, [(2, 1)])])], 21), [([], [], [], [], [], [], [(275, [(0, [(0, 1)]), (0, [(1, 1)]), (0, [(2, 1)]), (0, [(3, 1)]), (0, [(4, 1)]), (0, [(5, 1)]), (0, [(15, 1)]), (0, [(16, 1)]), (0, [(17, 1)]), (0, [(18, 1)])])], 21)])
theorem zh_hx_l {P : zq_Ty} {h : zq_H} {g n W w m x Y z k t a b c p e q A O B v r : Int} (a1 : 0 ≤ k - 14) (a2 : 0 ≤ -k + 15) (a3 : 0 ≤ -z + 448) (k1 : zr_HS g n W w m x p A O B P h) (k2 : zd_CB 0 g n Y z k t a b c p e P h) (k3 : zr_IS 0 g n W e q 1 P h) (k4 : zr_RK v Y z a 1 r P h) (k5 : ze_AW 102 v W P h) : (zr_HS g n W w m x q A O B P h) := by
  obtain ⟨a1_, a2_, a3_, l1, l2, l3, hA, hO, hB⟩ := k1
  exact ⟨a1_, a2_, a3_, zr_LW_go l1 (fun r9 hr => zr_row1 (bb := 1) (v := r) k2 (by omega) k3 (by omega) (zr_cw0 k5) k4.2 r9 (by rw [if_neg (fun q9 => q9.2 rfl)]; exact hr)), zr_LW_go l2 (fun r9 hr => zr_row1 (bb := 1) (v := r) k2 (by omega) k3 (by omega) (zr_cw0 k5) k4.2 r9 (by rw [if_neg (fun q9 => q9.2 rfl)]; exact hr)), zr_LW_go l3 (fun r9 hr => zr_row1 (bb := 1) (v := r) k2 (by omega) k3 (by omega) (zr_cw0 k5) k4.2 r9 (by rw [if_neg (fun q9 => q9.2 rfl)]; exact hr)), hA, hO, hB⟩
theorem zh_hx_ok {w : zq_Wd} (x_HS : zj_is w 275 (fun q => zr_HS (q 0) (q 1) (q 2) (q 3) (q 4) (q 5) (q 6) (q 7) (q 8) (q 9))) (x_CB : zj_is w 259 (fun q => zd_CB (q 0) (q 1) (q 2) (q 3) (q 4) (q 5) (q 6) (q 7) (q 8) (q 9) (q 10) (q 11))) (x_IS : zj_is w 272 (fun q => zr_IS (q 0) (q 1) (q 2) (q 3) (q 4) (q 5) (q 6))) (x_RK : zj_is w 266 (fun q => zr_RK (q 0) (q 1) (q 2) (q 3) (q 4) (q 5))) (x_AWc : zj_is w 278 (fun q => ze_AW 102 (q 0) (q 1))) : zq_okG1 w zh_hx := by
  refine ⟨rfl, rfl, zu_fac ⟨rfl, by decide⟩ zq_fan, ?_⟩
  intro r P h H hM
  have q0 : zq_ev r (-14, [(8, 1)]) = r 8 - 14 := zu_e3 _ _ _
  have q1 : zq_ev r (15, [(8, -1)]) = -r 8 + 15 := zu_e5 _ _ _
  have q2 : zq_ev r (448, [(7, -1)]) = -r 7 + 448 := zu_e5 _ _ _
  have q3 : zq_ev r (0, [(0, 1)]) = r 0 := zu_e1 _ _
  have q4 : zq_ev r (0, [(1, 1)]) = r 1 := zu_e1 _ _
  have q5 : zq_ev r (0, [(2, 1)]) = r 2 := zu_e1 _ _
  have q6 : zq_ev r (0, [(3, 1)]) = r 3 := zu_e1 _ _
  have q7 : zq_ev r (0, [(4, 1)]) = r 4 := zu_e1 _ _
  have q8 : zq_ev r (0, [(5, 1)]) = r 5 := zu_e1 _ _
  have q9 : zq_ev r (0, [(13, 1)]) = r 13 := zu_e1 _ _
  have q10 : zq_ev r (0, [(16, 1)]) = r 16 := zu_e1 _ _
  have q11 : zq_ev r (0, [(17, 1)]) = r 17 := zu_e1 _ _
  have q12 : zq_ev r (0, [(18, 1)]) = r 18 := zu_e1 _ _
  have q13 : zq_ev r (0, []) = 0 := zu_e0 _ _
  have q14 : zq_ev r (0, [(6, 1)]) = r 6 := zu_e1 _ _
  have q15 : zq_ev r (0, [(7, 1)]) = r 7 := zu_e1 _ _
  have q16 : zq_ev r (0, [(8, 1)]) = r 8 := zu_e1 _ _
  have q17 : zq_ev r (0, [(9, 1)]) = r 9 := zu_e1 _ _
  have q18 : zq_ev r (0, [(10, 1)]) = r 10 := zu_e1 _ _
  have q19 : zq_ev r (0, [(11, 1)]) = r 11 := zu_e1 _ _
  have q20 : zq_ev r (0, [(12, 1)]) = r 12 := zu_e1 _ _
  have q21 : zq_ev r (0, [(14, 1)]) = r 14 := zu_e1 _ _
  have q22 : zq_ev r (0, [(15, 1)]) = r 15 := zu_e1 _ _
  have q23 : zq_ev r (1, []) = 1 := zu_e0 _ _
  have q24 : zq_ev r (0, [(19, 1)]) = r 19 := zu_e1 _ _
  have q25 : zq_ev r (0, [(20, 1)]) = r 20 := zu_e1 _ _
  obtain ⟨hT, hC, hF, hS, -, hK⟩ := hM
  have c := hC.1
  have a1 := zq_all_1 c
  rw [q0] at a1
  have c := zq_all_t c
  have a2 := zq_all_1 c
  rw [q1] at a2
  have c := zq_all_t c
  have a3 := zq_all_1 c
  rw [q2] at a3
  have k1 := zj_use x_HS (hK)
  have k1 : zr_HS (zq_ev r (0, [(0, 1)])) (zq_ev r (0, [(1, 1)])) (zq_ev r (0, [(2, 1)])) (zq_ev r (0, [(3, 1)])) (zq_ev r (0, [(4, 1)])) (zq_ev r (0, [(5, 1)])) (zq_ev r (0, [(13, 1)])) (zq_ev r (0, [(16, 1)])) (zq_ev r (0, [(17, 1)])) (zq_ev r (0, [(18, 1)])) P h := k1
  simp only [q10, q11, q12, q3, q4, q5, q6, q7, q8, q9] at k1
  have k2 := zj_use x_CB (zq_okX_t (hK))
  have k2 : zd_CB (zq_ev r (0, [])) (zq_ev r (0, [(0, 1)])) (zq_ev r (0, [(1, 1)])) (zq_ev r (0, [(6, 1)])) (zq_ev r (0, [(7, 1)])) (zq_ev r (0, [(8, 1)])) (zq_ev r (0, [(9, 1)])) (zq_ev r (0, [(10, 1)])) (zq_ev r (0, [(11, 1)])) (zq_ev r (0, [(12, 1)])) (zq_ev r (0, [(13, 1)])) (zq_ev r (0, [(14, 1)])) P h := k2
  simp only [q13, q14, q15, q16, q17, q18, q19, q20, q21, q3, q4, q9] at k2
  have k3 := zj_use x_IS (zq_okX_t (zq_okX_t (hK)))
  have k3 : zr_IS (zq_ev r (0, [])) (zq_ev r (0, [(0, 1)])) (zq_ev r (0, [(1, 1)])) (zq_ev r (0, [(2, 1)])) (zq_ev r (0, [(14, 1)])) (zq_ev r (0, [(15, 1)])) (zq_ev r (1, [])) P h := k3
  simp only [q13, q21, q22, q23, q3, q4, q5] at k3
  have k4 := zj_use x_RK (zq_okX_t (zq_okX_t (zq_okX_t (hK))))
  have k4 : zr_RK (zq_ev r (0, [(19, 1)])) (zq_ev r (0, [(6, 1)])) (zq_ev r (0, [(7, 1)])) (zq_ev r (0, [(10, 1)])) (zq_ev r (1, [])) (zq_ev r (0, [(20, 1)])) P h := k4
  simp only [q14, q15, q18, q23, q24, q25] at k4
  have k5 := zj_use x_AWc (zq_okX_t (zq_okX_t (zq_okX_t (zq_okX_t (hK)))))
  have k5 : ze_AW 102 (zq_ev r (0, [(19, 1)])) (zq_ev r (0, [(2, 1)])) P h := k5
  simp only [q24, q5] at k5
  obtain t1 := zh_hx_l (P := P) (h := h) (g := r 0) (n := r 1) (W := r 2) (w := r 3) (m := r 4) (x := r 5) (Y := r 6) (z := r 7) (k := r 8) (t := r 9) (a := r 10) (b := r 11) (c := r 12) (p := r 13) (e := r 14) (q := r 15) (A := r 16) (O := r 17) (B := r 18) (v := r 19) (r := r 20) a1 a2 a3 k1 k2 k3 k4 k5
  obtain ⟨rq, hr⟩ : ∃ rq : Nat → Int, (∀ i, i < 21 → rq i = r i) := ⟨r, fun i hi => rfl⟩
  have v0 : rq 0 = r 0 := hr 0 (by decide)
  have v1 : rq 1 = r 1 := hr 1 (by decide)
  have v2 : rq 2 = r 2 := hr 2 (by decide)
  have v3 : rq 3 = r 3 := hr 3 (by decide)
  have v4 : rq 4 = r 4 := hr 4 (by decide)
  have v5 : rq 5 = r 5 := hr 5 (by decide)
  have v15 : rq 15 = r 15 := hr 15 (by decide)
  have v16 : rq 16 = r 16 := hr 16 (by decide)
  have v17 : rq 17 = r 17 := hr 17 (by decide)
  have v18 : rq 18 = r 18 := hr 18 (by decide)
  have g0 : zq_ev rq (0, [(0, 1)]) = r 0 := zu_f1 v0
  have g1 : zq_ev rq (0, [(1, 1)]) = r 1 := zu_f1 v1
  have g2 : zq_ev rq (0, [(2, 1)]) = r 2 := zu_f1 v2
  have g3 : zq_ev rq (0, [(3, 1)]) = r 3 := zu_f1 v3
  have g4 : zq_ev rq (0, [(4, 1)]) = r 4 := zu_f1 v4
  have g5 : zq_ev rq (0, [(5, 1)]) = r 5 := zu_f1 v5
  have g6 : zq_ev rq (0, [(15, 1)]) = r 15 := zu_f1 v15
  have g7 : zq_ev rq (0, [(16, 1)]) = r 16 := zu_f1 v16
  have g8 : zq_ev rq (0, [(17, 1)]) = r 17 := zu_f1 v17
  have g9 : zq_ev rq (0, [(18, 1)]) = r 18 := zu_f1 v18
  exact ⟨_, List.mem_cons_self .., rq, hr, zq_MeS_mk rfl hT (zq_all_nil) zq_fan (zq_fan) rfl (zu_fac ((x_HS _ _ _).mpr (by show zr_HS (zq_ev rq (0, [(0, 1)])) (zq_ev rq (0, [(1, 1)])) (zq_ev rq (0, [(2, 1)])) (zq_ev rq (0, [(3, 1)])) (zq_ev rq (0, [(4, 1)])) (zq_ev rq (0, [(5, 1)])) (zq_ev rq (0, [(15, 1)])) (zq_ev rq (0, [(16, 1)])) (zq_ev rq (0, [(17, 1)])) (zq_ev rq (0, [(18, 1)])) P h; simp only [g0, g1, g2, g3, g4, g5, g6, g7, g8, g9]; exact t1)) zq_fan)⟩
noncomputable def zh_har : zq_S × List zq_S := (([], [], [(-14, [(8, 1)]), (14, [(8, -1)]), (448, [(7, -1)]), (2147483648, [(20, 1)]), (0, [(20, 1)]), (-1, [(4, 1), (20, -1)])], [], [], [], [(275, [(0, [(0, 1)]), (0, [(1, 1)]), (0, [(2, 1)]), (0, [(3, 1)]), (0, [(4, 1)]), (0, [(5, 1)]), (0, [(13, 1)]), (0, [(16, 1)]), (0, [(17, 1)]), (0, [(18, 1)])]), (259, [(0, []), (0, [(0, 1)]), (0, [(1, 1)]), (0, [(6, 1)]), (0, [(7, 1)]), (0, [(8, 1)]), (0, [(9, 1)]), (0, [(10, 1)]), (0, [(11, 1)]), (0, [(12, 1)]), (0, [(13, 1)]), (0, [(14, 1)])]), (272, [(0, []), (0, [(0, 1)]), (0, [(1, 1)]), (0, [(2, 1)]), (0, [(14, 1)]), (0, [(15, 1)]), (1, [])]), (266, [(0, [(19, 1)]), (0, [(6, 1)]), (0, [(7, 1)]), (0, [(10, 1)]), (0, []), (0, [(20, 1)])]), (278, [(0, [(19, 1)]), (0, [(2, 1)])])], 21), [([], [], [], [], [], [], [(275, [(0, [(0, 1)]), (0, [(1, 1)]), (0, [(2, 1)]), (0, [(3, 1)]), (0, [(4, 1)]), (0, [(5, 1)]), (0, [(15, 1)]), (0, [(20, 1)]), (0, [(17, 1)]), (0, [(18, 1)])])], 21)])
theorem zh_har_l {P : zq_Ty} {h : zq_H} {g n W w m x Y z k t a b c p e q A O B v r : Int} (a1 : 0 ≤ k - 14) (a2 : 0 ≤ -k + 14) (a3 : 0 ≤ -z + 448) (a4 : 0 ≤ r + 2147483648) (a5 : 0 ≤ r) (a6 : 0 ≤ m - r - 1) (k1 : zr_HS g n W w m x p A O B P h) (k2 : zd_CB 0 g n Y z k t a b c p e P h) (k3 : zr_IS 0 g n W e q 1 P h) (k4 : zr_RK v Y z a 0 r P h) (k5 : ze_AW 102 v W P h) : (zr_HS g n W w m x q r O B P h) := by
  obtain ⟨a1_, a2_, a3_, l1, l2, l3, hA, hO, hB⟩ := k1
  exact ⟨r, a2_, a3_, zr_LW_go l1 (fun r9 hr => zr_row1 (bb := 0) (v := r) k2 (by omega) k3 (by omega) (zr_cw0 k5) k4.2 r9 (by rw [if_pos ⟨by omega, by decide⟩]; exact hr)), zr_LW_go l2 (fun r9 hr => zr_row1 (bb := 0) (v := r) k2 (by omega) k3 (by omega) (zr_cw0 k5) k4.2 r9 (by rw [if_neg (fun q9 => by have := q9.1; omega)]; exact hr)), zr_LW_go l3 (fun r9 hr => zr_row1 (bb := 0) (v := r) k2 (by omega) k3 (by omega) (zr_cw0 k5) k4.2 r9 (by rw [if_neg (fun q9 => by have := q9.1; omega)]; exact hr)), by unfold zl_w1; rw [if_neg (by omega), if_neg (by omega)], hO, hB⟩
theorem zh_har_ok {w : zq_Wd} (x_HS : zj_is w 275 (fun q => zr_HS (q 0) (q 1) (q 2) (q 3) (q 4) (q 5) (q 6) (q 7) (q 8) (q 9))) (x_CB : zj_is w 259 (fun q => zd_CB (q 0) (q 1) (q 2) (q 3) (q 4) (q 5) (q 6) (q 7) (q 8) (q 9) (q 10) (q 11))) (x_IS : zj_is w 272 (fun q => zr_IS (q 0) (q 1) (q 2) (q 3) (q 4) (q 5) (q 6))) (x_RK : zj_is w 266 (fun q => zr_RK (q 0) (q 1) (q 2) (q 3) (q 4) (q 5))) (x_AWc : zj_is w 278 (fun q => ze_AW 102 (q 0) (q 1))) : zq_okG1 w zh_har := by
  refine ⟨rfl, rfl, zu_fac ⟨rfl, by decide⟩ zq_fan, ?_⟩
  intro r P h H hM
  have q0 : zq_ev r (-14, [(8, 1)]) = r 8 - 14 := zu_e3 _ _ _
  have q1 : zq_ev r (14, [(8, -1)]) = -r 8 + 14 := zu_e5 _ _ _
  have q2 : zq_ev r (448, [(7, -1)]) = -r 7 + 448 := zu_e5 _ _ _
  have q3 : zq_ev r (2147483648, [(20, 1)]) = r 20 + 2147483648 := zu_e2 _ _ _
  have q4 : zq_ev r (0, [(20, 1)]) = r 20 := zu_e1 _ _
  have q5 : zq_ev r (-1, [(4, 1), (20, -1)]) = r 4 - r 20 - 1 := by simp only [zq_ev, zq_ts] <;> omega
  have q6 : zq_ev r (0, [(0, 1)]) = r 0 := zu_e1 _ _
  have q7 : zq_ev r (0, [(1, 1)]) = r 1 := zu_e1 _ _
  have q8 : zq_ev r (0, [(2, 1)]) = r 2 := zu_e1 _ _
  have q9 : zq_ev r (0, [(3, 1)]) = r 3 := zu_e1 _ _
  have q10 : zq_ev r (0, [(4, 1)]) = r 4 := zu_e1 _ _
  have q11 : zq_ev r (0, [(5, 1)]) = r 5 := zu_e1 _ _
  have q12 : zq_ev r (0, [(13, 1)]) = r 13 := zu_e1 _ _
  have q13 : zq_ev r (0, [(16, 1)]) = r 16 := zu_e1 _ _
  have q14 : zq_ev r (0, [(17, 1)]) = r 17 := zu_e1 _ _
  have q15 : zq_ev r (0, [(18, 1)]) = r 18 := zu_e1 _ _
  have q16 : zq_ev r (0, []) = 0 := zu_e0 _ _
  have q17 : zq_ev r (0, [(6, 1)]) = r 6 := zu_e1 _ _
  have q18 : zq_ev r (0, [(7, 1)]) = r 7 := zu_e1 _ _
  have q19 : zq_ev r (0, [(8, 1)]) = r 8 := zu_e1 _ _
  have q20 : zq_ev r (0, [(9, 1)]) = r 9 := zu_e1 _ _
  have q21 : zq_ev r (0, [(10, 1)]) = r 10 := zu_e1 _ _
  have q22 : zq_ev r (0, [(11, 1)]) = r 11 := zu_e1 _ _
  have q23 : zq_ev r (0, [(12, 1)]) = r 12 := zu_e1 _ _
  have q24 : zq_ev r (0, [(14, 1)]) = r 14 := zu_e1 _ _
  have q25 : zq_ev r (0, [(15, 1)]) = r 15 := zu_e1 _ _
  have q26 : zq_ev r (1, []) = 1 := zu_e0 _ _
  have q27 : zq_ev r (0, [(19, 1)]) = r 19 := zu_e1 _ _
  obtain ⟨hT, hC, hF, hS, -, hK⟩ := hM
  have c := hC.1
  have a1 := zq_all_1 c
  rw [q0] at a1
  have c := zq_all_t c
  have a2 := zq_all_1 c
  rw [q1] at a2
  have c := zq_all_t c
  have a3 := zq_all_1 c
  rw [q2] at a3
  have c := zq_all_t c
  have a4 := zq_all_1 c
  rw [q3] at a4
  have c := zq_all_t c
  have a5 := zq_all_1 c
  rw [q4] at a5
  have c := zq_all_t c
  have a6 := zq_all_1 c
  rw [q5] at a6
  have k1 := zj_use x_HS (hK)
  have k1 : zr_HS (zq_ev r (0, [(0, 1)])) (zq_ev r (0, [(1, 1)])) (zq_ev r (0, [(2, 1)])) (zq_ev r (0, [(3, 1)])) (zq_ev r (0, [(4, 1)])) (zq_ev r (0, [(5, 1)])) (zq_ev r (0, [(13, 1)])) (zq_ev r (0, [(16, 1)])) (zq_ev r (0, [(17, 1)])) (zq_ev r (0, [(18, 1)])) P h := k1
  simp only [q10, q11, q12, q13, q14, q15, q6, q7, q8, q9] at k1
  have k2 := zj_use x_CB (zq_okX_t (hK))
  have k2 : zd_CB (zq_ev r (0, [])) (zq_ev r (0, [(0, 1)])) (zq_ev r (0, [(1, 1)])) (zq_ev r (0, [(6, 1)])) (zq_ev r (0, [(7, 1)])) (zq_ev r (0, [(8, 1)])) (zq_ev r (0, [(9, 1)])) (zq_ev r (0, [(10, 1)])) (zq_ev r (0, [(11, 1)])) (zq_ev r (0, [(12, 1)])) (zq_ev r (0, [(13, 1)])) (zq_ev r (0, [(14, 1)])) P h := k2
  simp only [q12, q16, q17, q18, q19, q20, q21, q22, q23, q24, q6, q7] at k2
  have k3 := zj_use x_IS (zq_okX_t (zq_okX_t (hK)))
  have k3 : zr_IS (zq_ev r (0, [])) (zq_ev r (0, [(0, 1)])) (zq_ev r (0, [(1, 1)])) (zq_ev r (0, [(2, 1)])) (zq_ev r (0, [(14, 1)])) (zq_ev r (0, [(15, 1)])) (zq_ev r (1, [])) P h := k3
  simp only [q16, q24, q25, q26, q6, q7, q8] at k3
  have k4 := zj_use x_RK (zq_okX_t (zq_okX_t (zq_okX_t (hK))))
  have k4 : zr_RK (zq_ev r (0, [(19, 1)])) (zq_ev r (0, [(6, 1)])) (zq_ev r (0, [(7, 1)])) (zq_ev r (0, [(10, 1)])) (zq_ev r (0, [])) (zq_ev r (0, [(20, 1)])) P h := k4
  simp only [q16, q17, q18, q21, q27, q4] at k4
  have k5 := zj_use x_AWc (zq_okX_t (zq_okX_t (zq_okX_t (zq_okX_t (hK)))))
  have k5 : ze_AW 102 (zq_ev r (0, [(19, 1)])) (zq_ev r (0, [(2, 1)])) P h := k5
  simp only [q27, q8] at k5
  obtain t1 := zh_har_l (P := P) (h := h) (g := r 0) (n := r 1) (W := r 2) (w := r 3) (m := r 4) (x := r 5) (Y := r 6) (z := r 7) (k := r 8) (t := r 9) (a := r 10) (b := r 11) (c := r 12) (p := r 13) (e := r 14) (q := r 15) (A := r 16) (O := r 17) (B := r 18) (v := r 19) (r := r 20) a1 a2 a3 a4 a5 a6 k1 k2 k3 k4 k5
  obtain ⟨rq, hr⟩ : ∃ rq : Nat → Int, (∀ i, i < 21 → rq i = r i) := ⟨r, fun i hi => rfl⟩
  have v0 : rq 0 = r 0 := hr 0 (by decide)
  have v1 : rq 1 = r 1 := hr 1 (by decide)
  have v2 : rq 2 = r 2 := hr 2 (by decide)
  have v3 : rq 3 = r 3 := hr 3 (by decide)
  have v4 : rq 4 = r 4 := hr 4 (by decide)
  have v5 : rq 5 = r 5 := hr 5 (by decide)
  have v15 : rq 15 = r 15 := hr 15 (by decide)
  have v17 : rq 17 = r 17 := hr 17 (by decide)
  have v18 : rq 18 = r 18 := hr 18 (by decide)
  have v20 : rq 20 = r 20 := hr 20 (by decide)
  have g0 : zq_ev rq (0, [(0, 1)]) = r 0 := zu_f1 v0
  have g1 : zq_ev rq (0, [(1, 1)]) = r 1 := zu_f1 v1
  have g2 : zq_ev rq (0, [(2, 1)]) = r 2 := zu_f1 v2
  have g3 : zq_ev rq (0, [(3, 1)]) = r 3 := zu_f1 v3
  have g4 : zq_ev rq (0, [(4, 1)]) = r 4 := zu_f1 v4
  have g5 : zq_ev rq (0, [(5, 1)]) = r 5 := zu_f1 v5
  have g6 : zq_ev rq (0, [(15, 1)]) = r 15 := zu_f1 v15
  have g7 : zq_ev rq (0, [(20, 1)]) = r 20 := zu_f1 v20
  have g8 : zq_ev rq (0, [(17, 1)]) = r 17 := zu_f1 v17
  have g9 : zq_ev rq (0, [(18, 1)]) = r 18 := zu_f1 v18
  exact ⟨_, List.mem_cons_self .., rq, hr, zq_MeS_mk rfl hT (zq_all_nil) zq_fan (zq_fan) rfl (zu_fac ((x_HS _ _ _).mpr (by show zr_HS (zq_ev rq (0, [(0, 1)])) (zq_ev rq (0, [(1, 1)])) (zq_ev rq (0, [(2, 1)])) (zq_ev rq (0, [(3, 1)])) (zq_ev rq (0, [(4, 1)])) (zq_ev rq (0, [(5, 1)])) (zq_ev rq (0, [(15, 1)])) (zq_ev rq (0, [(20, 1)])) (zq_ev rq (0, [(17, 1)])) (zq_ev rq (0, [(18, 1)])) P h; simp only [g0, g1, g2, g3, g4, g5, g6, g7, g8, g9]; exact t1)) zq_fan)⟩
noncomputable def zh_hal : zq_S × List zq_S := (([], [], [(-14, [(8, 1)]), (14, [(8, -1)]), (448, [(7, -1)]), (2147483648, [(20, 1)]), (-1, [(20, -1)])], [], [], [], [(275, [(0, [(0, 1)]), (0, [(1, 1)]), (0, [(2, 1)]), (0, [(3, 1)]), (0, [(4, 1)]), (0, [(5, 1)]), (0, [(13, 1)]), (0, [(16, 1)]), (0, [(17, 1)]), (0, [(18, 1)])]), (259, [(0, []), (0, [(0, 1)]), (0, [(1, 1)]), (0, [(6, 1)]), (0, [(7, 1)]), (0, [(8, 1)]), (0, [(9, 1)]), (0, [(10, 1)]), (0, [(11, 1)]), (0, [(12, 1)]), (0, [(13, 1)]), (0, [(14, 1)])]), (272, [(0, []), (0, [(0, 1)]), (0, [(1, 1)]), (0, [(2, 1)]), (0, [(14, 1)]), (0, [(15, 1)]), (1, [])]), (266, [(0, [(19, 1)]), (0, [(6, 1)]), (0, [(7, 1)]), (0, [(10, 1)]), (0, []), (0, [(20, 1)])]), (278, [(0, [(19, 1)]), (0, [(2, 1)])])], 21), [([], [], [], [], [], [], [(275, [(0, [(0, 1)]), (0, [(1, 1)]), (0, [(2, 1)]), (0, [(3, 1)]), (0, [(4, 1)]), (0, [(5, 1)]), (0, [(15, 1)]), (6, []), (0, [(17, 1)]), (0, [(18, 1)])])], 21)])
theorem zh_hal_l {P : zq_Ty} {h : zq_H} {g n W w m x Y z k t a b c p e q A O B v r : Int} (a1 : 0 ≤ k - 14) (a2 : 0 ≤ -k + 14) (a3 : 0 ≤ -z + 448) (a4 : 0 ≤ r + 2147483648) (a5 : 0 ≤ -r - 1) (k1 : zr_HS g n W w m x p A O B P h) (k2 : zd_CB 0 g n Y z k t a b c p e P h) (k3 : zr_IS 0 g n W e q 1 P h) (k4 : zr_RK v Y z a 0 r P h) (k5 : ze_AW 102 v W P h) : (zr_HS g n W w m x q 6 O B P h) := by
  obtain ⟨a1_, a2_, a3_, l1, l2, l3, hA, hO, hB⟩ := k1
  exact ⟨r, a2_, a3_, zr_LW_go l1 (fun r9 hr => zr_row1 (bb := 0) (v := r) k2 (by omega) k3 (by omega) (zr_cw0 k5) k4.2 r9 (by rw [if_pos ⟨by omega, by decide⟩]; exact hr)), zr_LW_go l2 (fun r9 hr => zr_row1 (bb := 0) (v := r) k2 (by omega) k3 (by omega) (zr_cw0 k5) k4.2 r9 (by rw [if_neg (fun q9 => by have := q9.1; omega)]; exact hr)), zr_LW_go l3 (fun r9 hr => zr_row1 (bb := 0) (v := r) k2 (by omega) k3 (by omega) (zr_cw0 k5) k4.2 r9 (by rw [if_neg (fun q9 => by have := q9.1; omega)]; exact hr)), by unfold zl_w1; rw [if_neg (by omega), if_pos (by omega)], hO, hB⟩
theorem zh_hal_ok {w : zq_Wd} (x_HS : zj_is w 275 (fun q => zr_HS (q 0) (q 1) (q 2) (q 3) (q 4) (q 5) (q 6) (q 7) (q 8) (q 9))) (x_CB : zj_is w 259 (fun q => zd_CB (q 0) (q 1) (q 2) (q 3) (q 4) (q 5) (q 6) (q 7) (q 8) (q 9) (q 10) (q 11))) (x_IS : zj_is w 272 (fun q => zr_IS (q 0) (q 1) (q 2) (q 3) (q 4) (q 5) (q 6))) (x_RK : zj_is w 266 (fun q => zr_RK (q 0) (q 1) (q 2) (q 3) (q 4) (q 5))) (x_AWc : zj_is w 278 (fun q => ze_AW 102 (q 0) (q 1))) : zq_okG1 w zh_hal := by
  refine ⟨rfl, rfl, zu_fac ⟨rfl, by decide⟩ zq_fan, ?_⟩
  intro r P h H hM
  have q0 : zq_ev r (-14, [(8, 1)]) = r 8 - 14 := zu_e3 _ _ _
  have q1 : zq_ev r (14, [(8, -1)]) = -r 8 + 14 := zu_e5 _ _ _
  have q2 : zq_ev r (448, [(7, -1)]) = -r 7 + 448 := zu_e5 _ _ _
  have q3 : zq_ev r (2147483648, [(20, 1)]) = r 20 + 2147483648 := zu_e2 _ _ _
  have q4 : zq_ev r (-1, [(20, -1)]) = -r 20 - 1 := zu_e6 _ _ _
  have q5 : zq_ev r (0, [(0, 1)]) = r 0 := zu_e1 _ _
  have q6 : zq_ev r (0, [(1, 1)]) = r 1 := zu_e1 _ _
  have q7 : zq_ev r (0, [(2, 1)]) = r 2 := zu_e1 _ _
  have q8 : zq_ev r (0, [(3, 1)]) = r 3 := zu_e1 _ _
  have q9 : zq_ev r (0, [(4, 1)]) = r 4 := zu_e1 _ _
  have q10 : zq_ev r (0, [(5, 1)]) = r 5 := zu_e1 _ _
  have q11 : zq_ev r (0, [(13, 1)]) = r 13 := zu_e1 _ _
  have q12 : zq_ev r (0, [(16, 1)]) = r 16 := zu_e1 _ _
  have q13 : zq_ev r (0, [(17, 1)]) = r 17 := zu_e1 _ _
  have q14 : zq_ev r (0, [(18, 1)]) = r 18 := zu_e1 _ _
  have q15 : zq_ev r (0, []) = 0 := zu_e0 _ _
  have q16 : zq_ev r (0, [(6, 1)]) = r 6 := zu_e1 _ _
  have q17 : zq_ev r (0, [(7, 1)]) = r 7 := zu_e1 _ _
  have q18 : zq_ev r (0, [(8, 1)]) = r 8 := zu_e1 _ _
  have q19 : zq_ev r (0, [(9, 1)]) = r 9 := zu_e1 _ _
  have q20 : zq_ev r (0, [(10, 1)]) = r 10 := zu_e1 _ _
  have q21 : zq_ev r (0, [(11, 1)]) = r 11 := zu_e1 _ _
  have q22 : zq_ev r (0, [(12, 1)]) = r 12 := zu_e1 _ _
  have q23 : zq_ev r (0, [(14, 1)]) = r 14 := zu_e1 _ _
  have q24 : zq_ev r (0, [(15, 1)]) = r 15 := zu_e1 _ _
  have q25 : zq_ev r (1, []) = 1 := zu_e0 _ _
  have q26 : zq_ev r (0, [(19, 1)]) = r 19 := zu_e1 _ _
  have q27 : zq_ev r (0, [(20, 1)]) = r 20 := zu_e1 _ _
  obtain ⟨hT, hC, hF, hS, -, hK⟩ := hM
  have c := hC.1
  have a1 := zq_all_1 c
  rw [q0] at a1
  have c := zq_all_t c
  have a2 := zq_all_1 c
  rw [q1] at a2
  have c := zq_all_t c
  have a3 := zq_all_1 c
  rw [q2] at a3
  have c := zq_all_t c
  have a4 := zq_all_1 c
  rw [q3] at a4
  have c := zq_all_t c
  have a5 := zq_all_1 c
  rw [q4] at a5
  have k1 := zj_use x_HS (hK)
  have k1 : zr_HS (zq_ev r (0, [(0, 1)])) (zq_ev r (0, [(1, 1)])) (zq_ev r (0, [(2, 1)])) (zq_ev r (0, [(3, 1)])) (zq_ev r (0, [(4, 1)])) (zq_ev r (0, [(5, 1)])) (zq_ev r (0, [(13, 1)])) (zq_ev r (0, [(16, 1)])) (zq_ev r (0, [(17, 1)])) (zq_ev r (0, [(18, 1)])) P h := k1
  simp only [q10, q11, q12, q13, q14, q5, q6, q7, q8, q9] at k1
  have k2 := zj_use x_CB (zq_okX_t (hK))
  have k2 : zd_CB (zq_ev r (0, [])) (zq_ev r (0, [(0, 1)])) (zq_ev r (0, [(1, 1)])) (zq_ev r (0, [(6, 1)])) (zq_ev r (0, [(7, 1)])) (zq_ev r (0, [(8, 1)])) (zq_ev r (0, [(9, 1)])) (zq_ev r (0, [(10, 1)])) (zq_ev r (0, [(11, 1)])) (zq_ev r (0, [(12, 1)])) (zq_ev r (0, [(13, 1)])) (zq_ev r (0, [(14, 1)])) P h := k2
  simp only [q11, q15, q16, q17, q18, q19, q20, q21, q22, q23, q5, q6] at k2
  have k3 := zj_use x_IS (zq_okX_t (zq_okX_t (hK)))
  have k3 : zr_IS (zq_ev r (0, [])) (zq_ev r (0, [(0, 1)])) (zq_ev r (0, [(1, 1)])) (zq_ev r (0, [(2, 1)])) (zq_ev r (0, [(14, 1)])) (zq_ev r (0, [(15, 1)])) (zq_ev r (1, [])) P h := k3
  simp only [q15, q23, q24, q25, q5, q6, q7] at k3
  have k4 := zj_use x_RK (zq_okX_t (zq_okX_t (zq_okX_t (hK))))
  have k4 : zr_RK (zq_ev r (0, [(19, 1)])) (zq_ev r (0, [(6, 1)])) (zq_ev r (0, [(7, 1)])) (zq_ev r (0, [(10, 1)])) (zq_ev r (0, [])) (zq_ev r (0, [(20, 1)])) P h := k4
  simp only [q15, q16, q17, q20, q26, q27] at k4
  have k5 := zj_use x_AWc (zq_okX_t (zq_okX_t (zq_okX_t (zq_okX_t (hK)))))
  have k5 : ze_AW 102 (zq_ev r (0, [(19, 1)])) (zq_ev r (0, [(2, 1)])) P h := k5
  simp only [q26, q7] at k5
  obtain t1 := zh_hal_l (P := P) (h := h) (g := r 0) (n := r 1) (W := r 2) (w := r 3) (m := r 4) (x := r 5) (Y := r 6) (z := r 7) (k := r 8) (t := r 9) (a := r 10) (b := r 11) (c := r 12) (p := r 13) (e := r 14) (q := r 15) (A := r 16) (O := r 17) (B := r 18) (v := r 19) (r := r 20) a1 a2 a3 a4 a5 k1 k2 k3 k4 k5
  obtain ⟨rq, hr⟩ : ∃ rq : Nat → Int, (∀ i, i < 21 → rq i = r i) := ⟨r, fun i hi => rfl⟩
  have v0 : rq 0 = r 0 := hr 0 (by decide)
  have v1 : rq 1 = r 1 := hr 1 (by decide)
  have v2 : rq 2 = r 2 := hr 2 (by decide)
  have v3 : rq 3 = r 3 := hr 3 (by decide)
  have v4 : rq 4 = r 4 := hr 4 (by decide)
  have v5 : rq 5 = r 5 := hr 5 (by decide)
  have v15 : rq 15 = r 15 := hr 15 (by decide)
  have v17 : rq 17 = r 17 := hr 17 (by decide)
  have v18 : rq 18 = r 18 := hr 18 (by decide)
  have g0 : zq_ev rq (0, [(0, 1)]) = r 0 := zu_f1 v0
  have g1 : zq_ev rq (0, [(1, 1)]) = r 1 := zu_f1 v1
  have g2 : zq_ev rq (0, [(2, 1)]) = r 2 := zu_f1 v2
  have g3 : zq_ev rq (0, [(3, 1)]) = r 3 := zu_f1 v3
  have g4 : zq_ev rq (0, [(4, 1)]) = r 4 := zu_f1 v4
  have g5 : zq_ev rq (0, [(5, 1)]) = r 5 := zu_f1 v5
  have g6 : zq_ev rq (0, [(15, 1)]) = r 15 := zu_f1 v15
  have g7 : zq_ev rq (6, []) = 6 := zu_e0 _ _
  have g8 : zq_ev rq (0, [(17, 1)]) = r 17 := zu_f1 v17
  have g9 : zq_ev rq (0, [(18, 1)]) = r 18 := zu_f1 v18
  exact ⟨_, List.mem_cons_self .., rq, hr, zq_MeS_mk rfl hT (zq_all_nil) zq_fan (zq_fan) rfl (zu_fac ((x_HS _ _ _).mpr (by show zr_HS (zq_ev rq (0, [(0, 1)])) (zq_ev rq (0, [(1, 1)])) (zq_ev rq (0, [(2, 1)])) (zq_ev rq (0, [(3, 1)])) (zq_ev rq (0, [(4, 1)])) (zq_ev rq (0, [(5, 1)])) (zq_ev rq (0, [(15, 1)])) (zq_ev rq (6, [])) (zq_ev rq (0, [(17, 1)])) (zq_ev rq (0, [(18, 1)])) P h; simp only [g0, g1, g2, g3, g4, g5, g6, g7, g8, g9]; exact t1)) zq_fan)⟩
noncomputable def zh_hag : zq_S × List zq_S := (([], [], [(-14, [(8, 1)]), (14, [(8, -1)]), (448, [(7, -1)]), (2147483648, [(20, 1)]), (0, [(4, -1), (20, 1)])], [], [], [], [(275, [(0, [(0, 1)]), (0, [(1, 1)]), (0, [(2, 1)]), (0, [(3, 1)]), (0, [(4, 1)]), (0, [(5, 1)]), (0, [(13, 1)]), (0, [(16, 1)]), (0, [(17, 1)]), (0, [(18, 1)])]), (259, [(0, []), (0, [(0, 1)]), (0, [(1, 1)]), (0, [(6, 1)]), (0, [(7, 1)]), (0, [(8, 1)]), (0, [(9, 1)]), (0, [(10, 1)]), (0, [(11, 1)]), (0, [(12, 1)]), (0, [(13, 1)]), (0, [(14, 1)])]), (272, [(0, []), (0, [(0, 1)]), (0, [(1, 1)]), (0, [(2, 1)]), (0, [(14, 1)]), (0, [(15, 1)]), (1, [])]), (266, [(0, [(19, 1)]), (0, [(6, 1)]), (0, [(7, 1)]), (0, [(10, 1)]), (0, []), (0, [(20, 1)])]), (278, [(0, [(19, 1)]), (0, [(2, 1)])])], 21), [([], [], [], [], [], [], [(275, [(0, [(0, 1)]), (0, [(1, 1)]), (0, [(2, 1)]), (0, [(3, 1)]), (0, [(4, 1)]), (0, [(5, 1)]), (0, [(15, 1)]), (6, []), (0, [(17, 1)]), (0, [(18, 1)])])], 21)])
theorem zh_hag_l {P : zq_Ty} {h : zq_H} {g n W w m x Y z k t a b c p e q A O B v r : Int} (a1 : 0 ≤ k - 14) (a2 : 0 ≤ -k + 14) (a3 : 0 ≤ -z + 448) (a4 : 0 ≤ r + 2147483648) (a5 : 0 ≤ -m + r) (k1 : zr_HS g n W w m x p A O B P h) (k2 : zd_CB 0 g n Y z k t a b c p e P h) (k3 : zr_IS 0 g n W e q 1 P h) (k4 : zr_RK v Y z a 0 r P h) (k5 : ze_AW 102 v W P h) : (zr_HS g n W w m x q 6 O B P h) := by
  obtain ⟨a1_, a2_, a3_, l1, l2, l3, hA, hO, hB⟩ := k1
  exact ⟨r, a2_, a3_, zr_LW_go l1 (fun r9 hr => zr_row1 (bb := 0) (v := r) k2 (by omega) k3 (by omega) (zr_cw0 k5) k4.2 r9 (by rw [if_pos ⟨by omega, by decide⟩]; exact hr)), zr_LW_go l2 (fun r9 hr => zr_row1 (bb := 0) (v := r) k2 (by omega) k3 (by omega) (zr_cw0 k5) k4.2 r9 (by rw [if_neg (fun q9 => by have := q9.1; omega)]; exact hr)), zr_LW_go l3 (fun r9 hr => zr_row1 (bb := 0) (v := r) k2 (by omega) k3 (by omega) (zr_cw0 k5) k4.2 r9 (by rw [if_neg (fun q9 => by have := q9.1; omega)]; exact hr)), by unfold zl_w1; rw [if_neg (by omega), if_pos (by omega)], hO, hB⟩
theorem zh_hag_ok {w : zq_Wd} (x_HS : zj_is w 275 (fun q => zr_HS (q 0) (q 1) (q 2) (q 3) (q 4) (q 5) (q 6) (q 7) (q 8) (q 9))) (x_CB : zj_is w 259 (fun q => zd_CB (q 0) (q 1) (q 2) (q 3) (q 4) (q 5) (q 6) (q 7) (q 8) (q 9) (q 10) (q 11))) (x_IS : zj_is w 272 (fun q => zr_IS (q 0) (q 1) (q 2) (q 3) (q 4) (q 5) (q 6))) (x_RK : zj_is w 266 (fun q => zr_RK (q 0) (q 1) (q 2) (q 3) (q 4) (q 5))) (x_AWc : zj_is w 278 (fun q => ze_AW 102 (q 0) (q 1))) : zq_okG1 w zh_hag := by
  refine ⟨rfl, rfl, zu_fac ⟨rfl, by decide⟩ zq_fan, ?_⟩
  intro r P h H hM
  have q0 : zq_ev r (-14, [(8, 1)]) = r 8 - 14 := zu_e3 _ _ _
  have q1 : zq_ev r (14, [(8, -1)]) = -r 8 + 14 := zu_e5 _ _ _
  have q2 : zq_ev r (448, [(7, -1)]) = -r 7 + 448 := zu_e5 _ _ _
  have q3 : zq_ev r (2147483648, [(20, 1)]) = r 20 + 2147483648 := zu_e2 _ _ _
  have q4 : zq_ev r (0, [(4, -1), (20, 1)]) = -r 4 + r 20 := by simp only [zq_ev, zq_ts] <;> omega
  have q5 : zq_ev r (0, [(0, 1)]) = r 0 := zu_e1 _ _
  have q6 : zq_ev r (0, [(1, 1)]) = r 1 := zu_e1 _ _
  have q7 : zq_ev r (0, [(2, 1)]) = r 2 := zu_e1 _ _
  have q8 : zq_ev r (0, [(3, 1)]) = r 3 := zu_e1 _ _
  have q9 : zq_ev r (0, [(4, 1)]) = r 4 := zu_e1 _ _
  have q10 : zq_ev r (0, [(5, 1)]) = r 5 := zu_e1 _ _
  have q11 : zq_ev r (0, [(13, 1)]) = r 13 := zu_e1 _ _
  have q12 : zq_ev r (0, [(16, 1)]) = r 16 := zu_e1 _ _
  have q13 : zq_ev r (0, [(17, 1)]) = r 17 := zu_e1 _ _
  have q14 : zq_ev r (0, [(18, 1)]) = r 18 := zu_e1 _ _
  have q15 : zq_ev r (0, []) = 0 := zu_e0 _ _
  have q16 : zq_ev r (0, [(6, 1)]) = r 6 := zu_e1 _ _
  have q17 : zq_ev r (0, [(7, 1)]) = r 7 := zu_e1 _ _
  have q18 : zq_ev r (0, [(8, 1)]) = r 8 := zu_e1 _ _
  have q19 : zq_ev r (0, [(9, 1)]) = r 9 := zu_e1 _ _
  have q20 : zq_ev r (0, [(10, 1)]) = r 10 := zu_e1 _ _
  have q21 : zq_ev r (0, [(11, 1)]) = r 11 := zu_e1 _ _
  have q22 : zq_ev r (0, [(12, 1)]) = r 12 := zu_e1 _ _
  have q23 : zq_ev r (0, [(14, 1)]) = r 14 := zu_e1 _ _
  have q24 : zq_ev r (0, [(15, 1)]) = r 15 := zu_e1 _ _
  have q25 : zq_ev r (1, []) = 1 := zu_e0 _ _
  have q26 : zq_ev r (0, [(19, 1)]) = r 19 := zu_e1 _ _
  have q27 : zq_ev r (0, [(20, 1)]) = r 20 := zu_e1 _ _
  obtain ⟨hT, hC, hF, hS, -, hK⟩ := hM
  have c := hC.1
  have a1 := zq_all_1 c
  rw [q0] at a1
  have c := zq_all_t c
  have a2 := zq_all_1 c
  rw [q1] at a2
  have c := zq_all_t c
  have a3 := zq_all_1 c
  rw [q2] at a3
  have c := zq_all_t c
  have a4 := zq_all_1 c
  rw [q3] at a4
  have c := zq_all_t c
  have a5 := zq_all_1 c
  rw [q4] at a5
  have k1 := zj_use x_HS (hK)
  have k1 : zr_HS (zq_ev r (0, [(0, 1)])) (zq_ev r (0, [(1, 1)])) (zq_ev r (0, [(2, 1)])) (zq_ev r (0, [(3, 1)])) (zq_ev r (0, [(4, 1)])) (zq_ev r (0, [(5, 1)])) (zq_ev r (0, [(13, 1)])) (zq_ev r (0, [(16, 1)])) (zq_ev r (0, [(17, 1)])) (zq_ev r (0, [(18, 1)])) P h := k1
  simp only [q10, q11, q12, q13, q14, q5, q6, q7, q8, q9] at k1
  have k2 := zj_use x_CB (zq_okX_t (hK))
  have k2 : zd_CB (zq_ev r (0, [])) (zq_ev r (0, [(0, 1)])) (zq_ev r (0, [(1, 1)])) (zq_ev r (0, [(6, 1)])) (zq_ev r (0, [(7, 1)])) (zq_ev r (0, [(8, 1)])) (zq_ev r (0, [(9, 1)])) (zq_ev r (0, [(10, 1)])) (zq_ev r (0, [(11, 1)])) (zq_ev r (0, [(12, 1)])) (zq_ev r (0, [(13, 1)])) (zq_ev r (0, [(14, 1)])) P h := k2
  simp only [q11, q15, q16, q17, q18, q19, q20, q21, q22, q23, q5, q6] at k2
  have k3 := zj_use x_IS (zq_okX_t (zq_okX_t (hK)))
  have k3 : zr_IS (zq_ev r (0, [])) (zq_ev r (0, [(0, 1)])) (zq_ev r (0, [(1, 1)])) (zq_ev r (0, [(2, 1)])) (zq_ev r (0, [(14, 1)])) (zq_ev r (0, [(15, 1)])) (zq_ev r (1, [])) P h := k3
  simp only [q15, q23, q24, q25, q5, q6, q7] at k3
  have k4 := zj_use x_RK (zq_okX_t (zq_okX_t (zq_okX_t (hK))))
  have k4 : zr_RK (zq_ev r (0, [(19, 1)])) (zq_ev r (0, [(6, 1)])) (zq_ev r (0, [(7, 1)])) (zq_ev r (0, [(10, 1)])) (zq_ev r (0, [])) (zq_ev r (0, [(20, 1)])) P h := k4
  simp only [q15, q16, q17, q20, q26, q27] at k4
  have k5 := zj_use x_AWc (zq_okX_t (zq_okX_t (zq_okX_t (zq_okX_t (hK)))))
  have k5 : ze_AW 102 (zq_ev r (0, [(19, 1)])) (zq_ev r (0, [(2, 1)])) P h := k5
  simp only [q26, q7] at k5
  obtain t1 := zh_hag_l (P := P) (h := h) (g := r 0) (n := r 1) (W := r 2) (w := r 3) (m := r 4) (x := r 5) (Y := r 6) (z := r 7) (k := r 8) (t := r 9) (a := r 10) (b := r 11) (c := r 12) (p := r 13) (e := r 14) (q := r 15) (A := r 16) (O := r 17) (B := r 18) (v := r 19) (r := r 20) a1 a2 a3 a4 a5 k1 k2 k3 k4 k5
  obtain ⟨rq, hr⟩ : ∃ rq : Nat → Int, (∀ i, i < 21 → rq i = r i) := ⟨r, fun i hi => rfl⟩
  have v0 : rq 0 = r 0 := hr 0 (by decide)
  have v1 : rq 1 = r 1 := hr 1 (by decide)
  have v2 : rq 2 = r 2 := hr 2 (by decide)
  have v3 : rq 3 = r 3 := hr 3 (by decide)
  have v4 : rq 4 = r 4 := hr 4 (by decide)
  have v5 : rq 5 = r 5 := hr 5 (by decide)
  have v15 : rq 15 = r 15 := hr 15 (by decide)
  have v17 : rq 17 = r 17 := hr 17 (by decide)
  have v18 : rq 18 = r 18 := hr 18 (by decide)
  have g0 : zq_ev rq (0, [(0, 1)]) = r 0 := zu_f1 v0
  have g1 : zq_ev rq (0, [(1, 1)]) = r 1 := zu_f1 v1
  have g2 : zq_ev rq (0, [(2, 1)]) = r 2 := zu_f1 v2
  have g3 : zq_ev rq (0, [(3, 1)]) = r 3 := zu_f1 v3
  have g4 : zq_ev rq (0, [(4, 1)]) = r 4 := zu_f1 v4
  have g5 : zq_ev rq (0, [(5, 1)]) = r 5 := zu_f1 v5
  have g6 : zq_ev rq (0, [(15, 1)]) = r 15 := zu_f1 v15
  have g7 : zq_ev rq (6, []) = 6 := zu_e0 _ _
  have g8 : zq_ev rq (0, [(17, 1)]) = r 17 := zu_f1 v17
  have g9 : zq_ev rq (0, [(18, 1)]) = r 18 := zu_f1 v18
  exact ⟨_, List.mem_cons_self .., rq, hr, zq_MeS_mk rfl hT (zq_all_nil) zq_fan (zq_fan) rfl (zu_fac ((x_HS _ _ _).mpr (by show zr_HS (zq_ev rq (0, [(0, 1)])) (zq_ev rq (0, [(1, 1)])) (zq_ev rq (0, [(2, 1)])) (zq_ev rq (0, [(3, 1)])) (zq_ev rq (0, [(4, 1)])) (zq_ev rq (0, [(5, 1)])) (zq_ev rq (0, [(15, 1)])) (zq_ev rq (6, [])) (zq_ev rq (0, [(17, 1)])) (zq_ev rq (0, [(18, 1)])) P h; simp only [g0, g1, g2, g3, g4, g5, g6, g7, g8, g9]; exact t1)) zq_fan)⟩
noncomputable def zh_hor : zq_S × List zq_S := (([], [], [(-15, [(8, 1)]), (15, [(8, -1)]), (448, [(7, -1)]), (2147483648, [(20, 1)]), (0, [(20, 1)]), (99, [(20, -1)]), (0, [(20, -1), (21, 1)]), (0, [(20, 1), (21, -1)])], [], [], [], [(275, [(0, [(0, 1)]), (0, [(1, 1)]), (0, [(2, 1)]), (0, [(3, 1)]), (0, [(4, 1)]), (0, [(5, 1)]), (0, [(13, 1)]), (0, [(16, 1)]), (0, [(17, 1)]), (0, [(18, 1)])]), (259, [(0, []), (0, [(0, 1)]), (0, [(1, 1)]), (0, [(6, 1)]), (0, [(7, 1)]), (0, [(8, 1)]), (0, [(9, 1)]), (0, [(10, 1)]), (0, [(11, 1)]), (0, [(12, 1)]), (0, [(13, 1)]), (0, [(14, 1)])]), (272, [(0, []), (0, [(0, 1)]), (0, [(1, 1)]), (0, [(2, 1)]), (0, [(14, 1)]), (0, [(15, 1)]), (1, [])]), (266, [(0, [(19, 1)]), (0, [(6, 1)]), (0, [(7, 1)]), (0, [(10, 1)]), (0, []), (0, [(20, 1)])]), (278, [(0, [(19, 1)]), (0, [(2, 1)])])], 22), [([], [], [], [], [], [], [(275, [(0, [(0, 1)]), (0, [(1, 1)]), (0, [(2, 1)]), (0, [(3, 1)]), (0, [(4, 1)]), (0, [(5, 1)]), (0, [(15, 1)]), (0, [(16, 1)]), (0, [(21, 1)]), (0, [(18, 1)])])], 22)])
theorem zh_hor_l {P : zq_Ty} {h : zq_H} {g n W w m x Y z k t a b c p e q A O B v r u : Int} (a1 : 0 ≤ k - 15) (a2 : 0 ≤ -k + 15) (a3 : 0 ≤ -z + 448) (a4 : 0 ≤ r + 2147483648) (a5 : 0 ≤ r) (a6 : 0 ≤ -r + 99) (a7 : 0 ≤ -r + u) (a8 : 0 ≤ r - u) (k1 : zr_HS g n W w m x p A O B P h) (k2 : zd_CB 0 g n Y z k t a b c p e P h) (k3 : zr_IS 0 g n W e q 1 P h) (k4 : zr_RK v Y z a 0 r P h) (k5 : ze_AW 102 v W P h) : (zr_HS g n W w m x q A u B P h) := by
  obtain ⟨a1_, a2_, a3_, l1, l2, l3, hA, hO, hB⟩ := k1
  exact ⟨a1_, r, a3_, zr_LW_go l1 (fun r9 hr => zr_row1 (bb := 0) (v := r) k2 (by omega) k3 (by omega) (zr_cw0 k5) k4.2 r9 (by rw [if_neg (fun q9 => by have := q9.1; omega)]; exact hr)), zr_LW_go l2 (fun r9 hr => zr_row1 (bb := 0) (v := r) k2 (by omega) k3 (by omega) (zr_cw0 k5) k4.2 r9 (by rw [if_pos ⟨by omega, by decide⟩]; exact hr)), zr_LW_go l3 (fun r9 hr => zr_row1 (bb := 0) (v := r) k2 (by omega) k3 (by omega) (zr_cw0 k5) k4.2 r9 (by rw [if_neg (fun q9 => by have := q9.1; omega)]; exact hr)), hA, by unfold zr_o1; rw [if_neg (by omega), if_neg (by omega), if_neg (by omega)]; omega, hB⟩
theorem zh_hor_ok {w : zq_Wd} (x_HS : zj_is w 275 (fun q => zr_HS (q 0) (q 1) (q 2) (q 3) (q 4) (q 5) (q 6) (q 7) (q 8) (q 9))) (x_CB : zj_is w 259 (fun q => zd_CB (q 0) (q 1) (q 2) (q 3) (q 4) (q 5) (q 6) (q 7) (q 8) (q 9) (q 10) (q 11))) (x_IS : zj_is w 272 (fun q => zr_IS (q 0) (q 1) (q 2) (q 3) (q 4) (q 5) (q 6))) (x_RK : zj_is w 266 (fun q => zr_RK (q 0) (q 1) (q 2) (q 3) (q 4) (q 5))) (x_AWc : zj_is w 278 (fun q => ze_AW 102 (q 0) (q 1))) : zq_okG1 w zh_hor := by
  refine ⟨rfl, rfl, zu_fac ⟨rfl, by decide⟩ zq_fan, ?_⟩
  intro r P h H hM
  have q0 : zq_ev r (-15, [(8, 1)]) = r 8 - 15 := zu_e3 _ _ _
  have q1 : zq_ev r (15, [(8, -1)]) = -r 8 + 15 := zu_e5 _ _ _
  have q2 : zq_ev r (448, [(7, -1)]) = -r 7 + 448 := zu_e5 _ _ _
  have q3 : zq_ev r (2147483648, [(20, 1)]) = r 20 + 2147483648 := zu_e2 _ _ _
  have q4 : zq_ev r (0, [(20, 1)]) = r 20 := zu_e1 _ _
  have q5 : zq_ev r (99, [(20, -1)]) = -r 20 + 99 := zu_e5 _ _ _
  have q6 : zq_ev r (0, [(20, -1), (21, 1)]) = -r 20 + r 21 := by simp only [zq_ev, zq_ts] <;> omega
  have q7 : zq_ev r (0, [(20, 1), (21, -1)]) = r 20 - r 21 := by simp only [zq_ev, zq_ts] <;> omega
  have q8 : zq_ev r (0, [(0, 1)]) = r 0 := zu_e1 _ _
  have q9 : zq_ev r (0, [(1, 1)]) = r 1 := zu_e1 _ _
  have q10 : zq_ev r (0, [(2, 1)]) = r 2 := zu_e1 _ _
  have q11 : zq_ev r (0, [(3, 1)]) = r 3 := zu_e1 _ _
  have q12 : zq_ev r (0, [(4, 1)]) = r 4 := zu_e1 _ _
  have q13 : zq_ev r (0, [(5, 1)]) = r 5 := zu_e1 _ _
  have q14 : zq_ev r (0, [(13, 1)]) = r 13 := zu_e1 _ _
  have q15 : zq_ev r (0, [(16, 1)]) = r 16 := zu_e1 _ _
  have q16 : zq_ev r (0, [(17, 1)]) = r 17 := zu_e1 _ _
  have q17 : zq_ev r (0, [(18, 1)]) = r 18 := zu_e1 _ _
  have q18 : zq_ev r (0, []) = 0 := zu_e0 _ _
  have q19 : zq_ev r (0, [(6, 1)]) = r 6 := zu_e1 _ _
  have q20 : zq_ev r (0, [(7, 1)]) = r 7 := zu_e1 _ _
  have q21 : zq_ev r (0, [(8, 1)]) = r 8 := zu_e1 _ _
  have q22 : zq_ev r (0, [(9, 1)]) = r 9 := zu_e1 _ _
  have q23 : zq_ev r (0, [(10, 1)]) = r 10 := zu_e1 _ _
  have q24 : zq_ev r (0, [(11, 1)]) = r 11 := zu_e1 _ _
  have q25 : zq_ev r (0, [(12, 1)]) = r 12 := zu_e1 _ _
  have q26 : zq_ev r (0, [(14, 1)]) = r 14 := zu_e1 _ _
  have q27 : zq_ev r (0, [(15, 1)]) = r 15 := zu_e1 _ _
  have q28 : zq_ev r (1, []) = 1 := zu_e0 _ _
  have q29 : zq_ev r (0, [(19, 1)]) = r 19 := zu_e1 _ _
  obtain ⟨hT, hC, hF, hS, -, hK⟩ := hM
  have c := hC.1
  have a1 := zq_all_1 c
  rw [q0] at a1
  have c := zq_all_t c
  have a2 := zq_all_1 c
  rw [q1] at a2
  have c := zq_all_t c
  have a3 := zq_all_1 c
  rw [q2] at a3
  have c := zq_all_t c
  have a4 := zq_all_1 c
  rw [q3] at a4
  have c := zq_all_t c
  have a5 := zq_all_1 c
  rw [q4] at a5
  have c := zq_all_t c
  have a6 := zq_all_1 c
  rw [q5] at a6
  have c := zq_all_t c
  have a7 := zq_all_1 c
  rw [q6] at a7
  have c := zq_all_t c
  have a8 := zq_all_1 c
  rw [q7] at a8
  have k1 := zj_use x_HS (hK)
  have k1 : zr_HS (zq_ev r (0, [(0, 1)])) (zq_ev r (0, [(1, 1)])) (zq_ev r (0, [(2, 1)])) (zq_ev r (0, [(3, 1)])) (zq_ev r (0, [(4, 1)])) (zq_ev r (0, [(5, 1)])) (zq_ev r (0, [(13, 1)])) (zq_ev r (0, [(16, 1)])) (zq_ev r (0, [(17, 1)])) (zq_ev r (0, [(18, 1)])) P h := k1
  simp only [q10, q11, q12, q13, q14, q15, q16, q17, q8, q9] at k1
  have k2 := zj_use x_CB (zq_okX_t (hK))
  have k2 : zd_CB (zq_ev r (0, [])) (zq_ev r (0, [(0, 1)])) (zq_ev r (0, [(1, 1)])) (zq_ev r (0, [(6, 1)])) (zq_ev r (0, [(7, 1)])) (zq_ev r (0, [(8, 1)])) (zq_ev r (0, [(9, 1)])) (zq_ev r (0, [(10, 1)])) (zq_ev r (0, [(11, 1)])) (zq_ev r (0, [(12, 1)])) (zq_ev r (0, [(13, 1)])) (zq_ev r (0, [(14, 1)])) P h := k2
  simp only [q14, q18, q19, q20, q21, q22, q23, q24, q25, q26, q8, q9] at k2
  have k3 := zj_use x_IS (zq_okX_t (zq_okX_t (hK)))
  have k3 : zr_IS (zq_ev r (0, [])) (zq_ev r (0, [(0, 1)])) (zq_ev r (0, [(1, 1)])) (zq_ev r (0, [(2, 1)])) (zq_ev r (0, [(14, 1)])) (zq_ev r (0, [(15, 1)])) (zq_ev r (1, [])) P h := k3
  simp only [q10, q18, q26, q27, q28, q8, q9] at k3
  have k4 := zj_use x_RK (zq_okX_t (zq_okX_t (zq_okX_t (hK))))
  have k4 : zr_RK (zq_ev r (0, [(19, 1)])) (zq_ev r (0, [(6, 1)])) (zq_ev r (0, [(7, 1)])) (zq_ev r (0, [(10, 1)])) (zq_ev r (0, [])) (zq_ev r (0, [(20, 1)])) P h := k4
  simp only [q18, q19, q20, q23, q29, q4] at k4
  have k5 := zj_use x_AWc (zq_okX_t (zq_okX_t (zq_okX_t (zq_okX_t (hK)))))
  have k5 : ze_AW 102 (zq_ev r (0, [(19, 1)])) (zq_ev r (0, [(2, 1)])) P h := k5
  simp only [q10, q29] at k5
  obtain t1 := zh_hor_l (P := P) (h := h) (g := r 0) (n := r 1) (W := r 2) (w := r 3) (m := r 4) (x := r 5) (Y := r 6) (z := r 7) (k := r 8) (t := r 9) (a := r 10) (b := r 11) (c := r 12) (p := r 13) (e := r 14) (q := r 15) (A := r 16) (O := r 17) (B := r 18) (v := r 19) (r := r 20) (u := r 21) a1 a2 a3 a4 a5 a6 a7 a8 k1 k2 k3 k4 k5
  obtain ⟨rq, hr⟩ : ∃ rq : Nat → Int, (∀ i, i < 22 → rq i = r i) := ⟨r, fun i hi => rfl⟩
  have v0 : rq 0 = r 0 := hr 0 (by decide)
  have v1 : rq 1 = r 1 := hr 1 (by decide)
  have v2 : rq 2 = r 2 := hr 2 (by decide)
  have v3 : rq 3 = r 3 := hr 3 (by decide)
  have v4 : rq 4 = r 4 := hr 4 (by decide)
  have v5 : rq 5 = r 5 := hr 5 (by decide)
  have v15 : rq 15 = r 15 := hr 15 (by decide)
  have v16 : rq 16 = r 16 := hr 16 (by decide)
  have v18 : rq 18 = r 18 := hr 18 (by decide)
  have v21 : rq 21 = r 21 := hr 21 (by decide)
  have g0 : zq_ev rq (0, [(0, 1)]) = r 0 := zu_f1 v0
  have g1 : zq_ev rq (0, [(1, 1)]) = r 1 := zu_f1 v1
  have g2 : zq_ev rq (0, [(2, 1)]) = r 2 := zu_f1 v2
  have g3 : zq_ev rq (0, [(3, 1)]) = r 3 := zu_f1 v3
  have g4 : zq_ev rq (0, [(4, 1)]) = r 4 := zu_f1 v4
  have g5 : zq_ev rq (0, [(5, 1)]) = r 5 := zu_f1 v5
  have g6 : zq_ev rq (0, [(15, 1)]) = r 15 := zu_f1 v15
  have g7 : zq_ev rq (0, [(16, 1)]) = r 16 := zu_f1 v16
  have g8 : zq_ev rq (0, [(21, 1)]) = r 21 := zu_f1 v21
  have g9 : zq_ev rq (0, [(18, 1)]) = r 18 := zu_f1 v18
  exact ⟨_, List.mem_cons_self .., rq, hr, zq_MeS_mk rfl hT (zq_all_nil) zq_fan (zq_fan) rfl (zu_fac ((x_HS _ _ _).mpr (by show zr_HS (zq_ev rq (0, [(0, 1)])) (zq_ev rq (0, [(1, 1)])) (zq_ev rq (0, [(2, 1)])) (zq_ev rq (0, [(3, 1)])) (zq_ev rq (0, [(4, 1)])) (zq_ev rq (0, [(5, 1)])) (zq_ev rq (0, [(15, 1)])) (zq_ev rq (0, [(16, 1)])) (zq_ev rq (0, [(21, 1)])) (zq_ev rq (0, [(18, 1)])) P h; simp only [g0, g1, g2, g3, g4, g5, g6, g7, g8, g9]; exact t1)) zq_fan)⟩
noncomputable def zh_hol : zq_S × List zq_S := (([], [], [(-15, [(8, 1)]), (15, [(8, -1)]), (448, [(7, -1)]), (2147483648, [(20, 1)]), (0, [(20, -1)]), (0, [(21, 1)]), (0, [(21, -1)])], [], [], [], [(275, [(0, [(0, 1)]), (0, [(1, 1)]), (0, [(2, 1)]), (0, [(3, 1)]), (0, [(4, 1)]), (0, [(5, 1)]), (0, [(13, 1)]), (0, [(16, 1)]), (0, [(17, 1)]), (0, [(18, 1)])]), (259, [(0, []), (0, [(0, 1)]), (0, [(1, 1)]), (0, [(6, 1)]), (0, [(7, 1)]), (0, [(8, 1)]), (0, [(9, 1)]), (0, [(10, 1)]), (0, [(11, 1)]), (0, [(12, 1)]), (0, [(13, 1)]), (0, [(14, 1)])]), (272, [(0, []), (0, [(0, 1)]), (0, [(1, 1)]), (0, [(2, 1)]), (0, [(14, 1)]), (0, [(15, 1)]), (1, [])]), (266, [(0, [(19, 1)]), (0, [(6, 1)]), (0, [(7, 1)]), (0, [(10, 1)]), (0, []), (0, [(20, 1)])]), (278, [(0, [(19, 1)]), (0, [(2, 1)])])], 22), [([], [], [], [], [], [], [(275, [(0, [(0, 1)]), (0, [(1, 1)]), (0, [(2, 1)]), (0, [(3, 1)]), (0, [(4, 1)]), (0, [(5, 1)]), (0, [(15, 1)]), (0, [(16, 1)]), (0, [(21, 1)]), (0, [(18, 1)])])], 22)])
theorem zh_hol_l {P : zq_Ty} {h : zq_H} {g n W w m x Y z k t a b c p e q A O B v r u : Int} (a1 : 0 ≤ k - 15) (a2 : 0 ≤ -k + 15) (a3 : 0 ≤ -z + 448) (a4 : 0 ≤ r + 2147483648) (a5 : 0 ≤ -r) (a6 : 0 ≤ u) (a7 : 0 ≤ -u) (k1 : zr_HS g n W w m x p A O B P h) (k2 : zd_CB 0 g n Y z k t a b c p e P h) (k3 : zr_IS 0 g n W e q 1 P h) (k4 : zr_RK v Y z a 0 r P h) (k5 : ze_AW 102 v W P h) : (zr_HS g n W w m x q A u B P h) := by
  obtain ⟨a1_, a2_, a3_, l1, l2, l3, hA, hO, hB⟩ := k1
  exact ⟨a1_, r, a3_, zr_LW_go l1 (fun r9 hr => zr_row1 (bb := 0) (v := r) k2 (by omega) k3 (by omega) (zr_cw0 k5) k4.2 r9 (by rw [if_neg (fun q9 => by have := q9.1; omega)]; exact hr)), zr_LW_go l2 (fun r9 hr => zr_row1 (bb := 0) (v := r) k2 (by omega) k3 (by omega) (zr_cw0 k5) k4.2 r9 (by rw [if_pos ⟨by omega, by decide⟩]; exact hr)), zr_LW_go l3 (fun r9 hr => zr_row1 (bb := 0) (v := r) k2 (by omega) k3 (by omega) (zr_cw0 k5) k4.2 r9 (by rw [if_neg (fun q9 => by have := q9.1; omega)]; exact hr)), hA, by unfold zr_o1; rw [if_neg (by omega)]; split <;> (try split) <;> omega, hB⟩
theorem zh_hol_ok {w : zq_Wd} (x_HS : zj_is w 275 (fun q => zr_HS (q 0) (q 1) (q 2) (q 3) (q 4) (q 5) (q 6) (q 7) (q 8) (q 9))) (x_CB : zj_is w 259 (fun q => zd_CB (q 0) (q 1) (q 2) (q 3) (q 4) (q 5) (q 6) (q 7) (q 8) (q 9) (q 10) (q 11))) (x_IS : zj_is w 272 (fun q => zr_IS (q 0) (q 1) (q 2) (q 3) (q 4) (q 5) (q 6))) (x_RK : zj_is w 266 (fun q => zr_RK (q 0) (q 1) (q 2) (q 3) (q 4) (q 5))) (x_AWc : zj_is w 278 (fun q => ze_AW 102 (q 0) (q 1))) : zq_okG1 w zh_hol := by
  refine ⟨rfl, rfl, zu_fac ⟨rfl, by decide⟩ zq_fan, ?_⟩
  intro r P h H hM
  have q0 : zq_ev r (-15, [(8, 1)]) = r 8 - 15 := zu_e3 _ _ _
  have q1 : zq_ev r (15, [(8, -1)]) = -r 8 + 15 := zu_e5 _ _ _
  have q2 : zq_ev r (448, [(7, -1)]) = -r 7 + 448 := zu_e5 _ _ _
  have q3 : zq_ev r (2147483648, [(20, 1)]) = r 20 + 2147483648 := zu_e2 _ _ _
  have q4 : zq_ev r (0, [(20, -1)]) = -r 20 := zu_e4 _ _
  have q5 : zq_ev r (0, [(21, 1)]) = r 21 := zu_e1 _ _
  have q6 : zq_ev r (0, [(21, -1)]) = -r 21 := zu_e4 _ _
  have q7 : zq_ev r (0, [(0, 1)]) = r 0 := zu_e1 _ _
  have q8 : zq_ev r (0, [(1, 1)]) = r 1 := zu_e1 _ _
  have q9 : zq_ev r (0, [(2, 1)]) = r 2 := zu_e1 _ _
  have q10 : zq_ev r (0, [(3, 1)]) = r 3 := zu_e1 _ _
  have q11 : zq_ev r (0, [(4, 1)]) = r 4 := zu_e1 _ _
  have q12 : zq_ev r (0, [(5, 1)]) = r 5 := zu_e1 _ _
  have q13 : zq_ev r (0, [(13, 1)]) = r 13 := zu_e1 _ _
  have q14 : zq_ev r (0, [(16, 1)]) = r 16 := zu_e1 _ _
  have q15 : zq_ev r (0, [(17, 1)]) = r 17 := zu_e1 _ _
  have q16 : zq_ev r (0, [(18, 1)]) = r 18 := zu_e1 _ _
  have q17 : zq_ev r (0, []) = 0 := zu_e0 _ _
  have q18 : zq_ev r (0, [(6, 1)]) = r 6 := zu_e1 _ _
  have q19 : zq_ev r (0, [(7, 1)]) = r 7 := zu_e1 _ _
  have q20 : zq_ev r (0, [(8, 1)]) = r 8 := zu_e1 _ _
  have q21 : zq_ev r (0, [(9, 1)]) = r 9 := zu_e1 _ _
  have q22 : zq_ev r (0, [(10, 1)]) = r 10 := zu_e1 _ _
  have q23 : zq_ev r (0, [(11, 1)]) = r 11 := zu_e1 _ _
  have q24 : zq_ev r (0, [(12, 1)]) = r 12 := zu_e1 _ _
  have q25 : zq_ev r (0, [(14, 1)]) = r 14 := zu_e1 _ _
  have q26 : zq_ev r (0, [(15, 1)]) = r 15 := zu_e1 _ _
  have q27 : zq_ev r (1, []) = 1 := zu_e0 _ _
  have q28 : zq_ev r (0, [(19, 1)]) = r 19 := zu_e1 _ _
  have q29 : zq_ev r (0, [(20, 1)]) = r 20 := zu_e1 _ _
  obtain ⟨hT, hC, hF, hS, -, hK⟩ := hM
  have c := hC.1
  have a1 := zq_all_1 c
  rw [q0] at a1
  have c := zq_all_t c
  have a2 := zq_all_1 c
  rw [q1] at a2
  have c := zq_all_t c
  have a3 := zq_all_1 c
  rw [q2] at a3
  have c := zq_all_t c
  have a4 := zq_all_1 c
  rw [q3] at a4
  have c := zq_all_t c
  have a5 := zq_all_1 c
  rw [q4] at a5
  have c := zq_all_t c
  have a6 := zq_all_1 c
  rw [q5] at a6
  have c := zq_all_t c
  have a7 := zq_all_1 c
  rw [q6] at a7
  have k1 := zj_use x_HS (hK)
  have k1 : zr_HS (zq_ev r (0, [(0, 1)])) (zq_ev r (0, [(1, 1)])) (zq_ev r (0, [(2, 1)])) (zq_ev r (0, [(3, 1)])) (zq_ev r (0, [(4, 1)])) (zq_ev r (0, [(5, 1)])) (zq_ev r (0, [(13, 1)])) (zq_ev r (0, [(16, 1)])) (zq_ev r (0, [(17, 1)])) (zq_ev r (0, [(18, 1)])) P h := k1
  simp only [q10, q11, q12, q13, q14, q15, q16, q7, q8, q9] at k1
  have k2 := zj_use x_CB (zq_okX_t (hK))
  have k2 : zd_CB (zq_ev r (0, [])) (zq_ev r (0, [(0, 1)])) (zq_ev r (0, [(1, 1)])) (zq_ev r (0, [(6, 1)])) (zq_ev r (0, [(7, 1)])) (zq_ev r (0, [(8, 1)])) (zq_ev r (0, [(9, 1)])) (zq_ev r (0, [(10, 1)])) (zq_ev r (0, [(11, 1)])) (zq_ev r (0, [(12, 1)])) (zq_ev r (0, [(13, 1)])) (zq_ev r (0, [(14, 1)])) P h := k2
  simp only [q13, q17, q18, q19, q20, q21, q22, q23, q24, q25, q7, q8] at k2
  have k3 := zj_use x_IS (zq_okX_t (zq_okX_t (hK)))
  have k3 : zr_IS (zq_ev r (0, [])) (zq_ev r (0, [(0, 1)])) (zq_ev r (0, [(1, 1)])) (zq_ev r (0, [(2, 1)])) (zq_ev r (0, [(14, 1)])) (zq_ev r (0, [(15, 1)])) (zq_ev r (1, [])) P h := k3
  simp only [q17, q25, q26, q27, q7, q8, q9] at k3
  have k4 := zj_use x_RK (zq_okX_t (zq_okX_t (zq_okX_t (hK))))
  have k4 : zr_RK (zq_ev r (0, [(19, 1)])) (zq_ev r (0, [(6, 1)])) (zq_ev r (0, [(7, 1)])) (zq_ev r (0, [(10, 1)])) (zq_ev r (0, [])) (zq_ev r (0, [(20, 1)])) P h := k4
  simp only [q17, q18, q19, q22, q28, q29] at k4
  have k5 := zj_use x_AWc (zq_okX_t (zq_okX_t (zq_okX_t (zq_okX_t (hK)))))
  have k5 : ze_AW 102 (zq_ev r (0, [(19, 1)])) (zq_ev r (0, [(2, 1)])) P h := k5
  simp only [q28, q9] at k5
  obtain t1 := zh_hol_l (P := P) (h := h) (g := r 0) (n := r 1) (W := r 2) (w := r 3) (m := r 4) (x := r 5) (Y := r 6) (z := r 7) (k := r 8) (t := r 9) (a := r 10) (b := r 11) (c := r 12) (p := r 13) (e := r 14) (q := r 15) (A := r 16) (O := r 17) (B := r 18) (v := r 19) (r := r 20) (u := r 21) a1 a2 a3 a4 a5 a6 a7 k1 k2 k3 k4 k5
  obtain ⟨rq, hr⟩ : ∃ rq : Nat → Int, (∀ i, i < 22 → rq i = r i) := ⟨r, fun i hi => rfl⟩
  have v0 : rq 0 = r 0 := hr 0 (by decide)
  have v1 : rq 1 = r 1 := hr 1 (by decide)
  have v2 : rq 2 = r 2 := hr 2 (by decide)
  have v3 : rq 3 = r 3 := hr 3 (by decide)
  have v4 : rq 4 = r 4 := hr 4 (by decide)
  have v5 : rq 5 = r 5 := hr 5 (by decide)
  have v15 : rq 15 = r 15 := hr 15 (by decide)
  have v16 : rq 16 = r 16 := hr 16 (by decide)
  have v18 : rq 18 = r 18 := hr 18 (by decide)
  have v21 : rq 21 = r 21 := hr 21 (by decide)
  have g0 : zq_ev rq (0, [(0, 1)]) = r 0 := zu_f1 v0
  have g1 : zq_ev rq (0, [(1, 1)]) = r 1 := zu_f1 v1
  have g2 : zq_ev rq (0, [(2, 1)]) = r 2 := zu_f1 v2
  have g3 : zq_ev rq (0, [(3, 1)]) = r 3 := zu_f1 v3
  have g4 : zq_ev rq (0, [(4, 1)]) = r 4 := zu_f1 v4
  have g5 : zq_ev rq (0, [(5, 1)]) = r 5 := zu_f1 v5
  have g6 : zq_ev rq (0, [(15, 1)]) = r 15 := zu_f1 v15
  have g7 : zq_ev rq (0, [(16, 1)]) = r 16 := zu_f1 v16
  have g8 : zq_ev rq (0, [(21, 1)]) = r 21 := zu_f1 v21
  have g9 : zq_ev rq (0, [(18, 1)]) = r 18 := zu_f1 v18
  exact ⟨_, List.mem_cons_self .., rq, hr, zq_MeS_mk rfl hT (zq_all_nil) zq_fan (zq_fan) rfl (zu_fac ((x_HS _ _ _).mpr (by show zr_HS (zq_ev rq (0, [(0, 1)])) (zq_ev rq (0, [(1, 1)])) (zq_ev rq (0, [(2, 1)])) (zq_ev rq (0, [(3, 1)])) (zq_ev rq (0, [(4, 1)])) (zq_ev rq (0, [(5, 1)])) (zq_ev rq (0, [(15, 1)])) (zq_ev rq (0, [(16, 1)])) (zq_ev rq (0, [(21, 1)])) (zq_ev rq (0, [(18, 1)])) P h; simp only [g0, g1, g2, g3, g4, g5, g6, g7, g8, g9]; exact t1)) zq_fan)⟩
noncomputable def zh_hog : zq_S × List zq_S := (([], [], [(-15, [(8, 1)]), (15, [(8, -1)]), (448, [(7, -1)]), (2147483648, [(20, 1)]), (-99, [(20, 1)]), (-99, [(21, 1)]), (99, [(21, -1)])], [], [], [], [(275, [(0, [(0, 1)]), (0, [(1, 1)]), (0, [(2, 1)]), (0, [(3, 1)]), (0, [(4, 1)]), (0, [(5, 1)]), (0, [(13, 1)]), (0, [(16, 1)]), (0, [(17, 1)]), (0, [(18, 1)])]), (259, [(0, []), (0, [(0, 1)]), (0, [(1, 1)]), (0, [(6, 1)]), (0, [(7, 1)]), (0, [(8, 1)]), (0, [(9, 1)]), (0, [(10, 1)]), (0, [(11, 1)]), (0, [(12, 1)]), (0, [(13, 1)]), (0, [(14, 1)])]), (272, [(0, []), (0, [(0, 1)]), (0, [(1, 1)]), (0, [(2, 1)]), (0, [(14, 1)]), (0, [(15, 1)]), (1, [])]), (266, [(0, [(19, 1)]), (0, [(6, 1)]), (0, [(7, 1)]), (0, [(10, 1)]), (0, []), (0, [(20, 1)])]), (278, [(0, [(19, 1)]), (0, [(2, 1)])])], 22), [([], [], [], [], [], [], [(275, [(0, [(0, 1)]), (0, [(1, 1)]), (0, [(2, 1)]), (0, [(3, 1)]), (0, [(4, 1)]), (0, [(5, 1)]), (0, [(15, 1)]), (0, [(16, 1)]), (0, [(21, 1)]), (0, [(18, 1)])])], 22)])
theorem zh_hog_l {P : zq_Ty} {h : zq_H} {g n W w m x Y z k t a b c p e q A O B v r u : Int} (a1 : 0 ≤ k - 15) (a2 : 0 ≤ -k + 15) (a3 : 0 ≤ -z + 448) (a4 : 0 ≤ r + 2147483648) (a5 : 0 ≤ r - 99) (a6 : 0 ≤ u - 99) (a7 : 0 ≤ -u + 99) (k1 : zr_HS g n W w m x p A O B P h) (k2 : zd_CB 0 g n Y z k t a b c p e P h) (k3 : zr_IS 0 g n W e q 1 P h) (k4 : zr_RK v Y z a 0 r P h) (k5 : ze_AW 102 v W P h) : (zr_HS g n W w m x q A u B P h) := by
  obtain ⟨a1_, a2_, a3_, l1, l2, l3, hA, hO, hB⟩ := k1
  exact ⟨a1_, r, a3_, zr_LW_go l1 (fun r9 hr => zr_row1 (bb := 0) (v := r) k2 (by omega) k3 (by omega) (zr_cw0 k5) k4.2 r9 (by rw [if_neg (fun q9 => by have := q9.1; omega)]; exact hr)), zr_LW_go l2 (fun r9 hr => zr_row1 (bb := 0) (v := r) k2 (by omega) k3 (by omega) (zr_cw0 k5) k4.2 r9 (by rw [if_pos ⟨by omega, by decide⟩]; exact hr)), zr_LW_go l3 (fun r9 hr => zr_row1 (bb := 0) (v := r) k2 (by omega) k3 (by omega) (zr_cw0 k5) k4.2 r9 (by rw [if_neg (fun q9 => by have := q9.1; omega)]; exact hr)), hA, by unfold zr_o1; rw [if_neg (by omega), if_neg (by omega)]; split <;> omega, hB⟩
theorem zh_hog_ok {w : zq_Wd} (x_HS : zj_is w 275 (fun q => zr_HS (q 0) (q 1) (q 2) (q 3) (q 4) (q 5) (q 6) (q 7) (q 8) (q 9))) (x_CB : zj_is w 259 (fun q => zd_CB (q 0) (q 1) (q 2) (q 3) (q 4) (q 5) (q 6) (q 7) (q 8) (q 9) (q 10) (q 11))) (x_IS : zj_is w 272 (fun q => zr_IS (q 0) (q 1) (q 2) (q 3) (q 4) (q 5) (q 6))) (x_RK : zj_is w 266 (fun q => zr_RK (q 0) (q 1) (q 2) (q 3) (q 4) (q 5))) (x_AWc : zj_is w 278 (fun q => ze_AW 102 (q 0) (q 1))) : zq_okG1 w zh_hog := by
  refine ⟨rfl, rfl, zu_fac ⟨rfl, by decide⟩ zq_fan, ?_⟩
  intro r P h H hM
  have q0 : zq_ev r (-15, [(8, 1)]) = r 8 - 15 := zu_e3 _ _ _
  have q1 : zq_ev r (15, [(8, -1)]) = -r 8 + 15 := zu_e5 _ _ _
  have q2 : zq_ev r (448, [(7, -1)]) = -r 7 + 448 := zu_e5 _ _ _
  have q3 : zq_ev r (2147483648, [(20, 1)]) = r 20 + 2147483648 := zu_e2 _ _ _
  have q4 : zq_ev r (-99, [(20, 1)]) = r 20 - 99 := zu_e3 _ _ _
  have q5 : zq_ev r (-99, [(21, 1)]) = r 21 - 99 := zu_e3 _ _ _
  have q6 : zq_ev r (99, [(21, -1)]) = -r 21 + 99 := zu_e5 _ _ _
  have q7 : zq_ev r (0, [(0, 1)]) = r 0 := zu_e1 _ _
  have q8 : zq_ev r (0, [(1, 1)]) = r 1 := zu_e1 _ _
  have q9 : zq_ev r (0, [(2, 1)]) = r 2 := zu_e1 _ _
  have q10 : zq_ev r (0, [(3, 1)]) = r 3 := zu_e1 _ _
  have q11 : zq_ev r (0, [(4, 1)]) = r 4 := zu_e1 _ _
  have q12 : zq_ev r (0, [(5, 1)]) = r 5 := zu_e1 _ _
  have q13 : zq_ev r (0, [(13, 1)]) = r 13 := zu_e1 _ _
  have q14 : zq_ev r (0, [(16, 1)]) = r 16 := zu_e1 _ _
  have q15 : zq_ev r (0, [(17, 1)]) = r 17 := zu_e1 _ _
  have q16 : zq_ev r (0, [(18, 1)]) = r 18 := zu_e1 _ _
  have q17 : zq_ev r (0, []) = 0 := zu_e0 _ _
  have q18 : zq_ev r (0, [(6, 1)]) = r 6 := zu_e1 _ _
  have q19 : zq_ev r (0, [(7, 1)]) = r 7 := zu_e1 _ _
  have q20 : zq_ev r (0, [(8, 1)]) = r 8 := zu_e1 _ _
  have q21 : zq_ev r (0, [(9, 1)]) = r 9 := zu_e1 _ _
  have q22 : zq_ev r (0, [(10, 1)]) = r 10 := zu_e1 _ _
  have q23 : zq_ev r (0, [(11, 1)]) = r 11 := zu_e1 _ _
  have q24 : zq_ev r (0, [(12, 1)]) = r 12 := zu_e1 _ _
  have q25 : zq_ev r (0, [(14, 1)]) = r 14 := zu_e1 _ _
  have q26 : zq_ev r (0, [(15, 1)]) = r 15 := zu_e1 _ _
  have q27 : zq_ev r (1, []) = 1 := zu_e0 _ _
  have q28 : zq_ev r (0, [(19, 1)]) = r 19 := zu_e1 _ _
  have q29 : zq_ev r (0, [(20, 1)]) = r 20 := zu_e1 _ _
  obtain ⟨hT, hC, hF, hS, -, hK⟩ := hM
  have c := hC.1
  have a1 := zq_all_1 c
  rw [q0] at a1
  have c := zq_all_t c
  have a2 := zq_all_1 c
  rw [q1] at a2
  have c := zq_all_t c
  have a3 := zq_all_1 c
  rw [q2] at a3
  have c := zq_all_t c
  have a4 := zq_all_1 c
  rw [q3] at a4
  have c := zq_all_t c
  have a5 := zq_all_1 c
  rw [q4] at a5
  have c := zq_all_t c
  have a6 := zq_all_1 c
  rw [q5] at a6
  have c := zq_all_t c
  have a7 := zq_all_1 c
  rw [q6] at a7
  have k1 := zj_use x_HS (hK)
  have k1 : zr_HS (zq_ev r (0, [(0, 1)])) (zq_ev r (0, [(1, 1)])) (zq_ev r (0, [(2, 1)])) (zq_ev r (0, [(3, 1)])) (zq_ev r (0, [(4, 1)])) (zq_ev r (0, [(5, 1)])) (zq_ev r (0, [(13, 1)])) (zq_ev r (0, [(16, 1)])) (zq_ev r (0, [(17, 1)])) (zq_ev r (0, [(18, 1)])) P h := k1
  simp only [q10, q11, q12, q13, q14, q15, q16, q7, q8, q9] at k1
  have k2 := zj_use x_CB (zq_okX_t (hK))
  have k2 : zd_CB (zq_ev r (0, [])) (zq_ev r (0, [(0, 1)])) (zq_ev r (0, [(1, 1)])) (zq_ev r (0, [(6, 1)])) (zq_ev r (0, [(7, 1)])) (zq_ev r (0, [(8, 1)])) (zq_ev r (0, [(9, 1)])) (zq_ev r (0, [(10, 1)])) (zq_ev r (0, [(11, 1)])) (zq_ev r (0, [(12, 1)])) (zq_ev r (0, [(13, 1)])) (zq_ev r (0, [(14, 1)])) P h := k2
  simp only [q13, q17, q18, q19, q20, q21, q22, q23, q24, q25, q7, q8] at k2
  have k3 := zj_use x_IS (zq_okX_t (zq_okX_t (hK)))
  have k3 : zr_IS (zq_ev r (0, [])) (zq_ev r (0, [(0, 1)])) (zq_ev r (0, [(1, 1)])) (zq_ev r (0, [(2, 1)])) (zq_ev r (0, [(14, 1)])) (zq_ev r (0, [(15, 1)])) (zq_ev r (1, [])) P h := k3
  simp only [q17, q25, q26, q27, q7, q8, q9] at k3
  have k4 := zj_use x_RK (zq_okX_t (zq_okX_t (zq_okX_t (hK))))
  have k4 : zr_RK (zq_ev r (0, [(19, 1)])) (zq_ev r (0, [(6, 1)])) (zq_ev r (0, [(7, 1)])) (zq_ev r (0, [(10, 1)])) (zq_ev r (0, [])) (zq_ev r (0, [(20, 1)])) P h := k4
  simp only [q17, q18, q19, q22, q28, q29] at k4
  have k5 := zj_use x_AWc (zq_okX_t (zq_okX_t (zq_okX_t (zq_okX_t (hK)))))
  have k5 : ze_AW 102 (zq_ev r (0, [(19, 1)])) (zq_ev r (0, [(2, 1)])) P h := k5
  simp only [q28, q9] at k5
  obtain t1 := zh_hog_l (P := P) (h := h) (g := r 0) (n := r 1) (W := r 2) (w := r 3) (m := r 4) (x := r 5) (Y := r 6) (z := r 7) (k := r 8) (t := r 9) (a := r 10) (b := r 11) (c := r 12) (p := r 13) (e := r 14) (q := r 15) (A := r 16) (O := r 17) (B := r 18) (v := r 19) (r := r 20) (u := r 21) a1 a2 a3 a4 a5 a6 a7 k1 k2 k3 k4 k5
  obtain ⟨rq, hr⟩ : ∃ rq : Nat → Int, (∀ i, i < 22 → rq i = r i) := ⟨r, fun i hi => rfl⟩
  have v0 : rq 0 = r 0 := hr 0 (by decide)
  have v1 : rq 1 = r 1 := hr 1 (by decide)
  have v2 : rq 2 = r 2 := hr 2 (by decide)
  have v3 : rq 3 = r 3 := hr 3 (by decide)
  have v4 : rq 4 = r 4 := hr 4 (by decide)
  have v5 : rq 5 = r 5 := hr 5 (by decide)
  have v15 : rq 15 = r 15 := hr 15 (by decide)
  have v16 : rq 16 = r 16 := hr 16 (by decide)
  have v18 : rq 18 = r 18 := hr 18 (by decide)
  have v21 : rq 21 = r 21 := hr 21 (by decide)
  have g0 : zq_ev rq (0, [(0, 1)]) = r 0 := zu_f1 v0
  have g1 : zq_ev rq (0, [(1, 1)]) = r 1 := zu_f1 v1
  have g2 : zq_ev rq (0, [(2, 1)]) = r 2 := zu_f1 v2
  have g3 : zq_ev rq (0, [(3, 1)]) = r 3 := zu_f1 v3
  have g4 : zq_ev rq (0, [(4, 1)]) = r 4 := zu_f1 v4
  have g5 : zq_ev rq (0, [(5, 1)]) = r 5 := zu_f1 v5
  have g6 : zq_ev rq (0, [(15, 1)]) = r 15 := zu_f1 v15
  have g7 : zq_ev rq (0, [(16, 1)]) = r 16 := zu_f1 v16
  have g8 : zq_ev rq (0, [(21, 1)]) = r 21 := zu_f1 v21
  have g9 : zq_ev rq (0, [(18, 1)]) = r 18 := zu_f1 v18
  exact ⟨_, List.mem_cons_self .., rq, hr, zq_MeS_mk rfl hT (zq_all_nil) zq_fan (zq_fan) rfl (zu_fac ((x_HS _ _ _).mpr (by show zr_HS (zq_ev rq (0, [(0, 1)])) (zq_ev rq (0, [(1, 1)])) (zq_ev rq (0, [(2, 1)])) (zq_ev rq (0, [(3, 1)])) (zq_ev rq (0, [(4, 1)])) (zq_ev rq (0, [(5, 1)])) (zq_ev rq (0, [(15, 1)])) (zq_ev rq (0, [(16, 1)])) (zq_ev rq (0, [(21, 1)])) (zq_ev rq (0, [(18, 1)])) P h; simp only [g0, g1, g2, g3, g4, g5, g6, g7, g8, g9]; exact t1)) zq_fan)⟩
noncomputable def zh_e1 : zq_S × List zq_S := (([], [], [(-1, [(9, 1)]), (0, [(15, -1), (18, 1)]), (0, [(15, 1), (18, -1)])], [], [], [], [(275, [(0, [(0, 1)]), (0, [(1, 1)]), (0, [(2, 1)]), (0, [(3, 1)]), (0, [(4, 1)]), (0, [(5, 1)]), (0, [(6, 1)]), (0, [(7, 1)]), (0, [(8, 1)]), (0, [(9, 1)])]), (273, [(0, [(10, 1)]), (0, [(11, 1)]), (0, [(12, 1)]), (0, [(13, 1)]), (0, [(14, 1)]), (0, [(0, 1)]), (0, [(1, 1)]), (0, [(15, 1)]), (0, [(16, 1)]), (0, [(17, 1)]), (0, [(18, 1)]), (0, [(6, 1)])])], 19), [([], [], [], [], [], [], [(276, [(0, [(0, 1)]), (0, [(1, 1)]), (0, [(2, 1)]), (0, [(3, 1)]), (0, [(4, 1)]), (7, [])]), (277, [(0, [(0, 1)]), (0, [(1, 1)]), (0, [(2, 1)]), (0, [(5, 1)]), (0, [(8, 1)])])], 19)])
theorem zh_e1_l {P : zq_Ty} {h : zq_H} {g n W w m x p A O B ak at_ as_ ac o m9 z Y c : Int} (a1 : 0 ≤ B - 1) (a2 : 0 ≤ -m9 + c) (a3 : 0 ≤ m9 - c) (k1 : zr_HS g n W w m x p A O B P h) (k2 : zr_XP 25 26 27 28 ak at_ as_ ac o g n m9 z Y c p P h) : (zr_GW g n W w m 7 P h ∧ zr_GO g n W x O P h) := by
  obtain ⟨a1_, a2_, a3_, l1, l2, l3, hA, hO, hB⟩ := k1
  have hp : ze_L g n ≤ p := by
    obtain ⟨-, -, -, -, -, -, -, -, -, -, ps, -, d2, d3, -⟩ := k2
    rw [show c = m9 by omega, d2] at d3
    omega
  have t1 := l1 _ (zl_end hp)
  have t2 := l2 _ (zl_end hp)
  have t3 := l3 _ (zl_end hp)
  rcases hB with ⟨-, hB⟩ | ⟨hB, -⟩
  · omega
  exact ⟨Or.inl ⟨a3_, t3, hB, rfl⟩, a2_, t2, hO⟩
theorem zh_e1_ok {w : zq_Wd} (x_HS : zj_is w 275 (fun q => zr_HS (q 0) (q 1) (q 2) (q 3) (q 4) (q 5) (q 6) (q 7) (q 8) (q 9))) (x_XP : zj_is w 273 (fun q => zr_XP 25 26 27 28 (q 0) (q 1) (q 2) (q 3) (q 4) (q 5) (q 6) (q 7) (q 8) (q 9) (q 10) (q 11))) (x_GW : zj_is w 276 (fun q => zr_GW (q 0) (q 1) (q 2) (q 3) (q 4) (q 5))) (x_GO : zj_is w 277 (fun q => zr_GO (q 0) (q 1) (q 2) (q 3) (q 4))) : zq_okG1 w zh_e1 := by
  refine ⟨rfl, rfl, zu_fac ⟨rfl, by decide⟩ zq_fan, ?_⟩
  intro r P h H hM
  have q0 : zq_ev r (-1, [(9, 1)]) = r 9 - 1 := zu_e3 _ _ _
  have q1 : zq_ev r (0, [(15, -1), (18, 1)]) = -r 15 + r 18 := by simp only [zq_ev, zq_ts] <;> omega
  have q2 : zq_ev r (0, [(15, 1), (18, -1)]) = r 15 - r 18 := by simp only [zq_ev, zq_ts] <;> omega
  have q3 : zq_ev r (0, [(0, 1)]) = r 0 := zu_e1 _ _
  have q4 : zq_ev r (0, [(1, 1)]) = r 1 := zu_e1 _ _
  have q5 : zq_ev r (0, [(2, 1)]) = r 2 := zu_e1 _ _
  have q6 : zq_ev r (0, [(3, 1)]) = r 3 := zu_e1 _ _
  have q7 : zq_ev r (0, [(4, 1)]) = r 4 := zu_e1 _ _
  have q8 : zq_ev r (0, [(5, 1)]) = r 5 := zu_e1 _ _
  have q9 : zq_ev r (0, [(6, 1)]) = r 6 := zu_e1 _ _
  have q10 : zq_ev r (0, [(7, 1)]) = r 7 := zu_e1 _ _
  have q11 : zq_ev r (0, [(8, 1)]) = r 8 := zu_e1 _ _
  have q12 : zq_ev r (0, [(9, 1)]) = r 9 := zu_e1 _ _
  have q13 : zq_ev r (0, [(10, 1)]) = r 10 := zu_e1 _ _
  have q14 : zq_ev r (0, [(11, 1)]) = r 11 := zu_e1 _ _
  have q15 : zq_ev r (0, [(12, 1)]) = r 12 := zu_e1 _ _
  have q16 : zq_ev r (0, [(13, 1)]) = r 13 := zu_e1 _ _
  have q17 : zq_ev r (0, [(14, 1)]) = r 14 := zu_e1 _ _
  have q18 : zq_ev r (0, [(15, 1)]) = r 15 := zu_e1 _ _
  have q19 : zq_ev r (0, [(16, 1)]) = r 16 := zu_e1 _ _
  have q20 : zq_ev r (0, [(17, 1)]) = r 17 := zu_e1 _ _
  have q21 : zq_ev r (0, [(18, 1)]) = r 18 := zu_e1 _ _
  obtain ⟨hT, hC, hF, hS, -, hK⟩ := hM
  have c := hC.1
  have a1 := zq_all_1 c
  rw [q0] at a1
  have c := zq_all_t c
  have a2 := zq_all_1 c
  rw [q1] at a2
  have c := zq_all_t c
  have a3 := zq_all_1 c
  rw [q2] at a3
  have k1 := zj_use x_HS (hK)
  have k1 : zr_HS (zq_ev r (0, [(0, 1)])) (zq_ev r (0, [(1, 1)])) (zq_ev r (0, [(2, 1)])) (zq_ev r (0, [(3, 1)])) (zq_ev r (0, [(4, 1)])) (zq_ev r (0, [(5, 1)])) (zq_ev r (0, [(6, 1)])) (zq_ev r (0, [(7, 1)])) (zq_ev r (0, [(8, 1)])) (zq_ev r (0, [(9, 1)])) P h := k1
  simp only [q10, q11, q12, q3, q4, q5, q6, q7, q8, q9] at k1
  have k2 := zj_use x_XP (zq_okX_t (hK))
  have k2 : zr_XP 25 26 27 28 (zq_ev r (0, [(10, 1)])) (zq_ev r (0, [(11, 1)])) (zq_ev r (0, [(12, 1)])) (zq_ev r (0, [(13, 1)])) (zq_ev r (0, [(14, 1)])) (zq_ev r (0, [(0, 1)])) (zq_ev r (0, [(1, 1)])) (zq_ev r (0, [(15, 1)])) (zq_ev r (0, [(16, 1)])) (zq_ev r (0, [(17, 1)])) (zq_ev r (0, [(18, 1)])) (zq_ev r (0, [(6, 1)])) P h := k2
  simp only [q13, q14, q15, q16, q17, q18, q19, q20, q21, q3, q4, q9] at k2
  obtain ⟨t1, t2⟩ := zh_e1_l (P := P) (h := h) (g := r 0) (n := r 1) (W := r 2) (w := r 3) (m := r 4) (x := r 5) (p := r 6) (A := r 7) (O := r 8) (B := r 9) (ak := r 10) (at_ := r 11) (as_ := r 12) (ac := r 13) (o := r 14) (m9 := r 15) (z := r 16) (Y := r 17) (c := r 18) a1 a2 a3 k1 k2
  obtain ⟨rq, hr⟩ : ∃ rq : Nat → Int, (∀ i, i < 19 → rq i = r i) := ⟨r, fun i hi => rfl⟩
  have v0 : rq 0 = r 0 := hr 0 (by decide)
  have v1 : rq 1 = r 1 := hr 1 (by decide)
  have v2 : rq 2 = r 2 := hr 2 (by decide)
  have v3 : rq 3 = r 3 := hr 3 (by decide)
  have v4 : rq 4 = r 4 := hr 4 (by decide)
  have v5 : rq 5 = r 5 := hr 5 (by decide)
  have v8 : rq 8 = r 8 := hr 8 (by decide)
  have g0 : zq_ev rq (0, [(0, 1)]) = r 0 := zu_f1 v0
  have g1 : zq_ev rq (0, [(1, 1)]) = r 1 := zu_f1 v1
  have g2 : zq_ev rq (0, [(2, 1)]) = r 2 := zu_f1 v2
  have g3 : zq_ev rq (0, [(5, 1)]) = r 5 := zu_f1 v5
  have g4 : zq_ev rq (0, [(8, 1)]) = r 8 := zu_f1 v8
  have g5 : zq_ev rq (0, [(3, 1)]) = r 3 := zu_f1 v3
  have g6 : zq_ev rq (0, [(4, 1)]) = r 4 := zu_f1 v4
  have g7 : zq_ev rq (7, []) = 7 := zu_e0 _ _
  exact ⟨_, List.mem_cons_self .., rq, hr, zq_MeS_mk rfl hT (zq_all_nil) zq_fan (zq_fan) rfl (zu_fac ((x_GW _ _ _).mpr (by show zr_GW (zq_ev rq (0, [(0, 1)])) (zq_ev rq (0, [(1, 1)])) (zq_ev rq (0, [(2, 1)])) (zq_ev rq (0, [(3, 1)])) (zq_ev rq (0, [(4, 1)])) (zq_ev rq (7, [])) P h; simp only [g0, g1, g2, g5, g6, g7]; exact t1)) (zu_fac ((x_GO _ _ _).mpr (by show zr_GO (zq_ev rq (0, [(0, 1)])) (zq_ev rq (0, [(1, 1)])) (zq_ev rq (0, [(2, 1)])) (zq_ev rq (0, [(5, 1)])) (zq_ev rq (0, [(8, 1)])) P h; simp only [g0, g1, g2, g3, g4]; exact t2)) zq_fan))⟩
noncomputable def zh_e0 : zq_S × List zq_S := (([], [], [(0, [(9, -1)]), (0, [(15, -1), (18, 1)]), (0, [(15, 1), (18, -1)])], [], [], [], [(275, [(0, [(0, 1)]), (0, [(1, 1)]), (0, [(2, 1)]), (0, [(3, 1)]), (0, [(4, 1)]), (0, [(5, 1)]), (0, [(6, 1)]), (0, [(7, 1)]), (0, [(8, 1)]), (0, [(9, 1)])]), (273, [(0, [(10, 1)]), (0, [(11, 1)]), (0, [(12, 1)]), (0, [(13, 1)]), (0, [(14, 1)]), (0, [(0, 1)]), (0, [(1, 1)]), (0, [(15, 1)]), (0, [(16, 1)]), (0, [(17, 1)]), (0, [(18, 1)]), (0, [(6, 1)])])], 19), [([], [], [], [], [], [], [(276, [(0, [(0, 1)]), (0, [(1, 1)]), (0, [(2, 1)]), (0, [(3, 1)]), (0, [(4, 1)]), (0, [(7, 1)])]), (277, [(0, [(0, 1)]), (0, [(1, 1)]), (0, [(2, 1)]), (0, [(5, 1)]), (0, [(8, 1)])])], 19)])
theorem zh_e0_l {P : zq_Ty} {h : zq_H} {g n W w m x p A O B ak at_ as_ ac o m9 z Y c : Int} (a1 : 0 ≤ -B) (a2 : 0 ≤ -m9 + c) (a3 : 0 ≤ m9 - c) (k1 : zr_HS g n W w m x p A O B P h) (k2 : zr_XP 25 26 27 28 ak at_ as_ ac o g n m9 z Y c p P h) : (zr_GW g n W w m A P h ∧ zr_GO g n W x O P h) := by
  obtain ⟨a1_, a2_, a3_, l1, l2, l3, hA, hO, hB⟩ := k1
  have hp : ze_L g n ≤ p := by
    obtain ⟨-, -, -, -, -, -, -, -, -, -, ps, -, d2, d3, -⟩ := k2
    rw [show c = m9 by omega, d2] at d3
    omega
  have t1 := l1 _ (zl_end hp)
  have t2 := l2 _ (zl_end hp)
  have t3 := l3 _ (zl_end hp)
  rcases hB with ⟨hB, -⟩ | ⟨-, hB⟩
  · rw [hB] at t3
    exact ⟨Or.inr ⟨t3, a1_, t1, hA⟩, a2_, t2, hO⟩
  · omega
theorem zh_e0_ok {w : zq_Wd} (x_HS : zj_is w 275 (fun q => zr_HS (q 0) (q 1) (q 2) (q 3) (q 4) (q 5) (q 6) (q 7) (q 8) (q 9))) (x_XP : zj_is w 273 (fun q => zr_XP 25 26 27 28 (q 0) (q 1) (q 2) (q 3) (q 4) (q 5) (q 6) (q 7) (q 8) (q 9) (q 10) (q 11))) (x_GW : zj_is w 276 (fun q => zr_GW (q 0) (q 1) (q 2) (q 3) (q 4) (q 5))) (x_GO : zj_is w 277 (fun q => zr_GO (q 0) (q 1) (q 2) (q 3) (q 4))) : zq_okG1 w zh_e0 := by
  refine ⟨rfl, rfl, zu_fac ⟨rfl, by decide⟩ zq_fan, ?_⟩
  intro r P h H hM
  have q0 : zq_ev r (0, [(9, -1)]) = -r 9 := zu_e4 _ _
  have q1 : zq_ev r (0, [(15, -1), (18, 1)]) = -r 15 + r 18 := by simp only [zq_ev, zq_ts] <;> omega
  have q2 : zq_ev r (0, [(15, 1), (18, -1)]) = r 15 - r 18 := by simp only [zq_ev, zq_ts] <;> omega
  have q3 : zq_ev r (0, [(0, 1)]) = r 0 := zu_e1 _ _
  have q4 : zq_ev r (0, [(1, 1)]) = r 1 := zu_e1 _ _
  have q5 : zq_ev r (0, [(2, 1)]) = r 2 := zu_e1 _ _
  have q6 : zq_ev r (0, [(3, 1)]) = r 3 := zu_e1 _ _
  have q7 : zq_ev r (0, [(4, 1)]) = r 4 := zu_e1 _ _
  have q8 : zq_ev r (0, [(5, 1)]) = r 5 := zu_e1 _ _
  have q9 : zq_ev r (0, [(6, 1)]) = r 6 := zu_e1 _ _
  have q10 : zq_ev r (0, [(7, 1)]) = r 7 := zu_e1 _ _
  have q11 : zq_ev r (0, [(8, 1)]) = r 8 := zu_e1 _ _
  have q12 : zq_ev r (0, [(9, 1)]) = r 9 := zu_e1 _ _
  have q13 : zq_ev r (0, [(10, 1)]) = r 10 := zu_e1 _ _
  have q14 : zq_ev r (0, [(11, 1)]) = r 11 := zu_e1 _ _
  have q15 : zq_ev r (0, [(12, 1)]) = r 12 := zu_e1 _ _
  have q16 : zq_ev r (0, [(13, 1)]) = r 13 := zu_e1 _ _
  have q17 : zq_ev r (0, [(14, 1)]) = r 14 := zu_e1 _ _
  have q18 : zq_ev r (0, [(15, 1)]) = r 15 := zu_e1 _ _
  have q19 : zq_ev r (0, [(16, 1)]) = r 16 := zu_e1 _ _
  have q20 : zq_ev r (0, [(17, 1)]) = r 17 := zu_e1 _ _
  have q21 : zq_ev r (0, [(18, 1)]) = r 18 := zu_e1 _ _
  obtain ⟨hT, hC, hF, hS, -, hK⟩ := hM
  have c := hC.1
  have a1 := zq_all_1 c
  rw [q0] at a1
  have c := zq_all_t c
  have a2 := zq_all_1 c
  rw [q1] at a2
  have c := zq_all_t c
  have a3 := zq_all_1 c
  rw [q2] at a3
  have k1 := zj_use x_HS (hK)
  have k1 : zr_HS (zq_ev r (0, [(0, 1)])) (zq_ev r (0, [(1, 1)])) (zq_ev r (0, [(2, 1)])) (zq_ev r (0, [(3, 1)])) (zq_ev r (0, [(4, 1)])) (zq_ev r (0, [(5, 1)])) (zq_ev r (0, [(6, 1)])) (zq_ev r (0, [(7, 1)])) (zq_ev r (0, [(8, 1)])) (zq_ev r (0, [(9, 1)])) P h := k1
  simp only [q10, q11, q12, q3, q4, q5, q6, q7, q8, q9] at k1
  have k2 := zj_use x_XP (zq_okX_t (hK))
  have k2 : zr_XP 25 26 27 28 (zq_ev r (0, [(10, 1)])) (zq_ev r (0, [(11, 1)])) (zq_ev r (0, [(12, 1)])) (zq_ev r (0, [(13, 1)])) (zq_ev r (0, [(14, 1)])) (zq_ev r (0, [(0, 1)])) (zq_ev r (0, [(1, 1)])) (zq_ev r (0, [(15, 1)])) (zq_ev r (0, [(16, 1)])) (zq_ev r (0, [(17, 1)])) (zq_ev r (0, [(18, 1)])) (zq_ev r (0, [(6, 1)])) P h := k2
  simp only [q13, q14, q15, q16, q17, q18, q19, q20, q21, q3, q4, q9] at k2
  obtain ⟨t1, t2⟩ := zh_e0_l (P := P) (h := h) (g := r 0) (n := r 1) (W := r 2) (w := r 3) (m := r 4) (x := r 5) (p := r 6) (A := r 7) (O := r 8) (B := r 9) (ak := r 10) (at_ := r 11) (as_ := r 12) (ac := r 13) (o := r 14) (m9 := r 15) (z := r 16) (Y := r 17) (c := r 18) a1 a2 a3 k1 k2
  obtain ⟨rq, hr⟩ : ∃ rq : Nat → Int, (∀ i, i < 19 → rq i = r i) := ⟨r, fun i hi => rfl⟩
  have v0 : rq 0 = r 0 := hr 0 (by decide)
  have v1 : rq 1 = r 1 := hr 1 (by decide)
  have v2 : rq 2 = r 2 := hr 2 (by decide)
  have v3 : rq 3 = r 3 := hr 3 (by decide)
  have v4 : rq 4 = r 4 := hr 4 (by decide)
  have v5 : rq 5 = r 5 := hr 5 (by decide)
  have v7 : rq 7 = r 7 := hr 7 (by decide)
  have v8 : rq 8 = r 8 := hr 8 (by decide)
  have g0 : zq_ev rq (0, [(0, 1)]) = r 0 := zu_f1 v0
  have g1 : zq_ev rq (0, [(1, 1)]) = r 1 := zu_f1 v1
  have g2 : zq_ev rq (0, [(2, 1)]) = r 2 := zu_f1 v2
  have g3 : zq_ev rq (0, [(5, 1)]) = r 5 := zu_f1 v5
  have g4 : zq_ev rq (0, [(8, 1)]) = r 8 := zu_f1 v8
  have g5 : zq_ev rq (0, [(3, 1)]) = r 3 := zu_f1 v3
  have g6 : zq_ev rq (0, [(4, 1)]) = r 4 := zu_f1 v4
  have g7 : zq_ev rq (0, [(7, 1)]) = r 7 := zu_f1 v7
  exact ⟨_, List.mem_cons_self .., rq, hr, zq_MeS_mk rfl hT (zq_all_nil) zq_fan (zq_fan) rfl (zu_fac ((x_GW _ _ _).mpr (by show zr_GW (zq_ev rq (0, [(0, 1)])) (zq_ev rq (0, [(1, 1)])) (zq_ev rq (0, [(2, 1)])) (zq_ev rq (0, [(3, 1)])) (zq_ev rq (0, [(4, 1)])) (zq_ev rq (0, [(7, 1)])) P h; simp only [g0, g1, g2, g5, g6, g7]; exact t1)) (zu_fac ((x_GO _ _ _).mpr (by show zr_GO (zq_ev rq (0, [(0, 1)])) (zq_ev rq (0, [(1, 1)])) (zq_ev rq (0, [(2, 1)])) (zq_ev rq (0, [(5, 1)])) (zq_ev rq (0, [(8, 1)])) P h; simp only [g0, g1, g2, g3, g4]; exact t2)) zq_fan))⟩
noncomputable def zh_pw : zq_S × List zq_S := (([], [], [(0, [(0, 1)]), (2147483648, [(1, 1)]), (2147483647, [(1, -1)]), (2147483648, [(2, 1)]), (2147483647, [(2, -1)]), (2147483648, [(3, 1)]), (2147483647, [(3, -1)]), (2147483648, [(4, 1)]), (2147483647, [(4, -1)]), (2147483648, [(5, 1)]), (2147483647, [(5, -1)]), (2147483648, [(6, 1)]), (2147483647, [(6, -1)]), (2147483648, [(7, 1)]), (2147483647, [(7, -1)]), (2147483648, [(8, 1)]), (2147483647, [(8, -1)])], [((0, [(0, 1)]), 102)], [((0, [(0, 1)]), (0, []), (0, [(1, 1)])), ((0, [(0, 1)]), (1, []), (0, [(2, 1)])), ((0, [(0, 1)]), (2, []), (0, [(3, 1)])), ((0, [(0, 1)]), (3, []), (0, [(4, 1)])), ((0, [(0, 1)]), (4, []), (0, [(5, 1)])), ((0, [(0, 1)]), (5, []), (0, [(6, 1)])), ((0, [(0, 1)]), (6, []), (0, [(7, 1)])), ((0, [(0, 1)]), (7, []), (0, [(8, 1)]))], [], [], 9), [([], [], [], [], [], [], [(278, [(0, [(0, 1)]), (0, [(9, 1)])]), (235, [(0, [(9, 1)]), (0, [(1, 1)]), (0, [(2, 1)]), (0, [(3, 1)]), (0, [(4, 1)]), (0, [(5, 1)]), (0, [(6, 1)]), (0, [(7, 1)]), (0, [(8, 1)])])], 10)])
theorem zh_pw_l {P : zq_Ty} {h : zq_H} {a v0 v1 v2 v3 v4 v5 v6 v7 : Int} (a1 : 0 ≤ a) (a2 : 0 ≤ v0 + 2147483648) (a3 : 0 ≤ -v0 + 2147483647) (a4 : 0 ≤ v1 + 2147483648) (a5 : 0 ≤ -v1 + 2147483647) (a6 : 0 ≤ v2 + 2147483648) (a7 : 0 ≤ -v2 + 2147483647) (a8 : 0 ≤ v3 + 2147483648) (a9 : 0 ≤ -v3 + 2147483647) (a10 : 0 ≤ v4 + 2147483648) (a11 : 0 ≤ -v4 + 2147483647) (a12 : 0 ≤ v5 + 2147483648) (a13 : 0 ≤ -v5 + 2147483647) (a14 : 0 ≤ v6 + 2147483648) (a15 : 0 ≤ -v6 + 2147483647) (a16 : 0 ≤ v7 + 2147483648) (a17 : 0 ≤ -v7 + 2147483647) (b1 : 0 ≤ a → P (a).toNat = some 102) (s1 : 0 ≤ a ∧ P (a).toNat ≠ none ∧ h (a).toNat 0 = v0) (s2 : 0 ≤ a ∧ P (a).toNat ≠ none ∧ h (a).toNat 1 = v1) (s3 : 0 ≤ a ∧ P (a).toNat ≠ none ∧ h (a).toNat 2 = v2) (s4 : 0 ≤ a ∧ P (a).toNat ≠ none ∧ h (a).toNat 3 = v3) (s5 : 0 ≤ a ∧ P (a).toNat ≠ none ∧ h (a).toNat 4 = v4) (s6 : 0 ≤ a ∧ P (a).toNat ≠ none ∧ h (a).toNat 5 = v5) (s7 : 0 ≤ a ∧ P (a).toNat ≠ none ∧ h (a).toNat 6 = v6) (s8 : 0 ≤ a ∧ P (a).toNat ≠ none ∧ h (a).toNat 7 = v7) : (∃ W : Int, ze_AW 102 a W P h ∧ zl_PW W v0 v1 v2 v3 v4 v5 v6 v7 P h) := by
  refine ⟨zl_pk v0 v1 v2 v3 v4 v5 v6 v7, ⟨⟨a1, b1 a1⟩, fun j j0 j1 => ?_⟩, rfl⟩
  rw [zl_pk_dg (by unfold zn_in; omega) (by unfold zn_in; omega) (by unfold zn_in; omega) (by unfold zn_in; omega) (by unfold zn_in; omega) (by unfold zn_in; omega) (by unfold zn_in; omega) (by unfold zn_in; omega) j0 j1]
  rcases zl_c8 j0 j1 with e | e | e | e | e | e | e | e <;> subst e
  · exact s1.2.2
  · exact s2.2.2
  · exact s3.2.2
  · exact s4.2.2
  · exact s5.2.2
  · exact s6.2.2
  · exact s7.2.2
  · exact s8.2.2
theorem zh_pw_ok {w : zq_Wd} (x_AWc : zj_is w 278 (fun q => ze_AW 102 (q 0) (q 1))) (x_PW : zj_is w 235 (fun q => zl_PW (q 0) (q 1) (q 2) (q 3) (q 4) (q 5) (q 6) (q 7) (q 8))) : zq_okG1 w zh_pw := by
  refine ⟨rfl, rfl, zu_fac ⟨rfl, by decide⟩ zq_fan, ?_⟩
  intro r P h H hM
  have q0 : zq_ev r (0, [(0, 1)]) = r 0 := zu_e1 _ _
  have q1 : zq_ev r (2147483648, [(1, 1)]) = r 1 + 2147483648 := zu_e2 _ _ _
  have q2 : zq_ev r (2147483647, [(1, -1)]) = -r 1 + 2147483647 := zu_e5 _ _ _
  have q3 : zq_ev r (2147483648, [(2, 1)]) = r 2 + 2147483648 := zu_e2 _ _ _
  have q4 : zq_ev r (2147483647, [(2, -1)]) = -r 2 + 2147483647 := zu_e5 _ _ _
  have q5 : zq_ev r (2147483648, [(3, 1)]) = r 3 + 2147483648 := zu_e2 _ _ _
  have q6 : zq_ev r (2147483647, [(3, -1)]) = -r 3 + 2147483647 := zu_e5 _ _ _
  have q7 : zq_ev r (2147483648, [(4, 1)]) = r 4 + 2147483648 := zu_e2 _ _ _
  have q8 : zq_ev r (2147483647, [(4, -1)]) = -r 4 + 2147483647 := zu_e5 _ _ _
  have q9 : zq_ev r (2147483648, [(5, 1)]) = r 5 + 2147483648 := zu_e2 _ _ _
  have q10 : zq_ev r (2147483647, [(5, -1)]) = -r 5 + 2147483647 := zu_e5 _ _ _
  have q11 : zq_ev r (2147483648, [(6, 1)]) = r 6 + 2147483648 := zu_e2 _ _ _
  have q12 : zq_ev r (2147483647, [(6, -1)]) = -r 6 + 2147483647 := zu_e5 _ _ _
  have q13 : zq_ev r (2147483648, [(7, 1)]) = r 7 + 2147483648 := zu_e2 _ _ _
  have q14 : zq_ev r (2147483647, [(7, -1)]) = -r 7 + 2147483647 := zu_e5 _ _ _
  have q15 : zq_ev r (2147483648, [(8, 1)]) = r 8 + 2147483648 := zu_e2 _ _ _
  have q16 : zq_ev r (2147483647, [(8, -1)]) = -r 8 + 2147483647 := zu_e5 _ _ _
  have q17 : zq_ev r (0, []) = 0 := zu_e0 _ _
  have q18 : zq_ev r (0, [(1, 1)]) = r 1 := zu_e1 _ _
  have q19 : zq_ev r (1, []) = 1 := zu_e0 _ _
  have q20 : zq_ev r (0, [(2, 1)]) = r 2 := zu_e1 _ _
  have q21 : zq_ev r (2, []) = 2 := zu_e0 _ _
  have q22 : zq_ev r (0, [(3, 1)]) = r 3 := zu_e1 _ _
  have q23 : zq_ev r (3, []) = 3 := zu_e0 _ _
  have q24 : zq_ev r (0, [(4, 1)]) = r 4 := zu_e1 _ _
  have q25 : zq_ev r (4, []) = 4 := zu_e0 _ _
  have q26 : zq_ev r (0, [(5, 1)]) = r 5 := zu_e1 _ _
  have q27 : zq_ev r (5, []) = 5 := zu_e0 _ _
  have q28 : zq_ev r (0, [(6, 1)]) = r 6 := zu_e1 _ _
  have q29 : zq_ev r (6, []) = 6 := zu_e0 _ _
  have q30 : zq_ev r (0, [(7, 1)]) = r 7 := zu_e1 _ _
  have q31 : zq_ev r (7, []) = 7 := zu_e0 _ _
  have q32 : zq_ev r (0, [(8, 1)]) = r 8 := zu_e1 _ _
  obtain ⟨hT, hC, hF, hS, -, hK⟩ := hM
  have c := hC.1
  have a1 := zq_all_1 c
  rw [q0] at a1
  have c := zq_all_t c
  have a2 := zq_all_1 c
  rw [q1] at a2
  have c := zq_all_t c
  have a3 := zq_all_1 c
  rw [q2] at a3
  have c := zq_all_t c
  have a4 := zq_all_1 c
  rw [q3] at a4
  have c := zq_all_t c
  have a5 := zq_all_1 c
  rw [q4] at a5
  have c := zq_all_t c
  have a6 := zq_all_1 c
  rw [q5] at a6
  have c := zq_all_t c
  have a7 := zq_all_1 c
  rw [q6] at a7
  have c := zq_all_t c
  have a8 := zq_all_1 c
  rw [q7] at a8
  have c := zq_all_t c
  have a9 := zq_all_1 c
  rw [q8] at a9
  have c := zq_all_t c
  have a10 := zq_all_1 c
  rw [q9] at a10
  have c := zq_all_t c
  have a11 := zq_all_1 c
  rw [q10] at a11
  have c := zq_all_t c
  have a12 := zq_all_1 c
  rw [q11] at a12
  have c := zq_all_t c
  have a13 := zq_all_1 c
  rw [q12] at a13
  have c := zq_all_t c
  have a14 := zq_all_1 c
  rw [q13] at a14
  have c := zq_all_t c
  have a15 := zq_all_1 c
  rw [q14] at a15
  have c := zq_all_t c
  have a16 := zq_all_1 c
  rw [q15] at a16
  have c := zq_all_t c
  have a17 := zq_all_1 c
  rw [q16] at a17
  have b1 : 0 ≤ r 0 → P (r 0).toNat = some 102 := fun z => by
    have z1 : 0 ≤ zq_ev r (0, [(0, 1)]) := by rw [q0]; exact z
    have z2 := zq_okF_1 (hF) z1
    simp only [q0] at z2
    exact z2
  have s1 := zq_okS_1 (hS)
  simp only [q0, q17, q18] at s1
  have s2 := zq_okS_1 (zq_okS_t (hS))
  simp only [q0, q19, q20] at s2
  have s3 := zq_okS_1 (zq_okS_t (zq_okS_t (hS)))
  simp only [q0, q21, q22] at s3
  have s4 := zq_okS_1 (zq_okS_t (zq_okS_t (zq_okS_t (hS))))
  simp only [q0, q23, q24] at s4
  have s5 := zq_okS_1 (zq_okS_t (zq_okS_t (zq_okS_t (zq_okS_t (hS)))))
  simp only [q0, q25, q26] at s5
  have s6 := zq_okS_1 (zq_okS_t (zq_okS_t (zq_okS_t (zq_okS_t (zq_okS_t (hS))))))
  simp only [q0, q27, q28] at s6
  have s7 := zq_okS_1 (zq_okS_t (zq_okS_t (zq_okS_t (zq_okS_t (zq_okS_t (zq_okS_t (hS)))))))
  simp only [q0, q29, q30] at s7
  have s8 := zq_okS_1 (zq_okS_t (zq_okS_t (zq_okS_t (zq_okS_t (zq_okS_t (zq_okS_t (zq_okS_t (hS))))))))
  simp only [q0, q31, q32] at s8
  obtain ⟨y_0, t1, t2⟩ := zh_pw_l (P := P) (h := h) (a := r 0) (v0 := r 1) (v1 := r 2) (v2 := r 3) (v3 := r 4) (v4 := r 5) (v5 := r 6) (v6 := r 7) (v7 := r 8) a1 a2 a3 a4 a5 a6 a7 a8 a9 a10 a11 a12 a13 a14 a15 a16 a17 b1 s1 s2 s3 s4 s5 s6 s7 s8
  obtain ⟨rq, hr, w9⟩ : ∃ rq : Nat → Int, (∀ i, i < 9 → rq i = r i) ∧ rq 9 = y_0 := ⟨zq_up r 9 y_0, fun i hi => by rw [zu_up_ne (by omega)], rfl⟩
  have v0 : rq 0 = r 0 := hr 0 (by decide)
  have v1 : rq 1 = r 1 := hr 1 (by decide)
  have v2 : rq 2 = r 2 := hr 2 (by decide)
  have v3 : rq 3 = r 3 := hr 3 (by decide)
  have v4 : rq 4 = r 4 := hr 4 (by decide)
  have v5 : rq 5 = r 5 := hr 5 (by decide)
  have v6 : rq 6 = r 6 := hr 6 (by decide)
  have v7 : rq 7 = r 7 := hr 7 (by decide)
  have v8 : rq 8 = r 8 := hr 8 (by decide)
  have g0 : zq_ev rq (0, [(9, 1)]) = y_0 := zu_f1 w9
  have g1 : zq_ev rq (0, [(1, 1)]) = r 1 := zu_f1 v1
  have g2 : zq_ev rq (0, [(2, 1)]) = r 2 := zu_f1 v2
  have g3 : zq_ev rq (0, [(3, 1)]) = r 3 := zu_f1 v3
  have g4 : zq_ev rq (0, [(4, 1)]) = r 4 := zu_f1 v4
  have g5 : zq_ev rq (0, [(5, 1)]) = r 5 := zu_f1 v5
  have g6 : zq_ev rq (0, [(6, 1)]) = r 6 := zu_f1 v6
  have g7 : zq_ev rq (0, [(7, 1)]) = r 7 := zu_f1 v7
  have g8 : zq_ev rq (0, [(8, 1)]) = r 8 := zu_f1 v8
  have g9 : zq_ev rq (0, [(0, 1)]) = r 0 := zu_f1 v0
  exact ⟨_, List.mem_cons_self .., rq, hr, zq_MeS_mk rfl hT (zq_all_nil) zq_fan (zq_fan) rfl (zu_fac ((x_AWc _ _ _).mpr (by show ze_AW 102 (zq_ev rq (0, [(0, 1)])) (zq_ev rq (0, [(9, 1)])) P h; simp only [g0, g9]; exact t1)) (zu_fac ((x_PW _ _ _).mpr (by show zl_PW (zq_ev rq (0, [(9, 1)])) (zq_ev rq (0, [(1, 1)])) (zq_ev rq (0, [(2, 1)])) (zq_ev rq (0, [(3, 1)])) (zq_ev rq (0, [(4, 1)])) (zq_ev rq (0, [(5, 1)])) (zq_ev rq (0, [(6, 1)])) (zq_ev rq (0, [(7, 1)])) (zq_ev rq (0, [(8, 1)])) P h; simp only [g0, g1, g2, g3, g4, g5, g6, g7, g8]; exact t2)) zq_fan))⟩
noncomputable def zh_rw : zq_S × List zq_S := (([], [], [(0, [(7, 1)])], [], [], [], [(276, [(0, [(0, 1)]), (0, [(1, 1)]), (0, [(2, 1)]), (0, [(3, 1)]), (0, [(4, 1)]), (0, [(5, 1)])]), (233, [(0, [(6, 1)]), (0, [(7, 1)]), (0, [(0, 1)]), (0, [(1, 1)])])], 8), [([], [], [], [], [], [], [(237, [(0, [(6, 1)]), (0, [(7, 1)]), (0, [(2, 1)]), (0, [(3, 1)]), (0, [(4, 1)]), (0, [(5, 1)])])], 8)])
theorem zh_rw_l {P : zq_Ty} {h : zq_H} {g n W w m r T f : Int} (a1 : 0 ≤ f) (k1 : zr_GW g n W w m r P h) (k2 : zl_TG T f g n P h) : (zl_RW T f W w m r P h) := by
  obtain ⟨e1, e2⟩ := k2
  subst e1; subst e2
  have up : ∀ k x, zl_TE k (zT_g T f) (zT_n T f) W x P h → zl_RT k T f W x P h := fun k x q => ⟨fun z => by omega, fun _ => q⟩
  rcases k1 with ⟨a, h1, h2, h3⟩ | ⟨h1, b, h2, h3⟩
  · exact Or.inl ⟨a, up _ _ h1, h2, h3⟩
  · exact Or.inr ⟨up _ _ h1, b, up _ _ h2, h3⟩
theorem zh_rw_ok {w : zq_Wd} (x_GW : zj_is w 276 (fun q => zr_GW (q 0) (q 1) (q 2) (q 3) (q 4) (q 5))) (x_TG : zj_is w 233 (fun q => zl_TG (q 0) (q 1) (q 2) (q 3))) (x_RW : zj_is w 237 (fun q => zl_RW (q 0) (q 1) (q 2) (q 3) (q 4) (q 5))) : zq_okG1 w zh_rw := by
  refine ⟨rfl, rfl, zu_fac ⟨rfl, by decide⟩ zq_fan, ?_⟩
  intro r P h H hM
  have q0 : zq_ev r (0, [(7, 1)]) = r 7 := zu_e1 _ _
  have q1 : zq_ev r (0, [(0, 1)]) = r 0 := zu_e1 _ _
  have q2 : zq_ev r (0, [(1, 1)]) = r 1 := zu_e1 _ _
  have q3 : zq_ev r (0, [(2, 1)]) = r 2 := zu_e1 _ _
  have q4 : zq_ev r (0, [(3, 1)]) = r 3 := zu_e1 _ _
  have q5 : zq_ev r (0, [(4, 1)]) = r 4 := zu_e1 _ _
  have q6 : zq_ev r (0, [(5, 1)]) = r 5 := zu_e1 _ _
  have q7 : zq_ev r (0, [(6, 1)]) = r 6 := zu_e1 _ _
  obtain ⟨hT, hC, hF, hS, -, hK⟩ := hM
  have c := hC.1
  have a1 := zq_all_1 c
  rw [q0] at a1
  have k1 := zj_use x_GW (hK)
  have k1 : zr_GW (zq_ev r (0, [(0, 1)])) (zq_ev r (0, [(1, 1)])) (zq_ev r (0, [(2, 1)])) (zq_ev r (0, [(3, 1)])) (zq_ev r (0, [(4, 1)])) (zq_ev r (0, [(5, 1)])) P h := k1
  simp only [q1, q2, q3, q4, q5, q6] at k1
  have k2 := zj_use x_TG (zq_okX_t (hK))
  have k2 : zl_TG (zq_ev r (0, [(6, 1)])) (zq_ev r (0, [(7, 1)])) (zq_ev r (0, [(0, 1)])) (zq_ev r (0, [(1, 1)])) P h := k2
  simp only [q0, q1, q2, q7] at k2
  obtain t1 := zh_rw_l (P := P) (h := h) (g := r 0) (n := r 1) (W := r 2) (w := r 3) (m := r 4) (r := r 5) (T := r 6) (f := r 7) a1 k1 k2
  obtain ⟨rq, hr⟩ : ∃ rq : Nat → Int, (∀ i, i < 8 → rq i = r i) := ⟨r, fun i hi => rfl⟩
  have v2 : rq 2 = r 2 := hr 2 (by decide)
  have v3 : rq 3 = r 3 := hr 3 (by decide)
  have v4 : rq 4 = r 4 := hr 4 (by decide)
  have v5 : rq 5 = r 5 := hr 5 (by decide)
  have v6 : rq 6 = r 6 := hr 6 (by decide)
  have v7 : rq 7 = r 7 := hr 7 (by decide)
  have g0 : zq_ev rq (0, [(6, 1)]) = r 6 := zu_f1 v6
  have g1 : zq_ev rq (0, [(7, 1)]) = r 7 := zu_f1 v7
  have g2 : zq_ev rq (0, [(2, 1)]) = r 2 := zu_f1 v2
  have g3 : zq_ev rq (0, [(3, 1)]) = r 3 := zu_f1 v3
  have g4 : zq_ev rq (0, [(4, 1)]) = r 4 := zu_f1 v4
  have g5 : zq_ev rq (0, [(5, 1)]) = r 5 := zu_f1 v5
  exact ⟨_, List.mem_cons_self .., rq, hr, zq_MeS_mk rfl hT (zq_all_nil) zq_fan (zq_fan) rfl (zu_fac ((x_RW _ _ _).mpr (by show zl_RW (zq_ev rq (0, [(6, 1)])) (zq_ev rq (0, [(7, 1)])) (zq_ev rq (0, [(2, 1)])) (zq_ev rq (0, [(3, 1)])) (zq_ev rq (0, [(4, 1)])) (zq_ev rq (0, [(5, 1)])) P h; simp only [g0, g1, g2, g3, g4, g5]; exact t1)) zq_fan)⟩
noncomputable def zh_ro : zq_S × List zq_S := (([], [], [(0, [(6, 1)])], [], [], [], [(277, [(0, [(0, 1)]), (0, [(1, 1)]), (0, [(2, 1)]), (0, [(3, 1)]), (0, [(4, 1)])]), (233, [(0, [(5, 1)]), (0, [(6, 1)]), (0, [(0, 1)]), (0, [(1, 1)])]), (134, [(0, [(7, 1)]), (12, [(8, 1)]), (0, [(3, 1)])])], 9), [([], [], [], [], [], [], [(238, [(0, [(5, 1)]), (0, [(6, 1)]), (0, [(2, 1)]), (0, [(7, 1)]), (0, [(8, 1)]), (0, [(4, 1)])])], 9)])
theorem zh_ro_l {P : zq_Ty} {h : zq_H} {g n W x r T f S d : Int} (a1 : 0 ≤ f) (k1 : zr_GO g n W x r P h) (k2 : zl_TG T f g n P h) (k3 : zn_DG S (d + 12) x P h) : (zl_RO T f W S d r P h) := by
  obtain ⟨e1, e2⟩ := k2
  subst e1; subst e2
  obtain ⟨b, h1, h2⟩ := k1
  have k3 : x = zn_dg S (d + 12) := k3
  exact ⟨b, ⟨fun z => by omega, fun _ => h1⟩, by rw [h2, k3]; rfl⟩
theorem zh_ro_ok {w : zq_Wd} (x_GO : zj_is w 277 (fun q => zr_GO (q 0) (q 1) (q 2) (q 3) (q 4))) (x_TG : zj_is w 233 (fun q => zl_TG (q 0) (q 1) (q 2) (q 3))) (x_DG : zj_is w 134 (fun q => zn_DG (q 0) (q 1) (q 2))) (x_RO : zj_is w 238 (fun q => zl_RO (q 0) (q 1) (q 2) (q 3) (q 4) (q 5))) : zq_okG1 w zh_ro := by
  refine ⟨rfl, rfl, zu_fac ⟨rfl, by decide⟩ zq_fan, ?_⟩
  intro r P h H hM
  have q0 : zq_ev r (0, [(6, 1)]) = r 6 := zu_e1 _ _
  have q1 : zq_ev r (0, [(0, 1)]) = r 0 := zu_e1 _ _
  have q2 : zq_ev r (0, [(1, 1)]) = r 1 := zu_e1 _ _
  have q3 : zq_ev r (0, [(2, 1)]) = r 2 := zu_e1 _ _
  have q4 : zq_ev r (0, [(3, 1)]) = r 3 := zu_e1 _ _
  have q5 : zq_ev r (0, [(4, 1)]) = r 4 := zu_e1 _ _
  have q6 : zq_ev r (0, [(5, 1)]) = r 5 := zu_e1 _ _
  have q7 : zq_ev r (0, [(7, 1)]) = r 7 := zu_e1 _ _
  have q8 : zq_ev r (12, [(8, 1)]) = r 8 + 12 := zu_e2 _ _ _
  obtain ⟨hT, hC, hF, hS, -, hK⟩ := hM
  have c := hC.1
  have a1 := zq_all_1 c
  rw [q0] at a1
  have k1 := zj_use x_GO (hK)
  have k1 : zr_GO (zq_ev r (0, [(0, 1)])) (zq_ev r (0, [(1, 1)])) (zq_ev r (0, [(2, 1)])) (zq_ev r (0, [(3, 1)])) (zq_ev r (0, [(4, 1)])) P h := k1
  simp only [q1, q2, q3, q4, q5] at k1
  have k2 := zj_use x_TG (zq_okX_t (hK))
  have k2 : zl_TG (zq_ev r (0, [(5, 1)])) (zq_ev r (0, [(6, 1)])) (zq_ev r (0, [(0, 1)])) (zq_ev r (0, [(1, 1)])) P h := k2
  simp only [q0, q1, q2, q6] at k2
  have k3 := zj_use x_DG (zq_okX_t (zq_okX_t (hK)))
  have k3 : zn_DG (zq_ev r (0, [(7, 1)])) (zq_ev r (12, [(8, 1)])) (zq_ev r (0, [(3, 1)])) P h := k3
  simp only [q4, q7, q8] at k3
  obtain t1 := zh_ro_l (P := P) (h := h) (g := r 0) (n := r 1) (W := r 2) (x := r 3) (r := r 4) (T := r 5) (f := r 6) (S := r 7) (d := r 8) a1 k1 k2 k3
  obtain ⟨rq, hr⟩ : ∃ rq : Nat → Int, (∀ i, i < 9 → rq i = r i) := ⟨r, fun i hi => rfl⟩
  have v2 : rq 2 = r 2 := hr 2 (by decide)
  have v4 : rq 4 = r 4 := hr 4 (by decide)
  have v5 : rq 5 = r 5 := hr 5 (by decide)
  have v6 : rq 6 = r 6 := hr 6 (by decide)
  have v7 : rq 7 = r 7 := hr 7 (by decide)
  have v8 : rq 8 = r 8 := hr 8 (by decide)
  have g0 : zq_ev rq (0, [(5, 1)]) = r 5 := zu_f1 v5
  have g1 : zq_ev rq (0, [(6, 1)]) = r 6 := zu_f1 v6
  have g2 : zq_ev rq (0, [(2, 1)]) = r 2 := zu_f1 v2
  have g3 : zq_ev rq (0, [(7, 1)]) = r 7 := zu_f1 v7
  have g4 : zq_ev rq (0, [(8, 1)]) = r 8 := zu_f1 v8
  have g5 : zq_ev rq (0, [(4, 1)]) = r 4 := zu_f1 v4
  exact ⟨_, List.mem_cons_self .., rq, hr, zq_MeS_mk rfl hT (zq_all_nil) zq_fan (zq_fan) rfl (zu_fac ((x_RO _ _ _).mpr (by show zl_RO (zq_ev rq (0, [(5, 1)])) (zq_ev rq (0, [(6, 1)])) (zq_ev rq (0, [(2, 1)])) (zq_ev rq (0, [(7, 1)])) (zq_ev rq (0, [(8, 1)])) (zq_ev rq (0, [(4, 1)])) P h; simp only [g0, g1, g2, g3, g4, g5]; exact t1)) zq_fan)⟩
noncomputable def zh_rwn : zq_S × List zq_S := (([], [], [(-1, [(1, -1)])], [], [], [], [], 5), [([], [], [], [], [], [], [(237, [(0, [(0, 1)]), (0, [(1, 1)]), (0, [(2, 1)]), (0, [(3, 1)]), (0, [(4, 1)]), (0, [(3, 1)])])], 5)])
theorem zh_rwn_l {P : zq_Ty} {h : zq_H} {T f W w m : Int} (a1 : 0 ≤ -f - 1) : (zl_RW T f W w m w P h) := by
  exact Or.inr ⟨⟨fun _ => rfl, fun z => by omega⟩, -4000000000, ⟨fun _ => rfl, fun z => by omega⟩, by unfold zl_w1; rw [if_pos rfl]⟩
theorem zh_rwn_ok {w : zq_Wd} (x_RW : zj_is w 237 (fun q => zl_RW (q 0) (q 1) (q 2) (q 3) (q 4) (q 5))) : zq_okG1 w zh_rwn := by
  refine ⟨rfl, rfl, zu_fac ⟨rfl, by decide⟩ zq_fan, ?_⟩
  intro r P h H hM
  have q0 : zq_ev r (-1, [(1, -1)]) = -r 1 - 1 := zu_e6 _ _ _
  obtain ⟨hT, hC, hF, hS, -, hK⟩ := hM
  have c := hC.1
  have a1 := zq_all_1 c
  rw [q0] at a1
  obtain t1 := zh_rwn_l (P := P) (h := h) (T := r 0) (f := r 1) (W := r 2) (w := r 3) (m := r 4) a1
  obtain ⟨rq, hr⟩ : ∃ rq : Nat → Int, (∀ i, i < 5 → rq i = r i) := ⟨r, fun i hi => rfl⟩
  have v0 : rq 0 = r 0 := hr 0 (by decide)
  have v1 : rq 1 = r 1 := hr 1 (by decide)
  have v2 : rq 2 = r 2 := hr 2 (by decide)
  have v3 : rq 3 = r 3 := hr 3 (by decide)
  have v4 : rq 4 = r 4 := hr 4 (by decide)
  have g0 : zq_ev rq (0, [(0, 1)]) = r 0 := zu_f1 v0
  have g1 : zq_ev rq (0, [(1, 1)]) = r 1 := zu_f1 v1
  have g2 : zq_ev rq (0, [(2, 1)]) = r 2 := zu_f1 v2
  have g3 : zq_ev rq (0, [(3, 1)]) = r 3 := zu_f1 v3
  have g4 : zq_ev rq (0, [(4, 1)]) = r 4 := zu_f1 v4
  exact ⟨_, List.mem_cons_self .., rq, hr, zq_MeS_mk rfl hT (zq_all_nil) zq_fan (zq_fan) rfl (zu_fac ((x_RW _ _ _).mpr (by show zl_RW (zq_ev rq (0, [(0, 1)])) (zq_ev rq (0, [(1, 1)])) (zq_ev rq (0, [(2, 1)])) (zq_ev rq (0, [(3, 1)])) (zq_ev rq (0, [(4, 1)])) (zq_ev rq (0, [(3, 1)])) P h; simp only [g0, g1, g2, g3, g4]; exact t1)) zq_fan)⟩
noncomputable def zh_ron : zq_S × List zq_S := (([], [], [(-1, [(1, -1)])], [], [], [], [(134, [(0, [(3, 1)]), (12, [(4, 1)]), (0, [(5, 1)])])], 6), [([], [], [], [], [], [], [(238, [(0, [(0, 1)]), (0, [(1, 1)]), (0, [(2, 1)]), (0, [(3, 1)]), (0, [(4, 1)]), (0, [(5, 1)])])], 6)])
theorem zh_ron_l {P : zq_Ty} {h : zq_H} {T f W S d x : Int} (a1 : 0 ≤ -f - 1) (k1 : zn_DG S (d + 12) x P h) : (zl_RO T f W S d x P h) := by
  exact ⟨-4000000000, ⟨fun _ => rfl, fun z => by omega⟩, by rw [if_pos rfl]; exact k1⟩
theorem zh_ron_ok {w : zq_Wd} (x_DG : zj_is w 134 (fun q => zn_DG (q 0) (q 1) (q 2))) (x_RO : zj_is w 238 (fun q => zl_RO (q 0) (q 1) (q 2) (q 3) (q 4) (q 5))) : zq_okG1 w zh_ron := by
  refine ⟨rfl, rfl, zu_fac ⟨rfl, by decide⟩ zq_fan, ?_⟩
  intro r P h H hM
  have q0 : zq_ev r (-1, [(1, -1)]) = -r 1 - 1 := zu_e6 _ _ _
  have q1 : zq_ev r (0, [(3, 1)]) = r 3 := zu_e1 _ _
  have q2 : zq_ev r (12, [(4, 1)]) = r 4 + 12 := zu_e2 _ _ _
  have q3 : zq_ev r (0, [(5, 1)]) = r 5 := zu_e1 _ _
  obtain ⟨hT, hC, hF, hS, -, hK⟩ := hM
  have c := hC.1
  have a1 := zq_all_1 c
  rw [q0] at a1
  have k1 := zj_use x_DG (hK)
  have k1 : zn_DG (zq_ev r (0, [(3, 1)])) (zq_ev r (12, [(4, 1)])) (zq_ev r (0, [(5, 1)])) P h := k1
  simp only [q1, q2, q3] at k1
  obtain t1 := zh_ron_l (P := P) (h := h) (T := r 0) (f := r 1) (W := r 2) (S := r 3) (d := r 4) (x := r 5) a1 k1
  obtain ⟨rq, hr⟩ : ∃ rq : Nat → Int, (∀ i, i < 6 → rq i = r i) := ⟨r, fun i hi => rfl⟩
  have v0 : rq 0 = r 0 := hr 0 (by decide)
  have v1 : rq 1 = r 1 := hr 1 (by decide)
  have v2 : rq 2 = r 2 := hr 2 (by decide)
  have v3 : rq 3 = r 3 := hr 3 (by decide)
  have v4 : rq 4 = r 4 := hr 4 (by decide)
  have v5 : rq 5 = r 5 := hr 5 (by decide)
  have g0 : zq_ev rq (0, [(0, 1)]) = r 0 := zu_f1 v0
  have g1 : zq_ev rq (0, [(1, 1)]) = r 1 := zu_f1 v1
  have g2 : zq_ev rq (0, [(2, 1)]) = r 2 := zu_f1 v2
  have g3 : zq_ev rq (0, [(3, 1)]) = r 3 := zu_f1 v3
  have g4 : zq_ev rq (0, [(4, 1)]) = r 4 := zu_f1 v4
  have g5 : zq_ev rq (0, [(5, 1)]) = r 5 := zu_f1 v5
  exact ⟨_, List.mem_cons_self .., rq, hr, zq_MeS_mk rfl hT (zq_all_nil) zq_fan (zq_fan) rfl (zu_fac ((x_RO _ _ _).mpr (by show zl_RO (zq_ev rq (0, [(0, 1)])) (zq_ev rq (0, [(1, 1)])) (zq_ev rq (0, [(2, 1)])) (zq_ev rq (0, [(3, 1)])) (zq_ev rq (0, [(4, 1)])) (zq_ev rq (0, [(5, 1)])) P h; simp only [g0, g1, g2, g3, g4, g5]; exact t1)) zq_fan)⟩
noncomputable def zh_mG : zq_S × List zq_S := (([], [], [(0, [(8, 1)]), (-1, [(4, 1), (8, -1)])], [], [((0, [(0, 1)]), (0, [(8, 1)]), (0, [(9, 1)]))], [], [(141, [(0, [(0, 1)]), (0, [(1, 1)]), (0, [(2, 1)]), (0, [(3, 1)]), (0, [(4, 1)]), (0, [(5, 1)]), (0, [(6, 1)]), (0, [(7, 1)])])], 10), [([], [], [], [], [], [], [(134, [(0, [(7, 1)]), (0, [(8, 1)]), (0, [(9, 1)])])], 10)])
theorem zh_mG_l {P : zq_Ty} {h : zq_H} {sg kn wt si p d s S i v : Int} (a1 : 0 ≤ i) (a2 : 0 ≤ p - i - 1) (s1 : 0 ≤ sg ∧ P (sg).toNat ≠ none ∧ h (sg).toNat i = v) (k1 : zn_LA 50 sg kn wt si p d s S P h) : (zn_DG S i v P h) := by
  obtain ⟨z1, z2, z3, z4, c⟩ := k1
  have e := c.2.1 i a1 (by omega)
  show v = zn_dg S (i)
  rw [← e]; exact s1.2.2.symm
theorem zh_mG_ok {w : zq_Wd} (x_LA1 : zj_is w 141 (fun q => zn_LA 50 (q 0) (q 1) (q 2) (q 3) (q 4) (q 5) (q 6) (q 7))) (x_DG : zj_is w 134 (fun q => zn_DG (q 0) (q 1) (q 2))) : zq_okG1 w zh_mG := by
  refine ⟨rfl, rfl, zu_fac ⟨rfl, by decide⟩ zq_fan, ?_⟩
  intro r P h H hM
  have q0 : zq_ev r (0, [(8, 1)]) = r 8 := zu_e1 _ _
  have q1 : zq_ev r (-1, [(4, 1), (8, -1)]) = r 4 - r 8 - 1 := by simp only [zq_ev, zq_ts] <;> omega
  have q2 : zq_ev r (0, [(0, 1)]) = r 0 := zu_e1 _ _
  have q3 : zq_ev r (0, [(9, 1)]) = r 9 := zu_e1 _ _
  have q4 : zq_ev r (0, [(1, 1)]) = r 1 := zu_e1 _ _
  have q5 : zq_ev r (0, [(2, 1)]) = r 2 := zu_e1 _ _
  have q6 : zq_ev r (0, [(3, 1)]) = r 3 := zu_e1 _ _
  have q7 : zq_ev r (0, [(4, 1)]) = r 4 := zu_e1 _ _
  have q8 : zq_ev r (0, [(5, 1)]) = r 5 := zu_e1 _ _
  have q9 : zq_ev r (0, [(6, 1)]) = r 6 := zu_e1 _ _
  have q10 : zq_ev r (0, [(7, 1)]) = r 7 := zu_e1 _ _
  obtain ⟨hT, hC, hF, hS, -, hK⟩ := hM
  have c := hC.1
  have a1 := zq_all_1 c
  rw [q0] at a1
  have c := zq_all_t c
  have a2 := zq_all_1 c
  rw [q1] at a2
  have s1 := zq_okS_1 (hS)
  simp only [q0, q2, q3] at s1
  have k1 := zj_use x_LA1 (hK)
  have k1 : zn_LA 50 (zq_ev r (0, [(0, 1)])) (zq_ev r (0, [(1, 1)])) (zq_ev r (0, [(2, 1)])) (zq_ev r (0, [(3, 1)])) (zq_ev r (0, [(4, 1)])) (zq_ev r (0, [(5, 1)])) (zq_ev r (0, [(6, 1)])) (zq_ev r (0, [(7, 1)])) P h := k1
  simp only [q10, q2, q4, q5, q6, q7, q8, q9] at k1
  obtain t1 := zh_mG_l (P := P) (h := h) (sg := r 0) (kn := r 1) (wt := r 2) (si := r 3) (p := r 4) (d := r 5) (s := r 6) (S := r 7) (i := r 8) (v := r 9) a1 a2 s1 k1
  obtain ⟨rq, hr⟩ : ∃ rq : Nat → Int, (∀ i, i < 10 → rq i = r i) := ⟨r, fun i hi => rfl⟩
  have v7 : rq 7 = r 7 := hr 7 (by decide)
  have v8 : rq 8 = r 8 := hr 8 (by decide)
  have v9 : rq 9 = r 9 := hr 9 (by decide)
  have g0 : zq_ev rq (0, [(7, 1)]) = r 7 := zu_f1 v7
  have g1 : zq_ev rq (0, [(8, 1)]) = r 8 := zu_f1 v8
  have g2 : zq_ev rq (0, [(9, 1)]) = r 9 := zu_f1 v9
  exact ⟨_, List.mem_cons_self .., rq, hr, zq_MeS_mk rfl hT (zq_all_nil) zq_fan (zq_fan) rfl (zu_fac ((x_DG _ _ _).mpr (by show zn_DG (zq_ev rq (0, [(7, 1)])) (zq_ev rq (0, [(8, 1)])) (zq_ev rq (0, [(9, 1)])) P h; simp only [g0, g1, g2]; exact t1)) zq_fan)⟩
noncomputable def zh_mN : zq_S × List zq_S := (([], [], [(0, [(8, 1)]), (-1, [(5, 1), (8, -1)])], [], [((0, [(1, 1)]), (0, [(8, 1)]), (0, [(9, 1)]))], [], [(141, [(0, [(0, 1)]), (0, [(1, 1)]), (0, [(2, 1)]), (0, [(3, 1)]), (0, [(4, 1)]), (0, [(5, 1)]), (0, [(6, 1)]), (0, [(7, 1)])])], 10), [([], [], [], [], [], [], [(134, [(0, [(7, 1)]), (6, [(8, 1)]), (0, [(9, 1)])])], 10)])
theorem zh_mN_l {P : zq_Ty} {h : zq_H} {sg kn wt si p d s S i v : Int} (a1 : 0 ≤ i) (a2 : 0 ≤ d - i - 1) (s1 : 0 ≤ kn ∧ P (kn).toNat ≠ none ∧ h (kn).toNat i = v) (k1 : zn_LA 50 sg kn wt si p d s S P h) : (zn_DG S (i + 6) v P h) := by
  obtain ⟨z1, z2, z3, z4, c⟩ := k1
  have e := c.2.2.1 i a1 (by omega)
  show v = zn_dg S (i + 6)
  rw [show i + 6 = 6 + i by omega, ← e]; exact s1.2.2.symm
theorem zh_mN_ok {w : zq_Wd} (x_LA1 : zj_is w 141 (fun q => zn_LA 50 (q 0) (q 1) (q 2) (q 3) (q 4) (q 5) (q 6) (q 7))) (x_DG : zj_is w 134 (fun q => zn_DG (q 0) (q 1) (q 2))) : zq_okG1 w zh_mN := by
  refine ⟨rfl, rfl, zu_fac ⟨rfl, by decide⟩ zq_fan, ?_⟩
  intro r P h H hM
  have q0 : zq_ev r (0, [(8, 1)]) = r 8 := zu_e1 _ _
  have q1 : zq_ev r (-1, [(5, 1), (8, -1)]) = r 5 - r 8 - 1 := by simp only [zq_ev, zq_ts] <;> omega
  have q2 : zq_ev r (0, [(1, 1)]) = r 1 := zu_e1 _ _
  have q3 : zq_ev r (0, [(9, 1)]) = r 9 := zu_e1 _ _
  have q4 : zq_ev r (0, [(0, 1)]) = r 0 := zu_e1 _ _
  have q5 : zq_ev r (0, [(2, 1)]) = r 2 := zu_e1 _ _
  have q6 : zq_ev r (0, [(3, 1)]) = r 3 := zu_e1 _ _
  have q7 : zq_ev r (0, [(4, 1)]) = r 4 := zu_e1 _ _
  have q8 : zq_ev r (0, [(5, 1)]) = r 5 := zu_e1 _ _
  have q9 : zq_ev r (0, [(6, 1)]) = r 6 := zu_e1 _ _
  have q10 : zq_ev r (0, [(7, 1)]) = r 7 := zu_e1 _ _
  obtain ⟨hT, hC, hF, hS, -, hK⟩ := hM
  have c := hC.1
  have a1 := zq_all_1 c
  rw [q0] at a1
  have c := zq_all_t c
  have a2 := zq_all_1 c
  rw [q1] at a2
  have s1 := zq_okS_1 (hS)
  simp only [q0, q2, q3] at s1
  have k1 := zj_use x_LA1 (hK)
  have k1 : zn_LA 50 (zq_ev r (0, [(0, 1)])) (zq_ev r (0, [(1, 1)])) (zq_ev r (0, [(2, 1)])) (zq_ev r (0, [(3, 1)])) (zq_ev r (0, [(4, 1)])) (zq_ev r (0, [(5, 1)])) (zq_ev r (0, [(6, 1)])) (zq_ev r (0, [(7, 1)])) P h := k1
  simp only [q10, q2, q4, q5, q6, q7, q8, q9] at k1
  obtain t1 := zh_mN_l (P := P) (h := h) (sg := r 0) (kn := r 1) (wt := r 2) (si := r 3) (p := r 4) (d := r 5) (s := r 6) (S := r 7) (i := r 8) (v := r 9) a1 a2 s1 k1
  obtain ⟨rq, hr⟩ : ∃ rq : Nat → Int, (∀ i, i < 10 → rq i = r i) := ⟨r, fun i hi => rfl⟩
  have v7 : rq 7 = r 7 := hr 7 (by decide)
  have v8 : rq 8 = r 8 := hr 8 (by decide)
  have v9 : rq 9 = r 9 := hr 9 (by decide)
  have g0 : zq_ev rq (0, [(7, 1)]) = r 7 := zu_f1 v7
  have g1 : zq_ev rq (6, [(8, 1)]) = r 8 + 6 := zu_f2 v8 _
  have g2 : zq_ev rq (0, [(9, 1)]) = r 9 := zu_f1 v9
  exact ⟨_, List.mem_cons_self .., rq, hr, zq_MeS_mk rfl hT (zq_all_nil) zq_fan (zq_fan) rfl (zu_fac ((x_DG _ _ _).mpr (by show zn_DG (zq_ev rq (0, [(7, 1)])) (zq_ev rq (6, [(8, 1)])) (zq_ev rq (0, [(9, 1)])) P h; simp only [g0, g1, g2]; exact t1)) zq_fan)⟩
noncomputable def zh_mW : zq_S × List zq_S := (([], [], [(0, [(8, 1)]), (-1, [(5, 1), (8, -1)])], [], [((0, [(2, 1)]), (0, [(8, 1)]), (0, [(9, 1)]))], [], [(141, [(0, [(0, 1)]), (0, [(1, 1)]), (0, [(2, 1)]), (0, [(3, 1)]), (0, [(4, 1)]), (0, [(5, 1)]), (0, [(6, 1)]), (0, [(7, 1)])])], 10), [([], [], [], [], [], [], [(134, [(0, [(7, 1)]), (12, [(8, 1)]), (0, [(9, 1)])])], 10)])
theorem zh_mW_l {P : zq_Ty} {h : zq_H} {sg kn wt si p d s S i v : Int} (a1 : 0 ≤ i) (a2 : 0 ≤ d - i - 1) (s1 : 0 ≤ wt ∧ P (wt).toNat ≠ none ∧ h (wt).toNat i = v) (k1 : zn_LA 50 sg kn wt si p d s S P h) : (zn_DG S (i + 12) v P h) := by
  obtain ⟨z1, z2, z3, z4, c⟩ := k1
  have e := c.2.2.2.1 i a1 (by omega)
  show v = zn_dg S (i + 12)
  rw [show i + 12 = 12 + i by omega, ← e]; exact s1.2.2.symm
theorem zh_mW_ok {w : zq_Wd} (x_LA1 : zj_is w 141 (fun q => zn_LA 50 (q 0) (q 1) (q 2) (q 3) (q 4) (q 5) (q 6) (q 7))) (x_DG : zj_is w 134 (fun q => zn_DG (q 0) (q 1) (q 2))) : zq_okG1 w zh_mW := by
  refine ⟨rfl, rfl, zu_fac ⟨rfl, by decide⟩ zq_fan, ?_⟩
  intro r P h H hM
  have q0 : zq_ev r (0, [(8, 1)]) = r 8 := zu_e1 _ _
  have q1 : zq_ev r (-1, [(5, 1), (8, -1)]) = r 5 - r 8 - 1 := by simp only [zq_ev, zq_ts] <;> omega
  have q2 : zq_ev r (0, [(2, 1)]) = r 2 := zu_e1 _ _
  have q3 : zq_ev r (0, [(9, 1)]) = r 9 := zu_e1 _ _
  have q4 : zq_ev r (0, [(0, 1)]) = r 0 := zu_e1 _ _
  have q5 : zq_ev r (0, [(1, 1)]) = r 1 := zu_e1 _ _
  have q6 : zq_ev r (0, [(3, 1)]) = r 3 := zu_e1 _ _
  have q7 : zq_ev r (0, [(4, 1)]) = r 4 := zu_e1 _ _
  have q8 : zq_ev r (0, [(5, 1)]) = r 5 := zu_e1 _ _
  have q9 : zq_ev r (0, [(6, 1)]) = r 6 := zu_e1 _ _
  have q10 : zq_ev r (0, [(7, 1)]) = r 7 := zu_e1 _ _
  obtain ⟨hT, hC, hF, hS, -, hK⟩ := hM
  have c := hC.1
  have a1 := zq_all_1 c
  rw [q0] at a1
  have c := zq_all_t c
  have a2 := zq_all_1 c
  rw [q1] at a2
  have s1 := zq_okS_1 (hS)
  simp only [q0, q2, q3] at s1
  have k1 := zj_use x_LA1 (hK)
  have k1 : zn_LA 50 (zq_ev r (0, [(0, 1)])) (zq_ev r (0, [(1, 1)])) (zq_ev r (0, [(2, 1)])) (zq_ev r (0, [(3, 1)])) (zq_ev r (0, [(4, 1)])) (zq_ev r (0, [(5, 1)])) (zq_ev r (0, [(6, 1)])) (zq_ev r (0, [(7, 1)])) P h := k1
  simp only [q10, q2, q4, q5, q6, q7, q8, q9] at k1
  obtain t1 := zh_mW_l (P := P) (h := h) (sg := r 0) (kn := r 1) (wt := r 2) (si := r 3) (p := r 4) (d := r 5) (s := r 6) (S := r 7) (i := r 8) (v := r 9) a1 a2 s1 k1
  obtain ⟨rq, hr⟩ : ∃ rq : Nat → Int, (∀ i, i < 10 → rq i = r i) := ⟨r, fun i hi => rfl⟩
  have v7 : rq 7 = r 7 := hr 7 (by decide)
  have v8 : rq 8 = r 8 := hr 8 (by decide)
  have v9 : rq 9 = r 9 := hr 9 (by decide)
  have g0 : zq_ev rq (0, [(7, 1)]) = r 7 := zu_f1 v7
  have g1 : zq_ev rq (12, [(8, 1)]) = r 8 + 12 := zu_f2 v8 _
  have g2 : zq_ev rq (0, [(9, 1)]) = r 9 := zu_f1 v9
  exact ⟨_, List.mem_cons_self .., rq, hr, zq_MeS_mk rfl hT (zq_all_nil) zq_fan (zq_fan) rfl (zu_fac ((x_DG _ _ _).mpr (by show zn_DG (zq_ev rq (0, [(7, 1)])) (zq_ev rq (12, [(8, 1)])) (zq_ev rq (0, [(9, 1)])) P h; simp only [g0, g1, g2]; exact t1)) zq_fan)⟩
