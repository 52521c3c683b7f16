/-! WHAT LAWS SAY, the reference: facts -/
noncomputable def zl_0 : zq_S × List zq_S := (([], [], [], [], [], [], [], 4), [([], [], [], [], [], [], [(230, [(0, [(0, 1)]), (0, [(1, 1)]), (0, [(2, 1)]), (0, [(3, 1)]), (-4000000000, []), (0, [])])], 4)])
theorem zl_0_l {P : zq_Ty} {h : zq_H} {k g n W : Int}  : (zl_LW k g n W (-4000000000) 0 P h) := by
  intro r h
  exact h
theorem zl_0_ok {w : zq_Wd} (x_LW : zj_is w 230 (fun q => zl_LW (q 0) (q 1) (q 2) (q 3) (q 4) (q 5))) : zq_okG1 w zl_0 := by
  refine ⟨rfl, rfl, zu_fac ⟨rfl, by decide⟩ zq_fan, ?_⟩
  intro r P h H hM
  obtain ⟨hT, hC, hF, hS, -, hK⟩ := hM
  have c := hC.1
  obtain t1 := zl_0_l (P := P) (h := h) (k := r 0) (g := r 1) (n := r 2) (W := r 3) 
  obtain ⟨rq, hr⟩ : ∃ rq : Nat → Int, (∀ i, i < 4 → rq i = r i) := ⟨r, fun i hi => rfl⟩
  have v0 : rq 0 = r 0 := hr 0 (by decide)
  have v1 : rq 1 = r 1 := hr 1 (by decide)
  have v2 : rq 2 = r 2 := hr 2 (by decide)
  have v3 : rq 3 = r 3 := hr 3 (by decide)
  have g0 : zq_ev rq (0, [(0, 1)]) = r 0 := zu_f1 v0
  have g1 : zq_ev rq (0, [(1, 1)]) = r 1 := zu_f1 v1
  have g2 : zq_ev rq (0, [(2, 1)]) = r 2 := zu_f1 v2
  have g3 : zq_ev rq (0, [(3, 1)]) = r 3 := zu_f1 v3
  have g4 : zq_ev rq (-4000000000, []) = -4000000000 := zu_e0 _ _
  have g5 : zq_ev rq (0, []) = 0 := zu_e0 _ _
  exact ⟨_, List.mem_cons_self .., rq, hr, zq_MeS_mk rfl hT (zq_all_nil) zq_fan (zq_fan) rfl (zu_fac ((x_LW _ _ _).mpr (by show zl_LW (zq_ev rq (0, [(0, 1)])) (zq_ev rq (0, [(1, 1)])) (zq_ev rq (0, [(2, 1)])) (zq_ev rq (0, [(3, 1)])) (zq_ev rq (-4000000000, [])) (zq_ev rq (0, [])) P h; simp only [g0, g1, g2, g3, g4, g5]; exact t1)) zq_fan)⟩
noncomputable def zl_z : zq_S × List zq_S := (([], [], [(0, [(5, 1), (6, 1), (7, -1)])], [], [], [], [(230, [(0, [(0, 1)]), (0, [(1, 1)]), (0, [(2, 1)]), (0, [(3, 1)]), (0, [(4, 1)]), (0, [(5, 1)])]), (226, [(0, [(9, 1)]), (0, [(6, 1)]), (0, [(7, 1)]), (0, [(1, 1)]), (0, [(2, 1)])])], 10), [([], [], [], [], [], [], [(231, [(0, [(0, 1)]), (0, [(1, 1)]), (0, [(2, 1)]), (0, [(3, 1)]), (0, [(4, 1)])])], 10)])
theorem zl_z_l {P : zq_Ty} {h : zq_H} {k g n W a p B E r K : Int} (a1 : 0 ≤ p + B - E) (k1 : zl_LW k g n W a p P h) (k2 : ze_TX K B E g n P h) : (zl_TE k g n W a P h) := by
  obtain ⟨z1, z2, z3, z4, z5⟩ := k2
  exact k1 a (zl_end (by unfold ze_L; omega))
theorem zl_z_ok {w : zq_Wd} (x_LW : zj_is w 230 (fun q => zl_LW (q 0) (q 1) (q 2) (q 3) (q 4) (q 5))) (x_TX : zj_is w 226 (fun q => ze_TX (q 0) (q 1) (q 2) (q 3) (q 4))) (x_TE : zj_is w 231 (fun q => zl_TE (q 0) (q 1) (q 2) (q 3) (q 4))) : zq_okG1 w zl_z := by
  refine ⟨rfl, rfl, zu_fac ⟨rfl, by decide⟩ zq_fan, ?_⟩
  intro r P h H hM
  have q0 : zq_ev r (0, [(5, 1), (6, 1), (7, -1)]) = r 5 + r 6 - r 7 := by simp only [zq_ev, zq_ts] <;> omega
  have q1 : zq_ev r (0, [(0, 1)]) = r 0 := zu_e1 _ _
  have q2 : zq_ev r (0, [(1, 1)]) = r 1 := zu_e1 _ _
  have q3 : zq_ev r (0, [(2, 1)]) = r 2 := zu_e1 _ _
  have q4 : zq_ev r (0, [(3, 1)]) = r 3 := zu_e1 _ _
  have q5 : zq_ev r (0, [(4, 1)]) = r 4 := zu_e1 _ _
  have q6 : zq_ev r (0, [(5, 1)]) = r 5 := zu_e1 _ _
  have q7 : zq_ev r (0, [(9, 1)]) = r 9 := zu_e1 _ _
  have q8 : zq_ev r (0, [(6, 1)]) = r 6 := zu_e1 _ _
  have q9 : zq_ev r (0, [(7, 1)]) = r 7 := zu_e1 _ _
  obtain ⟨hT, hC, hF, hS, -, hK⟩ := hM
  have c := hC.1
  have a1 := zq_all_1 c
  rw [q0] at a1
  have k1 := zj_use x_LW (hK)
  have k1 : zl_LW (zq_ev r (0, [(0, 1)])) (zq_ev r (0, [(1, 1)])) (zq_ev r (0, [(2, 1)])) (zq_ev r (0, [(3, 1)])) (zq_ev r (0, [(4, 1)])) (zq_ev r (0, [(5, 1)])) P h := k1
  simp only [q1, q2, q3, q4, q5, q6] at k1
  have k2 := zj_use x_TX (zq_okX_t (hK))
  have k2 : ze_TX (zq_ev r (0, [(9, 1)])) (zq_ev r (0, [(6, 1)])) (zq_ev r (0, [(7, 1)])) (zq_ev r (0, [(1, 1)])) (zq_ev r (0, [(2, 1)])) P h := k2
  simp only [q2, q3, q7, q8, q9] at k2
  obtain t1 := zl_z_l (P := P) (h := h) (k := r 0) (g := r 1) (n := r 2) (W := r 3) (a := r 4) (p := r 5) (B := r 6) (E := r 7) (r := r 8) (K := r 9) a1 k1 k2
  obtain ⟨rq, hr⟩ : ∃ rq : Nat → Int, (∀ i, i < 10 → rq i = r i) := ⟨r, fun i hi => rfl⟩
  have v0 : rq 0 = r 0 := hr 0 (by decide)
  have v1 : rq 1 = r 1 := hr 1 (by decide)
  have v2 : rq 2 = r 2 := hr 2 (by decide)
  have v3 : rq 3 = r 3 := hr 3 (by decide)
  have v4 : rq 4 = r 4 := hr 4 (by decide)
  have g0 : zq_ev rq (0, [(0, 1)]) = r 0 := zu_f1 v0
  have g1 : zq_ev rq (0, [(1, 1)]) = r 1 := zu_f1 v1
  have g2 : zq_ev rq (0, [(2, 1)]) = r 2 := zu_f1 v2
  have g3 : zq_ev rq (0, [(3, 1)]) = r 3 := zu_f1 v3
  have g4 : zq_ev rq (0, [(4, 1)]) = r 4 := zu_f1 v4
  exact ⟨_, List.mem_cons_self .., rq, hr, zq_MeS_mk rfl hT (zq_all_nil) zq_fan (zq_fan) rfl (zu_fac ((x_TE _ _ _).mpr (by show zl_TE (zq_ev rq (0, [(0, 1)])) (zq_ev rq (0, [(1, 1)])) (zq_ev rq (0, [(2, 1)])) (zq_ev rq (0, [(3, 1)])) (zq_ev rq (0, [(4, 1)])) P h; simp only [g0, g1, g2, g3, g4]; exact t1)) zq_fan)⟩
noncomputable def zl_k1 : zq_S × List zq_S := (([], [], [(0, [(3, 1)]), (-1, [(2, 1), (3, -1)])], [], [((0, [(0, 1)]), (64, [(3, 1)]), (0, [(4, 1)]))], [], [(232, [(0, [(0, 1)]), (0, [(1, 1)]), (0, [(2, 1)])])], 5), [([], [], [], [], [], [], [(226, [(0, [(0, 1)]), (0, [(3, 400)]), (0, [(3, 400), (4, 1)]), (0, [(5, 1)]), (0, [(6, 1)])]), (233, [(0, [(1, 1)]), (0, [(3, 1)]), (0, [(5, 1)]), (0, [(6, 1)])])], 7)])
theorem zl_k1_l {P : zq_Ty} {h : zq_H} {K T N f m : Int} (a1 : 0 ≤ f) (a2 : 0 ≤ N - f - 1) (s1 : 0 ≤ K ∧ P (K).toNat ≠ none ∧ h (K).toNat (f + 64) = m) (k1 : zl_KT K T N P h) : (∃ g n : Int, ze_TX K (400 * f) (400 * f + m) g n P h ∧ zl_TG T f g n P h) := by
  refine ⟨zT_g T f, zT_n T f, ?_, rfl, rfl⟩
  have := k1.2.2.1 f a1 (by omega)
  rw [show 64 + f = f + 64 by omega, s1.2.2] at this
  exact this
theorem zl_k1_ok {w : zq_Wd} (x_KT : zj_is w 232 (fun q => zl_KT (q 0) (q 1) (q 2))) (x_TX : zj_is w 226 (fun q => ze_TX (q 0) (q 1) (q 2) (q 3) (q 4))) (x_TG : zj_is w 233 (fun q => zl_TG (q 0) (q 1) (q 2) (q 3))) : zq_okG1 w zl_k1 := by
  refine ⟨rfl, rfl, zu_fac ⟨rfl, by decide⟩ zq_fan, ?_⟩
  intro r P h H hM
  have q0 : zq_ev r (0, [(3, 1)]) = r 3 := zu_e1 _ _
  have q1 : zq_ev r (-1, [(2, 1), (3, -1)]) = r 2 - r 3 - 1 := by simp only [zq_ev, zq_ts] <;> omega
  have q2 : zq_ev r (0, [(0, 1)]) = r 0 := zu_e1 _ _
  have q3 : zq_ev r (64, [(3, 1)]) = r 3 + 64 := zu_e2 _ _ _
  have q4 : zq_ev r (0, [(4, 1)]) = r 4 := zu_e1 _ _
  have q5 : zq_ev r (0, [(1, 1)]) = r 1 := zu_e1 _ _
  have q6 : zq_ev r (0, [(2, 1)]) = r 2 := zu_e1 _ _
  obtain ⟨hT, hC, hF, hS, -, hK⟩ := hM
  have c := hC.1
  have a1 := zq_all_1 c
  rw [q0] at a1
  have c := zq_all_t c
  have a2 := zq_all_1 c
  rw [q1] at a2
  have s1 := zq_okS_1 (hS)
  simp only [q2, q3, q4] at s1
  have k1 := zj_use x_KT (hK)
  have k1 : zl_KT (zq_ev r (0, [(0, 1)])) (zq_ev r (0, [(1, 1)])) (zq_ev r (0, [(2, 1)])) P h := k1
  simp only [q2, q5, q6] at k1
  obtain ⟨y_0, y_1, t1, t2⟩ := zl_k1_l (P := P) (h := h) (K := r 0) (T := r 1) (N := r 2) (f := r 3) (m := r 4) a1 a2 s1 k1
  obtain ⟨rq, hr, w5, w6⟩ : ∃ rq : Nat → Int, (∀ i, i < 5 → rq i = r i) ∧ rq 5 = y_0 ∧ rq 6 = y_1 := ⟨zq_up (zq_up r 5 y_0) 6 y_1, fun i hi => by rw [zu_up_ne (by omega)]; rw [zu_up_ne (by omega)], rfl, rfl⟩
  have v0 : rq 0 = r 0 := hr 0 (by decide)
  have v1 : rq 1 = r 1 := hr 1 (by decide)
  have v3 : rq 3 = r 3 := hr 3 (by decide)
  have v4 : rq 4 = r 4 := hr 4 (by decide)
  have g0 : zq_ev rq (0, [(1, 1)]) = r 1 := zu_f1 v1
  have g1 : zq_ev rq (0, [(3, 1)]) = r 3 := zu_f1 v3
  have g2 : zq_ev rq (0, [(5, 1)]) = y_0 := zu_f1 w5
  have g3 : zq_ev rq (0, [(6, 1)]) = y_1 := zu_f1 w6
  have g4 : zq_ev rq (0, [(0, 1)]) = r 0 := zu_f1 v0
  have g5 : zq_ev rq (0, [(3, 400)]) = 400 * r 3 := by simp only [zq_ev, zq_ts, v0, v1, v3, v4, w5, w6] <;> omega
  have g6 : zq_ev rq (0, [(3, 400), (4, 1)]) = 400 * r 3 + r 4 := by simp only [zq_ev, zq_ts, v0, v1, v3, v4, w5, w6] <;> omega
  exact ⟨_, List.mem_cons_self .., rq, hr, zq_MeS_mk rfl hT (zq_all_nil) zq_fan (zq_fan) rfl (zu_fac ((x_TX _ _ _).mpr (by show ze_TX (zq_ev rq (0, [(0, 1)])) (zq_ev rq (0, [(3, 400)])) (zq_ev rq (0, [(3, 400), (4, 1)])) (zq_ev rq (0, [(5, 1)])) (zq_ev rq (0, [(6, 1)])) P h; simp only [g2, g3, g4, g5, g6]; exact t1)) (zu_fac ((x_TG _ _ _).mpr (by show zl_TG (zq_ev rq (0, [(1, 1)])) (zq_ev rq (0, [(3, 1)])) (zq_ev rq (0, [(5, 1)])) (zq_ev rq (0, [(6, 1)])) P h; simp only [g0, g1, g2, g3]; exact t2)) zq_fan))⟩
noncomputable def zl_rt : zq_S × List zq_S := (([], [], [(0, [(2, 1)])], [], [], [], [(231, [(0, [(0, 1)]), (0, [(5, 1)]), (0, [(6, 1)]), (0, [(3, 1)]), (0, [(4, 1)])]), (233, [(0, [(1, 1)]), (0, [(2, 1)]), (0, [(5, 1)]), (0, [(6, 1)])])], 7), [([], [], [], [], [], [], [(234, [(0, [(0, 1)]), (0, [(1, 1)]), (0, [(2, 1)]), (0, [(3, 1)]), (0, [(4, 1)])])], 7)])
theorem zl_rt_l {P : zq_Ty} {h : zq_H} {k T f W r g n : Int} (a1 : 0 ≤ f) (k1 : zl_TE k g n W r P h) (k2 : zl_TG T f g n P h) : (zl_RT k T f W r P h) := by
  obtain ⟨e1, e2⟩ := k2
  subst e1
  subst e2
  exact ⟨fun z => by omega, fun _ => k1⟩
theorem zl_rt_ok {w : zq_Wd} (x_TE : zj_is w 231 (fun q => zl_TE (q 0) (q 1) (q 2) (q 3) (q 4))) (x_TG : zj_is w 233 (fun q => zl_TG (q 0) (q 1) (q 2) (q 3))) (x_RT : zj_is w 234 (fun q => zl_RT (q 0) (q 1) (q 2) (q 3) (q 4))) : zq_okG1 w zl_rt := by
  refine ⟨rfl, rfl, zu_fac ⟨rfl, by decide⟩ zq_fan, ?_⟩
  intro r P h H hM
  have q0 : zq_ev r (0, [(2, 1)]) = r 2 := zu_e1 _ _
  have q1 : zq_ev r (0, [(0, 1)]) = r 0 := zu_e1 _ _
  have q2 : zq_ev r (0, [(5, 1)]) = r 5 := zu_e1 _ _
  have q3 : zq_ev r (0, [(6, 1)]) = r 6 := zu_e1 _ _
  have q4 : zq_ev r (0, [(3, 1)]) = r 3 := zu_e1 _ _
  have q5 : zq_ev r (0, [(4, 1)]) = r 4 := zu_e1 _ _
  have q6 : zq_ev r (0, [(1, 1)]) = r 1 := zu_e1 _ _
  obtain ⟨hT, hC, hF, hS, -, hK⟩ := hM
  have c := hC.1
  have a1 := zq_all_1 c
  rw [q0] at a1
  have k1 := zj_use x_TE (hK)
  have k1 : zl_TE (zq_ev r (0, [(0, 1)])) (zq_ev r (0, [(5, 1)])) (zq_ev r (0, [(6, 1)])) (zq_ev r (0, [(3, 1)])) (zq_ev r (0, [(4, 1)])) P h := k1
  simp only [q1, q2, q3, q4, q5] at k1
  have k2 := zj_use x_TG (zq_okX_t (hK))
  have k2 : zl_TG (zq_ev r (0, [(1, 1)])) (zq_ev r (0, [(2, 1)])) (zq_ev r (0, [(5, 1)])) (zq_ev r (0, [(6, 1)])) P h := k2
  simp only [q0, q2, q3, q6] at k2
  obtain t1 := zl_rt_l (P := P) (h := h) (k := r 0) (T := r 1) (f := r 2) (W := r 3) (r := r 4) (g := r 5) (n := r 6) a1 k1 k2
  obtain ⟨rq, hr⟩ : ∃ rq : Nat → Int, (∀ i, i < 7 → rq i = r i) := ⟨r, fun i hi => rfl⟩
  have v0 : rq 0 = r 0 := hr 0 (by decide)
  have v1 : rq 1 = r 1 := hr 1 (by decide)
  have v2 : rq 2 = r 2 := hr 2 (by decide)
  have v3 : rq 3 = r 3 := hr 3 (by decide)
  have v4 : rq 4 = r 4 := hr 4 (by decide)
  have g0 : zq_ev rq (0, [(0, 1)]) = r 0 := zu_f1 v0
  have g1 : zq_ev rq (0, [(1, 1)]) = r 1 := zu_f1 v1
  have g2 : zq_ev rq (0, [(2, 1)]) = r 2 := zu_f1 v2
  have g3 : zq_ev rq (0, [(3, 1)]) = r 3 := zu_f1 v3
  have g4 : zq_ev rq (0, [(4, 1)]) = r 4 := zu_f1 v4
  exact ⟨_, List.mem_cons_self .., rq, hr, zq_MeS_mk rfl hT (zq_all_nil) zq_fan (zq_fan) rfl (zu_fac ((x_RT _ _ _).mpr (by show zl_RT (zq_ev rq (0, [(0, 1)])) (zq_ev rq (0, [(1, 1)])) (zq_ev rq (0, [(2, 1)])) (zq_ev rq (0, [(3, 1)])) (zq_ev rq (0, [(4, 1)])) P h; simp only [g0, g1, g2, g3, g4]; exact t1)) zq_fan)⟩
noncomputable def zl_rm : zq_S × List zq_S := (([], [], [(-1, [(2, -1)])], [], [], [], [], 4), [([], [], [], [], [], [], [(234, [(0, [(0, 1)]), (0, [(1, 1)]), (0, [(2, 1)]), (0, [(3, 1)]), (-4000000000, [])])], 4)])
theorem zl_rm_l {P : zq_Ty} {h : zq_H} {k T f W : Int} (a1 : 0 ≤ -f - 1) : (zl_RT k T f W (-4000000000) P h) := by
  exact ⟨fun _ => rfl, fun z => by omega⟩
theorem zl_rm_ok {w : zq_Wd} (x_RT : zj_is w 234 (fun q => zl_RT (q 0) (q 1) (q 2) (q 3) (q 4))) : zq_okG1 w zl_rm := by
  refine ⟨rfl, rfl, zu_fac ⟨rfl, by decide⟩ zq_fan, ?_⟩
  intro r P h H hM
  have q0 : zq_ev r (-1, [(2, -1)]) = -r 2 - 1 := zu_e6 _ _ _
  obtain ⟨hT, hC, hF, hS, -, hK⟩ := hM
  have c := hC.1
  have a1 := zq_all_1 c
  rw [q0] at a1
  obtain t1 := zl_rm_l (P := P) (h := h) (k := r 0) (T := r 1) (f := r 2) (W := r 3) a1
  obtain ⟨rq, hr⟩ : ∃ rq : Nat → Int, (∀ i, i < 4 → rq i = r i) := ⟨r, fun i hi => rfl⟩
  have v0 : rq 0 = r 0 := hr 0 (by decide)
  have v1 : rq 1 = r 1 := hr 1 (by decide)
  have v2 : rq 2 = r 2 := hr 2 (by decide)
  have v3 : rq 3 = r 3 := hr 3 (by decide)
  have g0 : zq_ev rq (0, [(0, 1)]) = r 0 := zu_f1 v0
  have g1 : zq_ev rq (0, [(1, 1)]) = r 1 := zu_f1 v1
  have g2 : zq_ev rq (0, [(2, 1)]) = r 2 := zu_f1 v2
  have g3 : zq_ev rq (0, [(3, 1)]) = r 3 := zu_f1 v3
  have g4 : zq_ev rq (-4000000000, []) = -4000000000 := zu_e0 _ _
  exact ⟨_, List.mem_cons_self .., rq, hr, zq_MeS_mk rfl hT (zq_all_nil) zq_fan (zq_fan) rfl (zu_fac ((x_RT _ _ _).mpr (by show zl_RT (zq_ev rq (0, [(0, 1)])) (zq_ev rq (0, [(1, 1)])) (zq_ev rq (0, [(2, 1)])) (zq_ev rq (0, [(3, 1)])) (zq_ev rq (-4000000000, [])) P h; simp only [g0, g1, g2, g3, g4]; exact t1)) zq_fan)⟩
noncomputable def zl_ru : zq_S × List zq_S := (([], [], [], [], [], [], [(234, [(0, [(0, 1)]), (0, [(1, 1)]), (0, [(2, 1)]), (0, [(3, 1)]), (0, [(4, 1)])]), (234, [(0, [(0, 1)]), (0, [(1, 1)]), (0, [(2, 1)]), (0, [(3, 1)]), (0, [(5, 1)])])], 6), [([], [], [(0, [(4, 1), (5, -1)]), (0, [(4, -1), (5, 1)])], [], [], [], [], 6)])
theorem zl_ru_l {P : zq_Ty} {h : zq_H} {k T f W r x : Int} (k1 : zl_RT k T f W r P h) (k2 : zl_RT k T f W x P h) : (0 ≤ r - x ∧ 0 ≤ -r + x) := by
  have e : r = x := zl_RT_u k1 k2
  exact ⟨by omega, by omega⟩
theorem zl_ru_ok {w : zq_Wd} (x_RT : zj_is w 234 (fun q => zl_RT (q 0) (q 1) (q 2) (q 3) (q 4))) : zq_okG1 w zl_ru := by
  refine ⟨rfl, rfl, zu_fac ⟨rfl, by decide⟩ zq_fan, ?_⟩
  intro r P h H hM
  have q0 : zq_ev r (0, [(0, 1)]) = r 0 := zu_e1 _ _
  have q1 : zq_ev r (0, [(1, 1)]) = r 1 := zu_e1 _ _
  have q2 : zq_ev r (0, [(2, 1)]) = r 2 := zu_e1 _ _
  have q3 : zq_ev r (0, [(3, 1)]) = r 3 := zu_e1 _ _
  have q4 : zq_ev r (0, [(4, 1)]) = r 4 := zu_e1 _ _
  have q5 : zq_ev r (0, [(5, 1)]) = r 5 := zu_e1 _ _
  obtain ⟨hT, hC, hF, hS, -, hK⟩ := hM
  have c := hC.1
  have k1 := zj_use x_RT (hK)
  have k1 : zl_RT (zq_ev r (0, [(0, 1)])) (zq_ev r (0, [(1, 1)])) (zq_ev r (0, [(2, 1)])) (zq_ev r (0, [(3, 1)])) (zq_ev r (0, [(4, 1)])) P h := k1
  simp only [q0, q1, q2, q3, q4] at k1
  have k2 := zj_use x_RT (zq_okX_t (hK))
  have k2 : zl_RT (zq_ev r (0, [(0, 1)])) (zq_ev r (0, [(1, 1)])) (zq_ev r (0, [(2, 1)])) (zq_ev r (0, [(3, 1)])) (zq_ev r (0, [(5, 1)])) P h := k2
  simp only [q0, q1, q2, q3, q5] at k2
  obtain ⟨c1, c2⟩ := zl_ru_l (P := P) (h := h) (k := r 0) (T := r 1) (f := r 2) (W := r 3) (r := r 4) (x := r 5) k1 k2
  obtain ⟨rq, hr⟩ : ∃ rq : Nat → Int, (∀ i, i < 6 → rq i = r i) := ⟨r, fun i hi => rfl⟩
  have v4 : rq 4 = r 4 := hr 4 (by decide)
  have v5 : rq 5 = r 5 := hr 5 (by decide)
  have g0 : zq_ev rq (0, [(4, -1), (5, 1)]) = -r 4 + r 5 := by simp only [zq_ev, zq_ts, v4, v5] <;> omega
  have g1 : zq_ev rq (0, [(4, 1), (5, -1)]) = r 4 - r 5 := by simp only [zq_ev, zq_ts, v4, v5] <;> omega
  exact ⟨_, List.mem_cons_self .., rq, hr, zq_MeS_mk rfl hT (zq_all_cons (by rw [g1]; exact c1) (zq_all_cons (by rw [g0]; exact c2) (zq_all_nil))) zq_fan (zq_fan) rfl zq_fan⟩
noncomputable def zl_pw : zq_S × List zq_S := (([], [], [(0, [(0, 1)]), (2147483648, [(1, 1)]), (2147483647, [(1, -1)]), (2147483648, [(2, 1)]), (2147483647, [(2, -1)]), (2147483648, [(3, 1)]), (2147483647, [(3, -1)]), (2147483648, [(4, 1)]), (2147483647, [(4, -1)]), (2147483648, [(5, 1)]), (2147483647, [(5, -1)]), (2147483648, [(6, 1)]), (2147483647, [(6, -1)]), (2147483648, [(7, 1)]), (2147483647, [(7, -1)]), (2147483648, [(8, 1)]), (2147483647, [(8, -1)])], [((0, [(0, 1)]), 11)], [((0, [(0, 1)]), (0, []), (0, [(1, 1)])), ((0, [(0, 1)]), (1, []), (0, [(2, 1)])), ((0, [(0, 1)]), (2, []), (0, [(3, 1)])), ((0, [(0, 1)]), (3, []), (0, [(4, 1)])), ((0, [(0, 1)]), (4, []), (0, [(5, 1)])), ((0, [(0, 1)]), (5, []), (0, [(6, 1)])), ((0, [(0, 1)]), (6, []), (0, [(7, 1)])), ((0, [(0, 1)]), (7, []), (0, [(8, 1)]))], [], [], 9), [([], [], [], [], [], [], [(227, [(0, [(0, 1)]), (0, [(9, 1)])]), (235, [(0, [(9, 1)]), (0, [(1, 1)]), (0, [(2, 1)]), (0, [(3, 1)]), (0, [(4, 1)]), (0, [(5, 1)]), (0, [(6, 1)]), (0, [(7, 1)]), (0, [(8, 1)])])], 10)])
theorem zl_pw_l {P : zq_Ty} {h : zq_H} {a w0 w1 w2 w3 w4 w5 w6 w7 : Int} (a1 : 0 ≤ a) (a2 : 0 ≤ w0 + 2147483648) (a3 : 0 ≤ -w0 + 2147483647) (a4 : 0 ≤ w1 + 2147483648) (a5 : 0 ≤ -w1 + 2147483647) (a6 : 0 ≤ w2 + 2147483648) (a7 : 0 ≤ -w2 + 2147483647) (a8 : 0 ≤ w3 + 2147483648) (a9 : 0 ≤ -w3 + 2147483647) (a10 : 0 ≤ w4 + 2147483648) (a11 : 0 ≤ -w4 + 2147483647) (a12 : 0 ≤ w5 + 2147483648) (a13 : 0 ≤ -w5 + 2147483647) (a14 : 0 ≤ w6 + 2147483648) (a15 : 0 ≤ -w6 + 2147483647) (a16 : 0 ≤ w7 + 2147483648) (a17 : 0 ≤ -w7 + 2147483647) (b1 : 0 ≤ a → P (a).toNat = some 11) (s1 : 0 ≤ a ∧ P (a).toNat ≠ none ∧ h (a).toNat 0 = w0) (s2 : 0 ≤ a ∧ P (a).toNat ≠ none ∧ h (a).toNat 1 = w1) (s3 : 0 ≤ a ∧ P (a).toNat ≠ none ∧ h (a).toNat 2 = w2) (s4 : 0 ≤ a ∧ P (a).toNat ≠ none ∧ h (a).toNat 3 = w3) (s5 : 0 ≤ a ∧ P (a).toNat ≠ none ∧ h (a).toNat 4 = w4) (s6 : 0 ≤ a ∧ P (a).toNat ≠ none ∧ h (a).toNat 5 = w5) (s7 : 0 ≤ a ∧ P (a).toNat ≠ none ∧ h (a).toNat 6 = w6) (s8 : 0 ≤ a ∧ P (a).toNat ≠ none ∧ h (a).toNat 7 = w7) : (∃ W : Int, ze_AW 11 a W P h ∧ zl_PW W w0 w1 w2 w3 w4 w5 w6 w7 P h) := by
  have i0 : zn_in w0 := by unfold zn_in; omega
  have i1 : zn_in w1 := by unfold zn_in; omega
  have i2 : zn_in w2 := by unfold zn_in; omega
  have i3 : zn_in w3 := by unfold zn_in; omega
  have i4 : zn_in w4 := by unfold zn_in; omega
  have i5 : zn_in w5 := by unfold zn_in; omega
  have i6 : zn_in w6 := by unfold zn_in; omega
  have i7 : zn_in w7 := by unfold zn_in; omega
  refine ⟨zl_pk w0 w1 w2 w3 w4 w5 w6 w7, ⟨⟨a1, b1 a1⟩, fun j j0 j1 => ?_⟩, rfl⟩
  rw [zl_pk_dg i0 i1 i2 i3 i4 i5 i6 i7 j0 j1]
  rcases zl_c8 j0 j1 with e | e | e | e | e | e | e | e <;> subst e
  · exact s1.2.2
  · exact s2.2.2
  · exact s3.2.2
  · exact s4.2.2
  · exact s5.2.2
  · exact s6.2.2
  · exact s7.2.2
  · exact s8.2.2
theorem zl_pw_ok {w : zq_Wd} (x_AW : zj_is w 227 (fun q => ze_AW 11 (q 0) (q 1))) (x_PW : zj_is w 235 (fun q => zl_PW (q 0) (q 1) (q 2) (q 3) (q 4) (q 5) (q 6) (q 7) (q 8))) : zq_okG1 w zl_pw := by
  refine ⟨rfl, rfl, zu_fac ⟨rfl, by decide⟩ zq_fan, ?_⟩
  intro r P h H hM
  have q0 : zq_ev r (0, [(0, 1)]) = r 0 := zu_e1 _ _
  have q1 : zq_ev r (2147483648, [(1, 1)]) = r 1 + 2147483648 := zu_e2 _ _ _
  have q2 : zq_ev r (2147483647, [(1, -1)]) = -r 1 + 2147483647 := zu_e5 _ _ _
  have q3 : zq_ev r (2147483648, [(2, 1)]) = r 2 + 2147483648 := zu_e2 _ _ _
  have q4 : zq_ev r (2147483647, [(2, -1)]) = -r 2 + 2147483647 := zu_e5 _ _ _
  have q5 : zq_ev r (2147483648, [(3, 1)]) = r 3 + 2147483648 := zu_e2 _ _ _
  have q6 : zq_ev r (2147483647, [(3, -1)]) = -r 3 + 2147483647 := zu_e5 _ _ _
  have q7 : zq_ev r (2147483648, [(4, 1)]) = r 4 + 2147483648 := zu_e2 _ _ _
  have q8 : zq_ev r (2147483647, [(4, -1)]) = -r 4 + 2147483647 := zu_e5 _ _ _
  have q9 : zq_ev r (2147483648, [(5, 1)]) = r 5 + 2147483648 := zu_e2 _ _ _
  have q10 : zq_ev r (2147483647, [(5, -1)]) = -r 5 + 2147483647 := zu_e5 _ _ _
  have q11 : zq_ev r (2147483648, [(6, 1)]) = r 6 + 2147483648 := zu_e2 _ _ _
  have q12 : zq_ev r (2147483647, [(6, -1)]) = -r 6 + 2147483647 := zu_e5 _ _ _
  have q13 : zq_ev r (2147483648, [(7, 1)]) = r 7 + 2147483648 := zu_e2 _ _ _
  have q14 : zq_ev r (2147483647, [(7, -1)]) = -r 7 + 2147483647 := zu_e5 _ _ _
  have q15 : zq_ev r (2147483648, [(8, 1)]) = r 8 + 2147483648 := zu_e2 _ _ _
  have q16 : zq_ev r (2147483647, [(8, -1)]) = -r 8 + 2147483647 := zu_e5 _ _ _
  have q17 : zq_ev r (0, []) = 0 := zu_e0 _ _
  have q18 : zq_ev r (0, [(1, 1)]) = r 1 := zu_e1 _ _
  have q19 : zq_ev r (1, []) = 1 := zu_e0 _ _
  have q20 : zq_ev r (0, [(2, 1)]) = r 2 := zu_e1 _ _
  have q21 : zq_ev r (2, []) = 2 := zu_e0 _ _
  have q22 : zq_ev r (0, [(3, 1)]) = r 3 := zu_e1 _ _
  have q23 : zq_ev r (3, []) = 3 := zu_e0 _ _
  have q24 : zq_ev r (0, [(4, 1)]) = r 4 := zu_e1 _ _
  have q25 : zq_ev r (4, []) = 4 := zu_e0 _ _
  have q26 : zq_ev r (0, [(5, 1)]) = r 5 := zu_e1 _ _
  have q27 : zq_ev r (5, []) = 5 := zu_e0 _ _
  have q28 : zq_ev r (0, [(6, 1)]) = r 6 := zu_e1 _ _
  have q29 : zq_ev r (6, []) = 6 := zu_e0 _ _
  have q30 : zq_ev r (0, [(7, 1)]) = r 7 := zu_e1 _ _
  have q31 : zq_ev r (7, []) = 7 := zu_e0 _ _
  have q32 : zq_ev r (0, [(8, 1)]) = r 8 := zu_e1 _ _
  obtain ⟨hT, hC, hF, hS, -, hK⟩ := hM
  have c := hC.1
  have a1 := zq_all_1 c
  rw [q0] at a1
  have c := zq_all_t c
  have a2 := zq_all_1 c
  rw [q1] at a2
  have c := zq_all_t c
  have a3 := zq_all_1 c
  rw [q2] at a3
  have c := zq_all_t c
  have a4 := zq_all_1 c
  rw [q3] at a4
  have c := zq_all_t c
  have a5 := zq_all_1 c
  rw [q4] at a5
  have c := zq_all_t c
  have a6 := zq_all_1 c
  rw [q5] at a6
  have c := zq_all_t c
  have a7 := zq_all_1 c
  rw [q6] at a7
  have c := zq_all_t c
  have a8 := zq_all_1 c
  rw [q7] at a8
  have c := zq_all_t c
  have a9 := zq_all_1 c
  rw [q8] at a9
  have c := zq_all_t c
  have a10 := zq_all_1 c
  rw [q9] at a10
  have c := zq_all_t c
  have a11 := zq_all_1 c
  rw [q10] at a11
  have c := zq_all_t c
  have a12 := zq_all_1 c
  rw [q11] at a12
  have c := zq_all_t c
  have a13 := zq_all_1 c
  rw [q12] at a13
  have c := zq_all_t c
  have a14 := zq_all_1 c
  rw [q13] at a14
  have c := zq_all_t c
  have a15 := zq_all_1 c
  rw [q14] at a15
  have c := zq_all_t c
  have a16 := zq_all_1 c
  rw [q15] at a16
  have c := zq_all_t c
  have a17 := zq_all_1 c
  rw [q16] at a17
  have b1 : 0 ≤ r 0 → P (r 0).toNat = some 11 := fun z => by
    have z1 : 0 ≤ zq_ev r (0, [(0, 1)]) := by rw [q0]; exact z
    have z2 := zq_okF_1 (hF) z1
    simp only [q0] at z2
    exact z2
  have s1 := zq_okS_1 (hS)
  simp only [q0, q17, q18] at s1
  have s2 := zq_okS_1 (zq_okS_t (hS))
  simp only [q0, q19, q20] at s2
  have s3 := zq_okS_1 (zq_okS_t (zq_okS_t (hS)))
  simp only [q0, q21, q22] at s3
  have s4 := zq_okS_1 (zq_okS_t (zq_okS_t (zq_okS_t (hS))))
  simp only [q0, q23, q24] at s4
  have s5 := zq_okS_1 (zq_okS_t (zq_okS_t (zq_okS_t (zq_okS_t (hS)))))
  simp only [q0, q25, q26] at s5
  have s6 := zq_okS_1 (zq_okS_t (zq_okS_t (zq_okS_t (zq_okS_t (zq_okS_t (hS))))))
  simp only [q0, q27, q28] at s6
  have s7 := zq_okS_1 (zq_okS_t (zq_okS_t (zq_okS_t (zq_okS_t (zq_okS_t (zq_okS_t (hS)))))))
  simp only [q0, q29, q30] at s7
  have s8 := zq_okS_1 (zq_okS_t (zq_okS_t (zq_okS_t (zq_okS_t (zq_okS_t (zq_okS_t (zq_okS_t (hS))))))))
  simp only [q0, q31, q32] at s8
  obtain ⟨y_0, t1, t2⟩ := zl_pw_l (P := P) (h := h) (a := r 0) (w0 := r 1) (w1 := r 2) (w2 := r 3) (w3 := r 4) (w4 := r 5) (w5 := r 6) (w6 := r 7) (w7 := r 8) a1 a2 a3 a4 a5 a6 a7 a8 a9 a10 a11 a12 a13 a14 a15 a16 a17 b1 s1 s2 s3 s4 s5 s6 s7 s8
  obtain ⟨rq, hr, w9⟩ : ∃ rq : Nat → Int, (∀ i, i < 9 → rq i = r i) ∧ rq 9 = y_0 := ⟨zq_up r 9 y_0, fun i hi => by rw [zu_up_ne (by omega)], rfl⟩
  have v0 : rq 0 = r 0 := hr 0 (by decide)
  have v1 : rq 1 = r 1 := hr 1 (by decide)
  have v2 : rq 2 = r 2 := hr 2 (by decide)
  have v3 : rq 3 = r 3 := hr 3 (by decide)
  have v4 : rq 4 = r 4 := hr 4 (by decide)
  have v5 : rq 5 = r 5 := hr 5 (by decide)
  have v6 : rq 6 = r 6 := hr 6 (by decide)
  have v7 : rq 7 = r 7 := hr 7 (by decide)
  have v8 : rq 8 = r 8 := hr 8 (by decide)
  have g0 : zq_ev rq (0, [(9, 1)]) = y_0 := zu_f1 w9
  have g1 : zq_ev rq (0, [(1, 1)]) = r 1 := zu_f1 v1
  have g2 : zq_ev rq (0, [(2, 1)]) = r 2 := zu_f1 v2
  have g3 : zq_ev rq (0, [(3, 1)]) = r 3 := zu_f1 v3
  have g4 : zq_ev rq (0, [(4, 1)]) = r 4 := zu_f1 v4
  have g5 : zq_ev rq (0, [(5, 1)]) = r 5 := zu_f1 v5
  have g6 : zq_ev rq (0, [(6, 1)]) = r 6 := zu_f1 v6
  have g7 : zq_ev rq (0, [(7, 1)]) = r 7 := zu_f1 v7
  have g8 : zq_ev rq (0, [(8, 1)]) = r 8 := zu_f1 v8
  have g9 : zq_ev rq (0, [(0, 1)]) = r 0 := zu_f1 v0
  exact ⟨_, List.mem_cons_self .., rq, hr, zq_MeS_mk rfl hT (zq_all_nil) zq_fan (zq_fan) rfl (zu_fac ((x_AW _ _ _).mpr (by show ze_AW 11 (zq_ev rq (0, [(0, 1)])) (zq_ev rq (0, [(9, 1)])) P h; simp only [g0, g9]; exact t1)) (zu_fac ((x_PW _ _ _).mpr (by show zl_PW (zq_ev rq (0, [(9, 1)])) (zq_ev rq (0, [(1, 1)])) (zq_ev rq (0, [(2, 1)])) (zq_ev rq (0, [(3, 1)])) (zq_ev rq (0, [(4, 1)])) (zq_ev rq (0, [(5, 1)])) (zq_ev rq (0, [(6, 1)])) (zq_ev rq (0, [(7, 1)])) (zq_ev rq (0, [(8, 1)])) P h; simp only [g0, g1, g2, g3, g4, g5, g6, g7, g8]; exact t2)) zq_fan))⟩
noncomputable def zl_ww : zq_S × List zq_S := (([], [], [(0, [(10, 1)]), (6, [(10, -1)]), (0, [(5, 1), (10, -1), (11, -7)]), (0, [(5, -1), (10, 1), (11, 7)])], [], [], [], [(235, [(0, [(0, 1)]), (0, [(3, 1)]), (0, [(7, 1)]), (0, [(8, 1)]), (0, [(9, 1)]), (0, [(4, 1)]), (0, [(5, 1)]), (0, [(10, 1)]), (0, [(6, 1)])]), (134, [(0, [(1, 1)]), (0, [(3, 1)]), (0, [(7, 1)])]), (134, [(0, [(1, 1)]), (6, [(2, 1)]), (0, [(8, 1)])]), (134, [(0, [(1, 1)]), (12, [(2, 1)]), (0, [(9, 1)])])], 12), [([], [], [], [], [], [], [(236, [(0, [(0, 1)]), (0, [(1, 1)]), (0, [(2, 1)]), (0, [(3, 1)]), (0, [(4, 1)]), (0, [(5, 1)]), (0, [(6, 1)])])], 12)])
theorem zl_ww_l {P : zq_Ty} {h : zq_H} {W S d w p t m x y z u q : Int} (a1 : 0 ≤ u) (a2 : 0 ≤ -u + 6) (a3 : 0 ≤ t - u - 7 * q) (a4 : 0 ≤ -t + u + 7 * q) (k1 : zl_PW W w x y z p t u m P h) (k2 : zn_DG S w x P h) (k3 : zn_DG S (d + 6) y P h) (k4 : zn_DG S (d + 12) z P h) : (zl_WW W S d w p t m P h) := by
  have k1 : W = zl_pk w x y z p t u m := k1
  have k2 : x = zn_dg S w := k2
  have k3 : y = zn_dg S (d + 6) := k3
  have k4 : z = zn_dg S (d + 12) := k4
  show W = zl_pk w (zn_dg S w) (zn_dg S (d + 6)) (zn_dg S (d + 12)) p t (t % 7) m
  rw [k1, k2, k3, k4, show t % 7 = u by omega]
theorem zl_ww_ok {w : zq_Wd} (x_PW : zj_is w 235 (fun q => zl_PW (q 0) (q 1) (q 2) (q 3) (q 4) (q 5) (q 6) (q 7) (q 8))) (x_DG : zj_is w 134 (fun q => zn_DG (q 0) (q 1) (q 2))) (x_WW : zj_is w 236 (fun q => zl_WW (q 0) (q 1) (q 2) (q 3) (q 4) (q 5) (q 6))) : zq_okG1 w zl_ww := by
  refine ⟨rfl, rfl, zu_fac ⟨rfl, by decide⟩ zq_fan, ?_⟩
  intro r P h H hM
  have q0 : zq_ev r (0, [(10, 1)]) = r 10 := zu_e1 _ _
  have q1 : zq_ev r (6, [(10, -1)]) = -r 10 + 6 := zu_e5 _ _ _
  have q2 : zq_ev r (0, [(5, 1), (10, -1), (11, -7)]) = r 5 - r 10 - 7 * r 11 := by simp only [zq_ev, zq_ts] <;> omega
  have q3 : zq_ev r (0, [(5, -1), (10, 1), (11, 7)]) = -r 5 + r 10 + 7 * r 11 := by simp only [zq_ev, zq_ts] <;> omega
  have q4 : zq_ev r (0, [(0, 1)]) = r 0 := zu_e1 _ _
  have q5 : zq_ev r (0, [(3, 1)]) = r 3 := zu_e1 _ _
  have q6 : zq_ev r (0, [(7, 1)]) = r 7 := zu_e1 _ _
  have q7 : zq_ev r (0, [(8, 1)]) = r 8 := zu_e1 _ _
  have q8 : zq_ev r (0, [(9, 1)]) = r 9 := zu_e1 _ _
  have q9 : zq_ev r (0, [(4, 1)]) = r 4 := zu_e1 _ _
  have q10 : zq_ev r (0, [(5, 1)]) = r 5 := zu_e1 _ _
  have q11 : zq_ev r (0, [(6, 1)]) = r 6 := zu_e1 _ _
  have q12 : zq_ev r (0, [(1, 1)]) = r 1 := zu_e1 _ _
  have q13 : zq_ev r (6, [(2, 1)]) = r 2 + 6 := zu_e2 _ _ _
  have q14 : zq_ev r (12, [(2, 1)]) = r 2 + 12 := zu_e2 _ _ _
  obtain ⟨hT, hC, hF, hS, -, hK⟩ := hM
  have c := hC.1
  have a1 := zq_all_1 c
  rw [q0] at a1
  have c := zq_all_t c
  have a2 := zq_all_1 c
  rw [q1] at a2
  have c := zq_all_t c
  have a3 := zq_all_1 c
  rw [q2] at a3
  have c := zq_all_t c
  have a4 := zq_all_1 c
  rw [q3] at a4
  have k1 := zj_use x_PW (hK)
  have k1 : zl_PW (zq_ev r (0, [(0, 1)])) (zq_ev r (0, [(3, 1)])) (zq_ev r (0, [(7, 1)])) (zq_ev r (0, [(8, 1)])) (zq_ev r (0, [(9, 1)])) (zq_ev r (0, [(4, 1)])) (zq_ev r (0, [(5, 1)])) (zq_ev r (0, [(10, 1)])) (zq_ev r (0, [(6, 1)])) P h := k1
  simp only [q0, q10, q11, q4, q5, q6, q7, q8, q9] at k1
  have k2 := zj_use x_DG (zq_okX_t (hK))
  have k2 : zn_DG (zq_ev r (0, [(1, 1)])) (zq_ev r (0, [(3, 1)])) (zq_ev r (0, [(7, 1)])) P h := k2
  simp only [q12, q5, q6] at k2
  have k3 := zj_use x_DG (zq_okX_t (zq_okX_t (hK)))
  have k3 : zn_DG (zq_ev r (0, [(1, 1)])) (zq_ev r (6, [(2, 1)])) (zq_ev r (0, [(8, 1)])) P h := k3
  simp only [q12, q13, q7] at k3
  have k4 := zj_use x_DG (zq_okX_t (zq_okX_t (zq_okX_t (hK))))
  have k4 : zn_DG (zq_ev r (0, [(1, 1)])) (zq_ev r (12, [(2, 1)])) (zq_ev r (0, [(9, 1)])) P h := k4
  simp only [q12, q14, q8] at k4
  obtain t1 := zl_ww_l (P := P) (h := h) (W := r 0) (S := r 1) (d := r 2) (w := r 3) (p := r 4) (t := r 5) (m := r 6) (x := r 7) (y := r 8) (z := r 9) (u := r 10) (q := r 11) a1 a2 a3 a4 k1 k2 k3 k4
  obtain ⟨rq, hr⟩ : ∃ rq : Nat → Int, (∀ i, i < 12 → rq i = r i) := ⟨r, fun i hi => rfl⟩
  have v0 : rq 0 = r 0 := hr 0 (by decide)
  have v1 : rq 1 = r 1 := hr 1 (by decide)
  have v2 : rq 2 = r 2 := hr 2 (by decide)
  have v3 : rq 3 = r 3 := hr 3 (by decide)
  have v4 : rq 4 = r 4 := hr 4 (by decide)
  have v5 : rq 5 = r 5 := hr 5 (by decide)
  have v6 : rq 6 = r 6 := hr 6 (by decide)
  have g0 : zq_ev rq (0, [(0, 1)]) = r 0 := zu_f1 v0
  have g1 : zq_ev rq (0, [(1, 1)]) = r 1 := zu_f1 v1
  have g2 : zq_ev rq (0, [(2, 1)]) = r 2 := zu_f1 v2
  have g3 : zq_ev rq (0, [(3, 1)]) = r 3 := zu_f1 v3
  have g4 : zq_ev rq (0, [(4, 1)]) = r 4 := zu_f1 v4
  have g5 : zq_ev rq (0, [(5, 1)]) = r 5 := zu_f1 v5
  have g6 : zq_ev rq (0, [(6, 1)]) = r 6 := zu_f1 v6
  exact ⟨_, List.mem_cons_self .., rq, hr, zq_MeS_mk rfl hT (zq_all_nil) zq_fan (zq_fan) rfl (zu_fac ((x_WW _ _ _).mpr (by show zl_WW (zq_ev rq (0, [(0, 1)])) (zq_ev rq (0, [(1, 1)])) (zq_ev rq (0, [(2, 1)])) (zq_ev rq (0, [(3, 1)])) (zq_ev rq (0, [(4, 1)])) (zq_ev rq (0, [(5, 1)])) (zq_ev rq (0, [(6, 1)])) P h; simp only [g0, g1, g2, g3, g4, g5, g6]; exact t1)) zq_fan)⟩
noncomputable def zl_wu : zq_S × List zq_S := (([], [], [], [], [], [], [(236, [(0, [(0, 1)]), (0, [(2, 1)]), (0, [(3, 1)]), (0, [(4, 1)]), (0, [(5, 1)]), (0, [(6, 1)]), (0, [(7, 1)])]), (236, [(0, [(1, 1)]), (0, [(2, 1)]), (0, [(3, 1)]), (0, [(4, 1)]), (0, [(5, 1)]), (0, [(6, 1)]), (0, [(7, 1)])])], 8), [([], [], [(0, [(0, 1), (1, -1)]), (0, [(0, -1), (1, 1)])], [], [], [], [], 8)])
theorem zl_wu_l {P : zq_Ty} {h : zq_H} {W V S d w p t m : Int} (k1 : zl_WW W S d w p t m P h) (k2 : zl_WW V S d w p t m P h) : (0 ≤ W - V ∧ 0 ≤ -W + V) := by
  have k1 : W = zl_pk w (zn_dg S w) (zn_dg S (d + 6)) (zn_dg S (d + 12)) p t (t % 7) m := k1
  have k2 : V = zl_pk w (zn_dg S w) (zn_dg S (d + 6)) (zn_dg S (d + 12)) p t (t % 7) m := k2
  have e : W = V := k1.trans k2.symm
  exact ⟨by omega, by omega⟩
theorem zl_wu_ok {w : zq_Wd} (x_WW : zj_is w 236 (fun q => zl_WW (q 0) (q 1) (q 2) (q 3) (q 4) (q 5) (q 6))) : zq_okG1 w zl_wu := by
  refine ⟨rfl, rfl, zu_fac ⟨rfl, by decide⟩ zq_fan, ?_⟩
  intro r P h H hM
  have q0 : zq_ev r (0, [(0, 1)]) = r 0 := zu_e1 _ _
  have q1 : zq_ev r (0, [(2, 1)]) = r 2 := zu_e1 _ _
  have q2 : zq_ev r (0, [(3, 1)]) = r 3 := zu_e1 _ _
  have q3 : zq_ev r (0, [(4, 1)]) = r 4 := zu_e1 _ _
  have q4 : zq_ev r (0, [(5, 1)]) = r 5 := zu_e1 _ _
  have q5 : zq_ev r (0, [(6, 1)]) = r 6 := zu_e1 _ _
  have q6 : zq_ev r (0, [(7, 1)]) = r 7 := zu_e1 _ _
  have q7 : zq_ev r (0, [(1, 1)]) = r 1 := zu_e1 _ _
  obtain ⟨hT, hC, hF, hS, -, hK⟩ := hM
  have c := hC.1
  have k1 := zj_use x_WW (hK)
  have k1 : zl_WW (zq_ev r (0, [(0, 1)])) (zq_ev r (0, [(2, 1)])) (zq_ev r (0, [(3, 1)])) (zq_ev r (0, [(4, 1)])) (zq_ev r (0, [(5, 1)])) (zq_ev r (0, [(6, 1)])) (zq_ev r (0, [(7, 1)])) P h := k1
  simp only [q0, q1, q2, q3, q4, q5, q6] at k1
  have k2 := zj_use x_WW (zq_okX_t (hK))
  have k2 : zl_WW (zq_ev r (0, [(1, 1)])) (zq_ev r (0, [(2, 1)])) (zq_ev r (0, [(3, 1)])) (zq_ev r (0, [(4, 1)])) (zq_ev r (0, [(5, 1)])) (zq_ev r (0, [(6, 1)])) (zq_ev r (0, [(7, 1)])) P h := k2
  simp only [q1, q2, q3, q4, q5, q6, q7] at k2
  obtain ⟨c1, c2⟩ := zl_wu_l (P := P) (h := h) (W := r 0) (V := r 1) (S := r 2) (d := r 3) (w := r 4) (p := r 5) (t := r 6) (m := r 7) k1 k2
  obtain ⟨rq, hr⟩ : ∃ rq : Nat → Int, (∀ i, i < 8 → rq i = r i) := ⟨r, fun i hi => rfl⟩
  have v0 : rq 0 = r 0 := hr 0 (by decide)
  have v1 : rq 1 = r 1 := hr 1 (by decide)
  have g0 : zq_ev rq (0, [(0, -1), (1, 1)]) = -r 0 + r 1 := by simp only [zq_ev, zq_ts, v0, v1] <;> omega
  have g1 : zq_ev rq (0, [(0, 1), (1, -1)]) = r 0 - r 1 := by simp only [zq_ev, zq_ts, v0, v1] <;> omega
  exact ⟨_, List.mem_cons_self .., rq, hr, zq_MeS_mk rfl hT (zq_all_cons (by rw [g1]; exact c1) (zq_all_cons (by rw [g0]; exact c2) (zq_all_nil))) zq_fan (zq_fan) rfl zq_fan⟩
noncomputable def zl_who7g : zq_S × List zq_S := (([], [], [(3999999999, [(5, 1)])], [], [], [], [(234, [(3, []), (0, [(0, 1)]), (0, [(1, 1)]), (0, [(2, 1)]), (0, [(5, 1)])])], 6), [([], [], [], [], [], [], [(237, [(0, [(0, 1)]), (0, [(1, 1)]), (0, [(2, 1)]), (0, [(3, 1)]), (0, [(4, 1)]), (7, [])])], 6)])
theorem zl_who7g_l {P : zq_Ty} {h : zq_H} {T f W w m a : Int} (a1 : 0 ≤ a + 3999999999) (k1 : zl_RT 3 T f W a P h) : (zl_RW T f W w m 7 P h) := by
  exact Or.inl ⟨a, k1, by omega, rfl⟩
theorem zl_who7g_ok {w : zq_Wd} (x_RT : zj_is w 234 (fun q => zl_RT (q 0) (q 1) (q 2) (q 3) (q 4))) (x_RW : zj_is w 237 (fun q => zl_RW (q 0) (q 1) (q 2) (q 3) (q 4) (q 5))) : zq_okG1 w zl_who7g := by
  refine ⟨rfl, rfl, zu_fac ⟨rfl, by decide⟩ zq_fan, ?_⟩
  intro r P h H hM
  have q0 : zq_ev r (3999999999, [(5, 1)]) = r 5 + 3999999999 := zu_e2 _ _ _
  have q1 : zq_ev r (3, []) = 3 := zu_e0 _ _
  have q2 : zq_ev r (0, [(0, 1)]) = r 0 := zu_e1 _ _
  have q3 : zq_ev r (0, [(1, 1)]) = r 1 := zu_e1 _ _
  have q4 : zq_ev r (0, [(2, 1)]) = r 2 := zu_e1 _ _
  have q5 : zq_ev r (0, [(5, 1)]) = r 5 := zu_e1 _ _
  obtain ⟨hT, hC, hF, hS, -, hK⟩ := hM
  have c := hC.1
  have a1 := zq_all_1 c
  rw [q0] at a1
  have k1 := zj_use x_RT (hK)
  have k1 : zl_RT (zq_ev r (3, [])) (zq_ev r (0, [(0, 1)])) (zq_ev r (0, [(1, 1)])) (zq_ev r (0, [(2, 1)])) (zq_ev r (0, [(5, 1)])) P h := k1
  simp only [q1, q2, q3, q4, q5] at k1
  obtain t1 := zl_who7g_l (P := P) (h := h) (T := r 0) (f := r 1) (W := r 2) (w := r 3) (m := r 4) (a := r 5) a1 k1
  obtain ⟨rq, hr⟩ : ∃ rq : Nat → Int, (∀ i, i < 6 → rq i = r i) := ⟨r, fun i hi => rfl⟩
  have v0 : rq 0 = r 0 := hr 0 (by decide)
  have v1 : rq 1 = r 1 := hr 1 (by decide)
  have v2 : rq 2 = r 2 := hr 2 (by decide)
  have v3 : rq 3 = r 3 := hr 3 (by decide)
  have v4 : rq 4 = r 4 := hr 4 (by decide)
  have g0 : zq_ev rq (0, [(0, 1)]) = r 0 := zu_f1 v0
  have g1 : zq_ev rq (0, [(1, 1)]) = r 1 := zu_f1 v1
  have g2 : zq_ev rq (0, [(2, 1)]) = r 2 := zu_f1 v2
  have g3 : zq_ev rq (0, [(3, 1)]) = r 3 := zu_f1 v3
  have g4 : zq_ev rq (0, [(4, 1)]) = r 4 := zu_f1 v4
  have g5 : zq_ev rq (7, []) = 7 := zu_e0 _ _
  exact ⟨_, List.mem_cons_self .., rq, hr, zq_MeS_mk rfl hT (zq_all_nil) zq_fan (zq_fan) rfl (zu_fac ((x_RW _ _ _).mpr (by show zl_RW (zq_ev rq (0, [(0, 1)])) (zq_ev rq (0, [(1, 1)])) (zq_ev rq (0, [(2, 1)])) (zq_ev rq (0, [(3, 1)])) (zq_ev rq (0, [(4, 1)])) (zq_ev rq (7, [])) P h; simp only [g0, g1, g2, g3, g4, g5]; exact t1)) zq_fan)⟩
noncomputable def zl_who7l : zq_S × List zq_S := (([], [], [(-4000000001, [(5, -1)])], [], [], [], [(234, [(3, []), (0, [(0, 1)]), (0, [(1, 1)]), (0, [(2, 1)]), (0, [(5, 1)])])], 6), [([], [], [], [], [], [], [(237, [(0, [(0, 1)]), (0, [(1, 1)]), (0, [(2, 1)]), (0, [(3, 1)]), (0, [(4, 1)]), (7, [])])], 6)])
theorem zl_who7l_l {P : zq_Ty} {h : zq_H} {T f W w m a : Int} (a1 : 0 ≤ -a - 4000000001) (k1 : zl_RT 3 T f W a P h) : (zl_RW T f W w m 7 P h) := by
  exact Or.inl ⟨a, k1, by omega, rfl⟩
theorem zl_who7l_ok {w : zq_Wd} (x_RT : zj_is w 234 (fun q => zl_RT (q 0) (q 1) (q 2) (q 3) (q 4))) (x_RW : zj_is w 237 (fun q => zl_RW (q 0) (q 1) (q 2) (q 3) (q 4) (q 5))) : zq_okG1 w zl_who7l := by
  refine ⟨rfl, rfl, zu_fac ⟨rfl, by decide⟩ zq_fan, ?_⟩
  intro r P h H hM
  have q0 : zq_ev r (-4000000001, [(5, -1)]) = -r 5 - 4000000001 := zu_e6 _ _ _
  have q1 : zq_ev r (3, []) = 3 := zu_e0 _ _
  have q2 : zq_ev r (0, [(0, 1)]) = r 0 := zu_e1 _ _
  have q3 : zq_ev r (0, [(1, 1)]) = r 1 := zu_e1 _ _
  have q4 : zq_ev r (0, [(2, 1)]) = r 2 := zu_e1 _ _
  have q5 : zq_ev r (0, [(5, 1)]) = r 5 := zu_e1 _ _
  obtain ⟨hT, hC, hF, hS, -, hK⟩ := hM
  have c := hC.1
  have a1 := zq_all_1 c
  rw [q0] at a1
  have k1 := zj_use x_RT (hK)
  have k1 : zl_RT (zq_ev r (3, [])) (zq_ev r (0, [(0, 1)])) (zq_ev r (0, [(1, 1)])) (zq_ev r (0, [(2, 1)])) (zq_ev r (0, [(5, 1)])) P h := k1
  simp only [q1, q2, q3, q4, q5] at k1
  obtain t1 := zl_who7l_l (P := P) (h := h) (T := r 0) (f := r 1) (W := r 2) (w := r 3) (m := r 4) (a := r 5) a1 k1
  obtain ⟨rq, hr⟩ : ∃ rq : Nat → Int, (∀ i, i < 6 → rq i = r i) := ⟨r, fun i hi => rfl⟩
  have v0 : rq 0 = r 0 := hr 0 (by decide)
  have v1 : rq 1 = r 1 := hr 1 (by decide)
  have v2 : rq 2 = r 2 := hr 2 (by decide)
  have v3 : rq 3 = r 3 := hr 3 (by decide)
  have v4 : rq 4 = r 4 := hr 4 (by decide)
  have g0 : zq_ev rq (0, [(0, 1)]) = r 0 := zu_f1 v0
  have g1 : zq_ev rq (0, [(1, 1)]) = r 1 := zu_f1 v1
  have g2 : zq_ev rq (0, [(2, 1)]) = r 2 := zu_f1 v2
  have g3 : zq_ev rq (0, [(3, 1)]) = r 3 := zu_f1 v3
  have g4 : zq_ev rq (0, [(4, 1)]) = r 4 := zu_f1 v4
  have g5 : zq_ev rq (7, []) = 7 := zu_e0 _ _
  exact ⟨_, List.mem_cons_self .., rq, hr, zq_MeS_mk rfl hT (zq_all_nil) zq_fan (zq_fan) rfl (zu_fac ((x_RW _ _ _).mpr (by show zl_RW (zq_ev rq (0, [(0, 1)])) (zq_ev rq (0, [(1, 1)])) (zq_ev rq (0, [(2, 1)])) (zq_ev rq (0, [(3, 1)])) (zq_ev rq (0, [(4, 1)])) (zq_ev rq (7, [])) P h; simp only [g0, g1, g2, g3, g4, g5]; exact t1)) zq_fan)⟩
noncomputable def zl_whod : zq_S × List zq_S := (([], [], [(4000000000, [(5, 1)]), (-4000000000, [(5, -1)]), (4000000000, [(6, 1)]), (-4000000000, [(6, -1)])], [], [], [], [(234, [(3, []), (0, [(0, 1)]), (0, [(1, 1)]), (0, [(2, 1)]), (0, [(5, 1)])]), (234, [(1, []), (0, [(0, 1)]), (0, [(1, 1)]), (0, [(2, 1)]), (0, [(6, 1)])])], 7), [([], [], [], [], [], [], [(237, [(0, [(0, 1)]), (0, [(1, 1)]), (0, [(2, 1)]), (0, [(3, 1)]), (0, [(4, 1)]), (0, [(3, 1)])])], 7)])
theorem zl_whod_l {P : zq_Ty} {h : zq_H} {T f W w m a b : Int} (a1 : 0 ≤ a + 4000000000) (a2 : 0 ≤ -a - 4000000000) (a3 : 0 ≤ b + 4000000000) (a4 : 0 ≤ -b - 4000000000) (k1 : zl_RT 3 T f W a P h) (k2 : zl_RT 1 T f W b P h) : (zl_RW T f W w m w P h) := by
  have ea : a = -4000000000 := by omega
  rw [ea] at k1
  refine Or.inr ⟨k1, b, k2, ?_⟩
  unfold zl_w1; rw [if_pos (by omega)]
theorem zl_whod_ok {w : zq_Wd} (x_RT : zj_is w 234 (fun q => zl_RT (q 0) (q 1) (q 2) (q 3) (q 4))) (x_RW : zj_is w 237 (fun q => zl_RW (q 0) (q 1) (q 2) (q 3) (q 4) (q 5))) : zq_okG1 w zl_whod := by
  refine ⟨rfl, rfl, zu_fac ⟨rfl, by decide⟩ zq_fan, ?_⟩
  intro r P h H hM
  have q0 : zq_ev r (4000000000, [(5, 1)]) = r 5 + 4000000000 := zu_e2 _ _ _
  have q1 : zq_ev r (-4000000000, [(5, -1)]) = -r 5 - 4000000000 := zu_e6 _ _ _
  have q2 : zq_ev r (4000000000, [(6, 1)]) = r 6 + 4000000000 := zu_e2 _ _ _
  have q3 : zq_ev r (-4000000000, [(6, -1)]) = -r 6 - 4000000000 := zu_e6 _ _ _
  have q4 : zq_ev r (3, []) = 3 := zu_e0 _ _
  have q5 : zq_ev r (0, [(0, 1)]) = r 0 := zu_e1 _ _
  have q6 : zq_ev r (0, [(1, 1)]) = r 1 := zu_e1 _ _
  have q7 : zq_ev r (0, [(2, 1)]) = r 2 := zu_e1 _ _
  have q8 : zq_ev r (0, [(5, 1)]) = r 5 := zu_e1 _ _
  have q9 : zq_ev r (1, []) = 1 := zu_e0 _ _
  have q10 : zq_ev r (0, [(6, 1)]) = r 6 := zu_e1 _ _
  obtain ⟨hT, hC, hF, hS, -, hK⟩ := hM
  have c := hC.1
  have a1 := zq_all_1 c
  rw [q0] at a1
  have c := zq_all_t c
  have a2 := zq_all_1 c
  rw [q1] at a2
  have c := zq_all_t c
  have a3 := zq_all_1 c
  rw [q2] at a3
  have c := zq_all_t c
  have a4 := zq_all_1 c
  rw [q3] at a4
  have k1 := zj_use x_RT (hK)
  have k1 : zl_RT (zq_ev r (3, [])) (zq_ev r (0, [(0, 1)])) (zq_ev r (0, [(1, 1)])) (zq_ev r (0, [(2, 1)])) (zq_ev r (0, [(5, 1)])) P h := k1
  simp only [q4, q5, q6, q7, q8] at k1
  have k2 := zj_use x_RT (zq_okX_t (hK))
  have k2 : zl_RT (zq_ev r (1, [])) (zq_ev r (0, [(0, 1)])) (zq_ev r (0, [(1, 1)])) (zq_ev r (0, [(2, 1)])) (zq_ev r (0, [(6, 1)])) P h := k2
  simp only [q10, q5, q6, q7, q9] at k2
  obtain t1 := zl_whod_l (P := P) (h := h) (T := r 0) (f := r 1) (W := r 2) (w := r 3) (m := r 4) (a := r 5) (b := r 6) a1 a2 a3 a4 k1 k2
  obtain ⟨rq, hr⟩ : ∃ rq : Nat → Int, (∀ i, i < 7 → rq i = r i) := ⟨r, fun i hi => rfl⟩
  have v0 : rq 0 = r 0 := hr 0 (by decide)
  have v1 : rq 1 = r 1 := hr 1 (by decide)
  have v2 : rq 2 = r 2 := hr 2 (by decide)
  have v3 : rq 3 = r 3 := hr 3 (by decide)
  have v4 : rq 4 = r 4 := hr 4 (by decide)
  have g0 : zq_ev rq (0, [(0, 1)]) = r 0 := zu_f1 v0
  have g1 : zq_ev rq (0, [(1, 1)]) = r 1 := zu_f1 v1
  have g2 : zq_ev rq (0, [(2, 1)]) = r 2 := zu_f1 v2
  have g3 : zq_ev rq (0, [(3, 1)]) = r 3 := zu_f1 v3
  have g4 : zq_ev rq (0, [(4, 1)]) = r 4 := zu_f1 v4
  exact ⟨_, List.mem_cons_self .., rq, hr, zq_MeS_mk rfl hT (zq_all_nil) zq_fan (zq_fan) rfl (zu_fac ((x_RW _ _ _).mpr (by show zl_RW (zq_ev rq (0, [(0, 1)])) (zq_ev rq (0, [(1, 1)])) (zq_ev rq (0, [(2, 1)])) (zq_ev rq (0, [(3, 1)])) (zq_ev rq (0, [(4, 1)])) (zq_ev rq (0, [(3, 1)])) P h; simp only [g0, g1, g2, g3, g4]; exact t1)) zq_fan)⟩
noncomputable def zl_whon : zq_S × List zq_S := (([], [], [(4000000000, [(5, 1)]), (-4000000000, [(5, -1)]), (3999999999, [(6, 1)]), (-1, [(6, -1)])], [], [], [], [(234, [(3, []), (0, [(0, 1)]), (0, [(1, 1)]), (0, [(2, 1)]), (0, [(5, 1)])]), (234, [(1, []), (0, [(0, 1)]), (0, [(1, 1)]), (0, [(2, 1)]), (0, [(6, 1)])])], 7), [([], [], [], [], [], [], [(237, [(0, [(0, 1)]), (0, [(1, 1)]), (0, [(2, 1)]), (0, [(3, 1)]), (0, [(4, 1)]), (6, [])])], 7)])
theorem zl_whon_l {P : zq_Ty} {h : zq_H} {T f W w m a b : Int} (a1 : 0 ≤ a + 4000000000) (a2 : 0 ≤ -a - 4000000000) (a3 : 0 ≤ b + 3999999999) (a4 : 0 ≤ -b - 1) (k1 : zl_RT 3 T f W a P h) (k2 : zl_RT 1 T f W b P h) : (zl_RW T f W w m 6 P h) := by
  have ea : a = -4000000000 := by omega
  rw [ea] at k1
  refine Or.inr ⟨k1, b, k2, ?_⟩
  unfold zl_w1; rw [if_neg (by omega), if_pos (by omega)]
theorem zl_whon_ok {w : zq_Wd} (x_RT : zj_is w 234 (fun q => zl_RT (q 0) (q 1) (q 2) (q 3) (q 4))) (x_RW : zj_is w 237 (fun q => zl_RW (q 0) (q 1) (q 2) (q 3) (q 4) (q 5))) : zq_okG1 w zl_whon := by
  refine ⟨rfl, rfl, zu_fac ⟨rfl, by decide⟩ zq_fan, ?_⟩
  intro r P h H hM
  have q0 : zq_ev r (4000000000, [(5, 1)]) = r 5 + 4000000000 := zu_e2 _ _ _
  have q1 : zq_ev r (-4000000000, [(5, -1)]) = -r 5 - 4000000000 := zu_e6 _ _ _
  have q2 : zq_ev r (3999999999, [(6, 1)]) = r 6 + 3999999999 := zu_e2 _ _ _
  have q3 : zq_ev r (-1, [(6, -1)]) = -r 6 - 1 := zu_e6 _ _ _
  have q4 : zq_ev r (3, []) = 3 := zu_e0 _ _
  have q5 : zq_ev r (0, [(0, 1)]) = r 0 := zu_e1 _ _
  have q6 : zq_ev r (0, [(1, 1)]) = r 1 := zu_e1 _ _
  have q7 : zq_ev r (0, [(2, 1)]) = r 2 := zu_e1 _ _
  have q8 : zq_ev r (0, [(5, 1)]) = r 5 := zu_e1 _ _
  have q9 : zq_ev r (1, []) = 1 := zu_e0 _ _
  have q10 : zq_ev r (0, [(6, 1)]) = r 6 := zu_e1 _ _
  obtain ⟨hT, hC, hF, hS, -, hK⟩ := hM
  have c := hC.1
  have a1 := zq_all_1 c
  rw [q0] at a1
  have c := zq_all_t c
  have a2 := zq_all_1 c
  rw [q1] at a2
  have c := zq_all_t c
  have a3 := zq_all_1 c
  rw [q2] at a3
  have c := zq_all_t c
  have a4 := zq_all_1 c
  rw [q3] at a4
  have k1 := zj_use x_RT (hK)
  have k1 : zl_RT (zq_ev r (3, [])) (zq_ev r (0, [(0, 1)])) (zq_ev r (0, [(1, 1)])) (zq_ev r (0, [(2, 1)])) (zq_ev r (0, [(5, 1)])) P h := k1
  simp only [q4, q5, q6, q7, q8] at k1
  have k2 := zj_use x_RT (zq_okX_t (hK))
  have k2 : zl_RT (zq_ev r (1, [])) (zq_ev r (0, [(0, 1)])) (zq_ev r (0, [(1, 1)])) (zq_ev r (0, [(2, 1)])) (zq_ev r (0, [(6, 1)])) P h := k2
  simp only [q10, q5, q6, q7, q9] at k2
  obtain t1 := zl_whon_l (P := P) (h := h) (T := r 0) (f := r 1) (W := r 2) (w := r 3) (m := r 4) (a := r 5) (b := r 6) a1 a2 a3 a4 k1 k2
  obtain ⟨rq, hr⟩ : ∃ rq : Nat → Int, (∀ i, i < 7 → rq i = r i) := ⟨r, fun i hi => rfl⟩
  have v0 : rq 0 = r 0 := hr 0 (by decide)
  have v1 : rq 1 = r 1 := hr 1 (by decide)
  have v2 : rq 2 = r 2 := hr 2 (by decide)
  have v3 : rq 3 = r 3 := hr 3 (by decide)
  have v4 : rq 4 = r 4 := hr 4 (by decide)
  have g0 : zq_ev rq (0, [(0, 1)]) = r 0 := zu_f1 v0
  have g1 : zq_ev rq (0, [(1, 1)]) = r 1 := zu_f1 v1
  have g2 : zq_ev rq (0, [(2, 1)]) = r 2 := zu_f1 v2
  have g3 : zq_ev rq (0, [(3, 1)]) = r 3 := zu_f1 v3
  have g4 : zq_ev rq (0, [(4, 1)]) = r 4 := zu_f1 v4
  have g5 : zq_ev rq (6, []) = 6 := zu_e0 _ _
  exact ⟨_, List.mem_cons_self .., rq, hr, zq_MeS_mk rfl hT (zq_all_nil) zq_fan (zq_fan) rfl (zu_fac ((x_RW _ _ _).mpr (by show zl_RW (zq_ev rq (0, [(0, 1)])) (zq_ev rq (0, [(1, 1)])) (zq_ev rq (0, [(2, 1)])) (zq_ev rq (0, [(3, 1)])) (zq_ev rq (0, [(4, 1)])) (zq_ev rq (6, [])) P h; simp only [g0, g1, g2, g3, g4, g5]; exact t1)) zq_fan)⟩
noncomputable def zl_whom : zq_S × List zq_S := (([], [], [(4000000000, [(5, 1)]), (-4000000000, [(5, -1)]), (0, [(6, 1)]), (0, [(4, -1), (6, 1)])], [], [], [], [(234, [(3, []), (0, [(0, 1)]), (0, [(1, 1)]), (0, [(2, 1)]), (0, [(5, 1)])]), (234, [(1, []), (0, [(0, 1)]), (0, [(1, 1)]), (0, [(2, 1)]), (0, [(6, 1)])])], 7), [([], [], [], [], [], [], [(237, [(0, [(0, 1)]), (0, [(1, 1)]), (0, [(2, 1)]), (0, [(3, 1)]), (0, [(4, 1)]), (6, [])])], 7)])
theorem zl_whom_l {P : zq_Ty} {h : zq_H} {T f W w m a b : Int} (a1 : 0 ≤ a + 4000000000) (a2 : 0 ≤ -a - 4000000000) (a3 : 0 ≤ b) (a4 : 0 ≤ -m + b) (k1 : zl_RT 3 T f W a P h) (k2 : zl_RT 1 T f W b P h) : (zl_RW T f W w m 6 P h) := by
  have ea : a = -4000000000 := by omega
  rw [ea] at k1
  refine Or.inr ⟨k1, b, k2, ?_⟩
  unfold zl_w1; rw [if_neg (by omega), if_pos (by omega)]
theorem zl_whom_ok {w : zq_Wd} (x_RT : zj_is w 234 (fun q => zl_RT (q 0) (q 1) (q 2) (q 3) (q 4))) (x_RW : zj_is w 237 (fun q => zl_RW (q 0) (q 1) (q 2) (q 3) (q 4) (q 5))) : zq_okG1 w zl_whom := by
  refine ⟨rfl, rfl, zu_fac ⟨rfl, by decide⟩ zq_fan, ?_⟩
  intro r P h H hM
  have q0 : zq_ev r (4000000000, [(5, 1)]) = r 5 + 4000000000 := zu_e2 _ _ _
  have q1 : zq_ev r (-4000000000, [(5, -1)]) = -r 5 - 4000000000 := zu_e6 _ _ _
  have q2 : zq_ev r (0, [(6, 1)]) = r 6 := zu_e1 _ _
  have q3 : zq_ev r (0, [(4, -1), (6, 1)]) = -r 4 + r 6 := by simp only [zq_ev, zq_ts] <;> omega
  have q4 : zq_ev r (3, []) = 3 := zu_e0 _ _
  have q5 : zq_ev r (0, [(0, 1)]) = r 0 := zu_e1 _ _
  have q6 : zq_ev r (0, [(1, 1)]) = r 1 := zu_e1 _ _
  have q7 : zq_ev r (0, [(2, 1)]) = r 2 := zu_e1 _ _
  have q8 : zq_ev r (0, [(5, 1)]) = r 5 := zu_e1 _ _
  have q9 : zq_ev r (1, []) = 1 := zu_e0 _ _
  obtain ⟨hT, hC, hF, hS, -, hK⟩ := hM
  have c := hC.1
  have a1 := zq_all_1 c
  rw [q0] at a1
  have c := zq_all_t c
  have a2 := zq_all_1 c
  rw [q1] at a2
  have c := zq_all_t c
  have a3 := zq_all_1 c
  rw [q2] at a3
  have c := zq_all_t c
  have a4 := zq_all_1 c
  rw [q3] at a4
  have k1 := zj_use x_RT (hK)
  have k1 : zl_RT (zq_ev r (3, [])) (zq_ev r (0, [(0, 1)])) (zq_ev r (0, [(1, 1)])) (zq_ev r (0, [(2, 1)])) (zq_ev r (0, [(5, 1)])) P h := k1
  simp only [q4, q5, q6, q7, q8] at k1
  have k2 := zj_use x_RT (zq_okX_t (hK))
  have k2 : zl_RT (zq_ev r (1, [])) (zq_ev r (0, [(0, 1)])) (zq_ev r (0, [(1, 1)])) (zq_ev r (0, [(2, 1)])) (zq_ev r (0, [(6, 1)])) P h := k2
  simp only [q2, q5, q6, q7, q9] at k2
  obtain t1 := zl_whom_l (P := P) (h := h) (T := r 0) (f := r 1) (W := r 2) (w := r 3) (m := r 4) (a := r 5) (b := r 6) a1 a2 a3 a4 k1 k2
  obtain ⟨rq, hr⟩ : ∃ rq : Nat → Int, (∀ i, i < 7 → rq i = r i) := ⟨r, fun i hi => rfl⟩
  have v0 : rq 0 = r 0 := hr 0 (by decide)
  have v1 : rq 1 = r 1 := hr 1 (by decide)
  have v2 : rq 2 = r 2 := hr 2 (by decide)
  have v3 : rq 3 = r 3 := hr 3 (by decide)
  have v4 : rq 4 = r 4 := hr 4 (by decide)
  have g0 : zq_ev rq (0, [(0, 1)]) = r 0 := zu_f1 v0
  have g1 : zq_ev rq (0, [(1, 1)]) = r 1 := zu_f1 v1
  have g2 : zq_ev rq (0, [(2, 1)]) = r 2 := zu_f1 v2
  have g3 : zq_ev rq (0, [(3, 1)]) = r 3 := zu_f1 v3
  have g4 : zq_ev rq (0, [(4, 1)]) = r 4 := zu_f1 v4
  have g5 : zq_ev rq (6, []) = 6 := zu_e0 _ _
  exact ⟨_, List.mem_cons_self .., rq, hr, zq_MeS_mk rfl hT (zq_all_nil) zq_fan (zq_fan) rfl (zu_fac ((x_RW _ _ _).mpr (by show zl_RW (zq_ev rq (0, [(0, 1)])) (zq_ev rq (0, [(1, 1)])) (zq_ev rq (0, [(2, 1)])) (zq_ev rq (0, [(3, 1)])) (zq_ev rq (0, [(4, 1)])) (zq_ev rq (6, [])) P h; simp only [g0, g1, g2, g3, g4, g5]; exact t1)) zq_fan)⟩
noncomputable def zl_whoy : zq_S × List zq_S := (([], [], [(4000000000, [(5, 1)]), (-4000000000, [(5, -1)]), (0, [(6, 1)]), (-1, [(4, 1), (6, -1)])], [], [], [], [(234, [(3, []), (0, [(0, 1)]), (0, [(1, 1)]), (0, [(2, 1)]), (0, [(5, 1)])]), (234, [(1, []), (0, [(0, 1)]), (0, [(1, 1)]), (0, [(2, 1)]), (0, [(6, 1)])])], 7), [([], [], [], [], [], [], [(237, [(0, [(0, 1)]), (0, [(1, 1)]), (0, [(2, 1)]), (0, [(3, 1)]), (0, [(4, 1)]), (0, [(6, 1)])])], 7)])
theorem zl_whoy_l {P : zq_Ty} {h : zq_H} {T f W w m a b : Int} (a1 : 0 ≤ a + 4000000000) (a2 : 0 ≤ -a - 4000000000) (a3 : 0 ≤ b) (a4 : 0 ≤ m - b - 1) (k1 : zl_RT 3 T f W a P h) (k2 : zl_RT 1 T f W b P h) : (zl_RW T f W w m b P h) := by
  have ea : a = -4000000000 := by omega
  rw [ea] at k1
  refine Or.inr ⟨k1, b, k2, ?_⟩
  unfold zl_w1; rw [if_neg (by omega), if_neg (by omega)]
theorem zl_whoy_ok {w : zq_Wd} (x_RT : zj_is w 234 (fun q => zl_RT (q 0) (q 1) (q 2) (q 3) (q 4))) (x_RW : zj_is w 237 (fun q => zl_RW (q 0) (q 1) (q 2) (q 3) (q 4) (q 5))) : zq_okG1 w zl_whoy := by
  refine ⟨rfl, rfl, zu_fac ⟨rfl, by decide⟩ zq_fan, ?_⟩
  intro r P h H hM
  have q0 : zq_ev r (4000000000, [(5, 1)]) = r 5 + 4000000000 := zu_e2 _ _ _
  have q1 : zq_ev r (-4000000000, [(5, -1)]) = -r 5 - 4000000000 := zu_e6 _ _ _
  have q2 : zq_ev r (0, [(6, 1)]) = r 6 := zu_e1 _ _
  have q3 : zq_ev r (-1, [(4, 1), (6, -1)]) = r 4 - r 6 - 1 := by simp only [zq_ev, zq_ts] <;> omega
  have q4 : zq_ev r (3, []) = 3 := zu_e0 _ _
  have q5 : zq_ev r (0, [(0, 1)]) = r 0 := zu_e1 _ _
  have q6 : zq_ev r (0, [(1, 1)]) = r 1 := zu_e1 _ _
  have q7 : zq_ev r (0, [(2, 1)]) = r 2 := zu_e1 _ _
  have q8 : zq_ev r (0, [(5, 1)]) = r 5 := zu_e1 _ _
  have q9 : zq_ev r (1, []) = 1 := zu_e0 _ _
  obtain ⟨hT, hC, hF, hS, -, hK⟩ := hM
  have c := hC.1
  have a1 := zq_all_1 c
  rw [q0] at a1
  have c := zq_all_t c
  have a2 := zq_all_1 c
  rw [q1] at a2
  have c := zq_all_t c
  have a3 := zq_all_1 c
  rw [q2] at a3
  have c := zq_all_t c
  have a4 := zq_all_1 c
  rw [q3] at a4
  have k1 := zj_use x_RT (hK)
  have k1 : zl_RT (zq_ev r (3, [])) (zq_ev r (0, [(0, 1)])) (zq_ev r (0, [(1, 1)])) (zq_ev r (0, [(2, 1)])) (zq_ev r (0, [(5, 1)])) P h := k1
  simp only [q4, q5, q6, q7, q8] at k1
  have k2 := zj_use x_RT (zq_okX_t (hK))
  have k2 : zl_RT (zq_ev r (1, [])) (zq_ev r (0, [(0, 1)])) (zq_ev r (0, [(1, 1)])) (zq_ev r (0, [(2, 1)])) (zq_ev r (0, [(6, 1)])) P h := k2
  simp only [q2, q5, q6, q7, q9] at k2
  obtain t1 := zl_whoy_l (P := P) (h := h) (T := r 0) (f := r 1) (W := r 2) (w := r 3) (m := r 4) (a := r 5) (b := r 6) a1 a2 a3 a4 k1 k2
  obtain ⟨rq, hr⟩ : ∃ rq : Nat → Int, (∀ i, i < 7 → rq i = r i) := ⟨r, fun i hi => rfl⟩
  have v0 : rq 0 = r 0 := hr 0 (by decide)
  have v1 : rq 1 = r 1 := hr 1 (by decide)
  have v2 : rq 2 = r 2 := hr 2 (by decide)
  have v3 : rq 3 = r 3 := hr 3 (by decide)
  have v4 : rq 4 = r 4 := hr 4 (by decide)
  have v6 : rq 6 = r 6 := hr 6 (by decide)
  have g0 : zq_ev rq (0, [(0, 1)]) = r 0 := zu_f1 v0
  have g1 : zq_ev rq (0, [(1, 1)]) = r 1 := zu_f1 v1
  have g2 : zq_ev rq (0, [(2, 1)]) = r 2 := zu_f1 v2
  have g3 : zq_ev rq (0, [(3, 1)]) = r 3 := zu_f1 v3
  have g4 : zq_ev rq (0, [(4, 1)]) = r 4 := zu_f1 v4
  have g5 : zq_ev rq (0, [(6, 1)]) = r 6 := zu_f1 v6
  exact ⟨_, List.mem_cons_self .., rq, hr, zq_MeS_mk rfl hT (zq_all_nil) zq_fan (zq_fan) rfl (zu_fac ((x_RW _ _ _).mpr (by show zl_RW (zq_ev rq (0, [(0, 1)])) (zq_ev rq (0, [(1, 1)])) (zq_ev rq (0, [(2, 1)])) (zq_ev rq (0, [(3, 1)])) (zq_ev rq (0, [(4, 1)])) (zq_ev rq (0, [(6, 1)])) P h; simp only [g0, g1, g2, g3, g4, g5]; exact t1)) zq_fan)⟩
noncomputable def zl_whu : zq_S × List zq_S := (([], [], [], [], [], [], [(237, [(0, [(0, 1)]), (0, [(1, 1)]), (0, [(2, 1)]), (0, [(3, 1)]), (0, [(4, 1)]), (0, [(5, 1)])]), (237, [(0, [(0, 1)]), (0, [(1, 1)]), (0, [(2, 1)]), (0, [(3, 1)]), (0, [(4, 1)]), (0, [(6, 1)])])], 7), [([], [], [(0, [(5, 1), (6, -1)]), (0, [(5, -1), (6, 1)])], [], [], [], [], 7)])
theorem zl_whu_l {P : zq_Ty} {h : zq_H} {T f W w m r x : Int} (k1 : zl_RW T f W w m r P h) (k2 : zl_RW T f W w m x P h) : (0 ≤ r - x ∧ 0 ≤ -r + x) := by
  have e : r = x := by
    rcases k1 with ⟨a, h1, h2, h3⟩ | ⟨h1, b, h2, h3⟩ <;> rcases k2 with ⟨a', g1, g2, g3⟩ | ⟨g1, b', g2, g3⟩
    · rw [h3, g3]
    · exact absurd (zl_RT_u h1 g1) h2
    · exact absurd (zl_RT_u g1 h1) g2
    · rw [h3, g3, zl_RT_u h2 g2]
  exact ⟨by omega, by omega⟩
theorem zl_whu_ok {w : zq_Wd} (x_RW : zj_is w 237 (fun q => zl_RW (q 0) (q 1) (q 2) (q 3) (q 4) (q 5))) : zq_okG1 w zl_whu := by
  refine ⟨rfl, rfl, zu_fac ⟨rfl, by decide⟩ zq_fan, ?_⟩
  intro r P h H hM
  have q0 : zq_ev r (0, [(0, 1)]) = r 0 := zu_e1 _ _
  have q1 : zq_ev r (0, [(1, 1)]) = r 1 := zu_e1 _ _
  have q2 : zq_ev r (0, [(2, 1)]) = r 2 := zu_e1 _ _
  have q3 : zq_ev r (0, [(3, 1)]) = r 3 := zu_e1 _ _
  have q4 : zq_ev r (0, [(4, 1)]) = r 4 := zu_e1 _ _
  have q5 : zq_ev r (0, [(5, 1)]) = r 5 := zu_e1 _ _
  have q6 : zq_ev r (0, [(6, 1)]) = r 6 := zu_e1 _ _
  obtain ⟨hT, hC, hF, hS, -, hK⟩ := hM
  have c := hC.1
  have k1 := zj_use x_RW (hK)
  have k1 : zl_RW (zq_ev r (0, [(0, 1)])) (zq_ev r (0, [(1, 1)])) (zq_ev r (0, [(2, 1)])) (zq_ev r (0, [(3, 1)])) (zq_ev r (0, [(4, 1)])) (zq_ev r (0, [(5, 1)])) P h := k1
  simp only [q0, q1, q2, q3, q4, q5] at k1
  have k2 := zj_use x_RW (zq_okX_t (hK))
  have k2 : zl_RW (zq_ev r (0, [(0, 1)])) (zq_ev r (0, [(1, 1)])) (zq_ev r (0, [(2, 1)])) (zq_ev r (0, [(3, 1)])) (zq_ev r (0, [(4, 1)])) (zq_ev r (0, [(6, 1)])) P h := k2
  simp only [q0, q1, q2, q3, q4, q6] at k2
  obtain ⟨c1, c2⟩ := zl_whu_l (P := P) (h := h) (T := r 0) (f := r 1) (W := r 2) (w := r 3) (m := r 4) (r := r 5) (x := r 6) k1 k2
  obtain ⟨rq, hr⟩ : ∃ rq : Nat → Int, (∀ i, i < 7 → rq i = r i) := ⟨r, fun i hi => rfl⟩
  have v5 : rq 5 = r 5 := hr 5 (by decide)
  have v6 : rq 6 = r 6 := hr 6 (by decide)
  have g0 : zq_ev rq (0, [(5, -1), (6, 1)]) = -r 5 + r 6 := by simp only [zq_ev, zq_ts, v5, v6] <;> omega
  have g1 : zq_ev rq (0, [(5, 1), (6, -1)]) = r 5 - r 6 := by simp only [zq_ev, zq_ts, v5, v6] <;> omega
  exact ⟨_, List.mem_cons_self .., rq, hr, zq_MeS_mk rfl hT (zq_all_cons (by rw [g1]; exact c1) (zq_all_cons (by rw [g0]; exact c2) (zq_all_nil))) zq_fan (zq_fan) rfl zq_fan⟩
noncomputable def zl_owed : zq_S × List zq_S := (([], [], [(4000000000, [(5, 1)]), (-4000000000, [(5, -1)])], [], [], [], [(234, [(2, []), (0, [(0, 1)]), (0, [(1, 1)]), (0, [(2, 1)]), (0, [(5, 1)])]), (134, [(0, [(3, 1)]), (12, [(4, 1)]), (0, [(6, 1)])])], 7), [([], [], [], [], [], [], [(238, [(0, [(0, 1)]), (0, [(1, 1)]), (0, [(2, 1)]), (0, [(3, 1)]), (0, [(4, 1)]), (0, [(6, 1)])])], 7)])
theorem zl_owed_l {P : zq_Ty} {h : zq_H} {T f W S d b v : Int} (a1 : 0 ≤ b + 4000000000) (a2 : 0 ≤ -b - 4000000000) (k1 : zl_RT 2 T f W b P h) (k2 : zn_DG S (d + 12) v P h) : (zl_RO T f W S d v P h) := by
  refine ⟨b, k1, ?_⟩
  rw [if_pos (by omega)]
  exact k2
theorem zl_owed_ok {w : zq_Wd} (x_RT : zj_is w 234 (fun q => zl_RT (q 0) (q 1) (q 2) (q 3) (q 4))) (x_DG : zj_is w 134 (fun q => zn_DG (q 0) (q 1) (q 2))) (x_RO : zj_is w 238 (fun q => zl_RO (q 0) (q 1) (q 2) (q 3) (q 4) (q 5))) : zq_okG1 w zl_owed := by
  refine ⟨rfl, rfl, zu_fac ⟨rfl, by decide⟩ zq_fan, ?_⟩
  intro r P h H hM
  have q0 : zq_ev r (4000000000, [(5, 1)]) = r 5 + 4000000000 := zu_e2 _ _ _
  have q1 : zq_ev r (-4000000000, [(5, -1)]) = -r 5 - 4000000000 := zu_e6 _ _ _
  have q2 : zq_ev r (2, []) = 2 := zu_e0 _ _
  have q3 : zq_ev r (0, [(0, 1)]) = r 0 := zu_e1 _ _
  have q4 : zq_ev r (0, [(1, 1)]) = r 1 := zu_e1 _ _
  have q5 : zq_ev r (0, [(2, 1)]) = r 2 := zu_e1 _ _
  have q6 : zq_ev r (0, [(5, 1)]) = r 5 := zu_e1 _ _
  have q7 : zq_ev r (0, [(3, 1)]) = r 3 := zu_e1 _ _
  have q8 : zq_ev r (12, [(4, 1)]) = r 4 + 12 := zu_e2 _ _ _
  have q9 : zq_ev r (0, [(6, 1)]) = r 6 := zu_e1 _ _
  obtain ⟨hT, hC, hF, hS, -, hK⟩ := hM
  have c := hC.1
  have a1 := zq_all_1 c
  rw [q0] at a1
  have c := zq_all_t c
  have a2 := zq_all_1 c
  rw [q1] at a2
  have k1 := zj_use x_RT (hK)
  have k1 : zl_RT (zq_ev r (2, [])) (zq_ev r (0, [(0, 1)])) (zq_ev r (0, [(1, 1)])) (zq_ev r (0, [(2, 1)])) (zq_ev r (0, [(5, 1)])) P h := k1
  simp only [q2, q3, q4, q5, q6] at k1
  have k2 := zj_use x_DG (zq_okX_t (hK))
  have k2 : zn_DG (zq_ev r (0, [(3, 1)])) (zq_ev r (12, [(4, 1)])) (zq_ev r (0, [(6, 1)])) P h := k2
  simp only [q7, q8, q9] at k2
  obtain t1 := zl_owed_l (P := P) (h := h) (T := r 0) (f := r 1) (W := r 2) (S := r 3) (d := r 4) (b := r 5) (v := r 6) a1 a2 k1 k2
  obtain ⟨rq, hr⟩ : ∃ rq : Nat → Int, (∀ i, i < 7 → rq i = r i) := ⟨r, fun i hi => rfl⟩
  have v0 : rq 0 = r 0 := hr 0 (by decide)
  have v1 : rq 1 = r 1 := hr 1 (by decide)
  have v2 : rq 2 = r 2 := hr 2 (by decide)
  have v3 : rq 3 = r 3 := hr 3 (by decide)
  have v4 : rq 4 = r 4 := hr 4 (by decide)
  have v6 : rq 6 = r 6 := hr 6 (by decide)
  have g0 : zq_ev rq (0, [(0, 1)]) = r 0 := zu_f1 v0
  have g1 : zq_ev rq (0, [(1, 1)]) = r 1 := zu_f1 v1
  have g2 : zq_ev rq (0, [(2, 1)]) = r 2 := zu_f1 v2
  have g3 : zq_ev rq (0, [(3, 1)]) = r 3 := zu_f1 v3
  have g4 : zq_ev rq (0, [(4, 1)]) = r 4 := zu_f1 v4
  have g5 : zq_ev rq (0, [(6, 1)]) = r 6 := zu_f1 v6
  exact ⟨_, List.mem_cons_self .., rq, hr, zq_MeS_mk rfl hT (zq_all_nil) zq_fan (zq_fan) rfl (zu_fac ((x_RO _ _ _).mpr (by show zl_RO (zq_ev rq (0, [(0, 1)])) (zq_ev rq (0, [(1, 1)])) (zq_ev rq (0, [(2, 1)])) (zq_ev rq (0, [(3, 1)])) (zq_ev rq (0, [(4, 1)])) (zq_ev rq (0, [(6, 1)])) P h; simp only [g0, g1, g2, g3, g4, g5]; exact t1)) zq_fan)⟩
noncomputable def zl_owen : zq_S × List zq_S := (([], [], [(3999999999, [(5, 1)]), (-1, [(5, -1)])], [], [], [], [(234, [(2, []), (0, [(0, 1)]), (0, [(1, 1)]), (0, [(2, 1)]), (0, [(5, 1)])])], 6), [([], [], [], [], [], [], [(238, [(0, [(0, 1)]), (0, [(1, 1)]), (0, [(2, 1)]), (0, [(3, 1)]), (0, [(4, 1)]), (0, [])])], 6)])
theorem zl_owen_l {P : zq_Ty} {h : zq_H} {T f W S d b : Int} (a1 : 0 ≤ b + 3999999999) (a2 : 0 ≤ -b - 1) (k1 : zl_RT 2 T f W b P h) : (zl_RO T f W S d 0 P h) := by
  refine ⟨b, k1, ?_⟩
  rw [if_neg (by omega), if_pos (by omega)]
theorem zl_owen_ok {w : zq_Wd} (x_RT : zj_is w 234 (fun q => zl_RT (q 0) (q 1) (q 2) (q 3) (q 4))) (x_RO : zj_is w 238 (fun q => zl_RO (q 0) (q 1) (q 2) (q 3) (q 4) (q 5))) : zq_okG1 w zl_owen := by
  refine ⟨rfl, rfl, zu_fac ⟨rfl, by decide⟩ zq_fan, ?_⟩
  intro r P h H hM
  have q0 : zq_ev r (3999999999, [(5, 1)]) = r 5 + 3999999999 := zu_e2 _ _ _
  have q1 : zq_ev r (-1, [(5, -1)]) = -r 5 - 1 := zu_e6 _ _ _
  have q2 : zq_ev r (2, []) = 2 := zu_e0 _ _
  have q3 : zq_ev r (0, [(0, 1)]) = r 0 := zu_e1 _ _
  have q4 : zq_ev r (0, [(1, 1)]) = r 1 := zu_e1 _ _
  have q5 : zq_ev r (0, [(2, 1)]) = r 2 := zu_e1 _ _
  have q6 : zq_ev r (0, [(5, 1)]) = r 5 := zu_e1 _ _
  obtain ⟨hT, hC, hF, hS, -, hK⟩ := hM
  have c := hC.1
  have a1 := zq_all_1 c
  rw [q0] at a1
  have c := zq_all_t c
  have a2 := zq_all_1 c
  rw [q1] at a2
  have k1 := zj_use x_RT (hK)
  have k1 : zl_RT (zq_ev r (2, [])) (zq_ev r (0, [(0, 1)])) (zq_ev r (0, [(1, 1)])) (zq_ev r (0, [(2, 1)])) (zq_ev r (0, [(5, 1)])) P h := k1
  simp only [q2, q3, q4, q5, q6] at k1
  obtain t1 := zl_owen_l (P := P) (h := h) (T := r 0) (f := r 1) (W := r 2) (S := r 3) (d := r 4) (b := r 5) a1 a2 k1
  obtain ⟨rq, hr⟩ : ∃ rq : Nat → Int, (∀ i, i < 6 → rq i = r i) := ⟨r, fun i hi => rfl⟩
  have v0 : rq 0 = r 0 := hr 0 (by decide)
  have v1 : rq 1 = r 1 := hr 1 (by decide)
  have v2 : rq 2 = r 2 := hr 2 (by decide)
  have v3 : rq 3 = r 3 := hr 3 (by decide)
  have v4 : rq 4 = r 4 := hr 4 (by decide)
  have g0 : zq_ev rq (0, [(0, 1)]) = r 0 := zu_f1 v0
  have g1 : zq_ev rq (0, [(1, 1)]) = r 1 := zu_f1 v1
  have g2 : zq_ev rq (0, [(2, 1)]) = r 2 := zu_f1 v2
  have g3 : zq_ev rq (0, [(3, 1)]) = r 3 := zu_f1 v3
  have g4 : zq_ev rq (0, [(4, 1)]) = r 4 := zu_f1 v4
  have g5 : zq_ev rq (0, []) = 0 := zu_e0 _ _
  exact ⟨_, List.mem_cons_self .., rq, hr, zq_MeS_mk rfl hT (zq_all_nil) zq_fan (zq_fan) rfl (zu_fac ((x_RO _ _ _).mpr (by show zl_RO (zq_ev rq (0, [(0, 1)])) (zq_ev rq (0, [(1, 1)])) (zq_ev rq (0, [(2, 1)])) (zq_ev rq (0, [(3, 1)])) (zq_ev rq (0, [(4, 1)])) (zq_ev rq (0, [])) P h; simp only [g0, g1, g2, g3, g4, g5]; exact t1)) zq_fan)⟩
noncomputable def zl_owem : zq_S × List zq_S := (([], [], [(-100, [(5, 1)])], [], [], [], [(234, [(2, []), (0, [(0, 1)]), (0, [(1, 1)]), (0, [(2, 1)]), (0, [(5, 1)])])], 6), [([], [], [], [], [], [], [(238, [(0, [(0, 1)]), (0, [(1, 1)]), (0, [(2, 1)]), (0, [(3, 1)]), (0, [(4, 1)]), (99, [])])], 6)])
theorem zl_owem_l {P : zq_Ty} {h : zq_H} {T f W S d b : Int} (a1 : 0 ≤ b - 100) (k1 : zl_RT 2 T f W b P h) : (zl_RO T f W S d 99 P h) := by
  refine ⟨b, k1, ?_⟩
  rw [if_neg (by omega), if_neg (by omega), if_pos (by omega)]
theorem zl_owem_ok {w : zq_Wd} (x_RT : zj_is w 234 (fun q => zl_RT (q 0) (q 1) (q 2) (q 3) (q 4))) (x_RO : zj_is w 238 (fun q => zl_RO (q 0) (q 1) (q 2) (q 3) (q 4) (q 5))) : zq_okG1 w zl_owem := by
  refine ⟨rfl, rfl, zu_fac ⟨rfl, by decide⟩ zq_fan, ?_⟩
  intro r P h H hM
  have q0 : zq_ev r (-100, [(5, 1)]) = r 5 - 100 := zu_e3 _ _ _
  have q1 : zq_ev r (2, []) = 2 := zu_e0 _ _
  have q2 : zq_ev r (0, [(0, 1)]) = r 0 := zu_e1 _ _
  have q3 : zq_ev r (0, [(1, 1)]) = r 1 := zu_e1 _ _
  have q4 : zq_ev r (0, [(2, 1)]) = r 2 := zu_e1 _ _
  have q5 : zq_ev r (0, [(5, 1)]) = r 5 := zu_e1 _ _
  obtain ⟨hT, hC, hF, hS, -, hK⟩ := hM
  have c := hC.1
  have a1 := zq_all_1 c
  rw [q0] at a1
  have k1 := zj_use x_RT (hK)
  have k1 : zl_RT (zq_ev r (2, [])) (zq_ev r (0, [(0, 1)])) (zq_ev r (0, [(1, 1)])) (zq_ev r (0, [(2, 1)])) (zq_ev r (0, [(5, 1)])) P h := k1
  simp only [q1, q2, q3, q4, q5] at k1
  obtain t1 := zl_owem_l (P := P) (h := h) (T := r 0) (f := r 1) (W := r 2) (S := r 3) (d := r 4) (b := r 5) a1 k1
  obtain ⟨rq, hr⟩ : ∃ rq : Nat → Int, (∀ i, i < 6 → rq i = r i) := ⟨r, fun i hi => rfl⟩
  have v0 : rq 0 = r 0 := hr 0 (by decide)
  have v1 : rq 1 = r 1 := hr 1 (by decide)
  have v2 : rq 2 = r 2 := hr 2 (by decide)
  have v3 : rq 3 = r 3 := hr 3 (by decide)
  have v4 : rq 4 = r 4 := hr 4 (by decide)
  have g0 : zq_ev rq (0, [(0, 1)]) = r 0 := zu_f1 v0
  have g1 : zq_ev rq (0, [(1, 1)]) = r 1 := zu_f1 v1
  have g2 : zq_ev rq (0, [(2, 1)]) = r 2 := zu_f1 v2
  have g3 : zq_ev rq (0, [(3, 1)]) = r 3 := zu_f1 v3
  have g4 : zq_ev rq (0, [(4, 1)]) = r 4 := zu_f1 v4
  have g5 : zq_ev rq (99, []) = 99 := zu_e0 _ _
  exact ⟨_, List.mem_cons_self .., rq, hr, zq_MeS_mk rfl hT (zq_all_nil) zq_fan (zq_fan) rfl (zu_fac ((x_RO _ _ _).mpr (by show zl_RO (zq_ev rq (0, [(0, 1)])) (zq_ev rq (0, [(1, 1)])) (zq_ev rq (0, [(2, 1)])) (zq_ev rq (0, [(3, 1)])) (zq_ev rq (0, [(4, 1)])) (zq_ev rq (99, [])) P h; simp only [g0, g1, g2, g3, g4, g5]; exact t1)) zq_fan)⟩
noncomputable def zl_owey : zq_S × List zq_S := (([], [], [(0, [(5, 1)]), (99, [(5, -1)])], [], [], [], [(234, [(2, []), (0, [(0, 1)]), (0, [(1, 1)]), (0, [(2, 1)]), (0, [(5, 1)])])], 6), [([], [], [], [], [], [], [(238, [(0, [(0, 1)]), (0, [(1, 1)]), (0, [(2, 1)]), (0, [(3, 1)]), (0, [(4, 1)]), (0, [(5, 1)])])], 6)])
theorem zl_owey_l {P : zq_Ty} {h : zq_H} {T f W S d b : Int} (a1 : 0 ≤ b) (a2 : 0 ≤ -b + 99) (k1 : zl_RT 2 T f W b P h) : (zl_RO T f W S d b P h) := by
  refine ⟨b, k1, ?_⟩
  rw [if_neg (by omega), if_neg (by omega), if_neg (by omega)]
theorem zl_owey_ok {w : zq_Wd} (x_RT : zj_is w 234 (fun q => zl_RT (q 0) (q 1) (q 2) (q 3) (q 4))) (x_RO : zj_is w 238 (fun q => zl_RO (q 0) (q 1) (q 2) (q 3) (q 4) (q 5))) : zq_okG1 w zl_owey := by
  refine ⟨rfl, rfl, zu_fac ⟨rfl, by decide⟩ zq_fan, ?_⟩
  intro r P h H hM
  have q0 : zq_ev r (0, [(5, 1)]) = r 5 := zu_e1 _ _
  have q1 : zq_ev r (99, [(5, -1)]) = -r 5 + 99 := zu_e5 _ _ _
  have q2 : zq_ev r (2, []) = 2 := zu_e0 _ _
  have q3 : zq_ev r (0, [(0, 1)]) = r 0 := zu_e1 _ _
  have q4 : zq_ev r (0, [(1, 1)]) = r 1 := zu_e1 _ _
  have q5 : zq_ev r (0, [(2, 1)]) = r 2 := zu_e1 _ _
  obtain ⟨hT, hC, hF, hS, -, hK⟩ := hM
  have c := hC.1
  have a1 := zq_all_1 c
  rw [q0] at a1
  have c := zq_all_t c
  have a2 := zq_all_1 c
  rw [q1] at a2
  have k1 := zj_use x_RT (hK)
  have k1 : zl_RT (zq_ev r (2, [])) (zq_ev r (0, [(0, 1)])) (zq_ev r (0, [(1, 1)])) (zq_ev r (0, [(2, 1)])) (zq_ev r (0, [(5, 1)])) P h := k1
  simp only [q0, q2, q3, q4, q5] at k1
  obtain t1 := zl_owey_l (P := P) (h := h) (T := r 0) (f := r 1) (W := r 2) (S := r 3) (d := r 4) (b := r 5) a1 a2 k1
  obtain ⟨rq, hr⟩ : ∃ rq : Nat → Int, (∀ i, i < 6 → rq i = r i) := ⟨r, fun i hi => rfl⟩
  have v0 : rq 0 = r 0 := hr 0 (by decide)
  have v1 : rq 1 = r 1 := hr 1 (by decide)
  have v2 : rq 2 = r 2 := hr 2 (by decide)
  have v3 : rq 3 = r 3 := hr 3 (by decide)
  have v4 : rq 4 = r 4 := hr 4 (by decide)
  have v5 : rq 5 = r 5 := hr 5 (by decide)
  have g0 : zq_ev rq (0, [(0, 1)]) = r 0 := zu_f1 v0
  have g1 : zq_ev rq (0, [(1, 1)]) = r 1 := zu_f1 v1
  have g2 : zq_ev rq (0, [(2, 1)]) = r 2 := zu_f1 v2
  have g3 : zq_ev rq (0, [(3, 1)]) = r 3 := zu_f1 v3
  have g4 : zq_ev rq (0, [(4, 1)]) = r 4 := zu_f1 v4
  have g5 : zq_ev rq (0, [(5, 1)]) = r 5 := zu_f1 v5
  exact ⟨_, List.mem_cons_self .., rq, hr, zq_MeS_mk rfl hT (zq_all_nil) zq_fan (zq_fan) rfl (zu_fac ((x_RO _ _ _).mpr (by show zl_RO (zq_ev rq (0, [(0, 1)])) (zq_ev rq (0, [(1, 1)])) (zq_ev rq (0, [(2, 1)])) (zq_ev rq (0, [(3, 1)])) (zq_ev rq (0, [(4, 1)])) (zq_ev rq (0, [(5, 1)])) P h; simp only [g0, g1, g2, g3, g4, g5]; exact t1)) zq_fan)⟩
noncomputable def zl_owu : zq_S × List zq_S := (([], [], [], [], [], [], [(238, [(0, [(0, 1)]), (0, [(1, 1)]), (0, [(2, 1)]), (0, [(3, 1)]), (0, [(4, 1)]), (0, [(5, 1)])]), (238, [(0, [(0, 1)]), (0, [(1, 1)]), (0, [(2, 1)]), (0, [(3, 1)]), (0, [(4, 1)]), (0, [(6, 1)])])], 7), [([], [], [(0, [(5, 1), (6, -1)]), (0, [(5, -1), (6, 1)])], [], [], [], [], 7)])
theorem zl_owu_l {P : zq_Ty} {h : zq_H} {T f W S d r x : Int} (k1 : zl_RO T f W S d r P h) (k2 : zl_RO T f W S d x P h) : (0 ≤ r - x ∧ 0 ≤ -r + x) := by
  obtain ⟨b, h1, h2⟩ := k1
  obtain ⟨b', g1, g2⟩ := k2
  have e : r = x := by rw [h2, g2, zl_RT_u h1 g1]
  exact ⟨by omega, by omega⟩
theorem zl_owu_ok {w : zq_Wd} (x_RO : zj_is w 238 (fun q => zl_RO (q 0) (q 1) (q 2) (q 3) (q 4) (q 5))) : zq_okG1 w zl_owu := by
  refine ⟨rfl, rfl, zu_fac ⟨rfl, by decide⟩ zq_fan, ?_⟩
  intro r P h H hM
  have q0 : zq_ev r (0, [(0, 1)]) = r 0 := zu_e1 _ _
  have q1 : zq_ev r (0, [(1, 1)]) = r 1 := zu_e1 _ _
  have q2 : zq_ev r (0, [(2, 1)]) = r 2 := zu_e1 _ _
  have q3 : zq_ev r (0, [(3, 1)]) = r 3 := zu_e1 _ _
  have q4 : zq_ev r (0, [(4, 1)]) = r 4 := zu_e1 _ _
  have q5 : zq_ev r (0, [(5, 1)]) = r 5 := zu_e1 _ _
  have q6 : zq_ev r (0, [(6, 1)]) = r 6 := zu_e1 _ _
  obtain ⟨hT, hC, hF, hS, -, hK⟩ := hM
  have c := hC.1
  have k1 := zj_use x_RO (hK)
  have k1 : zl_RO (zq_ev r (0, [(0, 1)])) (zq_ev r (0, [(1, 1)])) (zq_ev r (0, [(2, 1)])) (zq_ev r (0, [(3, 1)])) (zq_ev r (0, [(4, 1)])) (zq_ev r (0, [(5, 1)])) P h := k1
  simp only [q0, q1, q2, q3, q4, q5] at k1
  have k2 := zj_use x_RO (zq_okX_t (hK))
  have k2 : zl_RO (zq_ev r (0, [(0, 1)])) (zq_ev r (0, [(1, 1)])) (zq_ev r (0, [(2, 1)])) (zq_ev r (0, [(3, 1)])) (zq_ev r (0, [(4, 1)])) (zq_ev r (0, [(6, 1)])) P h := k2
  simp only [q0, q1, q2, q3, q4, q6] at k2
  obtain ⟨c1, c2⟩ := zl_owu_l (P := P) (h := h) (T := r 0) (f := r 1) (W := r 2) (S := r 3) (d := r 4) (r := r 5) (x := r 6) k1 k2
  obtain ⟨rq, hr⟩ : ∃ rq : Nat → Int, (∀ i, i < 7 → rq i = r i) := ⟨r, fun i hi => rfl⟩
  have v5 : rq 5 = r 5 := hr 5 (by decide)
  have v6 : rq 6 = r 6 := hr 6 (by decide)
  have g0 : zq_ev rq (0, [(5, -1), (6, 1)]) = -r 5 + r 6 := by simp only [zq_ev, zq_ts, v5, v6] <;> omega
  have g1 : zq_ev rq (0, [(5, 1), (6, -1)]) = r 5 - r 6 := by simp only [zq_ev, zq_ts, v5, v6] <;> omega
  exact ⟨_, List.mem_cons_self .., rq, hr, zq_MeS_mk rfl hT (zq_all_cons (by rw [g1]; exact c1) (zq_all_cons (by rw [g0]; exact c2) (zq_all_nil))) zq_fan (zq_fan) rfl zq_fan⟩
noncomputable def zl_sty : zq_S × List zq_S := (([], [], [(-1, [(5, -1), (6, -1), (7, 1)]), (2, [(9, -1)]), (0, [(0, -1), (9, 1)]), (0, [(0, 1), (9, -1)]), (-1, [(13, 1)]), (1, [(13, -1)]), (0, [(14, -1)]), (0, [(14, 1)]), (0, [(11, -1)]), (0, [(11, 1)])], [], [], [], [(230, [(0, [(0, 1)]), (0, [(1, 1)]), (0, [(2, 1)]), (0, [(3, 1)]), (0, [(4, 1)]), (0, [(5, 1)])]), (226, [(0, [(8, 1)]), (0, [(6, 1)]), (0, [(7, 1)]), (0, [(1, 1)]), (0, [(2, 1)])]), (224, [(0, [(1, 1)]), (0, [(2, 1)]), (0, [(5, 1)]), (0, [(9, 1)])]), (220, [(4, []), (0, [(1, 1)]), (0, [(2, 1)]), (0, []), (0, [(3, 1)]), (0, []), (1, [(5, 1)]), (0, [(10, 1)]), (0, [(11, 1)]), (0, [(12, 1)])]), (224, [(0, [(1, 1)]), (0, [(2, 1)]), (0, [(12, 1)]), (4, [])]), (220, [(10, []), (0, [(1, 1)]), (0, [(2, 1)]), (0, []), (0, [(3, 1)]), (0, []), (1, [(12, 1)]), (0, [(13, 1)]), (0, [(14, 1)]), (0, [(15, 1)])])], 16), [([], [], [], [], [], [], [(230, [(0, [(0, 1)]), (0, [(1, 1)]), (0, [(2, 1)]), (0, [(3, 1)]), (0, [(10, 1)]), (1, [(15, 1)])])], 16)])
theorem zl_sty_l {P : zq_Ty} {h : zq_H} {k g n W a p B E K c x b q t d y : Int} (a1 : 0 ≤ -p - B + E - 1) (a2 : 0 ≤ -c + 2) (a3 : 0 ≤ -k + c) (a4 : 0 ≤ k - c) (a5 : 0 ≤ t - 1) (a6 : 0 ≤ -t + 1) (a7 : 0 ≤ -d) (a8 : 0 ≤ d) (a9 : 0 ≤ -b) (a10 : 0 ≤ b) (k1 : zl_LW k g n W a p P h) (k2 : ze_TX K B E g n P h) (k3 : ze_CD g n p c P h) (k4 : ze_EV 4 g n 0 W 0 (p + 1) x b q P h) (k5 : ze_CD g n q 4 P h) (k6 : ze_EV 10 g n 0 W 0 (q + 1) t d y P h) : (zl_LW k g n W x (y + 1) P h) := by
  obtain ⟨z1, z2, z3, z4, z5⟩ := k2
  have hL : p < ze_L g n := by unfold ze_L; omega
  have k3 : c = ze_c g n p := k3
  intro r hr
  apply k1 r
  have k4 : ze_V (ze_c g n) (ze_v g n) (ze_w 0 W) 4 0 true (ze_on 0) (p + 1) x (ze_on b) q := k4
  rw [ze_on0] at k4
  have kc : 4 = ze_c g n q := k5
  have kt : ze_V (ze_c g n) (ze_v g n) (ze_w 0 W) 10 0 true (ze_on 0) (q + 1) t (ze_on d) y := k6
  rw [ze_on0] at kt
  have hd : ze_on d = false := by rw [show d = 0 by omega]; exact ze_on0
  have hb : ze_on b = false := by rw [show b = 0 by omega]; exact ze_on0
  refine zl_st hL (by omega) k4 kc.symm kt ?_
  rw [if_pos ⟨by omega, by omega, hd, hb⟩]
  exact hr
theorem zl_sty_ok {w : zq_Wd} (x_LW : zj_is w 230 (fun q => zl_LW (q 0) (q 1) (q 2) (q 3) (q 4) (q 5))) (x_TX : zj_is w 226 (fun q => ze_TX (q 0) (q 1) (q 2) (q 3) (q 4))) (x_CD : zj_is w 224 (fun q => ze_CD (q 0) (q 1) (q 2) (q 3))) (x_EV : zj_is w 220 (fun q => ze_EV (q 0) (q 1) (q 2) (q 3) (q 4) (q 5) (q 6) (q 7) (q 8) (q 9))) : zq_okG1 w zl_sty := by
  refine ⟨rfl, rfl, zu_fac ⟨rfl, by decide⟩ zq_fan, ?_⟩
  intro r P h H hM
  have q0 : zq_ev r (-1, [(5, -1), (6, -1), (7, 1)]) = -r 5 - r 6 + r 7 - 1 := by simp only [zq_ev, zq_ts] <;> omega
  have q1 : zq_ev r (2, [(9, -1)]) = -r 9 + 2 := zu_e5 _ _ _
  have q2 : zq_ev r (0, [(0, -1), (9, 1)]) = -r 0 + r 9 := by simp only [zq_ev, zq_ts] <;> omega
  have q3 : zq_ev r (0, [(0, 1), (9, -1)]) = r 0 - r 9 := by simp only [zq_ev, zq_ts] <;> omega
  have q4 : zq_ev r (-1, [(13, 1)]) = r 13 - 1 := zu_e3 _ _ _
  have q5 : zq_ev r (1, [(13, -1)]) = -r 13 + 1 := zu_e5 _ _ _
  have q6 : zq_ev r (0, [(14, -1)]) = -r 14 := zu_e4 _ _
  have q7 : zq_ev r (0, [(14, 1)]) = r 14 := zu_e1 _ _
  have q8 : zq_ev r (0, [(11, -1)]) = -r 11 := zu_e4 _ _
  have q9 : zq_ev r (0, [(11, 1)]) = r 11 := zu_e1 _ _
  have q10 : zq_ev r (0, [(0, 1)]) = r 0 := zu_e1 _ _
  have q11 : zq_ev r (0, [(1, 1)]) = r 1 := zu_e1 _ _
  have q12 : zq_ev r (0, [(2, 1)]) = r 2 := zu_e1 _ _
  have q13 : zq_ev r (0, [(3, 1)]) = r 3 := zu_e1 _ _
  have q14 : zq_ev r (0, [(4, 1)]) = r 4 := zu_e1 _ _
  have q15 : zq_ev r (0, [(5, 1)]) = r 5 := zu_e1 _ _
  have q16 : zq_ev r (0, [(8, 1)]) = r 8 := zu_e1 _ _
  have q17 : zq_ev r (0, [(6, 1)]) = r 6 := zu_e1 _ _
  have q18 : zq_ev r (0, [(7, 1)]) = r 7 := zu_e1 _ _
  have q19 : zq_ev r (0, [(9, 1)]) = r 9 := zu_e1 _ _
  have q20 : zq_ev r (4, []) = 4 := zu_e0 _ _
  have q21 : zq_ev r (0, []) = 0 := zu_e0 _ _
  have q22 : zq_ev r (1, [(5, 1)]) = r 5 + 1 := zu_e2 _ _ _
  have q23 : zq_ev r (0, [(10, 1)]) = r 10 := zu_e1 _ _
  have q24 : zq_ev r (0, [(12, 1)]) = r 12 := zu_e1 _ _
  have q25 : zq_ev r (10, []) = 10 := zu_e0 _ _
  have q26 : zq_ev r (1, [(12, 1)]) = r 12 + 1 := zu_e2 _ _ _
  have q27 : zq_ev r (0, [(13, 1)]) = r 13 := zu_e1 _ _
  have q28 : zq_ev r (0, [(15, 1)]) = r 15 := zu_e1 _ _
  obtain ⟨hT, hC, hF, hS, -, hK⟩ := hM
  have c := hC.1
  have a1 := zq_all_1 c
  rw [q0] at a1
  have c := zq_all_t c
  have a2 := zq_all_1 c
  rw [q1] at a2
  have c := zq_all_t c
  have a3 := zq_all_1 c
  rw [q2] at a3
  have c := zq_all_t c
  have a4 := zq_all_1 c
  rw [q3] at a4
  have c := zq_all_t c
  have a5 := zq_all_1 c
  rw [q4] at a5
  have c := zq_all_t c
  have a6 := zq_all_1 c
  rw [q5] at a6
  have c := zq_all_t c
  have a7 := zq_all_1 c
  rw [q6] at a7
  have c := zq_all_t c
  have a8 := zq_all_1 c
  rw [q7] at a8
  have c := zq_all_t c
  have a9 := zq_all_1 c
  rw [q8] at a9
  have c := zq_all_t c
  have a10 := zq_all_1 c
  rw [q9] at a10
  have k1 := zj_use x_LW (hK)
  have k1 : zl_LW (zq_ev r (0, [(0, 1)])) (zq_ev r (0, [(1, 1)])) (zq_ev r (0, [(2, 1)])) (zq_ev r (0, [(3, 1)])) (zq_ev r (0, [(4, 1)])) (zq_ev r (0, [(5, 1)])) P h := k1
  simp only [q10, q11, q12, q13, q14, q15] at k1
  have k2 := zj_use x_TX (zq_okX_t (hK))
  have k2 : ze_TX (zq_ev r (0, [(8, 1)])) (zq_ev r (0, [(6, 1)])) (zq_ev r (0, [(7, 1)])) (zq_ev r (0, [(1, 1)])) (zq_ev r (0, [(2, 1)])) P h := k2
  simp only [q11, q12, q16, q17, q18] at k2
  have k3 := zj_use x_CD (zq_okX_t (zq_okX_t (hK)))
  have k3 : ze_CD (zq_ev r (0, [(1, 1)])) (zq_ev r (0, [(2, 1)])) (zq_ev r (0, [(5, 1)])) (zq_ev r (0, [(9, 1)])) P h := k3
  simp only [q11, q12, q15, q19] at k3
  have k4 := zj_use x_EV (zq_okX_t (zq_okX_t (zq_okX_t (hK))))
  have k4 : ze_EV (zq_ev r (4, [])) (zq_ev r (0, [(1, 1)])) (zq_ev r (0, [(2, 1)])) (zq_ev r (0, [])) (zq_ev r (0, [(3, 1)])) (zq_ev r (0, [])) (zq_ev r (1, [(5, 1)])) (zq_ev r (0, [(10, 1)])) (zq_ev r (0, [(11, 1)])) (zq_ev r (0, [(12, 1)])) P h := k4
  simp only [q11, q12, q13, q20, q21, q22, q23, q24, q9] at k4
  have k5 := zj_use x_CD (zq_okX_t (zq_okX_t (zq_okX_t (zq_okX_t (hK)))))
  have k5 : ze_CD (zq_ev r (0, [(1, 1)])) (zq_ev r (0, [(2, 1)])) (zq_ev r (0, [(12, 1)])) (zq_ev r (4, [])) P h := k5
  simp only [q11, q12, q20, q24] at k5
  have k6 := zj_use x_EV (zq_okX_t (zq_okX_t (zq_okX_t (zq_okX_t (zq_okX_t (hK))))))
  have k6 : ze_EV (zq_ev r (10, [])) (zq_ev r (0, [(1, 1)])) (zq_ev r (0, [(2, 1)])) (zq_ev r (0, [])) (zq_ev r (0, [(3, 1)])) (zq_ev r (0, [])) (zq_ev r (1, [(12, 1)])) (zq_ev r (0, [(13, 1)])) (zq_ev r (0, [(14, 1)])) (zq_ev r (0, [(15, 1)])) P h := k6
  simp only [q11, q12, q13, q21, q25, q26, q27, q28, q7] at k6
  obtain t1 := zl_sty_l (P := P) (h := h) (k := r 0) (g := r 1) (n := r 2) (W := r 3) (a := r 4) (p := r 5) (B := r 6) (E := r 7) (K := r 8) (c := r 9) (x := r 10) (b := r 11) (q := r 12) (t := r 13) (d := r 14) (y := r 15) a1 a2 a3 a4 a5 a6 a7 a8 a9 a10 k1 k2 k3 k4 k5 k6
  obtain ⟨rq, hr⟩ : ∃ rq : Nat → Int, (∀ i, i < 16 → rq i = r i) := ⟨r, fun i hi => rfl⟩
  have v0 : rq 0 = r 0 := hr 0 (by decide)
  have v1 : rq 1 = r 1 := hr 1 (by decide)
  have v2 : rq 2 = r 2 := hr 2 (by decide)
  have v3 : rq 3 = r 3 := hr 3 (by decide)
  have v10 : rq 10 = r 10 := hr 10 (by decide)
  have v15 : rq 15 = r 15 := hr 15 (by decide)
  have g0 : zq_ev rq (0, [(0, 1)]) = r 0 := zu_f1 v0
  have g1 : zq_ev rq (0, [(1, 1)]) = r 1 := zu_f1 v1
  have g2 : zq_ev rq (0, [(2, 1)]) = r 2 := zu_f1 v2
  have g3 : zq_ev rq (0, [(3, 1)]) = r 3 := zu_f1 v3
  have g4 : zq_ev rq (0, [(10, 1)]) = r 10 := zu_f1 v10
  have g5 : zq_ev rq (1, [(15, 1)]) = r 15 + 1 := zu_f2 v15 _
  exact ⟨_, List.mem_cons_self .., rq, hr, zq_MeS_mk rfl hT (zq_all_nil) zq_fan (zq_fan) rfl (zu_fac ((x_LW _ _ _).mpr (by show zl_LW (zq_ev rq (0, [(0, 1)])) (zq_ev rq (0, [(1, 1)])) (zq_ev rq (0, [(2, 1)])) (zq_ev rq (0, [(3, 1)])) (zq_ev rq (0, [(10, 1)])) (zq_ev rq (1, [(15, 1)])) P h; simp only [g0, g1, g2, g3, g4, g5]; exact t1)) zq_fan)⟩
noncomputable def zl_sthg : zq_S × List zq_S := (([], [], [(-1, [(5, -1), (6, -1), (7, 1)]), (2, [(9, -1)]), (-1, [(0, -1), (9, 1)])], [], [], [], [(230, [(0, [(0, 1)]), (0, [(1, 1)]), (0, [(2, 1)]), (0, [(3, 1)]), (0, [(4, 1)]), (0, [(5, 1)])]), (226, [(0, [(8, 1)]), (0, [(6, 1)]), (0, [(7, 1)]), (0, [(1, 1)]), (0, [(2, 1)])]), (224, [(0, [(1, 1)]), (0, [(2, 1)]), (0, [(5, 1)]), (0, [(9, 1)])]), (220, [(4, []), (0, [(1, 1)]), (0, [(2, 1)]), (0, []), (0, [(3, 1)]), (0, []), (1, [(5, 1)]), (0, [(10, 1)]), (0, [(11, 1)]), (0, [(12, 1)])]), (224, [(0, [(1, 1)]), (0, [(2, 1)]), (0, [(12, 1)]), (4, [])]), (220, [(10, []), (0, [(1, 1)]), (0, [(2, 1)]), (0, []), (0, [(3, 1)]), (0, []), (1, [(12, 1)]), (0, [(13, 1)]), (0, [(14, 1)]), (0, [(15, 1)])])], 16), [([], [], [], [], [], [], [(230, [(0, [(0, 1)]), (0, [(1, 1)]), (0, [(2, 1)]), (0, [(3, 1)]), (0, [(4, 1)]), (1, [(15, 1)])])], 16)])
theorem zl_sthg_l {P : zq_Ty} {h : zq_H} {k g n W a p B E K c x b q t d y : Int} (a1 : 0 ≤ -p - B + E - 1) (a2 : 0 ≤ -c + 2) (a3 : 0 ≤ -k + c - 1) (k1 : zl_LW k g n W a p P h) (k2 : ze_TX K B E g n P h) (k3 : ze_CD g n p c P h) (k4 : ze_EV 4 g n 0 W 0 (p + 1) x b q P h) (k5 : ze_CD g n q 4 P h) (k6 : ze_EV 10 g n 0 W 0 (q + 1) t d y P h) : (zl_LW k g n W a (y + 1) P h) := by
  obtain ⟨z1, z2, z3, z4, z5⟩ := k2
  have hL : p < ze_L g n := by unfold ze_L; omega
  have k3 : c = ze_c g n p := k3
  intro r hr
  apply k1 r
  have k4 : ze_V (ze_c g n) (ze_v g n) (ze_w 0 W) 4 0 true (ze_on 0) (p + 1) x (ze_on b) q := k4
  rw [ze_on0] at k4
  have kc : 4 = ze_c g n q := k5
  have kt : ze_V (ze_c g n) (ze_v g n) (ze_w 0 W) 10 0 true (ze_on 0) (q + 1) t (ze_on d) y := k6
  rw [ze_on0] at kt
  refine zl_st hL (by omega) k4 kc.symm kt ?_
  rw [if_neg (fun z => by have z := z.1; omega)]
  exact hr
theorem zl_sthg_ok {w : zq_Wd} (x_LW : zj_is w 230 (fun q => zl_LW (q 0) (q 1) (q 2) (q 3) (q 4) (q 5))) (x_TX : zj_is w 226 (fun q => ze_TX (q 0) (q 1) (q 2) (q 3) (q 4))) (x_CD : zj_is w 224 (fun q => ze_CD (q 0) (q 1) (q 2) (q 3))) (x_EV : zj_is w 220 (fun q => ze_EV (q 0) (q 1) (q 2) (q 3) (q 4) (q 5) (q 6) (q 7) (q 8) (q 9))) : zq_okG1 w zl_sthg := by
  refine ⟨rfl, rfl, zu_fac ⟨rfl, by decide⟩ zq_fan, ?_⟩
  intro r P h H hM
  have q0 : zq_ev r (-1, [(5, -1), (6, -1), (7, 1)]) = -r 5 - r 6 + r 7 - 1 := by simp only [zq_ev, zq_ts] <;> omega
  have q1 : zq_ev r (2, [(9, -1)]) = -r 9 + 2 := zu_e5 _ _ _
  have q2 : zq_ev r (-1, [(0, -1), (9, 1)]) = -r 0 + r 9 - 1 := by simp only [zq_ev, zq_ts] <;> omega
  have q3 : zq_ev r (0, [(0, 1)]) = r 0 := zu_e1 _ _
  have q4 : zq_ev r (0, [(1, 1)]) = r 1 := zu_e1 _ _
  have q5 : zq_ev r (0, [(2, 1)]) = r 2 := zu_e1 _ _
  have q6 : zq_ev r (0, [(3, 1)]) = r 3 := zu_e1 _ _
  have q7 : zq_ev r (0, [(4, 1)]) = r 4 := zu_e1 _ _
  have q8 : zq_ev r (0, [(5, 1)]) = r 5 := zu_e1 _ _
  have q9 : zq_ev r (0, [(8, 1)]) = r 8 := zu_e1 _ _
  have q10 : zq_ev r (0, [(6, 1)]) = r 6 := zu_e1 _ _
  have q11 : zq_ev r (0, [(7, 1)]) = r 7 := zu_e1 _ _
  have q12 : zq_ev r (0, [(9, 1)]) = r 9 := zu_e1 _ _
  have q13 : zq_ev r (4, []) = 4 := zu_e0 _ _
  have q14 : zq_ev r (0, []) = 0 := zu_e0 _ _
  have q15 : zq_ev r (1, [(5, 1)]) = r 5 + 1 := zu_e2 _ _ _
  have q16 : zq_ev r (0, [(10, 1)]) = r 10 := zu_e1 _ _
  have q17 : zq_ev r (0, [(11, 1)]) = r 11 := zu_e1 _ _
  have q18 : zq_ev r (0, [(12, 1)]) = r 12 := zu_e1 _ _
  have q19 : zq_ev r (10, []) = 10 := zu_e0 _ _
  have q20 : zq_ev r (1, [(12, 1)]) = r 12 + 1 := zu_e2 _ _ _
  have q21 : zq_ev r (0, [(13, 1)]) = r 13 := zu_e1 _ _
  have q22 : zq_ev r (0, [(14, 1)]) = r 14 := zu_e1 _ _
  have q23 : zq_ev r (0, [(15, 1)]) = r 15 := zu_e1 _ _
  obtain ⟨hT, hC, hF, hS, -, hK⟩ := hM
  have c := hC.1
  have a1 := zq_all_1 c
  rw [q0] at a1
  have c := zq_all_t c
  have a2 := zq_all_1 c
  rw [q1] at a2
  have c := zq_all_t c
  have a3 := zq_all_1 c
  rw [q2] at a3
  have k1 := zj_use x_LW (hK)
  have k1 : zl_LW (zq_ev r (0, [(0, 1)])) (zq_ev r (0, [(1, 1)])) (zq_ev r (0, [(2, 1)])) (zq_ev r (0, [(3, 1)])) (zq_ev r (0, [(4, 1)])) (zq_ev r (0, [(5, 1)])) P h := k1
  simp only [q3, q4, q5, q6, q7, q8] at k1
  have k2 := zj_use x_TX (zq_okX_t (hK))
  have k2 : ze_TX (zq_ev r (0, [(8, 1)])) (zq_ev r (0, [(6, 1)])) (zq_ev r (0, [(7, 1)])) (zq_ev r (0, [(1, 1)])) (zq_ev r (0, [(2, 1)])) P h := k2
  simp only [q10, q11, q4, q5, q9] at k2
  have k3 := zj_use x_CD (zq_okX_t (zq_okX_t (hK)))
  have k3 : ze_CD (zq_ev r (0, [(1, 1)])) (zq_ev r (0, [(2, 1)])) (zq_ev r (0, [(5, 1)])) (zq_ev r (0, [(9, 1)])) P h := k3
  simp only [q12, q4, q5, q8] at k3
  have k4 := zj_use x_EV (zq_okX_t (zq_okX_t (zq_okX_t (hK))))
  have k4 : ze_EV (zq_ev r (4, [])) (zq_ev r (0, [(1, 1)])) (zq_ev r (0, [(2, 1)])) (zq_ev r (0, [])) (zq_ev r (0, [(3, 1)])) (zq_ev r (0, [])) (zq_ev r (1, [(5, 1)])) (zq_ev r (0, [(10, 1)])) (zq_ev r (0, [(11, 1)])) (zq_ev r (0, [(12, 1)])) P h := k4
  simp only [q13, q14, q15, q16, q17, q18, q4, q5, q6] at k4
  have k5 := zj_use x_CD (zq_okX_t (zq_okX_t (zq_okX_t (zq_okX_t (hK)))))
  have k5 : ze_CD (zq_ev r (0, [(1, 1)])) (zq_ev r (0, [(2, 1)])) (zq_ev r (0, [(12, 1)])) (zq_ev r (4, [])) P h := k5
  simp only [q13, q18, q4, q5] at k5
  have k6 := zj_use x_EV (zq_okX_t (zq_okX_t (zq_okX_t (zq_okX_t (zq_okX_t (hK))))))
  have k6 : ze_EV (zq_ev r (10, [])) (zq_ev r (0, [(1, 1)])) (zq_ev r (0, [(2, 1)])) (zq_ev r (0, [])) (zq_ev r (0, [(3, 1)])) (zq_ev r (0, [])) (zq_ev r (1, [(12, 1)])) (zq_ev r (0, [(13, 1)])) (zq_ev r (0, [(14, 1)])) (zq_ev r (0, [(15, 1)])) P h := k6
  simp only [q14, q19, q20, q21, q22, q23, q4, q5, q6] at k6
  obtain t1 := zl_sthg_l (P := P) (h := h) (k := r 0) (g := r 1) (n := r 2) (W := r 3) (a := r 4) (p := r 5) (B := r 6) (E := r 7) (K := r 8) (c := r 9) (x := r 10) (b := r 11) (q := r 12) (t := r 13) (d := r 14) (y := r 15) a1 a2 a3 k1 k2 k3 k4 k5 k6
  obtain ⟨rq, hr⟩ : ∃ rq : Nat → Int, (∀ i, i < 16 → rq i = r i) := ⟨r, fun i hi => rfl⟩
  have v0 : rq 0 = r 0 := hr 0 (by decide)
  have v1 : rq 1 = r 1 := hr 1 (by decide)
  have v2 : rq 2 = r 2 := hr 2 (by decide)
  have v3 : rq 3 = r 3 := hr 3 (by decide)
  have v4 : rq 4 = r 4 := hr 4 (by decide)
  have v15 : rq 15 = r 15 := hr 15 (by decide)
  have g0 : zq_ev rq (0, [(0, 1)]) = r 0 := zu_f1 v0
  have g1 : zq_ev rq (0, [(1, 1)]) = r 1 := zu_f1 v1
  have g2 : zq_ev rq (0, [(2, 1)]) = r 2 := zu_f1 v2
  have g3 : zq_ev rq (0, [(3, 1)]) = r 3 := zu_f1 v3
  have g4 : zq_ev rq (0, [(4, 1)]) = r 4 := zu_f1 v4
  have g5 : zq_ev rq (1, [(15, 1)]) = r 15 + 1 := zu_f2 v15 _
  exact ⟨_, List.mem_cons_self .., rq, hr, zq_MeS_mk rfl hT (zq_all_nil) zq_fan (zq_fan) rfl (zu_fac ((x_LW _ _ _).mpr (by show zl_LW (zq_ev rq (0, [(0, 1)])) (zq_ev rq (0, [(1, 1)])) (zq_ev rq (0, [(2, 1)])) (zq_ev rq (0, [(3, 1)])) (zq_ev rq (0, [(4, 1)])) (zq_ev rq (1, [(15, 1)])) P h; simp only [g0, g1, g2, g3, g4, g5]; exact t1)) zq_fan)⟩
noncomputable def zl_sthl : zq_S × List zq_S := (([], [], [(-1, [(5, -1), (6, -1), (7, 1)]), (2, [(9, -1)]), (-1, [(0, 1), (9, -1)])], [], [], [], [(230, [(0, [(0, 1)]), (0, [(1, 1)]), (0, [(2, 1)]), (0, [(3, 1)]), (0, [(4, 1)]), (0, [(5, 1)])]), (226, [(0, [(8, 1)]), (0, [(6, 1)]), (0, [(7, 1)]), (0, [(1, 1)]), (0, [(2, 1)])]), (224, [(0, [(1, 1)]), (0, [(2, 1)]), (0, [(5, 1)]), (0, [(9, 1)])]), (220, [(4, []), (0, [(1, 1)]), (0, [(2, 1)]), (0, []), (0, [(3, 1)]), (0, []), (1, [(5, 1)]), (0, [(10, 1)]), (0, [(11, 1)]), (0, [(12, 1)])]), (224, [(0, [(1, 1)]), (0, [(2, 1)]), (0, [(12, 1)]), (4, [])]), (220, [(10, []), (0, [(1, 1)]), (0, [(2, 1)]), (0, []), (0, [(3, 1)]), (0, []), (1, [(12, 1)]), (0, [(13, 1)]), (0, [(14, 1)]), (0, [(15, 1)])])], 16), [([], [], [], [], [], [], [(230, [(0, [(0, 1)]), (0, [(1, 1)]), (0, [(2, 1)]), (0, [(3, 1)]), (0, [(4, 1)]), (1, [(15, 1)])])], 16)])
theorem zl_sthl_l {P : zq_Ty} {h : zq_H} {k g n W a p B E K c x b q t d y : Int} (a1 : 0 ≤ -p - B + E - 1) (a2 : 0 ≤ -c + 2) (a3 : 0 ≤ k - c - 1) (k1 : zl_LW k g n W a p P h) (k2 : ze_TX K B E g n P h) (k3 : ze_CD g n p c P h) (k4 : ze_EV 4 g n 0 W 0 (p + 1) x b q P h) (k5 : ze_CD g n q 4 P h) (k6 : ze_EV 10 g n 0 W 0 (q + 1) t d y P h) : (zl_LW k g n W a (y + 1) P h) := by
  obtain ⟨z1, z2, z3, z4, z5⟩ := k2
  have hL : p < ze_L g n := by unfold ze_L; omega
  have k3 : c = ze_c g n p := k3
  intro r hr
  apply k1 r
  have k4 : ze_V (ze_c g n) (ze_v g n) (ze_w 0 W) 4 0 true (ze_on 0) (p + 1) x (ze_on b) q := k4
  rw [ze_on0] at k4
  have kc : 4 = ze_c g n q := k5
  have kt : ze_V (ze_c g n) (ze_v g n) (ze_w 0 W) 10 0 true (ze_on 0) (q + 1) t (ze_on d) y := k6
  rw [ze_on0] at kt
  refine zl_st hL (by omega) k4 kc.symm kt ?_
  rw [if_neg (fun z => by have z := z.1; omega)]
  exact hr
theorem zl_sthl_ok {w : zq_Wd} (x_LW : zj_is w 230 (fun q => zl_LW (q 0) (q 1) (q 2) (q 3) (q 4) (q 5))) (x_TX : zj_is w 226 (fun q => ze_TX (q 0) (q 1) (q 2) (q 3) (q 4))) (x_CD : zj_is w 224 (fun q => ze_CD (q 0) (q 1) (q 2) (q 3))) (x_EV : zj_is w 220 (fun q => ze_EV (q 0) (q 1) (q 2) (q 3) (q 4) (q 5) (q 6) (q 7) (q 8) (q 9))) : zq_okG1 w zl_sthl := by
  refine ⟨rfl, rfl, zu_fac ⟨rfl, by decide⟩ zq_fan, ?_⟩
  intro r P h H hM
  have q0 : zq_ev r (-1, [(5, -1), (6, -1), (7, 1)]) = -r 5 - r 6 + r 7 - 1 := by simp only [zq_ev, zq_ts] <;> omega
  have q1 : zq_ev r (2, [(9, -1)]) = -r 9 + 2 := zu_e5 _ _ _
  have q2 : zq_ev r (-1, [(0, 1), (9, -1)]) = r 0 - r 9 - 1 := by simp only [zq_ev, zq_ts] <;> omega
  have q3 : zq_ev r (0, [(0, 1)]) = r 0 := zu_e1 _ _
  have q4 : zq_ev r (0, [(1, 1)]) = r 1 := zu_e1 _ _
  have q5 : zq_ev r (0, [(2, 1)]) = r 2 := zu_e1 _ _
  have q6 : zq_ev r (0, [(3, 1)]) = r 3 := zu_e1 _ _
  have q7 : zq_ev r (0, [(4, 1)]) = r 4 := zu_e1 _ _
  have q8 : zq_ev r (0, [(5, 1)]) = r 5 := zu_e1 _ _
  have q9 : zq_ev r (0, [(8, 1)]) = r 8 := zu_e1 _ _
  have q10 : zq_ev r (0, [(6, 1)]) = r 6 := zu_e1 _ _
  have q11 : zq_ev r (0, [(7, 1)]) = r 7 := zu_e1 _ _
  have q12 : zq_ev r (0, [(9, 1)]) = r 9 := zu_e1 _ _
  have q13 : zq_ev r (4, []) = 4 := zu_e0 _ _
  have q14 : zq_ev r (0, []) = 0 := zu_e0 _ _
  have q15 : zq_ev r (1, [(5, 1)]) = r 5 + 1 := zu_e2 _ _ _
  have q16 : zq_ev r (0, [(10, 1)]) = r 10 := zu_e1 _ _
  have q17 : zq_ev r (0, [(11, 1)]) = r 11 := zu_e1 _ _
  have q18 : zq_ev r (0, [(12, 1)]) = r 12 := zu_e1 _ _
  have q19 : zq_ev r (10, []) = 10 := zu_e0 _ _
  have q20 : zq_ev r (1, [(12, 1)]) = r 12 + 1 := zu_e2 _ _ _
  have q21 : zq_ev r (0, [(13, 1)]) = r 13 := zu_e1 _ _
  have q22 : zq_ev r (0, [(14, 1)]) = r 14 := zu_e1 _ _
  have q23 : zq_ev r (0, [(15, 1)]) = r 15 := zu_e1 _ _
  obtain ⟨hT, hC, hF, hS, -, hK⟩ := hM
  have c := hC.1
  have a1 := zq_all_1 c
  rw [q0] at a1
  have c := zq_all_t c
  have a2 := zq_all_1 c
  rw [q1] at a2
  have c := zq_all_t c
  have a3 := zq_all_1 c
  rw [q2] at a3
  have k1 := zj_use x_LW (hK)
  have k1 : zl_LW (zq_ev r (0, [(0, 1)])) (zq_ev r (0, [(1, 1)])) (zq_ev r (0, [(2, 1)])) (zq_ev r (0, [(3, 1)])) (zq_ev r (0, [(4, 1)])) (zq_ev r (0, [(5, 1)])) P h := k1
  simp only [q3, q4, q5, q6, q7, q8] at k1
  have k2 := zj_use x_TX (zq_okX_t (hK))
  have k2 : ze_TX (zq_ev r (0, [(8, 1)])) (zq_ev r (0, [(6, 1)])) (zq_ev r (0, [(7, 1)])) (zq_ev r (0, [(1, 1)])) (zq_ev r (0, [(2, 1)])) P h := k2
  simp only [q10, q11, q4, q5, q9] at k2
  have k3 := zj_use x_CD (zq_okX_t (zq_okX_t (hK)))
  have k3 : ze_CD (zq_ev r (0, [(1, 1)])) (zq_ev r (0, [(2, 1)])) (zq_ev r (0, [(5, 1)])) (zq_ev r (0, [(9, 1)])) P h := k3
  simp only [q12, q4, q5, q8] at k3
  have k4 := zj_use x_EV (zq_okX_t (zq_okX_t (zq_okX_t (hK))))
  have k4 : ze_EV (zq_ev r (4, [])) (zq_ev r (0, [(1, 1)])) (zq_ev r (0, [(2, 1)])) (zq_ev r (0, [])) (zq_ev r (0, [(3, 1)])) (zq_ev r (0, [])) (zq_ev r (1, [(5, 1)])) (zq_ev r (0, [(10, 1)])) (zq_ev r (0, [(11, 1)])) (zq_ev r (0, [(12, 1)])) P h := k4
  simp only [q13, q14, q15, q16, q17, q18, q4, q5, q6] at k4
  have k5 := zj_use x_CD (zq_okX_t (zq_okX_t (zq_okX_t (zq_okX_t (hK)))))
  have k5 : ze_CD (zq_ev r (0, [(1, 1)])) (zq_ev r (0, [(2, 1)])) (zq_ev r (0, [(12, 1)])) (zq_ev r (4, [])) P h := k5
  simp only [q13, q18, q4, q5] at k5
  have k6 := zj_use x_EV (zq_okX_t (zq_okX_t (zq_okX_t (zq_okX_t (zq_okX_t (hK))))))
  have k6 : ze_EV (zq_ev r (10, [])) (zq_ev r (0, [(1, 1)])) (zq_ev r (0, [(2, 1)])) (zq_ev r (0, [])) (zq_ev r (0, [(3, 1)])) (zq_ev r (0, [])) (zq_ev r (1, [(12, 1)])) (zq_ev r (0, [(13, 1)])) (zq_ev r (0, [(14, 1)])) (zq_ev r (0, [(15, 1)])) P h := k6
  simp only [q14, q19, q20, q21, q22, q23, q4, q5, q6] at k6
  obtain t1 := zl_sthl_l (P := P) (h := h) (k := r 0) (g := r 1) (n := r 2) (W := r 3) (a := r 4) (p := r 5) (B := r 6) (E := r 7) (K := r 8) (c := r 9) (x := r 10) (b := r 11) (q := r 12) (t := r 13) (d := r 14) (y := r 15) a1 a2 a3 k1 k2 k3 k4 k5 k6
  obtain ⟨rq, hr⟩ : ∃ rq : Nat → Int, (∀ i, i < 16 → rq i = r i) := ⟨r, fun i hi => rfl⟩
  have v0 : rq 0 = r 0 := hr 0 (by decide)
  have v1 : rq 1 = r 1 := hr 1 (by decide)
  have v2 : rq 2 = r 2 := hr 2 (by decide)
  have v3 : rq 3 = r 3 := hr 3 (by decide)
  have v4 : rq 4 = r 4 := hr 4 (by decide)
  have v15 : rq 15 = r 15 := hr 15 (by decide)
  have g0 : zq_ev rq (0, [(0, 1)]) = r 0 := zu_f1 v0
  have g1 : zq_ev rq (0, [(1, 1)]) = r 1 := zu_f1 v1
  have g2 : zq_ev rq (0, [(2, 1)]) = r 2 := zu_f1 v2
  have g3 : zq_ev rq (0, [(3, 1)]) = r 3 := zu_f1 v3
  have g4 : zq_ev rq (0, [(4, 1)]) = r 4 := zu_f1 v4
  have g5 : zq_ev rq (1, [(15, 1)]) = r 15 + 1 := zu_f2 v15 _
  exact ⟨_, List.mem_cons_self .., rq, hr, zq_MeS_mk rfl hT (zq_all_nil) zq_fan (zq_fan) rfl (zu_fac ((x_LW _ _ _).mpr (by show zl_LW (zq_ev rq (0, [(0, 1)])) (zq_ev rq (0, [(1, 1)])) (zq_ev rq (0, [(2, 1)])) (zq_ev rq (0, [(3, 1)])) (zq_ev rq (0, [(4, 1)])) (zq_ev rq (1, [(15, 1)])) P h; simp only [g0, g1, g2, g3, g4, g5]; exact t1)) zq_fan)⟩
noncomputable def zl_stt : zq_S × List zq_S := (([], [], [(-1, [(5, -1), (6, -1), (7, 1)]), (2, [(9, -1)]), (0, [(13, -1)])], [], [], [], [(230, [(0, [(0, 1)]), (0, [(1, 1)]), (0, [(2, 1)]), (0, [(3, 1)]), (0, [(4, 1)]), (0, [(5, 1)])]), (226, [(0, [(8, 1)]), (0, [(6, 1)]), (0, [(7, 1)]), (0, [(1, 1)]), (0, [(2, 1)])]), (224, [(0, [(1, 1)]), (0, [(2, 1)]), (0, [(5, 1)]), (0, [(9, 1)])]), (220, [(4, []), (0, [(1, 1)]), (0, [(2, 1)]), (0, []), (0, [(3, 1)]), (0, []), (1, [(5, 1)]), (0, [(10, 1)]), (0, [(11, 1)]), (0, [(12, 1)])]), (224, [(0, [(1, 1)]), (0, [(2, 1)]), (0, [(12, 1)]), (4, [])]), (220, [(10, []), (0, [(1, 1)]), (0, [(2, 1)]), (0, []), (0, [(3, 1)]), (0, []), (1, [(12, 1)]), (0, [(13, 1)]), (0, [(14, 1)]), (0, [(15, 1)])])], 16), [([], [], [], [], [], [], [(230, [(0, [(0, 1)]), (0, [(1, 1)]), (0, [(2, 1)]), (0, [(3, 1)]), (0, [(4, 1)]), (1, [(15, 1)])])], 16)])
theorem zl_stt_l {P : zq_Ty} {h : zq_H} {k g n W a p B E K c x b q t d y : Int} (a1 : 0 ≤ -p - B + E - 1) (a2 : 0 ≤ -c + 2) (a3 : 0 ≤ -t) (k1 : zl_LW k g n W a p P h) (k2 : ze_TX K B E g n P h) (k3 : ze_CD g n p c P h) (k4 : ze_EV 4 g n 0 W 0 (p + 1) x b q P h) (k5 : ze_CD g n q 4 P h) (k6 : ze_EV 10 g n 0 W 0 (q + 1) t d y P h) : (zl_LW k g n W a (y + 1) P h) := by
  obtain ⟨z1, z2, z3, z4, z5⟩ := k2
  have hL : p < ze_L g n := by unfold ze_L; omega
  have k3 : c = ze_c g n p := k3
  intro r hr
  apply k1 r
  have k4 : ze_V (ze_c g n) (ze_v g n) (ze_w 0 W) 4 0 true (ze_on 0) (p + 1) x (ze_on b) q := k4
  rw [ze_on0] at k4
  have kc : 4 = ze_c g n q := k5
  have kt : ze_V (ze_c g n) (ze_v g n) (ze_w 0 W) 10 0 true (ze_on 0) (q + 1) t (ze_on d) y := k6
  rw [ze_on0] at kt
  refine zl_st hL (by omega) k4 kc.symm kt ?_
  rw [if_neg (fun z => by have z := z.2.1; omega)]
  exact hr
theorem zl_stt_ok {w : zq_Wd} (x_LW : zj_is w 230 (fun q => zl_LW (q 0) (q 1) (q 2) (q 3) (q 4) (q 5))) (x_TX : zj_is w 226 (fun q => ze_TX (q 0) (q 1) (q 2) (q 3) (q 4))) (x_CD : zj_is w 224 (fun q => ze_CD (q 0) (q 1) (q 2) (q 3))) (x_EV : zj_is w 220 (fun q => ze_EV (q 0) (q 1) (q 2) (q 3) (q 4) (q 5) (q 6) (q 7) (q 8) (q 9))) : zq_okG1 w zl_stt := by
  refine ⟨rfl, rfl, zu_fac ⟨rfl, by decide⟩ zq_fan, ?_⟩
  intro r P h H hM
  have q0 : zq_ev r (-1, [(5, -1), (6, -1), (7, 1)]) = -r 5 - r 6 + r 7 - 1 := by simp only [zq_ev, zq_ts] <;> omega
  have q1 : zq_ev r (2, [(9, -1)]) = -r 9 + 2 := zu_e5 _ _ _
  have q2 : zq_ev r (0, [(13, -1)]) = -r 13 := zu_e4 _ _
  have q3 : zq_ev r (0, [(0, 1)]) = r 0 := zu_e1 _ _
  have q4 : zq_ev r (0, [(1, 1)]) = r 1 := zu_e1 _ _
  have q5 : zq_ev r (0, [(2, 1)]) = r 2 := zu_e1 _ _
  have q6 : zq_ev r (0, [(3, 1)]) = r 3 := zu_e1 _ _
  have q7 : zq_ev r (0, [(4, 1)]) = r 4 := zu_e1 _ _
  have q8 : zq_ev r (0, [(5, 1)]) = r 5 := zu_e1 _ _
  have q9 : zq_ev r (0, [(8, 1)]) = r 8 := zu_e1 _ _
  have q10 : zq_ev r (0, [(6, 1)]) = r 6 := zu_e1 _ _
  have q11 : zq_ev r (0, [(7, 1)]) = r 7 := zu_e1 _ _
  have q12 : zq_ev r (0, [(9, 1)]) = r 9 := zu_e1 _ _
  have q13 : zq_ev r (4, []) = 4 := zu_e0 _ _
  have q14 : zq_ev r (0, []) = 0 := zu_e0 _ _
  have q15 : zq_ev r (1, [(5, 1)]) = r 5 + 1 := zu_e2 _ _ _
  have q16 : zq_ev r (0, [(10, 1)]) = r 10 := zu_e1 _ _
  have q17 : zq_ev r (0, [(11, 1)]) = r 11 := zu_e1 _ _
  have q18 : zq_ev r (0, [(12, 1)]) = r 12 := zu_e1 _ _
  have q19 : zq_ev r (10, []) = 10 := zu_e0 _ _
  have q20 : zq_ev r (1, [(12, 1)]) = r 12 + 1 := zu_e2 _ _ _
  have q21 : zq_ev r (0, [(13, 1)]) = r 13 := zu_e1 _ _
  have q22 : zq_ev r (0, [(14, 1)]) = r 14 := zu_e1 _ _
  have q23 : zq_ev r (0, [(15, 1)]) = r 15 := zu_e1 _ _
  obtain ⟨hT, hC, hF, hS, -, hK⟩ := hM
  have c := hC.1
  have a1 := zq_all_1 c
  rw [q0] at a1
  have c := zq_all_t c
  have a2 := zq_all_1 c
  rw [q1] at a2
  have c := zq_all_t c
  have a3 := zq_all_1 c
  rw [q2] at a3
  have k1 := zj_use x_LW (hK)
  have k1 : zl_LW (zq_ev r (0, [(0, 1)])) (zq_ev r (0, [(1, 1)])) (zq_ev r (0, [(2, 1)])) (zq_ev r (0, [(3, 1)])) (zq_ev r (0, [(4, 1)])) (zq_ev r (0, [(5, 1)])) P h := k1
  simp only [q3, q4, q5, q6, q7, q8] at k1
  have k2 := zj_use x_TX (zq_okX_t (hK))
  have k2 : ze_TX (zq_ev r (0, [(8, 1)])) (zq_ev r (0, [(6, 1)])) (zq_ev r (0, [(7, 1)])) (zq_ev r (0, [(1, 1)])) (zq_ev r (0, [(2, 1)])) P h := k2
  simp only [q10, q11, q4, q5, q9] at k2
  have k3 := zj_use x_CD (zq_okX_t (zq_okX_t (hK)))
  have k3 : ze_CD (zq_ev r (0, [(1, 1)])) (zq_ev r (0, [(2, 1)])) (zq_ev r (0, [(5, 1)])) (zq_ev r (0, [(9, 1)])) P h := k3
  simp only [q12, q4, q5, q8] at k3
  have k4 := zj_use x_EV (zq_okX_t (zq_okX_t (zq_okX_t (hK))))
  have k4 : ze_EV (zq_ev r (4, [])) (zq_ev r (0, [(1, 1)])) (zq_ev r (0, [(2, 1)])) (zq_ev r (0, [])) (zq_ev r (0, [(3, 1)])) (zq_ev r (0, [])) (zq_ev r (1, [(5, 1)])) (zq_ev r (0, [(10, 1)])) (zq_ev r (0, [(11, 1)])) (zq_ev r (0, [(12, 1)])) P h := k4
  simp only [q13, q14, q15, q16, q17, q18, q4, q5, q6] at k4
  have k5 := zj_use x_CD (zq_okX_t (zq_okX_t (zq_okX_t (zq_okX_t (hK)))))
  have k5 : ze_CD (zq_ev r (0, [(1, 1)])) (zq_ev r (0, [(2, 1)])) (zq_ev r (0, [(12, 1)])) (zq_ev r (4, [])) P h := k5
  simp only [q13, q18, q4, q5] at k5
  have k6 := zj_use x_EV (zq_okX_t (zq_okX_t (zq_okX_t (zq_okX_t (zq_okX_t (hK))))))
  have k6 : ze_EV (zq_ev r (10, [])) (zq_ev r (0, [(1, 1)])) (zq_ev r (0, [(2, 1)])) (zq_ev r (0, [])) (zq_ev r (0, [(3, 1)])) (zq_ev r (0, [])) (zq_ev r (1, [(12, 1)])) (zq_ev r (0, [(13, 1)])) (zq_ev r (0, [(14, 1)])) (zq_ev r (0, [(15, 1)])) P h := k6
  simp only [q14, q19, q20, q21, q22, q23, q4, q5, q6] at k6
  obtain t1 := zl_stt_l (P := P) (h := h) (k := r 0) (g := r 1) (n := r 2) (W := r 3) (a := r 4) (p := r 5) (B := r 6) (E := r 7) (K := r 8) (c := r 9) (x := r 10) (b := r 11) (q := r 12) (t := r 13) (d := r 14) (y := r 15) a1 a2 a3 k1 k2 k3 k4 k5 k6
  obtain ⟨rq, hr⟩ : ∃ rq : Nat → Int, (∀ i, i < 16 → rq i = r i) := ⟨r, fun i hi => rfl⟩
  have v0 : rq 0 = r 0 := hr 0 (by decide)
  have v1 : rq 1 = r 1 := hr 1 (by decide)
  have v2 : rq 2 = r 2 := hr 2 (by decide)
  have v3 : rq 3 = r 3 := hr 3 (by decide)
  have v4 : rq 4 = r 4 := hr 4 (by decide)
  have v15 : rq 15 = r 15 := hr 15 (by decide)
  have g0 : zq_ev rq (0, [(0, 1)]) = r 0 := zu_f1 v0
  have g1 : zq_ev rq (0, [(1, 1)]) = r 1 := zu_f1 v1
  have g2 : zq_ev rq (0, [(2, 1)]) = r 2 := zu_f1 v2
  have g3 : zq_ev rq (0, [(3, 1)]) = r 3 := zu_f1 v3
  have g4 : zq_ev rq (0, [(4, 1)]) = r 4 := zu_f1 v4
  have g5 : zq_ev rq (1, [(15, 1)]) = r 15 + 1 := zu_f2 v15 _
  exact ⟨_, List.mem_cons_self .., rq, hr, zq_MeS_mk rfl hT (zq_all_nil) zq_fan (zq_fan) rfl (zu_fac ((x_LW _ _ _).mpr (by show zl_LW (zq_ev rq (0, [(0, 1)])) (zq_ev rq (0, [(1, 1)])) (zq_ev rq (0, [(2, 1)])) (zq_ev rq (0, [(3, 1)])) (zq_ev rq (0, [(4, 1)])) (zq_ev rq (1, [(15, 1)])) P h; simp only [g0, g1, g2, g3, g4, g5]; exact t1)) zq_fan)⟩
noncomputable def zl_std : zq_S × List zq_S := (([], [], [(-1, [(5, -1), (6, -1), (7, 1)]), (2, [(9, -1)]), (-1, [(14, 1)]), (1, [(14, -1)])], [], [], [], [(230, [(0, [(0, 1)]), (0, [(1, 1)]), (0, [(2, 1)]), (0, [(3, 1)]), (0, [(4, 1)]), (0, [(5, 1)])]), (226, [(0, [(8, 1)]), (0, [(6, 1)]), (0, [(7, 1)]), (0, [(1, 1)]), (0, [(2, 1)])]), (224, [(0, [(1, 1)]), (0, [(2, 1)]), (0, [(5, 1)]), (0, [(9, 1)])]), (220, [(4, []), (0, [(1, 1)]), (0, [(2, 1)]), (0, []), (0, [(3, 1)]), (0, []), (1, [(5, 1)]), (0, [(10, 1)]), (0, [(11, 1)]), (0, [(12, 1)])]), (224, [(0, [(1, 1)]), (0, [(2, 1)]), (0, [(12, 1)]), (4, [])]), (220, [(10, []), (0, [(1, 1)]), (0, [(2, 1)]), (0, []), (0, [(3, 1)]), (0, []), (1, [(12, 1)]), (0, [(13, 1)]), (0, [(14, 1)]), (0, [(15, 1)])])], 16), [([], [], [], [], [], [], [(230, [(0, [(0, 1)]), (0, [(1, 1)]), (0, [(2, 1)]), (0, [(3, 1)]), (0, [(4, 1)]), (1, [(15, 1)])])], 16)])
theorem zl_std_l {P : zq_Ty} {h : zq_H} {k g n W a p B E K c x b q t d y : Int} (a1 : 0 ≤ -p - B + E - 1) (a2 : 0 ≤ -c + 2) (a3 : 0 ≤ d - 1) (a4 : 0 ≤ -d + 1) (k1 : zl_LW k g n W a p P h) (k2 : ze_TX K B E g n P h) (k3 : ze_CD g n p c P h) (k4 : ze_EV 4 g n 0 W 0 (p + 1) x b q P h) (k5 : ze_CD g n q 4 P h) (k6 : ze_EV 10 g n 0 W 0 (q + 1) t d y P h) : (zl_LW k g n W a (y + 1) P h) := by
  obtain ⟨z1, z2, z3, z4, z5⟩ := k2
  have hL : p < ze_L g n := by unfold ze_L; omega
  have k3 : c = ze_c g n p := k3
  intro r hr
  apply k1 r
  have k4 : ze_V (ze_c g n) (ze_v g n) (ze_w 0 W) 4 0 true (ze_on 0) (p + 1) x (ze_on b) q := k4
  rw [ze_on0] at k4
  have kc : 4 = ze_c g n q := k5
  have kt : ze_V (ze_c g n) (ze_v g n) (ze_w 0 W) 10 0 true (ze_on 0) (q + 1) t (ze_on d) y := k6
  rw [ze_on0] at kt
  have hd : ze_on d = true := by rw [show d = 1 by omega]; exact ze_on1
  refine zl_st hL (by omega) k4 kc.symm kt ?_
  rw [if_neg (fun z => by have z := z.2.2.1; rw [hd] at z; cases z)]
  exact hr
theorem zl_std_ok {w : zq_Wd} (x_LW : zj_is w 230 (fun q => zl_LW (q 0) (q 1) (q 2) (q 3) (q 4) (q 5))) (x_TX : zj_is w 226 (fun q => ze_TX (q 0) (q 1) (q 2) (q 3) (q 4))) (x_CD : zj_is w 224 (fun q => ze_CD (q 0) (q 1) (q 2) (q 3))) (x_EV : zj_is w 220 (fun q => ze_EV (q 0) (q 1) (q 2) (q 3) (q 4) (q 5) (q 6) (q 7) (q 8) (q 9))) : zq_okG1 w zl_std := by
  refine ⟨rfl, rfl, zu_fac ⟨rfl, by decide⟩ zq_fan, ?_⟩
  intro r P h H hM
  have q0 : zq_ev r (-1, [(5, -1), (6, -1), (7, 1)]) = -r 5 - r 6 + r 7 - 1 := by simp only [zq_ev, zq_ts] <;> omega
  have q1 : zq_ev r (2, [(9, -1)]) = -r 9 + 2 := zu_e5 _ _ _
  have q2 : zq_ev r (-1, [(14, 1)]) = r 14 - 1 := zu_e3 _ _ _
  have q3 : zq_ev r (1, [(14, -1)]) = -r 14 + 1 := zu_e5 _ _ _
  have q4 : zq_ev r (0, [(0, 1)]) = r 0 := zu_e1 _ _
  have q5 : zq_ev r (0, [(1, 1)]) = r 1 := zu_e1 _ _
  have q6 : zq_ev r (0, [(2, 1)]) = r 2 := zu_e1 _ _
  have q7 : zq_ev r (0, [(3, 1)]) = r 3 := zu_e1 _ _
  have q8 : zq_ev r (0, [(4, 1)]) = r 4 := zu_e1 _ _
  have q9 : zq_ev r (0, [(5, 1)]) = r 5 := zu_e1 _ _
  have q10 : zq_ev r (0, [(8, 1)]) = r 8 := zu_e1 _ _
  have q11 : zq_ev r (0, [(6, 1)]) = r 6 := zu_e1 _ _
  have q12 : zq_ev r (0, [(7, 1)]) = r 7 := zu_e1 _ _
  have q13 : zq_ev r (0, [(9, 1)]) = r 9 := zu_e1 _ _
  have q14 : zq_ev r (4, []) = 4 := zu_e0 _ _
  have q15 : zq_ev r (0, []) = 0 := zu_e0 _ _
  have q16 : zq_ev r (1, [(5, 1)]) = r 5 + 1 := zu_e2 _ _ _
  have q17 : zq_ev r (0, [(10, 1)]) = r 10 := zu_e1 _ _
  have q18 : zq_ev r (0, [(11, 1)]) = r 11 := zu_e1 _ _
  have q19 : zq_ev r (0, [(12, 1)]) = r 12 := zu_e1 _ _
  have q20 : zq_ev r (10, []) = 10 := zu_e0 _ _
  have q21 : zq_ev r (1, [(12, 1)]) = r 12 + 1 := zu_e2 _ _ _
  have q22 : zq_ev r (0, [(13, 1)]) = r 13 := zu_e1 _ _
  have q23 : zq_ev r (0, [(14, 1)]) = r 14 := zu_e1 _ _
  have q24 : zq_ev r (0, [(15, 1)]) = r 15 := zu_e1 _ _
  obtain ⟨hT, hC, hF, hS, -, hK⟩ := hM
  have c := hC.1
  have a1 := zq_all_1 c
  rw [q0] at a1
  have c := zq_all_t c
  have a2 := zq_all_1 c
  rw [q1] at a2
  have c := zq_all_t c
  have a3 := zq_all_1 c
  rw [q2] at a3
  have c := zq_all_t c
  have a4 := zq_all_1 c
  rw [q3] at a4
  have k1 := zj_use x_LW (hK)
  have k1 : zl_LW (zq_ev r (0, [(0, 1)])) (zq_ev r (0, [(1, 1)])) (zq_ev r (0, [(2, 1)])) (zq_ev r (0, [(3, 1)])) (zq_ev r (0, [(4, 1)])) (zq_ev r (0, [(5, 1)])) P h := k1
  simp only [q4, q5, q6, q7, q8, q9] at k1
  have k2 := zj_use x_TX (zq_okX_t (hK))
  have k2 : ze_TX (zq_ev r (0, [(8, 1)])) (zq_ev r (0, [(6, 1)])) (zq_ev r (0, [(7, 1)])) (zq_ev r (0, [(1, 1)])) (zq_ev r (0, [(2, 1)])) P h := k2
  simp only [q10, q11, q12, q5, q6] at k2
  have k3 := zj_use x_CD (zq_okX_t (zq_okX_t (hK)))
  have k3 : ze_CD (zq_ev r (0, [(1, 1)])) (zq_ev r (0, [(2, 1)])) (zq_ev r (0, [(5, 1)])) (zq_ev r (0, [(9, 1)])) P h := k3
  simp only [q13, q5, q6, q9] at k3
  have k4 := zj_use x_EV (zq_okX_t (zq_okX_t (zq_okX_t (hK))))
  have k4 : ze_EV (zq_ev r (4, [])) (zq_ev r (0, [(1, 1)])) (zq_ev r (0, [(2, 1)])) (zq_ev r (0, [])) (zq_ev r (0, [(3, 1)])) (zq_ev r (0, [])) (zq_ev r (1, [(5, 1)])) (zq_ev r (0, [(10, 1)])) (zq_ev r (0, [(11, 1)])) (zq_ev r (0, [(12, 1)])) P h := k4
  simp only [q14, q15, q16, q17, q18, q19, q5, q6, q7] at k4
  have k5 := zj_use x_CD (zq_okX_t (zq_okX_t (zq_okX_t (zq_okX_t (hK)))))
  have k5 : ze_CD (zq_ev r (0, [(1, 1)])) (zq_ev r (0, [(2, 1)])) (zq_ev r (0, [(12, 1)])) (zq_ev r (4, [])) P h := k5
  simp only [q14, q19, q5, q6] at k5
  have k6 := zj_use x_EV (zq_okX_t (zq_okX_t (zq_okX_t (zq_okX_t (zq_okX_t (hK))))))
  have k6 : ze_EV (zq_ev r (10, [])) (zq_ev r (0, [(1, 1)])) (zq_ev r (0, [(2, 1)])) (zq_ev r (0, [])) (zq_ev r (0, [(3, 1)])) (zq_ev r (0, [])) (zq_ev r (1, [(12, 1)])) (zq_ev r (0, [(13, 1)])) (zq_ev r (0, [(14, 1)])) (zq_ev r (0, [(15, 1)])) P h := k6
  simp only [q15, q20, q21, q22, q23, q24, q5, q6, q7] at k6
  obtain t1 := zl_std_l (P := P) (h := h) (k := r 0) (g := r 1) (n := r 2) (W := r 3) (a := r 4) (p := r 5) (B := r 6) (E := r 7) (K := r 8) (c := r 9) (x := r 10) (b := r 11) (q := r 12) (t := r 13) (d := r 14) (y := r 15) a1 a2 a3 a4 k1 k2 k3 k4 k5 k6
  obtain ⟨rq, hr⟩ : ∃ rq : Nat → Int, (∀ i, i < 16 → rq i = r i) := ⟨r, fun i hi => rfl⟩
  have v0 : rq 0 = r 0 := hr 0 (by decide)
  have v1 : rq 1 = r 1 := hr 1 (by decide)
  have v2 : rq 2 = r 2 := hr 2 (by decide)
  have v3 : rq 3 = r 3 := hr 3 (by decide)
  have v4 : rq 4 = r 4 := hr 4 (by decide)
  have v15 : rq 15 = r 15 := hr 15 (by decide)
  have g0 : zq_ev rq (0, [(0, 1)]) = r 0 := zu_f1 v0
  have g1 : zq_ev rq (0, [(1, 1)]) = r 1 := zu_f1 v1
  have g2 : zq_ev rq (0, [(2, 1)]) = r 2 := zu_f1 v2
  have g3 : zq_ev rq (0, [(3, 1)]) = r 3 := zu_f1 v3
  have g4 : zq_ev rq (0, [(4, 1)]) = r 4 := zu_f1 v4
  have g5 : zq_ev rq (1, [(15, 1)]) = r 15 + 1 := zu_f2 v15 _
  exact ⟨_, List.mem_cons_self .., rq, hr, zq_MeS_mk rfl hT (zq_all_nil) zq_fan (zq_fan) rfl (zu_fac ((x_LW _ _ _).mpr (by show zl_LW (zq_ev rq (0, [(0, 1)])) (zq_ev rq (0, [(1, 1)])) (zq_ev rq (0, [(2, 1)])) (zq_ev rq (0, [(3, 1)])) (zq_ev rq (0, [(4, 1)])) (zq_ev rq (1, [(15, 1)])) P h; simp only [g0, g1, g2, g3, g4, g5]; exact t1)) zq_fan)⟩
noncomputable def zl_stb : zq_S × List zq_S := (([], [], [(-1, [(5, -1), (6, -1), (7, 1)]), (2, [(9, -1)]), (-1, [(11, 1)]), (1, [(11, -1)])], [], [], [], [(230, [(0, [(0, 1)]), (0, [(1, 1)]), (0, [(2, 1)]), (0, [(3, 1)]), (0, [(4, 1)]), (0, [(5, 1)])]), (226, [(0, [(8, 1)]), (0, [(6, 1)]), (0, [(7, 1)]), (0, [(1, 1)]), (0, [(2, 1)])]), (224, [(0, [(1, 1)]), (0, [(2, 1)]), (0, [(5, 1)]), (0, [(9, 1)])]), (220, [(4, []), (0, [(1, 1)]), (0, [(2, 1)]), (0, []), (0, [(3, 1)]), (0, []), (1, [(5, 1)]), (0, [(10, 1)]), (0, [(11, 1)]), (0, [(12, 1)])]), (224, [(0, [(1, 1)]), (0, [(2, 1)]), (0, [(12, 1)]), (4, [])]), (220, [(10, []), (0, [(1, 1)]), (0, [(2, 1)]), (0, []), (0, [(3, 1)]), (0, []), (1, [(12, 1)]), (0, [(13, 1)]), (0, [(14, 1)]), (0, [(15, 1)])])], 16), [([], [], [], [], [], [], [(230, [(0, [(0, 1)]), (0, [(1, 1)]), (0, [(2, 1)]), (0, [(3, 1)]), (0, [(4, 1)]), (1, [(15, 1)])])], 16)])
theorem zl_stb_l {P : zq_Ty} {h : zq_H} {k g n W a p B E K c x b q t d y : Int} (a1 : 0 ≤ -p - B + E - 1) (a2 : 0 ≤ -c + 2) (a3 : 0 ≤ b - 1) (a4 : 0 ≤ -b + 1) (k1 : zl_LW k g n W a p P h) (k2 : ze_TX K B E g n P h) (k3 : ze_CD g n p c P h) (k4 : ze_EV 4 g n 0 W 0 (p + 1) x b q P h) (k5 : ze_CD g n q 4 P h) (k6 : ze_EV 10 g n 0 W 0 (q + 1) t d y P h) : (zl_LW k g n W a (y + 1) P h) := by
  obtain ⟨z1, z2, z3, z4, z5⟩ := k2
  have hL : p < ze_L g n := by unfold ze_L; omega
  have k3 : c = ze_c g n p := k3
  intro r hr
  apply k1 r
  have k4 : ze_V (ze_c g n) (ze_v g n) (ze_w 0 W) 4 0 true (ze_on 0) (p + 1) x (ze_on b) q := k4
  rw [ze_on0] at k4
  have kc : 4 = ze_c g n q := k5
  have kt : ze_V (ze_c g n) (ze_v g n) (ze_w 0 W) 10 0 true (ze_on 0) (q + 1) t (ze_on d) y := k6
  rw [ze_on0] at kt
  have hb : ze_on b = true := by rw [show b = 1 by omega]; exact ze_on1
  refine zl_st hL (by omega) k4 kc.symm kt ?_
  rw [if_neg (fun z => by have z := z.2.2.2; rw [hb] at z; cases z)]
  exact hr
theorem zl_stb_ok {w : zq_Wd} (x_LW : zj_is w 230 (fun q => zl_LW (q 0) (q 1) (q 2) (q 3) (q 4) (q 5))) (x_TX : zj_is w 226 (fun q => ze_TX (q 0) (q 1) (q 2) (q 3) (q 4))) (x_CD : zj_is w 224 (fun q => ze_CD (q 0) (q 1) (q 2) (q 3))) (x_EV : zj_is w 220 (fun q => ze_EV (q 0) (q 1) (q 2) (q 3) (q 4) (q 5) (q 6) (q 7) (q 8) (q 9))) : zq_okG1 w zl_stb := by
  refine ⟨rfl, rfl, zu_fac ⟨rfl, by decide⟩ zq_fan, ?_⟩
  intro r P h H hM
  have q0 : zq_ev r (-1, [(5, -1), (6, -1), (7, 1)]) = -r 5 - r 6 + r 7 - 1 := by simp only [zq_ev, zq_ts] <;> omega
  have q1 : zq_ev r (2, [(9, -1)]) = -r 9 + 2 := zu_e5 _ _ _
  have q2 : zq_ev r (-1, [(11, 1)]) = r 11 - 1 := zu_e3 _ _ _
  have q3 : zq_ev r (1, [(11, -1)]) = -r 11 + 1 := zu_e5 _ _ _
  have q4 : zq_ev r (0, [(0, 1)]) = r 0 := zu_e1 _ _
  have q5 : zq_ev r (0, [(1, 1)]) = r 1 := zu_e1 _ _
  have q6 : zq_ev r (0, [(2, 1)]) = r 2 := zu_e1 _ _
  have q7 : zq_ev r (0, [(3, 1)]) = r 3 := zu_e1 _ _
  have q8 : zq_ev r (0, [(4, 1)]) = r 4 := zu_e1 _ _
  have q9 : zq_ev r (0, [(5, 1)]) = r 5 := zu_e1 _ _
  have q10 : zq_ev r (0, [(8, 1)]) = r 8 := zu_e1 _ _
  have q11 : zq_ev r (0, [(6, 1)]) = r 6 := zu_e1 _ _
  have q12 : zq_ev r (0, [(7, 1)]) = r 7 := zu_e1 _ _
  have q13 : zq_ev r (0, [(9, 1)]) = r 9 := zu_e1 _ _
  have q14 : zq_ev r (4, []) = 4 := zu_e0 _ _
  have q15 : zq_ev r (0, []) = 0 := zu_e0 _ _
  have q16 : zq_ev r (1, [(5, 1)]) = r 5 + 1 := zu_e2 _ _ _
  have q17 : zq_ev r (0, [(10, 1)]) = r 10 := zu_e1 _ _
  have q18 : zq_ev r (0, [(11, 1)]) = r 11 := zu_e1 _ _
  have q19 : zq_ev r (0, [(12, 1)]) = r 12 := zu_e1 _ _
  have q20 : zq_ev r (10, []) = 10 := zu_e0 _ _
  have q21 : zq_ev r (1, [(12, 1)]) = r 12 + 1 := zu_e2 _ _ _
  have q22 : zq_ev r (0, [(13, 1)]) = r 13 := zu_e1 _ _
  have q23 : zq_ev r (0, [(14, 1)]) = r 14 := zu_e1 _ _
  have q24 : zq_ev r (0, [(15, 1)]) = r 15 := zu_e1 _ _
  obtain ⟨hT, hC, hF, hS, -, hK⟩ := hM
  have c := hC.1
  have a1 := zq_all_1 c
  rw [q0] at a1
  have c := zq_all_t c
  have a2 := zq_all_1 c
  rw [q1] at a2
  have c := zq_all_t c
  have a3 := zq_all_1 c
  rw [q2] at a3
  have c := zq_all_t c
  have a4 := zq_all_1 c
  rw [q3] at a4
  have k1 := zj_use x_LW (hK)
  have k1 : zl_LW (zq_ev r (0, [(0, 1)])) (zq_ev r (0, [(1, 1)])) (zq_ev r (0, [(2, 1)])) (zq_ev r (0, [(3, 1)])) (zq_ev r (0, [(4, 1)])) (zq_ev r (0, [(5, 1)])) P h := k1
  simp only [q4, q5, q6, q7, q8, q9] at k1
  have k2 := zj_use x_TX (zq_okX_t (hK))
  have k2 : ze_TX (zq_ev r (0, [(8, 1)])) (zq_ev r (0, [(6, 1)])) (zq_ev r (0, [(7, 1)])) (zq_ev r (0, [(1, 1)])) (zq_ev r (0, [(2, 1)])) P h := k2
  simp only [q10, q11, q12, q5, q6] at k2
  have k3 := zj_use x_CD (zq_okX_t (zq_okX_t (hK)))
  have k3 : ze_CD (zq_ev r (0, [(1, 1)])) (zq_ev r (0, [(2, 1)])) (zq_ev r (0, [(5, 1)])) (zq_ev r (0, [(9, 1)])) P h := k3
  simp only [q13, q5, q6, q9] at k3
  have k4 := zj_use x_EV (zq_okX_t (zq_okX_t (zq_okX_t (hK))))
  have k4 : ze_EV (zq_ev r (4, [])) (zq_ev r (0, [(1, 1)])) (zq_ev r (0, [(2, 1)])) (zq_ev r (0, [])) (zq_ev r (0, [(3, 1)])) (zq_ev r (0, [])) (zq_ev r (1, [(5, 1)])) (zq_ev r (0, [(10, 1)])) (zq_ev r (0, [(11, 1)])) (zq_ev r (0, [(12, 1)])) P h := k4
  simp only [q14, q15, q16, q17, q18, q19, q5, q6, q7] at k4
  have k5 := zj_use x_CD (zq_okX_t (zq_okX_t (zq_okX_t (zq_okX_t (hK)))))
  have k5 : ze_CD (zq_ev r (0, [(1, 1)])) (zq_ev r (0, [(2, 1)])) (zq_ev r (0, [(12, 1)])) (zq_ev r (4, [])) P h := k5
  simp only [q14, q19, q5, q6] at k5
  have k6 := zj_use x_EV (zq_okX_t (zq_okX_t (zq_okX_t (zq_okX_t (zq_okX_t (hK))))))
  have k6 : ze_EV (zq_ev r (10, [])) (zq_ev r (0, [(1, 1)])) (zq_ev r (0, [(2, 1)])) (zq_ev r (0, [])) (zq_ev r (0, [(3, 1)])) (zq_ev r (0, [])) (zq_ev r (1, [(12, 1)])) (zq_ev r (0, [(13, 1)])) (zq_ev r (0, [(14, 1)])) (zq_ev r (0, [(15, 1)])) P h := k6
  simp only [q15, q20, q21, q22, q23, q24, q5, q6, q7] at k6
  obtain t1 := zl_stb_l (P := P) (h := h) (k := r 0) (g := r 1) (n := r 2) (W := r 3) (a := r 4) (p := r 5) (B := r 6) (E := r 7) (K := r 8) (c := r 9) (x := r 10) (b := r 11) (q := r 12) (t := r 13) (d := r 14) (y := r 15) a1 a2 a3 a4 k1 k2 k3 k4 k5 k6
  obtain ⟨rq, hr⟩ : ∃ rq : Nat → Int, (∀ i, i < 16 → rq i = r i) := ⟨r, fun i hi => rfl⟩
  have v0 : rq 0 = r 0 := hr 0 (by decide)
  have v1 : rq 1 = r 1 := hr 1 (by decide)
  have v2 : rq 2 = r 2 := hr 2 (by decide)
  have v3 : rq 3 = r 3 := hr 3 (by decide)
  have v4 : rq 4 = r 4 := hr 4 (by decide)
  have v15 : rq 15 = r 15 := hr 15 (by decide)
  have g0 : zq_ev rq (0, [(0, 1)]) = r 0 := zu_f1 v0
  have g1 : zq_ev rq (0, [(1, 1)]) = r 1 := zu_f1 v1
  have g2 : zq_ev rq (0, [(2, 1)]) = r 2 := zu_f1 v2
  have g3 : zq_ev rq (0, [(3, 1)]) = r 3 := zu_f1 v3
  have g4 : zq_ev rq (0, [(4, 1)]) = r 4 := zu_f1 v4
  have g5 : zq_ev rq (1, [(15, 1)]) = r 15 + 1 := zu_f2 v15 _
  exact ⟨_, List.mem_cons_self .., rq, hr, zq_MeS_mk rfl hT (zq_all_nil) zq_fan (zq_fan) rfl (zu_fac ((x_LW _ _ _).mpr (by show zl_LW (zq_ev rq (0, [(0, 1)])) (zq_ev rq (0, [(1, 1)])) (zq_ev rq (0, [(2, 1)])) (zq_ev rq (0, [(3, 1)])) (zq_ev rq (0, [(4, 1)])) (zq_ev rq (1, [(15, 1)])) P h; simp only [g0, g1, g2, g3, g4, g5]; exact t1)) zq_fan)⟩
noncomputable def zl_s0y3 : zq_S × List zq_S := (([], [], [(-1, [(5, -1), (6, -1), (7, 1)]), (2, [(9, -1)]), (0, [(0, -1), (9, 1)]), (0, [(0, 1), (9, -1)]), (0, [(11, -1)]), (0, [(11, 1)]), (3, [(13, -1)])], [], [], [], [(230, [(0, [(0, 1)]), (0, [(1, 1)]), (0, [(2, 1)]), (0, [(3, 1)]), (0, [(4, 1)]), (0, [(5, 1)])]), (226, [(0, [(8, 1)]), (0, [(6, 1)]), (0, [(7, 1)]), (0, [(1, 1)]), (0, [(2, 1)])]), (224, [(0, [(1, 1)]), (0, [(2, 1)]), (0, [(5, 1)]), (0, [(9, 1)])]), (220, [(4, []), (0, [(1, 1)]), (0, [(2, 1)]), (0, []), (0, [(3, 1)]), (0, []), (1, [(5, 1)]), (0, [(10, 1)]), (0, [(11, 1)]), (0, [(12, 1)])]), (224, [(0, [(1, 1)]), (0, [(2, 1)]), (0, [(12, 1)]), (0, [(13, 1)])])], 14), [([], [], [], [], [], [], [(230, [(0, [(0, 1)]), (0, [(1, 1)]), (0, [(2, 1)]), (0, [(3, 1)]), (0, [(10, 1)]), (1, [(12, 1)])])], 14)])
theorem zl_s0y3_l {P : zq_Ty} {h : zq_H} {k g n W a p B E K c x b q s : Int} (a1 : 0 ≤ -p - B + E - 1) (a2 : 0 ≤ -c + 2) (a3 : 0 ≤ -k + c) (a4 : 0 ≤ k - c) (a5 : 0 ≤ -b) (a6 : 0 ≤ b) (a7 : 0 ≤ -s + 3) (k1 : zl_LW k g n W a p P h) (k2 : ze_TX K B E g n P h) (k3 : ze_CD g n p c P h) (k4 : ze_EV 4 g n 0 W 0 (p + 1) x b q P h) (k5 : ze_CD g n q s P h) : (zl_LW k g n W x (q + 1) P h) := by
  obtain ⟨z1, z2, z3, z4, z5⟩ := k2
  have hL : p < ze_L g n := by unfold ze_L; omega
  have k3 : c = ze_c g n p := k3
  intro r hr
  apply k1 r
  have k4 : ze_V (ze_c g n) (ze_v g n) (ze_w 0 W) 4 0 true (ze_on 0) (p + 1) x (ze_on b) q := k4
  rw [ze_on0] at k4
  have kc : s = ze_c g n q := k5
  have hb : ze_on b = false := by rw [show b = 0 by omega]; exact ze_on0
  refine zl_s0 hL (by omega) k4 (by omega) ?_
  rw [if_pos ⟨by omega, hb⟩]
  exact hr
theorem zl_s0y3_ok {w : zq_Wd} (x_LW : zj_is w 230 (fun q => zl_LW (q 0) (q 1) (q 2) (q 3) (q 4) (q 5))) (x_TX : zj_is w 226 (fun q => ze_TX (q 0) (q 1) (q 2) (q 3) (q 4))) (x_CD : zj_is w 224 (fun q => ze_CD (q 0) (q 1) (q 2) (q 3))) (x_EV : zj_is w 220 (fun q => ze_EV (q 0) (q 1) (q 2) (q 3) (q 4) (q 5) (q 6) (q 7) (q 8) (q 9))) : zq_okG1 w zl_s0y3 := by
  refine ⟨rfl, rfl, zu_fac ⟨rfl, by decide⟩ zq_fan, ?_⟩
  intro r P h H hM
  have q0 : zq_ev r (-1, [(5, -1), (6, -1), (7, 1)]) = -r 5 - r 6 + r 7 - 1 := by simp only [zq_ev, zq_ts] <;> omega
  have q1 : zq_ev r (2, [(9, -1)]) = -r 9 + 2 := zu_e5 _ _ _
  have q2 : zq_ev r (0, [(0, -1), (9, 1)]) = -r 0 + r 9 := by simp only [zq_ev, zq_ts] <;> omega
  have q3 : zq_ev r (0, [(0, 1), (9, -1)]) = r 0 - r 9 := by simp only [zq_ev, zq_ts] <;> omega
  have q4 : zq_ev r (0, [(11, -1)]) = -r 11 := zu_e4 _ _
  have q5 : zq_ev r (0, [(11, 1)]) = r 11 := zu_e1 _ _
  have q6 : zq_ev r (3, [(13, -1)]) = -r 13 + 3 := zu_e5 _ _ _
  have q7 : zq_ev r (0, [(0, 1)]) = r 0 := zu_e1 _ _
  have q8 : zq_ev r (0, [(1, 1)]) = r 1 := zu_e1 _ _
  have q9 : zq_ev r (0, [(2, 1)]) = r 2 := zu_e1 _ _
  have q10 : zq_ev r (0, [(3, 1)]) = r 3 := zu_e1 _ _
  have q11 : zq_ev r (0, [(4, 1)]) = r 4 := zu_e1 _ _
  have q12 : zq_ev r (0, [(5, 1)]) = r 5 := zu_e1 _ _
  have q13 : zq_ev r (0, [(8, 1)]) = r 8 := zu_e1 _ _
  have q14 : zq_ev r (0, [(6, 1)]) = r 6 := zu_e1 _ _
  have q15 : zq_ev r (0, [(7, 1)]) = r 7 := zu_e1 _ _
  have q16 : zq_ev r (0, [(9, 1)]) = r 9 := zu_e1 _ _
  have q17 : zq_ev r (4, []) = 4 := zu_e0 _ _
  have q18 : zq_ev r (0, []) = 0 := zu_e0 _ _
  have q19 : zq_ev r (1, [(5, 1)]) = r 5 + 1 := zu_e2 _ _ _
  have q20 : zq_ev r (0, [(10, 1)]) = r 10 := zu_e1 _ _
  have q21 : zq_ev r (0, [(12, 1)]) = r 12 := zu_e1 _ _
  have q22 : zq_ev r (0, [(13, 1)]) = r 13 := zu_e1 _ _
  obtain ⟨hT, hC, hF, hS, -, hK⟩ := hM
  have c := hC.1
  have a1 := zq_all_1 c
  rw [q0] at a1
  have c := zq_all_t c
  have a2 := zq_all_1 c
  rw [q1] at a2
  have c := zq_all_t c
  have a3 := zq_all_1 c
  rw [q2] at a3
  have c := zq_all_t c
  have a4 := zq_all_1 c
  rw [q3] at a4
  have c := zq_all_t c
  have a5 := zq_all_1 c
  rw [q4] at a5
  have c := zq_all_t c
  have a6 := zq_all_1 c
  rw [q5] at a6
  have c := zq_all_t c
  have a7 := zq_all_1 c
  rw [q6] at a7
  have k1 := zj_use x_LW (hK)
  have k1 : zl_LW (zq_ev r (0, [(0, 1)])) (zq_ev r (0, [(1, 1)])) (zq_ev r (0, [(2, 1)])) (zq_ev r (0, [(3, 1)])) (zq_ev r (0, [(4, 1)])) (zq_ev r (0, [(5, 1)])) P h := k1
  simp only [q10, q11, q12, q7, q8, q9] at k1
  have k2 := zj_use x_TX (zq_okX_t (hK))
  have k2 : ze_TX (zq_ev r (0, [(8, 1)])) (zq_ev r (0, [(6, 1)])) (zq_ev r (0, [(7, 1)])) (zq_ev r (0, [(1, 1)])) (zq_ev r (0, [(2, 1)])) P h := k2
  simp only [q13, q14, q15, q8, q9] at k2
  have k3 := zj_use x_CD (zq_okX_t (zq_okX_t (hK)))
  have k3 : ze_CD (zq_ev r (0, [(1, 1)])) (zq_ev r (0, [(2, 1)])) (zq_ev r (0, [(5, 1)])) (zq_ev r (0, [(9, 1)])) P h := k3
  simp only [q12, q16, q8, q9] at k3
  have k4 := zj_use x_EV (zq_okX_t (zq_okX_t (zq_okX_t (hK))))
  have k4 : ze_EV (zq_ev r (4, [])) (zq_ev r (0, [(1, 1)])) (zq_ev r (0, [(2, 1)])) (zq_ev r (0, [])) (zq_ev r (0, [(3, 1)])) (zq_ev r (0, [])) (zq_ev r (1, [(5, 1)])) (zq_ev r (0, [(10, 1)])) (zq_ev r (0, [(11, 1)])) (zq_ev r (0, [(12, 1)])) P h := k4
  simp only [q10, q17, q18, q19, q20, q21, q5, q8, q9] at k4
  have k5 := zj_use x_CD (zq_okX_t (zq_okX_t (zq_okX_t (zq_okX_t (hK)))))
  have k5 : ze_CD (zq_ev r (0, [(1, 1)])) (zq_ev r (0, [(2, 1)])) (zq_ev r (0, [(12, 1)])) (zq_ev r (0, [(13, 1)])) P h := k5
  simp only [q21, q22, q8, q9] at k5
  obtain t1 := zl_s0y3_l (P := P) (h := h) (k := r 0) (g := r 1) (n := r 2) (W := r 3) (a := r 4) (p := r 5) (B := r 6) (E := r 7) (K := r 8) (c := r 9) (x := r 10) (b := r 11) (q := r 12) (s := r 13) a1 a2 a3 a4 a5 a6 a7 k1 k2 k3 k4 k5
  obtain ⟨rq, hr⟩ : ∃ rq : Nat → Int, (∀ i, i < 14 → rq i = r i) := ⟨r, fun i hi => rfl⟩
  have v0 : rq 0 = r 0 := hr 0 (by decide)
  have v1 : rq 1 = r 1 := hr 1 (by decide)
  have v2 : rq 2 = r 2 := hr 2 (by decide)
  have v3 : rq 3 = r 3 := hr 3 (by decide)
  have v10 : rq 10 = r 10 := hr 10 (by decide)
  have v12 : rq 12 = r 12 := hr 12 (by decide)
  have g0 : zq_ev rq (0, [(0, 1)]) = r 0 := zu_f1 v0
  have g1 : zq_ev rq (0, [(1, 1)]) = r 1 := zu_f1 v1
  have g2 : zq_ev rq (0, [(2, 1)]) = r 2 := zu_f1 v2
  have g3 : zq_ev rq (0, [(3, 1)]) = r 3 := zu_f1 v3
  have g4 : zq_ev rq (0, [(10, 1)]) = r 10 := zu_f1 v10
  have g5 : zq_ev rq (1, [(12, 1)]) = r 12 + 1 := zu_f2 v12 _
  exact ⟨_, List.mem_cons_self .., rq, hr, zq_MeS_mk rfl hT (zq_all_nil) zq_fan (zq_fan) rfl (zu_fac ((x_LW _ _ _).mpr (by show zl_LW (zq_ev rq (0, [(0, 1)])) (zq_ev rq (0, [(1, 1)])) (zq_ev rq (0, [(2, 1)])) (zq_ev rq (0, [(3, 1)])) (zq_ev rq (0, [(10, 1)])) (zq_ev rq (1, [(12, 1)])) P h; simp only [g0, g1, g2, g3, g4, g5]; exact t1)) zq_fan)⟩
noncomputable def zl_s0y5 : zq_S × List zq_S := (([], [], [(-1, [(5, -1), (6, -1), (7, 1)]), (2, [(9, -1)]), (0, [(0, -1), (9, 1)]), (0, [(0, 1), (9, -1)]), (0, [(11, -1)]), (0, [(11, 1)]), (-5, [(13, 1)])], [], [], [], [(230, [(0, [(0, 1)]), (0, [(1, 1)]), (0, [(2, 1)]), (0, [(3, 1)]), (0, [(4, 1)]), (0, [(5, 1)])]), (226, [(0, [(8, 1)]), (0, [(6, 1)]), (0, [(7, 1)]), (0, [(1, 1)]), (0, [(2, 1)])]), (224, [(0, [(1, 1)]), (0, [(2, 1)]), (0, [(5, 1)]), (0, [(9, 1)])]), (220, [(4, []), (0, [(1, 1)]), (0, [(2, 1)]), (0, []), (0, [(3, 1)]), (0, []), (1, [(5, 1)]), (0, [(10, 1)]), (0, [(11, 1)]), (0, [(12, 1)])]), (224, [(0, [(1, 1)]), (0, [(2, 1)]), (0, [(12, 1)]), (0, [(13, 1)])])], 14), [([], [], [], [], [], [], [(230, [(0, [(0, 1)]), (0, [(1, 1)]), (0, [(2, 1)]), (0, [(3, 1)]), (0, [(10, 1)]), (1, [(12, 1)])])], 14)])
theorem zl_s0y5_l {P : zq_Ty} {h : zq_H} {k g n W a p B E K c x b q s : Int} (a1 : 0 ≤ -p - B + E - 1) (a2 : 0 ≤ -c + 2) (a3 : 0 ≤ -k + c) (a4 : 0 ≤ k - c) (a5 : 0 ≤ -b) (a6 : 0 ≤ b) (a7 : 0 ≤ s - 5) (k1 : zl_LW k g n W a p P h) (k2 : ze_TX K B E g n P h) (k3 : ze_CD g n p c P h) (k4 : ze_EV 4 g n 0 W 0 (p + 1) x b q P h) (k5 : ze_CD g n q s P h) : (zl_LW k g n W x (q + 1) P h) := by
  obtain ⟨z1, z2, z3, z4, z5⟩ := k2
  have hL : p < ze_L g n := by unfold ze_L; omega
  have k3 : c = ze_c g n p := k3
  intro r hr
  apply k1 r
  have k4 : ze_V (ze_c g n) (ze_v g n) (ze_w 0 W) 4 0 true (ze_on 0) (p + 1) x (ze_on b) q := k4
  rw [ze_on0] at k4
  have kc : s = ze_c g n q := k5
  have hb : ze_on b = false := by rw [show b = 0 by omega]; exact ze_on0
  refine zl_s0 hL (by omega) k4 (by omega) ?_
  rw [if_pos ⟨by omega, hb⟩]
  exact hr
theorem zl_s0y5_ok {w : zq_Wd} (x_LW : zj_is w 230 (fun q => zl_LW (q 0) (q 1) (q 2) (q 3) (q 4) (q 5))) (x_TX : zj_is w 226 (fun q => ze_TX (q 0) (q 1) (q 2) (q 3) (q 4))) (x_CD : zj_is w 224 (fun q => ze_CD (q 0) (q 1) (q 2) (q 3))) (x_EV : zj_is w 220 (fun q => ze_EV (q 0) (q 1) (q 2) (q 3) (q 4) (q 5) (q 6) (q 7) (q 8) (q 9))) : zq_okG1 w zl_s0y5 := by
  refine ⟨rfl, rfl, zu_fac ⟨rfl, by decide⟩ zq_fan, ?_⟩
  intro r P h H hM
  have q0 : zq_ev r (-1, [(5, -1), (6, -1), (7, 1)]) = -r 5 - r 6 + r 7 - 1 := by simp only [zq_ev, zq_ts] <;> omega
  have q1 : zq_ev r (2, [(9, -1)]) = -r 9 + 2 := zu_e5 _ _ _
  have q2 : zq_ev r (0, [(0, -1), (9, 1)]) = -r 0 + r 9 := by simp only [zq_ev, zq_ts] <;> omega
  have q3 : zq_ev r (0, [(0, 1), (9, -1)]) = r 0 - r 9 := by simp only [zq_ev, zq_ts] <;> omega
  have q4 : zq_ev r (0, [(11, -1)]) = -r 11 := zu_e4 _ _
  have q5 : zq_ev r (0, [(11, 1)]) = r 11 := zu_e1 _ _
  have q6 : zq_ev r (-5, [(13, 1)]) = r 13 - 5 := zu_e3 _ _ _
  have q7 : zq_ev r (0, [(0, 1)]) = r 0 := zu_e1 _ _
  have q8 : zq_ev r (0, [(1, 1)]) = r 1 := zu_e1 _ _
  have q9 : zq_ev r (0, [(2, 1)]) = r 2 := zu_e1 _ _
  have q10 : zq_ev r (0, [(3, 1)]) = r 3 := zu_e1 _ _
  have q11 : zq_ev r (0, [(4, 1)]) = r 4 := zu_e1 _ _
  have q12 : zq_ev r (0, [(5, 1)]) = r 5 := zu_e1 _ _
  have q13 : zq_ev r (0, [(8, 1)]) = r 8 := zu_e1 _ _
  have q14 : zq_ev r (0, [(6, 1)]) = r 6 := zu_e1 _ _
  have q15 : zq_ev r (0, [(7, 1)]) = r 7 := zu_e1 _ _
  have q16 : zq_ev r (0, [(9, 1)]) = r 9 := zu_e1 _ _
  have q17 : zq_ev r (4, []) = 4 := zu_e0 _ _
  have q18 : zq_ev r (0, []) = 0 := zu_e0 _ _
  have q19 : zq_ev r (1, [(5, 1)]) = r 5 + 1 := zu_e2 _ _ _
  have q20 : zq_ev r (0, [(10, 1)]) = r 10 := zu_e1 _ _
  have q21 : zq_ev r (0, [(12, 1)]) = r 12 := zu_e1 _ _
  have q22 : zq_ev r (0, [(13, 1)]) = r 13 := zu_e1 _ _
  obtain ⟨hT, hC, hF, hS, -, hK⟩ := hM
  have c := hC.1
  have a1 := zq_all_1 c
  rw [q0] at a1
  have c := zq_all_t c
  have a2 := zq_all_1 c
  rw [q1] at a2
  have c := zq_all_t c
  have a3 := zq_all_1 c
  rw [q2] at a3
  have c := zq_all_t c
  have a4 := zq_all_1 c
  rw [q3] at a4
  have c := zq_all_t c
  have a5 := zq_all_1 c
  rw [q4] at a5
  have c := zq_all_t c
  have a6 := zq_all_1 c
  rw [q5] at a6
  have c := zq_all_t c
  have a7 := zq_all_1 c
  rw [q6] at a7
  have k1 := zj_use x_LW (hK)
  have k1 : zl_LW (zq_ev r (0, [(0, 1)])) (zq_ev r (0, [(1, 1)])) (zq_ev r (0, [(2, 1)])) (zq_ev r (0, [(3, 1)])) (zq_ev r (0, [(4, 1)])) (zq_ev r (0, [(5, 1)])) P h := k1
  simp only [q10, q11, q12, q7, q8, q9] at k1
  have k2 := zj_use x_TX (zq_okX_t (hK))
  have k2 : ze_TX (zq_ev r (0, [(8, 1)])) (zq_ev r (0, [(6, 1)])) (zq_ev r (0, [(7, 1)])) (zq_ev r (0, [(1, 1)])) (zq_ev r (0, [(2, 1)])) P h := k2
  simp only [q13, q14, q15, q8, q9] at k2
  have k3 := zj_use x_CD (zq_okX_t (zq_okX_t (hK)))
  have k3 : ze_CD (zq_ev r (0, [(1, 1)])) (zq_ev r (0, [(2, 1)])) (zq_ev r (0, [(5, 1)])) (zq_ev r (0, [(9, 1)])) P h := k3
  simp only [q12, q16, q8, q9] at k3
  have k4 := zj_use x_EV (zq_okX_t (zq_okX_t (zq_okX_t (hK))))
  have k4 : ze_EV (zq_ev r (4, [])) (zq_ev r (0, [(1, 1)])) (zq_ev r (0, [(2, 1)])) (zq_ev r (0, [])) (zq_ev r (0, [(3, 1)])) (zq_ev r (0, [])) (zq_ev r (1, [(5, 1)])) (zq_ev r (0, [(10, 1)])) (zq_ev r (0, [(11, 1)])) (zq_ev r (0, [(12, 1)])) P h := k4
  simp only [q10, q17, q18, q19, q20, q21, q5, q8, q9] at k4
  have k5 := zj_use x_CD (zq_okX_t (zq_okX_t (zq_okX_t (zq_okX_t (hK)))))
  have k5 : ze_CD (zq_ev r (0, [(1, 1)])) (zq_ev r (0, [(2, 1)])) (zq_ev r (0, [(12, 1)])) (zq_ev r (0, [(13, 1)])) P h := k5
  simp only [q21, q22, q8, q9] at k5
  obtain t1 := zl_s0y5_l (P := P) (h := h) (k := r 0) (g := r 1) (n := r 2) (W := r 3) (a := r 4) (p := r 5) (B := r 6) (E := r 7) (K := r 8) (c := r 9) (x := r 10) (b := r 11) (q := r 12) (s := r 13) a1 a2 a3 a4 a5 a6 a7 k1 k2 k3 k4 k5
  obtain ⟨rq, hr⟩ : ∃ rq : Nat → Int, (∀ i, i < 14 → rq i = r i) := ⟨r, fun i hi => rfl⟩
  have v0 : rq 0 = r 0 := hr 0 (by decide)
  have v1 : rq 1 = r 1 := hr 1 (by decide)
  have v2 : rq 2 = r 2 := hr 2 (by decide)
  have v3 : rq 3 = r 3 := hr 3 (by decide)
  have v10 : rq 10 = r 10 := hr 10 (by decide)
  have v12 : rq 12 = r 12 := hr 12 (by decide)
  have g0 : zq_ev rq (0, [(0, 1)]) = r 0 := zu_f1 v0
  have g1 : zq_ev rq (0, [(1, 1)]) = r 1 := zu_f1 v1
  have g2 : zq_ev rq (0, [(2, 1)]) = r 2 := zu_f1 v2
  have g3 : zq_ev rq (0, [(3, 1)]) = r 3 := zu_f1 v3
  have g4 : zq_ev rq (0, [(10, 1)]) = r 10 := zu_f1 v10
  have g5 : zq_ev rq (1, [(12, 1)]) = r 12 + 1 := zu_f2 v12 _
  exact ⟨_, List.mem_cons_self .., rq, hr, zq_MeS_mk rfl hT (zq_all_nil) zq_fan (zq_fan) rfl (zu_fac ((x_LW _ _ _).mpr (by show zl_LW (zq_ev rq (0, [(0, 1)])) (zq_ev rq (0, [(1, 1)])) (zq_ev rq (0, [(2, 1)])) (zq_ev rq (0, [(3, 1)])) (zq_ev rq (0, [(10, 1)])) (zq_ev rq (1, [(12, 1)])) P h; simp only [g0, g1, g2, g3, g4, g5]; exact t1)) zq_fan)⟩
noncomputable def zl_s0hg3 : zq_S × List zq_S := (([], [], [(-1, [(5, -1), (6, -1), (7, 1)]), (2, [(9, -1)]), (-1, [(0, -1), (9, 1)]), (3, [(13, -1)])], [], [], [], [(230, [(0, [(0, 1)]), (0, [(1, 1)]), (0, [(2, 1)]), (0, [(3, 1)]), (0, [(4, 1)]), (0, [(5, 1)])]), (226, [(0, [(8, 1)]), (0, [(6, 1)]), (0, [(7, 1)]), (0, [(1, 1)]), (0, [(2, 1)])]), (224, [(0, [(1, 1)]), (0, [(2, 1)]), (0, [(5, 1)]), (0, [(9, 1)])]), (220, [(4, []), (0, [(1, 1)]), (0, [(2, 1)]), (0, []), (0, [(3, 1)]), (0, []), (1, [(5, 1)]), (0, [(10, 1)]), (0, [(11, 1)]), (0, [(12, 1)])]), (224, [(0, [(1, 1)]), (0, [(2, 1)]), (0, [(12, 1)]), (0, [(13, 1)])])], 14), [([], [], [], [], [], [], [(230, [(0, [(0, 1)]), (0, [(1, 1)]), (0, [(2, 1)]), (0, [(3, 1)]), (0, [(4, 1)]), (1, [(12, 1)])])], 14)])
theorem zl_s0hg3_l {P : zq_Ty} {h : zq_H} {k g n W a p B E K c x b q s : Int} (a1 : 0 ≤ -p - B + E - 1) (a2 : 0 ≤ -c + 2) (a3 : 0 ≤ -k + c - 1) (a4 : 0 ≤ -s + 3) (k1 : zl_LW k g n W a p P h) (k2 : ze_TX K B E g n P h) (k3 : ze_CD g n p c P h) (k4 : ze_EV 4 g n 0 W 0 (p + 1) x b q P h) (k5 : ze_CD g n q s P h) : (zl_LW k g n W a (q + 1) P h) := by
  obtain ⟨z1, z2, z3, z4, z5⟩ := k2
  have hL : p < ze_L g n := by unfold ze_L; omega
  have k3 : c = ze_c g n p := k3
  intro r hr
  apply k1 r
  have k4 : ze_V (ze_c g n) (ze_v g n) (ze_w 0 W) 4 0 true (ze_on 0) (p + 1) x (ze_on b) q := k4
  rw [ze_on0] at k4
  have kc : s = ze_c g n q := k5
  refine zl_s0 hL (by omega) k4 (by omega) ?_
  rw [if_neg (fun z => by have z := z.1; omega)]
  exact hr
theorem zl_s0hg3_ok {w : zq_Wd} (x_LW : zj_is w 230 (fun q => zl_LW (q 0) (q 1) (q 2) (q 3) (q 4) (q 5))) (x_TX : zj_is w 226 (fun q => ze_TX (q 0) (q 1) (q 2) (q 3) (q 4))) (x_CD : zj_is w 224 (fun q => ze_CD (q 0) (q 1) (q 2) (q 3))) (x_EV : zj_is w 220 (fun q => ze_EV (q 0) (q 1) (q 2) (q 3) (q 4) (q 5) (q 6) (q 7) (q 8) (q 9))) : zq_okG1 w zl_s0hg3 := by
  refine ⟨rfl, rfl, zu_fac ⟨rfl, by decide⟩ zq_fan, ?_⟩
  intro r P h H hM
  have q0 : zq_ev r (-1, [(5, -1), (6, -1), (7, 1)]) = -r 5 - r 6 + r 7 - 1 := by simp only [zq_ev, zq_ts] <;> omega
  have q1 : zq_ev r (2, [(9, -1)]) = -r 9 + 2 := zu_e5 _ _ _
  have q2 : zq_ev r (-1, [(0, -1), (9, 1)]) = -r 0 + r 9 - 1 := by simp only [zq_ev, zq_ts] <;> omega
  have q3 : zq_ev r (3, [(13, -1)]) = -r 13 + 3 := zu_e5 _ _ _
  have q4 : zq_ev r (0, [(0, 1)]) = r 0 := zu_e1 _ _
  have q5 : zq_ev r (0, [(1, 1)]) = r 1 := zu_e1 _ _
  have q6 : zq_ev r (0, [(2, 1)]) = r 2 := zu_e1 _ _
  have q7 : zq_ev r (0, [(3, 1)]) = r 3 := zu_e1 _ _
  have q8 : zq_ev r (0, [(4, 1)]) = r 4 := zu_e1 _ _
  have q9 : zq_ev r (0, [(5, 1)]) = r 5 := zu_e1 _ _
  have q10 : zq_ev r (0, [(8, 1)]) = r 8 := zu_e1 _ _
  have q11 : zq_ev r (0, [(6, 1)]) = r 6 := zu_e1 _ _
  have q12 : zq_ev r (0, [(7, 1)]) = r 7 := zu_e1 _ _
  have q13 : zq_ev r (0, [(9, 1)]) = r 9 := zu_e1 _ _
  have q14 : zq_ev r (4, []) = 4 := zu_e0 _ _
  have q15 : zq_ev r (0, []) = 0 := zu_e0 _ _
  have q16 : zq_ev r (1, [(5, 1)]) = r 5 + 1 := zu_e2 _ _ _
  have q17 : zq_ev r (0, [(10, 1)]) = r 10 := zu_e1 _ _
  have q18 : zq_ev r (0, [(11, 1)]) = r 11 := zu_e1 _ _
  have q19 : zq_ev r (0, [(12, 1)]) = r 12 := zu_e1 _ _
  have q20 : zq_ev r (0, [(13, 1)]) = r 13 := zu_e1 _ _
  obtain ⟨hT, hC, hF, hS, -, hK⟩ := hM
  have c := hC.1
  have a1 := zq_all_1 c
  rw [q0] at a1
  have c := zq_all_t c
  have a2 := zq_all_1 c
  rw [q1] at a2
  have c := zq_all_t c
  have a3 := zq_all_1 c
  rw [q2] at a3
  have c := zq_all_t c
  have a4 := zq_all_1 c
  rw [q3] at a4
  have k1 := zj_use x_LW (hK)
  have k1 : zl_LW (zq_ev r (0, [(0, 1)])) (zq_ev r (0, [(1, 1)])) (zq_ev r (0, [(2, 1)])) (zq_ev r (0, [(3, 1)])) (zq_ev r (0, [(4, 1)])) (zq_ev r (0, [(5, 1)])) P h := k1
  simp only [q4, q5, q6, q7, q8, q9] at k1
  have k2 := zj_use x_TX (zq_okX_t (hK))
  have k2 : ze_TX (zq_ev r (0, [(8, 1)])) (zq_ev r (0, [(6, 1)])) (zq_ev r (0, [(7, 1)])) (zq_ev r (0, [(1, 1)])) (zq_ev r (0, [(2, 1)])) P h := k2
  simp only [q10, q11, q12, q5, q6] at k2
  have k3 := zj_use x_CD (zq_okX_t (zq_okX_t (hK)))
  have k3 : ze_CD (zq_ev r (0, [(1, 1)])) (zq_ev r (0, [(2, 1)])) (zq_ev r (0, [(5, 1)])) (zq_ev r (0, [(9, 1)])) P h := k3
  simp only [q13, q5, q6, q9] at k3
  have k4 := zj_use x_EV (zq_okX_t (zq_okX_t (zq_okX_t (hK))))
  have k4 : ze_EV (zq_ev r (4, [])) (zq_ev r (0, [(1, 1)])) (zq_ev r (0, [(2, 1)])) (zq_ev r (0, [])) (zq_ev r (0, [(3, 1)])) (zq_ev r (0, [])) (zq_ev r (1, [(5, 1)])) (zq_ev r (0, [(10, 1)])) (zq_ev r (0, [(11, 1)])) (zq_ev r (0, [(12, 1)])) P h := k4
  simp only [q14, q15, q16, q17, q18, q19, q5, q6, q7] at k4
  have k5 := zj_use x_CD (zq_okX_t (zq_okX_t (zq_okX_t (zq_okX_t (hK)))))
  have k5 : ze_CD (zq_ev r (0, [(1, 1)])) (zq_ev r (0, [(2, 1)])) (zq_ev r (0, [(12, 1)])) (zq_ev r (0, [(13, 1)])) P h := k5
  simp only [q19, q20, q5, q6] at k5
  obtain t1 := zl_s0hg3_l (P := P) (h := h) (k := r 0) (g := r 1) (n := r 2) (W := r 3) (a := r 4) (p := r 5) (B := r 6) (E := r 7) (K := r 8) (c := r 9) (x := r 10) (b := r 11) (q := r 12) (s := r 13) a1 a2 a3 a4 k1 k2 k3 k4 k5
  obtain ⟨rq, hr⟩ : ∃ rq : Nat → Int, (∀ i, i < 14 → rq i = r i) := ⟨r, fun i hi => rfl⟩
  have v0 : rq 0 = r 0 := hr 0 (by decide)
  have v1 : rq 1 = r 1 := hr 1 (by decide)
  have v2 : rq 2 = r 2 := hr 2 (by decide)
  have v3 : rq 3 = r 3 := hr 3 (by decide)
  have v4 : rq 4 = r 4 := hr 4 (by decide)
  have v12 : rq 12 = r 12 := hr 12 (by decide)
  have g0 : zq_ev rq (0, [(0, 1)]) = r 0 := zu_f1 v0
  have g1 : zq_ev rq (0, [(1, 1)]) = r 1 := zu_f1 v1
  have g2 : zq_ev rq (0, [(2, 1)]) = r 2 := zu_f1 v2
  have g3 : zq_ev rq (0, [(3, 1)]) = r 3 := zu_f1 v3
  have g4 : zq_ev rq (0, [(4, 1)]) = r 4 := zu_f1 v4
  have g5 : zq_ev rq (1, [(12, 1)]) = r 12 + 1 := zu_f2 v12 _
  exact ⟨_, List.mem_cons_self .., rq, hr, zq_MeS_mk rfl hT (zq_all_nil) zq_fan (zq_fan) rfl (zu_fac ((x_LW _ _ _).mpr (by show zl_LW (zq_ev rq (0, [(0, 1)])) (zq_ev rq (0, [(1, 1)])) (zq_ev rq (0, [(2, 1)])) (zq_ev rq (0, [(3, 1)])) (zq_ev rq (0, [(4, 1)])) (zq_ev rq (1, [(12, 1)])) P h; simp only [g0, g1, g2, g3, g4, g5]; exact t1)) zq_fan)⟩
noncomputable def zl_s0hg5 : zq_S × List zq_S := (([], [], [(-1, [(5, -1), (6, -1), (7, 1)]), (2, [(9, -1)]), (-1, [(0, -1), (9, 1)]), (-5, [(13, 1)])], [], [], [], [(230, [(0, [(0, 1)]), (0, [(1, 1)]), (0, [(2, 1)]), (0, [(3, 1)]), (0, [(4, 1)]), (0, [(5, 1)])]), (226, [(0, [(8, 1)]), (0, [(6, 1)]), (0, [(7, 1)]), (0, [(1, 1)]), (0, [(2, 1)])]), (224, [(0, [(1, 1)]), (0, [(2, 1)]), (0, [(5, 1)]), (0, [(9, 1)])]), (220, [(4, []), (0, [(1, 1)]), (0, [(2, 1)]), (0, []), (0, [(3, 1)]), (0, []), (1, [(5, 1)]), (0, [(10, 1)]), (0, [(11, 1)]), (0, [(12, 1)])]), (224, [(0, [(1, 1)]), (0, [(2, 1)]), (0, [(12, 1)]), (0, [(13, 1)])])], 14), [([], [], [], [], [], [], [(230, [(0, [(0, 1)]), (0, [(1, 1)]), (0, [(2, 1)]), (0, [(3, 1)]), (0, [(4, 1)]), (1, [(12, 1)])])], 14)])
theorem zl_s0hg5_l {P : zq_Ty} {h : zq_H} {k g n W a p B E K c x b q s : Int} (a1 : 0 ≤ -p - B + E - 1) (a2 : 0 ≤ -c + 2) (a3 : 0 ≤ -k + c - 1) (a4 : 0 ≤ s - 5) (k1 : zl_LW k g n W a p P h) (k2 : ze_TX K B E g n P h) (k3 : ze_CD g n p c P h) (k4 : ze_EV 4 g n 0 W 0 (p + 1) x b q P h) (k5 : ze_CD g n q s P h) : (zl_LW k g n W a (q + 1) P h) := by
  obtain ⟨z1, z2, z3, z4, z5⟩ := k2
  have hL : p < ze_L g n := by unfold ze_L; omega
  have k3 : c = ze_c g n p := k3
  intro r hr
  apply k1 r
  have k4 : ze_V (ze_c g n) (ze_v g n) (ze_w 0 W) 4 0 true (ze_on 0) (p + 1) x (ze_on b) q := k4
  rw [ze_on0] at k4
  have kc : s = ze_c g n q := k5
  refine zl_s0 hL (by omega) k4 (by omega) ?_
  rw [if_neg (fun z => by have z := z.1; omega)]
  exact hr
theorem zl_s0hg5_ok {w : zq_Wd} (x_LW : zj_is w 230 (fun q => zl_LW (q 0) (q 1) (q 2) (q 3) (q 4) (q 5))) (x_TX : zj_is w 226 (fun q => ze_TX (q 0) (q 1) (q 2) (q 3) (q 4))) (x_CD : zj_is w 224 (fun q => ze_CD (q 0) (q 1) (q 2) (q 3))) (x_EV : zj_is w 220 (fun q => ze_EV (q 0) (q 1) (q 2) (q 3) (q 4) (q 5) (q 6) (q 7) (q 8) (q 9))) : zq_okG1 w zl_s0hg5 := by
  refine ⟨rfl, rfl, zu_fac ⟨rfl, by decide⟩ zq_fan, ?_⟩
  intro r P h H hM
  have q0 : zq_ev r (-1, [(5, -1), (6, -1), (7, 1)]) = -r 5 - r 6 + r 7 - 1 := by simp only [zq_ev, zq_ts] <;> omega
  have q1 : zq_ev r (2, [(9, -1)]) = -r 9 + 2 := zu_e5 _ _ _
  have q2 : zq_ev r (-1, [(0, -1), (9, 1)]) = -r 0 + r 9 - 1 := by simp only [zq_ev, zq_ts] <;> omega
  have q3 : zq_ev r (-5, [(13, 1)]) = r 13 - 5 := zu_e3 _ _ _
  have q4 : zq_ev r (0, [(0, 1)]) = r 0 := zu_e1 _ _
  have q5 : zq_ev r (0, [(1, 1)]) = r 1 := zu_e1 _ _
  have q6 : zq_ev r (0, [(2, 1)]) = r 2 := zu_e1 _ _
  have q7 : zq_ev r (0, [(3, 1)]) = r 3 := zu_e1 _ _
  have q8 : zq_ev r (0, [(4, 1)]) = r 4 := zu_e1 _ _
  have q9 : zq_ev r (0, [(5, 1)]) = r 5 := zu_e1 _ _
  have q10 : zq_ev r (0, [(8, 1)]) = r 8 := zu_e1 _ _
  have q11 : zq_ev r (0, [(6, 1)]) = r 6 := zu_e1 _ _
  have q12 : zq_ev r (0, [(7, 1)]) = r 7 := zu_e1 _ _
  have q13 : zq_ev r (0, [(9, 1)]) = r 9 := zu_e1 _ _
  have q14 : zq_ev r (4, []) = 4 := zu_e0 _ _
  have q15 : zq_ev r (0, []) = 0 := zu_e0 _ _
  have q16 : zq_ev r (1, [(5, 1)]) = r 5 + 1 := zu_e2 _ _ _
  have q17 : zq_ev r (0, [(10, 1)]) = r 10 := zu_e1 _ _
  have q18 : zq_ev r (0, [(11, 1)]) = r 11 := zu_e1 _ _
  have q19 : zq_ev r (0, [(12, 1)]) = r 12 := zu_e1 _ _
  have q20 : zq_ev r (0, [(13, 1)]) = r 13 := zu_e1 _ _
  obtain ⟨hT, hC, hF, hS, -, hK⟩ := hM
  have c := hC.1
  have a1 := zq_all_1 c
  rw [q0] at a1
  have c := zq_all_t c
  have a2 := zq_all_1 c
  rw [q1] at a2
  have c := zq_all_t c
  have a3 := zq_all_1 c
  rw [q2] at a3
  have c := zq_all_t c
  have a4 := zq_all_1 c
  rw [q3] at a4
  have k1 := zj_use x_LW (hK)
  have k1 : zl_LW (zq_ev r (0, [(0, 1)])) (zq_ev r (0, [(1, 1)])) (zq_ev r (0, [(2, 1)])) (zq_ev r (0, [(3, 1)])) (zq_ev r (0, [(4, 1)])) (zq_ev r (0, [(5, 1)])) P h := k1
  simp only [q4, q5, q6, q7, q8, q9] at k1
  have k2 := zj_use x_TX (zq_okX_t (hK))
  have k2 : ze_TX (zq_ev r (0, [(8, 1)])) (zq_ev r (0, [(6, 1)])) (zq_ev r (0, [(7, 1)])) (zq_ev r (0, [(1, 1)])) (zq_ev r (0, [(2, 1)])) P h := k2
  simp only [q10, q11, q12, q5, q6] at k2
  have k3 := zj_use x_CD (zq_okX_t (zq_okX_t (hK)))
  have k3 : ze_CD (zq_ev r (0, [(1, 1)])) (zq_ev r (0, [(2, 1)])) (zq_ev r (0, [(5, 1)])) (zq_ev r (0, [(9, 1)])) P h := k3
  simp only [q13, q5, q6, q9] at k3
  have k4 := zj_use x_EV (zq_okX_t (zq_okX_t (zq_okX_t (hK))))
  have k4 : ze_EV (zq_ev r (4, [])) (zq_ev r (0, [(1, 1)])) (zq_ev r (0, [(2, 1)])) (zq_ev r (0, [])) (zq_ev r (0, [(3, 1)])) (zq_ev r (0, [])) (zq_ev r (1, [(5, 1)])) (zq_ev r (0, [(10, 1)])) (zq_ev r (0, [(11, 1)])) (zq_ev r (0, [(12, 1)])) P h := k4
  simp only [q14, q15, q16, q17, q18, q19, q5, q6, q7] at k4
  have k5 := zj_use x_CD (zq_okX_t (zq_okX_t (zq_okX_t (zq_okX_t (hK)))))
  have k5 : ze_CD (zq_ev r (0, [(1, 1)])) (zq_ev r (0, [(2, 1)])) (zq_ev r (0, [(12, 1)])) (zq_ev r (0, [(13, 1)])) P h := k5
  simp only [q19, q20, q5, q6] at k5
  obtain t1 := zl_s0hg5_l (P := P) (h := h) (k := r 0) (g := r 1) (n := r 2) (W := r 3) (a := r 4) (p := r 5) (B := r 6) (E := r 7) (K := r 8) (c := r 9) (x := r 10) (b := r 11) (q := r 12) (s := r 13) a1 a2 a3 a4 k1 k2 k3 k4 k5
  obtain ⟨rq, hr⟩ : ∃ rq : Nat → Int, (∀ i, i < 14 → rq i = r i) := ⟨r, fun i hi => rfl⟩
  have v0 : rq 0 = r 0 := hr 0 (by decide)
  have v1 : rq 1 = r 1 := hr 1 (by decide)
  have v2 : rq 2 = r 2 := hr 2 (by decide)
  have v3 : rq 3 = r 3 := hr 3 (by decide)
  have v4 : rq 4 = r 4 := hr 4 (by decide)
  have v12 : rq 12 = r 12 := hr 12 (by decide)
  have g0 : zq_ev rq (0, [(0, 1)]) = r 0 := zu_f1 v0
  have g1 : zq_ev rq (0, [(1, 1)]) = r 1 := zu_f1 v1
  have g2 : zq_ev rq (0, [(2, 1)]) = r 2 := zu_f1 v2
  have g3 : zq_ev rq (0, [(3, 1)]) = r 3 := zu_f1 v3
  have g4 : zq_ev rq (0, [(4, 1)]) = r 4 := zu_f1 v4
  have g5 : zq_ev rq (1, [(12, 1)]) = r 12 + 1 := zu_f2 v12 _
  exact ⟨_, List.mem_cons_self .., rq, hr, zq_MeS_mk rfl hT (zq_all_nil) zq_fan (zq_fan) rfl (zu_fac ((x_LW _ _ _).mpr (by show zl_LW (zq_ev rq (0, [(0, 1)])) (zq_ev rq (0, [(1, 1)])) (zq_ev rq (0, [(2, 1)])) (zq_ev rq (0, [(3, 1)])) (zq_ev rq (0, [(4, 1)])) (zq_ev rq (1, [(12, 1)])) P h; simp only [g0, g1, g2, g3, g4, g5]; exact t1)) zq_fan)⟩
noncomputable def zl_s0hl3 : zq_S × List zq_S := (([], [], [(-1, [(5, -1), (6, -1), (7, 1)]), (2, [(9, -1)]), (-1, [(0, 1), (9, -1)]), (3, [(13, -1)])], [], [], [], [(230, [(0, [(0, 1)]), (0, [(1, 1)]), (0, [(2, 1)]), (0, [(3, 1)]), (0, [(4, 1)]), (0, [(5, 1)])]), (226, [(0, [(8, 1)]), (0, [(6, 1)]), (0, [(7, 1)]), (0, [(1, 1)]), (0, [(2, 1)])]), (224, [(0, [(1, 1)]), (0, [(2, 1)]), (0, [(5, 1)]), (0, [(9, 1)])]), (220, [(4, []), (0, [(1, 1)]), (0, [(2, 1)]), (0, []), (0, [(3, 1)]), (0, []), (1, [(5, 1)]), (0, [(10, 1)]), (0, [(11, 1)]), (0, [(12, 1)])]), (224, [(0, [(1, 1)]), (0, [(2, 1)]), (0, [(12, 1)]), (0, [(13, 1)])])], 14), [([], [], [], [], [], [], [(230, [(0, [(0, 1)]), (0, [(1, 1)]), (0, [(2, 1)]), (0, [(3, 1)]), (0, [(4, 1)]), (1, [(12, 1)])])], 14)])
theorem zl_s0hl3_l {P : zq_Ty} {h : zq_H} {k g n W a p B E K c x b q s : Int} (a1 : 0 ≤ -p - B + E - 1) (a2 : 0 ≤ -c + 2) (a3 : 0 ≤ k - c - 1) (a4 : 0 ≤ -s + 3) (k1 : zl_LW k g n W a p P h) (k2 : ze_TX K B E g n P h) (k3 : ze_CD g n p c P h) (k4 : ze_EV 4 g n 0 W 0 (p + 1) x b q P h) (k5 : ze_CD g n q s P h) : (zl_LW k g n W a (q + 1) P h) := by
  obtain ⟨z1, z2, z3, z4, z5⟩ := k2
  have hL : p < ze_L g n := by unfold ze_L; omega
  have k3 : c = ze_c g n p := k3
  intro r hr
  apply k1 r
  have k4 : ze_V (ze_c g n) (ze_v g n) (ze_w 0 W) 4 0 true (ze_on 0) (p + 1) x (ze_on b) q := k4
  rw [ze_on0] at k4
  have kc : s = ze_c g n q := k5
  refine zl_s0 hL (by omega) k4 (by omega) ?_
  rw [if_neg (fun z => by have z := z.1; omega)]
  exact hr
theorem zl_s0hl3_ok {w : zq_Wd} (x_LW : zj_is w 230 (fun q => zl_LW (q 0) (q 1) (q 2) (q 3) (q 4) (q 5))) (x_TX : zj_is w 226 (fun q => ze_TX (q 0) (q 1) (q 2) (q 3) (q 4))) (x_CD : zj_is w 224 (fun q => ze_CD (q 0) (q 1) (q 2) (q 3))) (x_EV : zj_is w 220 (fun q => ze_EV (q 0) (q 1) (q 2) (q 3) (q 4) (q 5) (q 6) (q 7) (q 8) (q 9))) : zq_okG1 w zl_s0hl3 := by
  refine ⟨rfl, rfl, zu_fac ⟨rfl, by decide⟩ zq_fan, ?_⟩
  intro r P h H hM
  have q0 : zq_ev r (-1, [(5, -1), (6, -1), (7, 1)]) = -r 5 - r 6 + r 7 - 1 := by simp only [zq_ev, zq_ts] <;> omega
  have q1 : zq_ev r (2, [(9, -1)]) = -r 9 + 2 := zu_e5 _ _ _
  have q2 : zq_ev r (-1, [(0, 1), (9, -1)]) = r 0 - r 9 - 1 := by simp only [zq_ev, zq_ts] <;> omega
  have q3 : zq_ev r (3, [(13, -1)]) = -r 13 + 3 := zu_e5 _ _ _
  have q4 : zq_ev r (0, [(0, 1)]) = r 0 := zu_e1 _ _
  have q5 : zq_ev r (0, [(1, 1)]) = r 1 := zu_e1 _ _
  have q6 : zq_ev r (0, [(2, 1)]) = r 2 := zu_e1 _ _
  have q7 : zq_ev r (0, [(3, 1)]) = r 3 := zu_e1 _ _
  have q8 : zq_ev r (0, [(4, 1)]) = r 4 := zu_e1 _ _
  have q9 : zq_ev r (0, [(5, 1)]) = r 5 := zu_e1 _ _
  have q10 : zq_ev r (0, [(8, 1)]) = r 8 := zu_e1 _ _
  have q11 : zq_ev r (0, [(6, 1)]) = r 6 := zu_e1 _ _
  have q12 : zq_ev r (0, [(7, 1)]) = r 7 := zu_e1 _ _
  have q13 : zq_ev r (0, [(9, 1)]) = r 9 := zu_e1 _ _
  have q14 : zq_ev r (4, []) = 4 := zu_e0 _ _
  have q15 : zq_ev r (0, []) = 0 := zu_e0 _ _
  have q16 : zq_ev r (1, [(5, 1)]) = r 5 + 1 := zu_e2 _ _ _
  have q17 : zq_ev r (0, [(10, 1)]) = r 10 := zu_e1 _ _
  have q18 : zq_ev r (0, [(11, 1)]) = r 11 := zu_e1 _ _
  have q19 : zq_ev r (0, [(12, 1)]) = r 12 := zu_e1 _ _
  have q20 : zq_ev r (0, [(13, 1)]) = r 13 := zu_e1 _ _
  obtain ⟨hT, hC, hF, hS, -, hK⟩ := hM
  have c := hC.1
  have a1 := zq_all_1 c
  rw [q0] at a1
  have c := zq_all_t c
  have a2 := zq_all_1 c
  rw [q1] at a2
  have c := zq_all_t c
  have a3 := zq_all_1 c
  rw [q2] at a3
  have c := zq_all_t c
  have a4 := zq_all_1 c
  rw [q3] at a4
  have k1 := zj_use x_LW (hK)
  have k1 : zl_LW (zq_ev r (0, [(0, 1)])) (zq_ev r (0, [(1, 1)])) (zq_ev r (0, [(2, 1)])) (zq_ev r (0, [(3, 1)])) (zq_ev r (0, [(4, 1)])) (zq_ev r (0, [(5, 1)])) P h := k1
  simp only [q4, q5, q6, q7, q8, q9] at k1
  have k2 := zj_use x_TX (zq_okX_t (hK))
  have k2 : ze_TX (zq_ev r (0, [(8, 1)])) (zq_ev r (0, [(6, 1)])) (zq_ev r (0, [(7, 1)])) (zq_ev r (0, [(1, 1)])) (zq_ev r (0, [(2, 1)])) P h := k2
  simp only [q10, q11, q12, q5, q6] at k2
  have k3 := zj_use x_CD (zq_okX_t (zq_okX_t (hK)))
  have k3 : ze_CD (zq_ev r (0, [(1, 1)])) (zq_ev r (0, [(2, 1)])) (zq_ev r (0, [(5, 1)])) (zq_ev r (0, [(9, 1)])) P h := k3
  simp only [q13, q5, q6, q9] at k3
  have k4 := zj_use x_EV (zq_okX_t (zq_okX_t (zq_okX_t (hK))))
  have k4 : ze_EV (zq_ev r (4, [])) (zq_ev r (0, [(1, 1)])) (zq_ev r (0, [(2, 1)])) (zq_ev r (0, [])) (zq_ev r (0, [(3, 1)])) (zq_ev r (0, [])) (zq_ev r (1, [(5, 1)])) (zq_ev r (0, [(10, 1)])) (zq_ev r (0, [(11, 1)])) (zq_ev r (0, [(12, 1)])) P h := k4
  simp only [q14, q15, q16, q17, q18, q19, q5, q6, q7] at k4
  have k5 := zj_use x_CD (zq_okX_t (zq_okX_t (zq_okX_t (zq_okX_t (hK)))))
  have k5 : ze_CD (zq_ev r (0, [(1, 1)])) (zq_ev r (0, [(2, 1)])) (zq_ev r (0, [(12, 1)])) (zq_ev r (0, [(13, 1)])) P h := k5
  simp only [q19, q20, q5, q6] at k5
  obtain t1 := zl_s0hl3_l (P := P) (h := h) (k := r 0) (g := r 1) (n := r 2) (W := r 3) (a := r 4) (p := r 5) (B := r 6) (E := r 7) (K := r 8) (c := r 9) (x := r 10) (b := r 11) (q := r 12) (s := r 13) a1 a2 a3 a4 k1 k2 k3 k4 k5
  obtain ⟨rq, hr⟩ : ∃ rq : Nat → Int, (∀ i, i < 14 → rq i = r i) := ⟨r, fun i hi => rfl⟩
  have v0 : rq 0 = r 0 := hr 0 (by decide)
  have v1 : rq 1 = r 1 := hr 1 (by decide)
  have v2 : rq 2 = r 2 := hr 2 (by decide)
  have v3 : rq 3 = r 3 := hr 3 (by decide)
  have v4 : rq 4 = r 4 := hr 4 (by decide)
  have v12 : rq 12 = r 12 := hr 12 (by decide)
  have g0 : zq_ev rq (0, [(0, 1)]) = r 0 := zu_f1 v0
  have g1 : zq_ev rq (0, [(1, 1)]) = r 1 := zu_f1 v1
  have g2 : zq_ev rq (0, [(2, 1)]) = r 2 := zu_f1 v2
  have g3 : zq_ev rq (0, [(3, 1)]) = r 3 := zu_f1 v3
  have g4 : zq_ev rq (0, [(4, 1)]) = r 4 := zu_f1 v4
  have g5 : zq_ev rq (1, [(12, 1)]) = r 12 + 1 := zu_f2 v12 _
  exact ⟨_, List.mem_cons_self .., rq, hr, zq_MeS_mk rfl hT (zq_all_nil) zq_fan (zq_fan) rfl (zu_fac ((x_LW _ _ _).mpr (by show zl_LW (zq_ev rq (0, [(0, 1)])) (zq_ev rq (0, [(1, 1)])) (zq_ev rq (0, [(2, 1)])) (zq_ev rq (0, [(3, 1)])) (zq_ev rq (0, [(4, 1)])) (zq_ev rq (1, [(12, 1)])) P h; simp only [g0, g1, g2, g3, g4, g5]; exact t1)) zq_fan)⟩
noncomputable def zl_s0hl5 : zq_S × List zq_S := (([], [], [(-1, [(5, -1), (6, -1), (7, 1)]), (2, [(9, -1)]), (-1, [(0, 1), (9, -1)]), (-5, [(13, 1)])], [], [], [], [(230, [(0, [(0, 1)]), (0, [(1, 1)]), (0, [(2, 1)]), (0, [(3, 1)]), (0, [(4, 1)]), (0, [(5, 1)])]), (226, [(0, [(8, 1)]), (0, [(6, 1)]), (0, [(7, 1)]), (0, [(1, 1)]), (0, [(2, 1)])]), (224, [(0, [(1, 1)]), (0, [(2, 1)]), (0, [(5, 1)]), (0, [(9, 1)])]), (220, [(4, []), (0, [(1, 1)]), (0, [(2, 1)]), (0, []), (0, [(3, 1)]), (0, []), (1, [(5, 1)]), (0, [(10, 1)]), (0, [(11, 1)]), (0, [(12, 1)])]), (224, [(0, [(1, 1)]), (0, [(2, 1)]), (0, [(12, 1)]), (0, [(13, 1)])])], 14), [([], [], [], [], [], [], [(230, [(0, [(0, 1)]), (0, [(1, 1)]), (0, [(2, 1)]), (0, [(3, 1)]), (0, [(4, 1)]), (1, [(12, 1)])])], 14)])
theorem zl_s0hl5_l {P : zq_Ty} {h : zq_H} {k g n W a p B E K c x b q s : Int} (a1 : 0 ≤ -p - B + E - 1) (a2 : 0 ≤ -c + 2) (a3 : 0 ≤ k - c - 1) (a4 : 0 ≤ s - 5) (k1 : zl_LW k g n W a p P h) (k2 : ze_TX K B E g n P h) (k3 : ze_CD g n p c P h) (k4 : ze_EV 4 g n 0 W 0 (p + 1) x b q P h) (k5 : ze_CD g n q s P h) : (zl_LW k g n W a (q + 1) P h) := by
  obtain ⟨z1, z2, z3, z4, z5⟩ := k2
  have hL : p < ze_L g n := by unfold ze_L; omega
  have k3 : c = ze_c g n p := k3
  intro r hr
  apply k1 r
  have k4 : ze_V (ze_c g n) (ze_v g n) (ze_w 0 W) 4 0 true (ze_on 0) (p + 1) x (ze_on b) q := k4
  rw [ze_on0] at k4
  have kc : s = ze_c g n q := k5
  refine zl_s0 hL (by omega) k4 (by omega) ?_
  rw [if_neg (fun z => by have z := z.1; omega)]
  exact hr
theorem zl_s0hl5_ok {w : zq_Wd} (x_LW : zj_is w 230 (fun q => zl_LW (q 0) (q 1) (q 2) (q 3) (q 4) (q 5))) (x_TX : zj_is w 226 (fun q => ze_TX (q 0) (q 1) (q 2) (q 3) (q 4))) (x_CD : zj_is w 224 (fun q => ze_CD (q 0) (q 1) (q 2) (q 3))) (x_EV : zj_is w 220 (fun q => ze_EV (q 0) (q 1) (q 2) (q 3) (q 4) (q 5) (q 6) (q 7) (q 8) (q 9))) : zq_okG1 w zl_s0hl5 := by
  refine ⟨rfl, rfl, zu_fac ⟨rfl, by decide⟩ zq_fan, ?_⟩
  intro r P h H hM
  have q0 : zq_ev r (-1, [(5, -1), (6, -1), (7, 1)]) = -r 5 - r 6 + r 7 - 1 := by simp only [zq_ev, zq_ts] <;> omega
  have q1 : zq_ev r (2, [(9, -1)]) = -r 9 + 2 := zu_e5 _ _ _
  have q2 : zq_ev r (-1, [(0, 1), (9, -1)]) = r 0 - r 9 - 1 := by simp only [zq_ev, zq_ts] <;> omega
  have q3 : zq_ev r (-5, [(13, 1)]) = r 13 - 5 := zu_e3 _ _ _
  have q4 : zq_ev r (0, [(0, 1)]) = r 0 := zu_e1 _ _
  have q5 : zq_ev r (0, [(1, 1)]) = r 1 := zu_e1 _ _
  have q6 : zq_ev r (0, [(2, 1)]) = r 2 := zu_e1 _ _
  have q7 : zq_ev r (0, [(3, 1)]) = r 3 := zu_e1 _ _
  have q8 : zq_ev r (0, [(4, 1)]) = r 4 := zu_e1 _ _
  have q9 : zq_ev r (0, [(5, 1)]) = r 5 := zu_e1 _ _
  have q10 : zq_ev r (0, [(8, 1)]) = r 8 := zu_e1 _ _
  have q11 : zq_ev r (0, [(6, 1)]) = r 6 := zu_e1 _ _
  have q12 : zq_ev r (0, [(7, 1)]) = r 7 := zu_e1 _ _
  have q13 : zq_ev r (0, [(9, 1)]) = r 9 := zu_e1 _ _
  have q14 : zq_ev r (4, []) = 4 := zu_e0 _ _
  have q15 : zq_ev r (0, []) = 0 := zu_e0 _ _
  have q16 : zq_ev r (1, [(5, 1)]) = r 5 + 1 := zu_e2 _ _ _
  have q17 : zq_ev r (0, [(10, 1)]) = r 10 := zu_e1 _ _
  have q18 : zq_ev r (0, [(11, 1)]) = r 11 := zu_e1 _ _
  have q19 : zq_ev r (0, [(12, 1)]) = r 12 := zu_e1 _ _
  have q20 : zq_ev r (0, [(13, 1)]) = r 13 := zu_e1 _ _
  obtain ⟨hT, hC, hF, hS, -, hK⟩ := hM
  have c := hC.1
  have a1 := zq_all_1 c
  rw [q0] at a1
  have c := zq_all_t c
  have a2 := zq_all_1 c
  rw [q1] at a2
  have c := zq_all_t c
  have a3 := zq_all_1 c
  rw [q2] at a3
  have c := zq_all_t c
  have a4 := zq_all_1 c
  rw [q3] at a4
  have k1 := zj_use x_LW (hK)
  have k1 : zl_LW (zq_ev r (0, [(0, 1)])) (zq_ev r (0, [(1, 1)])) (zq_ev r (0, [(2, 1)])) (zq_ev r (0, [(3, 1)])) (zq_ev r (0, [(4, 1)])) (zq_ev r (0, [(5, 1)])) P h := k1
  simp only [q4, q5, q6, q7, q8, q9] at k1
  have k2 := zj_use x_TX (zq_okX_t (hK))
  have k2 : ze_TX (zq_ev r (0, [(8, 1)])) (zq_ev r (0, [(6, 1)])) (zq_ev r (0, [(7, 1)])) (zq_ev r (0, [(1, 1)])) (zq_ev r (0, [(2, 1)])) P h := k2
  simp only [q10, q11, q12, q5, q6] at k2
  have k3 := zj_use x_CD (zq_okX_t (zq_okX_t (hK)))
  have k3 : ze_CD (zq_ev r (0, [(1, 1)])) (zq_ev r (0, [(2, 1)])) (zq_ev r (0, [(5, 1)])) (zq_ev r (0, [(9, 1)])) P h := k3
  simp only [q13, q5, q6, q9] at k3
  have k4 := zj_use x_EV (zq_okX_t (zq_okX_t (zq_okX_t (hK))))
  have k4 : ze_EV (zq_ev r (4, [])) (zq_ev r (0, [(1, 1)])) (zq_ev r (0, [(2, 1)])) (zq_ev r (0, [])) (zq_ev r (0, [(3, 1)])) (zq_ev r (0, [])) (zq_ev r (1, [(5, 1)])) (zq_ev r (0, [(10, 1)])) (zq_ev r (0, [(11, 1)])) (zq_ev r (0, [(12, 1)])) P h := k4
  simp only [q14, q15, q16, q17, q18, q19, q5, q6, q7] at k4
  have k5 := zj_use x_CD (zq_okX_t (zq_okX_t (zq_okX_t (zq_okX_t (hK)))))
  have k5 : ze_CD (zq_ev r (0, [(1, 1)])) (zq_ev r (0, [(2, 1)])) (zq_ev r (0, [(12, 1)])) (zq_ev r (0, [(13, 1)])) P h := k5
  simp only [q19, q20, q5, q6] at k5
  obtain t1 := zl_s0hl5_l (P := P) (h := h) (k := r 0) (g := r 1) (n := r 2) (W := r 3) (a := r 4) (p := r 5) (B := r 6) (E := r 7) (K := r 8) (c := r 9) (x := r 10) (b := r 11) (q := r 12) (s := r 13) a1 a2 a3 a4 k1 k2 k3 k4 k5
  obtain ⟨rq, hr⟩ : ∃ rq : Nat → Int, (∀ i, i < 14 → rq i = r i) := ⟨r, fun i hi => rfl⟩
  have v0 : rq 0 = r 0 := hr 0 (by decide)
  have v1 : rq 1 = r 1 := hr 1 (by decide)
  have v2 : rq 2 = r 2 := hr 2 (by decide)
  have v3 : rq 3 = r 3 := hr 3 (by decide)
  have v4 : rq 4 = r 4 := hr 4 (by decide)
  have v12 : rq 12 = r 12 := hr 12 (by decide)
  have g0 : zq_ev rq (0, [(0, 1)]) = r 0 := zu_f1 v0
  have g1 : zq_ev rq (0, [(1, 1)]) = r 1 := zu_f1 v1
  have g2 : zq_ev rq (0, [(2, 1)]) = r 2 := zu_f1 v2
  have g3 : zq_ev rq (0, [(3, 1)]) = r 3 := zu_f1 v3
  have g4 : zq_ev rq (0, [(4, 1)]) = r 4 := zu_f1 v4
  have g5 : zq_ev rq (1, [(12, 1)]) = r 12 + 1 := zu_f2 v12 _
  exact ⟨_, List.mem_cons_self .., rq, hr, zq_MeS_mk rfl hT (zq_all_nil) zq_fan (zq_fan) rfl (zu_fac ((x_LW _ _ _).mpr (by show zl_LW (zq_ev rq (0, [(0, 1)])) (zq_ev rq (0, [(1, 1)])) (zq_ev rq (0, [(2, 1)])) (zq_ev rq (0, [(3, 1)])) (zq_ev rq (0, [(4, 1)])) (zq_ev rq (1, [(12, 1)])) P h; simp only [g0, g1, g2, g3, g4, g5]; exact t1)) zq_fan)⟩
noncomputable def zl_s0b3 : zq_S × List zq_S := (([], [], [(-1, [(5, -1), (6, -1), (7, 1)]), (2, [(9, -1)]), (-1, [(11, 1)]), (1, [(11, -1)]), (3, [(13, -1)])], [], [], [], [(230, [(0, [(0, 1)]), (0, [(1, 1)]), (0, [(2, 1)]), (0, [(3, 1)]), (0, [(4, 1)]), (0, [(5, 1)])]), (226, [(0, [(8, 1)]), (0, [(6, 1)]), (0, [(7, 1)]), (0, [(1, 1)]), (0, [(2, 1)])]), (224, [(0, [(1, 1)]), (0, [(2, 1)]), (0, [(5, 1)]), (0, [(9, 1)])]), (220, [(4, []), (0, [(1, 1)]), (0, [(2, 1)]), (0, []), (0, [(3, 1)]), (0, []), (1, [(5, 1)]), (0, [(10, 1)]), (0, [(11, 1)]), (0, [(12, 1)])]), (224, [(0, [(1, 1)]), (0, [(2, 1)]), (0, [(12, 1)]), (0, [(13, 1)])])], 14), [([], [], [], [], [], [], [(230, [(0, [(0, 1)]), (0, [(1, 1)]), (0, [(2, 1)]), (0, [(3, 1)]), (0, [(4, 1)]), (1, [(12, 1)])])], 14)])
theorem zl_s0b3_l {P : zq_Ty} {h : zq_H} {k g n W a p B E K c x b q s : Int} (a1 : 0 ≤ -p - B + E - 1) (a2 : 0 ≤ -c + 2) (a3 : 0 ≤ b - 1) (a4 : 0 ≤ -b + 1) (a5 : 0 ≤ -s + 3) (k1 : zl_LW k g n W a p P h) (k2 : ze_TX K B E g n P h) (k3 : ze_CD g n p c P h) (k4 : ze_EV 4 g n 0 W 0 (p + 1) x b q P h) (k5 : ze_CD g n q s P h) : (zl_LW k g n W a (q + 1) P h) := by
  obtain ⟨z1, z2, z3, z4, z5⟩ := k2
  have hL : p < ze_L g n := by unfold ze_L; omega
  have k3 : c = ze_c g n p := k3
  intro r hr
  apply k1 r
  have k4 : ze_V (ze_c g n) (ze_v g n) (ze_w 0 W) 4 0 true (ze_on 0) (p + 1) x (ze_on b) q := k4
  rw [ze_on0] at k4
  have kc : s = ze_c g n q := k5
  have hb : ze_on b = true := by rw [show b = 1 by omega]; exact ze_on1
  refine zl_s0 hL (by omega) k4 (by omega) ?_
  rw [if_neg (fun z => by have z := z.2; rw [hb] at z; cases z)]
  exact hr
theorem zl_s0b3_ok {w : zq_Wd} (x_LW : zj_is w 230 (fun q => zl_LW (q 0) (q 1) (q 2) (q 3) (q 4) (q 5))) (x_TX : zj_is w 226 (fun q => ze_TX (q 0) (q 1) (q 2) (q 3) (q 4))) (x_CD : zj_is w 224 (fun q => ze_CD (q 0) (q 1) (q 2) (q 3))) (x_EV : zj_is w 220 (fun q => ze_EV (q 0) (q 1) (q 2) (q 3) (q 4) (q 5) (q 6) (q 7) (q 8) (q 9))) : zq_okG1 w zl_s0b3 := by
  refine ⟨rfl, rfl, zu_fac ⟨rfl, by decide⟩ zq_fan, ?_⟩
  intro r P h H hM
  have q0 : zq_ev r (-1, [(5, -1), (6, -1), (7, 1)]) = -r 5 - r 6 + r 7 - 1 := by simp only [zq_ev, zq_ts] <;> omega
  have q1 : zq_ev r (2, [(9, -1)]) = -r 9 + 2 := zu_e5 _ _ _
  have q2 : zq_ev r (-1, [(11, 1)]) = r 11 - 1 := zu_e3 _ _ _
  have q3 : zq_ev r (1, [(11, -1)]) = -r 11 + 1 := zu_e5 _ _ _
  have q4 : zq_ev r (3, [(13, -1)]) = -r 13 + 3 := zu_e5 _ _ _
  have q5 : zq_ev r (0, [(0, 1)]) = r 0 := zu_e1 _ _
  have q6 : zq_ev r (0, [(1, 1)]) = r 1 := zu_e1 _ _
  have q7 : zq_ev r (0, [(2, 1)]) = r 2 := zu_e1 _ _
  have q8 : zq_ev r (0, [(3, 1)]) = r 3 := zu_e1 _ _
  have q9 : zq_ev r (0, [(4, 1)]) = r 4 := zu_e1 _ _
  have q10 : zq_ev r (0, [(5, 1)]) = r 5 := zu_e1 _ _
  have q11 : zq_ev r (0, [(8, 1)]) = r 8 := zu_e1 _ _
  have q12 : zq_ev r (0, [(6, 1)]) = r 6 := zu_e1 _ _
  have q13 : zq_ev r (0, [(7, 1)]) = r 7 := zu_e1 _ _
  have q14 : zq_ev r (0, [(9, 1)]) = r 9 := zu_e1 _ _
  have q15 : zq_ev r (4, []) = 4 := zu_e0 _ _
  have q16 : zq_ev r (0, []) = 0 := zu_e0 _ _
  have q17 : zq_ev r (1, [(5, 1)]) = r 5 + 1 := zu_e2 _ _ _
  have q18 : zq_ev r (0, [(10, 1)]) = r 10 := zu_e1 _ _
  have q19 : zq_ev r (0, [(11, 1)]) = r 11 := zu_e1 _ _
  have q20 : zq_ev r (0, [(12, 1)]) = r 12 := zu_e1 _ _
  have q21 : zq_ev r (0, [(13, 1)]) = r 13 := zu_e1 _ _
  obtain ⟨hT, hC, hF, hS, -, hK⟩ := hM
  have c := hC.1
  have a1 := zq_all_1 c
  rw [q0] at a1
  have c := zq_all_t c
  have a2 := zq_all_1 c
  rw [q1] at a2
  have c := zq_all_t c
  have a3 := zq_all_1 c
  rw [q2] at a3
  have c := zq_all_t c
  have a4 := zq_all_1 c
  rw [q3] at a4
  have c := zq_all_t c
  have a5 := zq_all_1 c
  rw [q4] at a5
  have k1 := zj_use x_LW (hK)
  have k1 : zl_LW (zq_ev r (0, [(0, 1)])) (zq_ev r (0, [(1, 1)])) (zq_ev r (0, [(2, 1)])) (zq_ev r (0, [(3, 1)])) (zq_ev r (0, [(4, 1)])) (zq_ev r (0, [(5, 1)])) P h := k1
  simp only [q10, q5, q6, q7, q8, q9] at k1
  have k2 := zj_use x_TX (zq_okX_t (hK))
  have k2 : ze_TX (zq_ev r (0, [(8, 1)])) (zq_ev r (0, [(6, 1)])) (zq_ev r (0, [(7, 1)])) (zq_ev r (0, [(1, 1)])) (zq_ev r (0, [(2, 1)])) P h := k2
  simp only [q11, q12, q13, q6, q7] at k2
  have k3 := zj_use x_CD (zq_okX_t (zq_okX_t (hK)))
  have k3 : ze_CD (zq_ev r (0, [(1, 1)])) (zq_ev r (0, [(2, 1)])) (zq_ev r (0, [(5, 1)])) (zq_ev r (0, [(9, 1)])) P h := k3
  simp only [q10, q14, q6, q7] at k3
  have k4 := zj_use x_EV (zq_okX_t (zq_okX_t (zq_okX_t (hK))))
  have k4 : ze_EV (zq_ev r (4, [])) (zq_ev r (0, [(1, 1)])) (zq_ev r (0, [(2, 1)])) (zq_ev r (0, [])) (zq_ev r (0, [(3, 1)])) (zq_ev r (0, [])) (zq_ev r (1, [(5, 1)])) (zq_ev r (0, [(10, 1)])) (zq_ev r (0, [(11, 1)])) (zq_ev r (0, [(12, 1)])) P h := k4
  simp only [q15, q16, q17, q18, q19, q20, q6, q7, q8] at k4
  have k5 := zj_use x_CD (zq_okX_t (zq_okX_t (zq_okX_t (zq_okX_t (hK)))))
  have k5 : ze_CD (zq_ev r (0, [(1, 1)])) (zq_ev r (0, [(2, 1)])) (zq_ev r (0, [(12, 1)])) (zq_ev r (0, [(13, 1)])) P h := k5
  simp only [q20, q21, q6, q7] at k5
  obtain t1 := zl_s0b3_l (P := P) (h := h) (k := r 0) (g := r 1) (n := r 2) (W := r 3) (a := r 4) (p := r 5) (B := r 6) (E := r 7) (K := r 8) (c := r 9) (x := r 10) (b := r 11) (q := r 12) (s := r 13) a1 a2 a3 a4 a5 k1 k2 k3 k4 k5
  obtain ⟨rq, hr⟩ : ∃ rq : Nat → Int, (∀ i, i < 14 → rq i = r i) := ⟨r, fun i hi => rfl⟩
  have v0 : rq 0 = r 0 := hr 0 (by decide)
  have v1 : rq 1 = r 1 := hr 1 (by decide)
  have v2 : rq 2 = r 2 := hr 2 (by decide)
  have v3 : rq 3 = r 3 := hr 3 (by decide)
  have v4 : rq 4 = r 4 := hr 4 (by decide)
  have v12 : rq 12 = r 12 := hr 12 (by decide)
  have g0 : zq_ev rq (0, [(0, 1)]) = r 0 := zu_f1 v0
  have g1 : zq_ev rq (0, [(1, 1)]) = r 1 := zu_f1 v1
  have g2 : zq_ev rq (0, [(2, 1)]) = r 2 := zu_f1 v2
  have g3 : zq_ev rq (0, [(3, 1)]) = r 3 := zu_f1 v3
  have g4 : zq_ev rq (0, [(4, 1)]) = r 4 := zu_f1 v4
  have g5 : zq_ev rq (1, [(12, 1)]) = r 12 + 1 := zu_f2 v12 _
  exact ⟨_, List.mem_cons_self .., rq, hr, zq_MeS_mk rfl hT (zq_all_nil) zq_fan (zq_fan) rfl (zu_fac ((x_LW _ _ _).mpr (by show zl_LW (zq_ev rq (0, [(0, 1)])) (zq_ev rq (0, [(1, 1)])) (zq_ev rq (0, [(2, 1)])) (zq_ev rq (0, [(3, 1)])) (zq_ev rq (0, [(4, 1)])) (zq_ev rq (1, [(12, 1)])) P h; simp only [g0, g1, g2, g3, g4, g5]; exact t1)) zq_fan)⟩
noncomputable def zl_s0b5 : zq_S × List zq_S := (([], [], [(-1, [(5, -1), (6, -1), (7, 1)]), (2, [(9, -1)]), (-1, [(11, 1)]), (1, [(11, -1)]), (-5, [(13, 1)])], [], [], [], [(230, [(0, [(0, 1)]), (0, [(1, 1)]), (0, [(2, 1)]), (0, [(3, 1)]), (0, [(4, 1)]), (0, [(5, 1)])]), (226, [(0, [(8, 1)]), (0, [(6, 1)]), (0, [(7, 1)]), (0, [(1, 1)]), (0, [(2, 1)])]), (224, [(0, [(1, 1)]), (0, [(2, 1)]), (0, [(5, 1)]), (0, [(9, 1)])]), (220, [(4, []), (0, [(1, 1)]), (0, [(2, 1)]), (0, []), (0, [(3, 1)]), (0, []), (1, [(5, 1)]), (0, [(10, 1)]), (0, [(11, 1)]), (0, [(12, 1)])]), (224, [(0, [(1, 1)]), (0, [(2, 1)]), (0, [(12, 1)]), (0, [(13, 1)])])], 14), [([], [], [], [], [], [], [(230, [(0, [(0, 1)]), (0, [(1, 1)]), (0, [(2, 1)]), (0, [(3, 1)]), (0, [(4, 1)]), (1, [(12, 1)])])], 14)])
theorem zl_s0b5_l {P : zq_Ty} {h : zq_H} {k g n W a p B E K c x b q s : Int} (a1 : 0 ≤ -p - B + E - 1) (a2 : 0 ≤ -c + 2) (a3 : 0 ≤ b - 1) (a4 : 0 ≤ -b + 1) (a5 : 0 ≤ s - 5) (k1 : zl_LW k g n W a p P h) (k2 : ze_TX K B E g n P h) (k3 : ze_CD g n p c P h) (k4 : ze_EV 4 g n 0 W 0 (p + 1) x b q P h) (k5 : ze_CD g n q s P h) : (zl_LW k g n W a (q + 1) P h) := by
  obtain ⟨z1, z2, z3, z4, z5⟩ := k2
  have hL : p < ze_L g n := by unfold ze_L; omega
  have k3 : c = ze_c g n p := k3
  intro r hr
  apply k1 r
  have k4 : ze_V (ze_c g n) (ze_v g n) (ze_w 0 W) 4 0 true (ze_on 0) (p + 1) x (ze_on b) q := k4
  rw [ze_on0] at k4
  have kc : s = ze_c g n q := k5
  have hb : ze_on b = true := by rw [show b = 1 by omega]; exact ze_on1
  refine zl_s0 hL (by omega) k4 (by omega) ?_
  rw [if_neg (fun z => by have z := z.2; rw [hb] at z; cases z)]
  exact hr
theorem zl_s0b5_ok {w : zq_Wd} (x_LW : zj_is w 230 (fun q => zl_LW (q 0) (q 1) (q 2) (q 3) (q 4) (q 5))) (x_TX : zj_is w 226 (fun q => ze_TX (q 0) (q 1) (q 2) (q 3) (q 4))) (x_CD : zj_is w 224 (fun q => ze_CD (q 0) (q 1) (q 2) (q 3))) (x_EV : zj_is w 220 (fun q => ze_EV (q 0) (q 1) (q 2) (q 3) (q 4) (q 5) (q 6) (q 7) (q 8) (q 9))) : zq_okG1 w zl_s0b5 := by
  refine ⟨rfl, rfl, zu_fac ⟨rfl, by decide⟩ zq_fan, ?_⟩
  intro r P h H hM
  have q0 : zq_ev r (-1, [(5, -1), (6, -1), (7, 1)]) = -r 5 - r 6 + r 7 - 1 := by simp only [zq_ev, zq_ts] <;> omega
  have q1 : zq_ev r (2, [(9, -1)]) = -r 9 + 2 := zu_e5 _ _ _
  have q2 : zq_ev r (-1, [(11, 1)]) = r 11 - 1 := zu_e3 _ _ _
  have q3 : zq_ev r (1, [(11, -1)]) = -r 11 + 1 := zu_e5 _ _ _
  have q4 : zq_ev r (-5, [(13, 1)]) = r 13 - 5 := zu_e3 _ _ _
  have q5 : zq_ev r (0, [(0, 1)]) = r 0 := zu_e1 _ _
  have q6 : zq_ev r (0, [(1, 1)]) = r 1 := zu_e1 _ _
  have q7 : zq_ev r (0, [(2, 1)]) = r 2 := zu_e1 _ _
  have q8 : zq_ev r (0, [(3, 1)]) = r 3 := zu_e1 _ _
  have q9 : zq_ev r (0, [(4, 1)]) = r 4 := zu_e1 _ _
  have q10 : zq_ev r (0, [(5, 1)]) = r 5 := zu_e1 _ _
  have q11 : zq_ev r (0, [(8, 1)]) = r 8 := zu_e1 _ _
  have q12 : zq_ev r (0, [(6, 1)]) = r 6 := zu_e1 _ _
  have q13 : zq_ev r (0, [(7, 1)]) = r 7 := zu_e1 _ _
  have q14 : zq_ev r (0, [(9, 1)]) = r 9 := zu_e1 _ _
  have q15 : zq_ev r (4, []) = 4 := zu_e0 _ _
  have q16 : zq_ev r (0, []) = 0 := zu_e0 _ _
  have q17 : zq_ev r (1, [(5, 1)]) = r 5 + 1 := zu_e2 _ _ _
  have q18 : zq_ev r (0, [(10, 1)]) = r 10 := zu_e1 _ _
  have q19 : zq_ev r (0, [(11, 1)]) = r 11 := zu_e1 _ _
  have q20 : zq_ev r (0, [(12, 1)]) = r 12 := zu_e1 _ _
  have q21 : zq_ev r (0, [(13, 1)]) = r 13 := zu_e1 _ _
  obtain ⟨hT, hC, hF, hS, -, hK⟩ := hM
  have c := hC.1
  have a1 := zq_all_1 c
  rw [q0] at a1
  have c := zq_all_t c
  have a2 := zq_all_1 c
  rw [q1] at a2
  have c := zq_all_t c
  have a3 := zq_all_1 c
  rw [q2] at a3
  have c := zq_all_t c
  have a4 := zq_all_1 c
  rw [q3] at a4
  have c := zq_all_t c
  have a5 := zq_all_1 c
  rw [q4] at a5
  have k1 := zj_use x_LW (hK)
  have k1 : zl_LW (zq_ev r (0, [(0, 1)])) (zq_ev r (0, [(1, 1)])) (zq_ev r (0, [(2, 1)])) (zq_ev r (0, [(3, 1)])) (zq_ev r (0, [(4, 1)])) (zq_ev r (0, [(5, 1)])) P h := k1
  simp only [q10, q5, q6, q7, q8, q9] at k1
  have k2 := zj_use x_TX (zq_okX_t (hK))
  have k2 : ze_TX (zq_ev r (0, [(8, 1)])) (zq_ev r (0, [(6, 1)])) (zq_ev r (0, [(7, 1)])) (zq_ev r (0, [(1, 1)])) (zq_ev r (0, [(2, 1)])) P h := k2
  simp only [q11, q12, q13, q6, q7] at k2
  have k3 := zj_use x_CD (zq_okX_t (zq_okX_t (hK)))
  have k3 : ze_CD (zq_ev r (0, [(1, 1)])) (zq_ev r (0, [(2, 1)])) (zq_ev r (0, [(5, 1)])) (zq_ev r (0, [(9, 1)])) P h := k3
  simp only [q10, q14, q6, q7] at k3
  have k4 := zj_use x_EV (zq_okX_t (zq_okX_t (zq_okX_t (hK))))
  have k4 : ze_EV (zq_ev r (4, [])) (zq_ev r (0, [(1, 1)])) (zq_ev r (0, [(2, 1)])) (zq_ev r (0, [])) (zq_ev r (0, [(3, 1)])) (zq_ev r (0, [])) (zq_ev r (1, [(5, 1)])) (zq_ev r (0, [(10, 1)])) (zq_ev r (0, [(11, 1)])) (zq_ev r (0, [(12, 1)])) P h := k4
  simp only [q15, q16, q17, q18, q19, q20, q6, q7, q8] at k4
  have k5 := zj_use x_CD (zq_okX_t (zq_okX_t (zq_okX_t (zq_okX_t (hK)))))
  have k5 : ze_CD (zq_ev r (0, [(1, 1)])) (zq_ev r (0, [(2, 1)])) (zq_ev r (0, [(12, 1)])) (zq_ev r (0, [(13, 1)])) P h := k5
  simp only [q20, q21, q6, q7] at k5
  obtain t1 := zl_s0b5_l (P := P) (h := h) (k := r 0) (g := r 1) (n := r 2) (W := r 3) (a := r 4) (p := r 5) (B := r 6) (E := r 7) (K := r 8) (c := r 9) (x := r 10) (b := r 11) (q := r 12) (s := r 13) a1 a2 a3 a4 a5 k1 k2 k3 k4 k5
  obtain ⟨rq, hr⟩ : ∃ rq : Nat → Int, (∀ i, i < 14 → rq i = r i) := ⟨r, fun i hi => rfl⟩
  have v0 : rq 0 = r 0 := hr 0 (by decide)
  have v1 : rq 1 = r 1 := hr 1 (by decide)
  have v2 : rq 2 = r 2 := hr 2 (by decide)
  have v3 : rq 3 = r 3 := hr 3 (by decide)
  have v4 : rq 4 = r 4 := hr 4 (by decide)
  have v12 : rq 12 = r 12 := hr 12 (by decide)
  have g0 : zq_ev rq (0, [(0, 1)]) = r 0 := zu_f1 v0
  have g1 : zq_ev rq (0, [(1, 1)]) = r 1 := zu_f1 v1
  have g2 : zq_ev rq (0, [(2, 1)]) = r 2 := zu_f1 v2
  have g3 : zq_ev rq (0, [(3, 1)]) = r 3 := zu_f1 v3
  have g4 : zq_ev rq (0, [(4, 1)]) = r 4 := zu_f1 v4
  have g5 : zq_ev rq (1, [(12, 1)]) = r 12 + 1 := zu_f2 v12 _
  exact ⟨_, List.mem_cons_self .., rq, hr, zq_MeS_mk rfl hT (zq_all_nil) zq_fan (zq_fan) rfl (zu_fac ((x_LW _ _ _).mpr (by show zl_LW (zq_ev rq (0, [(0, 1)])) (zq_ev rq (0, [(1, 1)])) (zq_ev rq (0, [(2, 1)])) (zq_ev rq (0, [(3, 1)])) (zq_ev rq (0, [(4, 1)])) (zq_ev rq (1, [(12, 1)])) P h; simp only [g0, g1, g2, g3, g4, g5]; exact t1)) zq_fan)⟩
noncomputable def zl_nty : zq_S × List zq_S := (([], [], [(-1, [(5, -1), (6, -1), (7, 1)]), (-3, [(9, 1)]), (3, [(9, -1)]), (0, [(0, -1), (9, 1)]), (0, [(0, 1), (9, -1)]), (-1, [(10, 1)]), (1, [(10, -1)]), (0, [(11, -1)]), (0, [(11, 1)])], [], [], [], [(230, [(0, [(0, 1)]), (0, [(1, 1)]), (0, [(2, 1)]), (0, [(3, 1)]), (0, [(4, 1)]), (0, [(5, 1)])]), (226, [(0, [(8, 1)]), (0, [(6, 1)]), (0, [(7, 1)]), (0, [(1, 1)]), (0, [(2, 1)])]), (224, [(0, [(1, 1)]), (0, [(2, 1)]), (0, [(5, 1)]), (0, [(9, 1)])]), (224, [(0, [(1, 1)]), (0, [(2, 1)]), (1, [(5, 1)]), (4, [])]), (220, [(10, []), (0, [(1, 1)]), (0, [(2, 1)]), (0, []), (0, [(3, 1)]), (0, []), (2, [(5, 1)]), (0, [(10, 1)]), (0, [(11, 1)]), (0, [(12, 1)])])], 13), [([], [], [], [], [], [], [(230, [(0, [(0, 1)]), (0, [(1, 1)]), (0, [(2, 1)]), (0, [(3, 1)]), (1, []), (1, [(12, 1)])])], 13)])
theorem zl_nty_l {P : zq_Ty} {h : zq_H} {k g n W a p B E K c t d y : Int} (a1 : 0 ≤ -p - B + E - 1) (a2 : 0 ≤ c - 3) (a3 : 0 ≤ -c + 3) (a4 : 0 ≤ -k + c) (a5 : 0 ≤ k - c) (a6 : 0 ≤ t - 1) (a7 : 0 ≤ -t + 1) (a8 : 0 ≤ -d) (a9 : 0 ≤ d) (k1 : zl_LW k g n W a p P h) (k2 : ze_TX K B E g n P h) (k3 : ze_CD g n p c P h) (k4 : ze_CD g n (p + 1) 4 P h) (k5 : ze_EV 10 g n 0 W 0 (p + 2) t d y P h) : (zl_LW k g n W 1 (y + 1) P h) := by
  obtain ⟨z1, z2, z3, z4, z5⟩ := k2
  have hL : p < ze_L g n := by unfold ze_L; omega
  have k3 : c = ze_c g n p := k3
  intro r hr
  apply k1 r
  have e2 : p + 1 + 1 = p + 2 := by omega
  have kc : 4 = ze_c g n (p + 1) := k4
  have kt : ze_V (ze_c g n) (ze_v g n) (ze_w 0 W) 10 0 true (ze_on 0) (p + 2) t (ze_on d) y := k5
  rw [ze_on0] at kt
  rw [← e2] at kt
  have hd : ze_on d = false := by rw [show d = 0 by omega]; exact ze_on0
  refine zl_nt hL (by omega) kc.symm kt ?_
  rw [if_pos ⟨by omega, by omega, hd⟩]
  exact hr
theorem zl_nty_ok {w : zq_Wd} (x_LW : zj_is w 230 (fun q => zl_LW (q 0) (q 1) (q 2) (q 3) (q 4) (q 5))) (x_TX : zj_is w 226 (fun q => ze_TX (q 0) (q 1) (q 2) (q 3) (q 4))) (x_CD : zj_is w 224 (fun q => ze_CD (q 0) (q 1) (q 2) (q 3))) (x_EV : zj_is w 220 (fun q => ze_EV (q 0) (q 1) (q 2) (q 3) (q 4) (q 5) (q 6) (q 7) (q 8) (q 9))) : zq_okG1 w zl_nty := by
  refine ⟨rfl, rfl, zu_fac ⟨rfl, by decide⟩ zq_fan, ?_⟩
  intro r P h H hM
  have q0 : zq_ev r (-1, [(5, -1), (6, -1), (7, 1)]) = -r 5 - r 6 + r 7 - 1 := by simp only [zq_ev, zq_ts] <;> omega
  have q1 : zq_ev r (-3, [(9, 1)]) = r 9 - 3 := zu_e3 _ _ _
  have q2 : zq_ev r (3, [(9, -1)]) = -r 9 + 3 := zu_e5 _ _ _
  have q3 : zq_ev r (0, [(0, -1), (9, 1)]) = -r 0 + r 9 := by simp only [zq_ev, zq_ts] <;> omega
  have q4 : zq_ev r (0, [(0, 1), (9, -1)]) = r 0 - r 9 := by simp only [zq_ev, zq_ts] <;> omega
  have q5 : zq_ev r (-1, [(10, 1)]) = r 10 - 1 := zu_e3 _ _ _
  have q6 : zq_ev r (1, [(10, -1)]) = -r 10 + 1 := zu_e5 _ _ _
  have q7 : zq_ev r (0, [(11, -1)]) = -r 11 := zu_e4 _ _
  have q8 : zq_ev r (0, [(11, 1)]) = r 11 := zu_e1 _ _
  have q9 : zq_ev r (0, [(0, 1)]) = r 0 := zu_e1 _ _
  have q10 : zq_ev r (0, [(1, 1)]) = r 1 := zu_e1 _ _
  have q11 : zq_ev r (0, [(2, 1)]) = r 2 := zu_e1 _ _
  have q12 : zq_ev r (0, [(3, 1)]) = r 3 := zu_e1 _ _
  have q13 : zq_ev r (0, [(4, 1)]) = r 4 := zu_e1 _ _
  have q14 : zq_ev r (0, [(5, 1)]) = r 5 := zu_e1 _ _
  have q15 : zq_ev r (0, [(8, 1)]) = r 8 := zu_e1 _ _
  have q16 : zq_ev r (0, [(6, 1)]) = r 6 := zu_e1 _ _
  have q17 : zq_ev r (0, [(7, 1)]) = r 7 := zu_e1 _ _
  have q18 : zq_ev r (0, [(9, 1)]) = r 9 := zu_e1 _ _
  have q19 : zq_ev r (1, [(5, 1)]) = r 5 + 1 := zu_e2 _ _ _
  have q20 : zq_ev r (4, []) = 4 := zu_e0 _ _
  have q21 : zq_ev r (10, []) = 10 := zu_e0 _ _
  have q22 : zq_ev r (0, []) = 0 := zu_e0 _ _
  have q23 : zq_ev r (2, [(5, 1)]) = r 5 + 2 := zu_e2 _ _ _
  have q24 : zq_ev r (0, [(10, 1)]) = r 10 := zu_e1 _ _
  have q25 : zq_ev r (0, [(12, 1)]) = r 12 := zu_e1 _ _
  obtain ⟨hT, hC, hF, hS, -, hK⟩ := hM
  have c := hC.1
  have a1 := zq_all_1 c
  rw [q0] at a1
  have c := zq_all_t c
  have a2 := zq_all_1 c
  rw [q1] at a2
  have c := zq_all_t c
  have a3 := zq_all_1 c
  rw [q2] at a3
  have c := zq_all_t c
  have a4 := zq_all_1 c
  rw [q3] at a4
  have c := zq_all_t c
  have a5 := zq_all_1 c
  rw [q4] at a5
  have c := zq_all_t c
  have a6 := zq_all_1 c
  rw [q5] at a6
  have c := zq_all_t c
  have a7 := zq_all_1 c
  rw [q6] at a7
  have c := zq_all_t c
  have a8 := zq_all_1 c
  rw [q7] at a8
  have c := zq_all_t c
  have a9 := zq_all_1 c
  rw [q8] at a9
  have k1 := zj_use x_LW (hK)
  have k1 : zl_LW (zq_ev r (0, [(0, 1)])) (zq_ev r (0, [(1, 1)])) (zq_ev r (0, [(2, 1)])) (zq_ev r (0, [(3, 1)])) (zq_ev r (0, [(4, 1)])) (zq_ev r (0, [(5, 1)])) P h := k1
  simp only [q10, q11, q12, q13, q14, q9] at k1
  have k2 := zj_use x_TX (zq_okX_t (hK))
  have k2 : ze_TX (zq_ev r (0, [(8, 1)])) (zq_ev r (0, [(6, 1)])) (zq_ev r (0, [(7, 1)])) (zq_ev r (0, [(1, 1)])) (zq_ev r (0, [(2, 1)])) P h := k2
  simp only [q10, q11, q15, q16, q17] at k2
  have k3 := zj_use x_CD (zq_okX_t (zq_okX_t (hK)))
  have k3 : ze_CD (zq_ev r (0, [(1, 1)])) (zq_ev r (0, [(2, 1)])) (zq_ev r (0, [(5, 1)])) (zq_ev r (0, [(9, 1)])) P h := k3
  simp only [q10, q11, q14, q18] at k3
  have k4 := zj_use x_CD (zq_okX_t (zq_okX_t (zq_okX_t (hK))))
  have k4 : ze_CD (zq_ev r (0, [(1, 1)])) (zq_ev r (0, [(2, 1)])) (zq_ev r (1, [(5, 1)])) (zq_ev r (4, [])) P h := k4
  simp only [q10, q11, q19, q20] at k4
  have k5 := zj_use x_EV (zq_okX_t (zq_okX_t (zq_okX_t (zq_okX_t (hK)))))
  have k5 : ze_EV (zq_ev r (10, [])) (zq_ev r (0, [(1, 1)])) (zq_ev r (0, [(2, 1)])) (zq_ev r (0, [])) (zq_ev r (0, [(3, 1)])) (zq_ev r (0, [])) (zq_ev r (2, [(5, 1)])) (zq_ev r (0, [(10, 1)])) (zq_ev r (0, [(11, 1)])) (zq_ev r (0, [(12, 1)])) P h := k5
  simp only [q10, q11, q12, q21, q22, q23, q24, q25, q8] at k5
  obtain t1 := zl_nty_l (P := P) (h := h) (k := r 0) (g := r 1) (n := r 2) (W := r 3) (a := r 4) (p := r 5) (B := r 6) (E := r 7) (K := r 8) (c := r 9) (t := r 10) (d := r 11) (y := r 12) a1 a2 a3 a4 a5 a6 a7 a8 a9 k1 k2 k3 k4 k5
  obtain ⟨rq, hr⟩ : ∃ rq : Nat → Int, (∀ i, i < 13 → rq i = r i) := ⟨r, fun i hi => rfl⟩
  have v0 : rq 0 = r 0 := hr 0 (by decide)
  have v1 : rq 1 = r 1 := hr 1 (by decide)
  have v2 : rq 2 = r 2 := hr 2 (by decide)
  have v3 : rq 3 = r 3 := hr 3 (by decide)
  have v12 : rq 12 = r 12 := hr 12 (by decide)
  have g0 : zq_ev rq (0, [(0, 1)]) = r 0 := zu_f1 v0
  have g1 : zq_ev rq (0, [(1, 1)]) = r 1 := zu_f1 v1
  have g2 : zq_ev rq (0, [(2, 1)]) = r 2 := zu_f1 v2
  have g3 : zq_ev rq (0, [(3, 1)]) = r 3 := zu_f1 v3
  have g4 : zq_ev rq (1, []) = 1 := zu_e0 _ _
  have g5 : zq_ev rq (1, [(12, 1)]) = r 12 + 1 := zu_f2 v12 _
  exact ⟨_, List.mem_cons_self .., rq, hr, zq_MeS_mk rfl hT (zq_all_nil) zq_fan (zq_fan) rfl (zu_fac ((x_LW _ _ _).mpr (by show zl_LW (zq_ev rq (0, [(0, 1)])) (zq_ev rq (0, [(1, 1)])) (zq_ev rq (0, [(2, 1)])) (zq_ev rq (0, [(3, 1)])) (zq_ev rq (1, [])) (zq_ev rq (1, [(12, 1)])) P h; simp only [g0, g1, g2, g3, g4, g5]; exact t1)) zq_fan)⟩
noncomputable def zl_nthg : zq_S × List zq_S := (([], [], [(-1, [(5, -1), (6, -1), (7, 1)]), (-3, [(9, 1)]), (3, [(9, -1)]), (-1, [(0, -1), (9, 1)])], [], [], [], [(230, [(0, [(0, 1)]), (0, [(1, 1)]), (0, [(2, 1)]), (0, [(3, 1)]), (0, [(4, 1)]), (0, [(5, 1)])]), (226, [(0, [(8, 1)]), (0, [(6, 1)]), (0, [(7, 1)]), (0, [(1, 1)]), (0, [(2, 1)])]), (224, [(0, [(1, 1)]), (0, [(2, 1)]), (0, [(5, 1)]), (0, [(9, 1)])]), (224, [(0, [(1, 1)]), (0, [(2, 1)]), (1, [(5, 1)]), (4, [])]), (220, [(10, []), (0, [(1, 1)]), (0, [(2, 1)]), (0, []), (0, [(3, 1)]), (0, []), (2, [(5, 1)]), (0, [(10, 1)]), (0, [(11, 1)]), (0, [(12, 1)])])], 13), [([], [], [], [], [], [], [(230, [(0, [(0, 1)]), (0, [(1, 1)]), (0, [(2, 1)]), (0, [(3, 1)]), (0, [(4, 1)]), (1, [(12, 1)])])], 13)])
theorem zl_nthg_l {P : zq_Ty} {h : zq_H} {k g n W a p B E K c t d y : Int} (a1 : 0 ≤ -p - B + E - 1) (a2 : 0 ≤ c - 3) (a3 : 0 ≤ -c + 3) (a4 : 0 ≤ -k + c - 1) (k1 : zl_LW k g n W a p P h) (k2 : ze_TX K B E g n P h) (k3 : ze_CD g n p c P h) (k4 : ze_CD g n (p + 1) 4 P h) (k5 : ze_EV 10 g n 0 W 0 (p + 2) t d y P h) : (zl_LW k g n W a (y + 1) P h) := by
  obtain ⟨z1, z2, z3, z4, z5⟩ := k2
  have hL : p < ze_L g n := by unfold ze_L; omega
  have k3 : c = ze_c g n p := k3
  intro r hr
  apply k1 r
  have e2 : p + 1 + 1 = p + 2 := by omega
  have kc : 4 = ze_c g n (p + 1) := k4
  have kt : ze_V (ze_c g n) (ze_v g n) (ze_w 0 W) 10 0 true (ze_on 0) (p + 2) t (ze_on d) y := k5
  rw [ze_on0] at kt
  rw [← e2] at kt
  refine zl_nt hL (by omega) kc.symm kt ?_
  rw [if_neg (fun z => by have z := z.1; omega)]
  exact hr
theorem zl_nthg_ok {w : zq_Wd} (x_LW : zj_is w 230 (fun q => zl_LW (q 0) (q 1) (q 2) (q 3) (q 4) (q 5))) (x_TX : zj_is w 226 (fun q => ze_TX (q 0) (q 1) (q 2) (q 3) (q 4))) (x_CD : zj_is w 224 (fun q => ze_CD (q 0) (q 1) (q 2) (q 3))) (x_EV : zj_is w 220 (fun q => ze_EV (q 0) (q 1) (q 2) (q 3) (q 4) (q 5) (q 6) (q 7) (q 8) (q 9))) : zq_okG1 w zl_nthg := by
  refine ⟨rfl, rfl, zu_fac ⟨rfl, by decide⟩ zq_fan, ?_⟩
  intro r P h H hM
  have q0 : zq_ev r (-1, [(5, -1), (6, -1), (7, 1)]) = -r 5 - r 6 + r 7 - 1 := by simp only [zq_ev, zq_ts] <;> omega
  have q1 : zq_ev r (-3, [(9, 1)]) = r 9 - 3 := zu_e3 _ _ _
  have q2 : zq_ev r (3, [(9, -1)]) = -r 9 + 3 := zu_e5 _ _ _
  have q3 : zq_ev r (-1, [(0, -1), (9, 1)]) = -r 0 + r 9 - 1 := by simp only [zq_ev, zq_ts] <;> omega
  have q4 : zq_ev r (0, [(0, 1)]) = r 0 := zu_e1 _ _
  have q5 : zq_ev r (0, [(1, 1)]) = r 1 := zu_e1 _ _
  have q6 : zq_ev r (0, [(2, 1)]) = r 2 := zu_e1 _ _
  have q7 : zq_ev r (0, [(3, 1)]) = r 3 := zu_e1 _ _
  have q8 : zq_ev r (0, [(4, 1)]) = r 4 := zu_e1 _ _
  have q9 : zq_ev r (0, [(5, 1)]) = r 5 := zu_e1 _ _
  have q10 : zq_ev r (0, [(8, 1)]) = r 8 := zu_e1 _ _
  have q11 : zq_ev r (0, [(6, 1)]) = r 6 := zu_e1 _ _
  have q12 : zq_ev r (0, [(7, 1)]) = r 7 := zu_e1 _ _
  have q13 : zq_ev r (0, [(9, 1)]) = r 9 := zu_e1 _ _
  have q14 : zq_ev r (1, [(5, 1)]) = r 5 + 1 := zu_e2 _ _ _
  have q15 : zq_ev r (4, []) = 4 := zu_e0 _ _
  have q16 : zq_ev r (10, []) = 10 := zu_e0 _ _
  have q17 : zq_ev r (0, []) = 0 := zu_e0 _ _
  have q18 : zq_ev r (2, [(5, 1)]) = r 5 + 2 := zu_e2 _ _ _
  have q19 : zq_ev r (0, [(10, 1)]) = r 10 := zu_e1 _ _
  have q20 : zq_ev r (0, [(11, 1)]) = r 11 := zu_e1 _ _
  have q21 : zq_ev r (0, [(12, 1)]) = r 12 := zu_e1 _ _
  obtain ⟨hT, hC, hF, hS, -, hK⟩ := hM
  have c := hC.1
  have a1 := zq_all_1 c
  rw [q0] at a1
  have c := zq_all_t c
  have a2 := zq_all_1 c
  rw [q1] at a2
  have c := zq_all_t c
  have a3 := zq_all_1 c
  rw [q2] at a3
  have c := zq_all_t c
  have a4 := zq_all_1 c
  rw [q3] at a4
  have k1 := zj_use x_LW (hK)
  have k1 : zl_LW (zq_ev r (0, [(0, 1)])) (zq_ev r (0, [(1, 1)])) (zq_ev r (0, [(2, 1)])) (zq_ev r (0, [(3, 1)])) (zq_ev r (0, [(4, 1)])) (zq_ev r (0, [(5, 1)])) P h := k1
  simp only [q4, q5, q6, q7, q8, q9] at k1
  have k2 := zj_use x_TX (zq_okX_t (hK))
  have k2 : ze_TX (zq_ev r (0, [(8, 1)])) (zq_ev r (0, [(6, 1)])) (zq_ev r (0, [(7, 1)])) (zq_ev r (0, [(1, 1)])) (zq_ev r (0, [(2, 1)])) P h := k2
  simp only [q10, q11, q12, q5, q6] at k2
  have k3 := zj_use x_CD (zq_okX_t (zq_okX_t (hK)))
  have k3 : ze_CD (zq_ev r (0, [(1, 1)])) (zq_ev r (0, [(2, 1)])) (zq_ev r (0, [(5, 1)])) (zq_ev r (0, [(9, 1)])) P h := k3
  simp only [q13, q5, q6, q9] at k3
  have k4 := zj_use x_CD (zq_okX_t (zq_okX_t (zq_okX_t (hK))))
  have k4 : ze_CD (zq_ev r (0, [(1, 1)])) (zq_ev r (0, [(2, 1)])) (zq_ev r (1, [(5, 1)])) (zq_ev r (4, [])) P h := k4
  simp only [q14, q15, q5, q6] at k4
  have k5 := zj_use x_EV (zq_okX_t (zq_okX_t (zq_okX_t (zq_okX_t (hK)))))
  have k5 : ze_EV (zq_ev r (10, [])) (zq_ev r (0, [(1, 1)])) (zq_ev r (0, [(2, 1)])) (zq_ev r (0, [])) (zq_ev r (0, [(3, 1)])) (zq_ev r (0, [])) (zq_ev r (2, [(5, 1)])) (zq_ev r (0, [(10, 1)])) (zq_ev r (0, [(11, 1)])) (zq_ev r (0, [(12, 1)])) P h := k5
  simp only [q16, q17, q18, q19, q20, q21, q5, q6, q7] at k5
  obtain t1 := zl_nthg_l (P := P) (h := h) (k := r 0) (g := r 1) (n := r 2) (W := r 3) (a := r 4) (p := r 5) (B := r 6) (E := r 7) (K := r 8) (c := r 9) (t := r 10) (d := r 11) (y := r 12) a1 a2 a3 a4 k1 k2 k3 k4 k5
  obtain ⟨rq, hr⟩ : ∃ rq : Nat → Int, (∀ i, i < 13 → rq i = r i) := ⟨r, fun i hi => rfl⟩
  have v0 : rq 0 = r 0 := hr 0 (by decide)
  have v1 : rq 1 = r 1 := hr 1 (by decide)
  have v2 : rq 2 = r 2 := hr 2 (by decide)
  have v3 : rq 3 = r 3 := hr 3 (by decide)
  have v4 : rq 4 = r 4 := hr 4 (by decide)
  have v12 : rq 12 = r 12 := hr 12 (by decide)
  have g0 : zq_ev rq (0, [(0, 1)]) = r 0 := zu_f1 v0
  have g1 : zq_ev rq (0, [(1, 1)]) = r 1 := zu_f1 v1
  have g2 : zq_ev rq (0, [(2, 1)]) = r 2 := zu_f1 v2
  have g3 : zq_ev rq (0, [(3, 1)]) = r 3 := zu_f1 v3
  have g4 : zq_ev rq (0, [(4, 1)]) = r 4 := zu_f1 v4
  have g5 : zq_ev rq (1, [(12, 1)]) = r 12 + 1 := zu_f2 v12 _
  exact ⟨_, List.mem_cons_self .., rq, hr, zq_MeS_mk rfl hT (zq_all_nil) zq_fan (zq_fan) rfl (zu_fac ((x_LW _ _ _).mpr (by show zl_LW (zq_ev rq (0, [(0, 1)])) (zq_ev rq (0, [(1, 1)])) (zq_ev rq (0, [(2, 1)])) (zq_ev rq (0, [(3, 1)])) (zq_ev rq (0, [(4, 1)])) (zq_ev rq (1, [(12, 1)])) P h; simp only [g0, g1, g2, g3, g4, g5]; exact t1)) zq_fan)⟩
noncomputable def zl_nthl : zq_S × List zq_S := (([], [], [(-1, [(5, -1), (6, -1), (7, 1)]), (-3, [(9, 1)]), (3, [(9, -1)]), (-1, [(0, 1), (9, -1)])], [], [], [], [(230, [(0, [(0, 1)]), (0, [(1, 1)]), (0, [(2, 1)]), (0, [(3, 1)]), (0, [(4, 1)]), (0, [(5, 1)])]), (226, [(0, [(8, 1)]), (0, [(6, 1)]), (0, [(7, 1)]), (0, [(1, 1)]), (0, [(2, 1)])]), (224, [(0, [(1, 1)]), (0, [(2, 1)]), (0, [(5, 1)]), (0, [(9, 1)])]), (224, [(0, [(1, 1)]), (0, [(2, 1)]), (1, [(5, 1)]), (4, [])]), (220, [(10, []), (0, [(1, 1)]), (0, [(2, 1)]), (0, []), (0, [(3, 1)]), (0, []), (2, [(5, 1)]), (0, [(10, 1)]), (0, [(11, 1)]), (0, [(12, 1)])])], 13), [([], [], [], [], [], [], [(230, [(0, [(0, 1)]), (0, [(1, 1)]), (0, [(2, 1)]), (0, [(3, 1)]), (0, [(4, 1)]), (1, [(12, 1)])])], 13)])
theorem zl_nthl_l {P : zq_Ty} {h : zq_H} {k g n W a p B E K c t d y : Int} (a1 : 0 ≤ -p - B + E - 1) (a2 : 0 ≤ c - 3) (a3 : 0 ≤ -c + 3) (a4 : 0 ≤ k - c - 1) (k1 : zl_LW k g n W a p P h) (k2 : ze_TX K B E g n P h) (k3 : ze_CD g n p c P h) (k4 : ze_CD g n (p + 1) 4 P h) (k5 : ze_EV 10 g n 0 W 0 (p + 2) t d y P h) : (zl_LW k g n W a (y + 1) P h) := by
  obtain ⟨z1, z2, z3, z4, z5⟩ := k2
  have hL : p < ze_L g n := by unfold ze_L; omega
  have k3 : c = ze_c g n p := k3
  intro r hr
  apply k1 r
  have e2 : p + 1 + 1 = p + 2 := by omega
  have kc : 4 = ze_c g n (p + 1) := k4
  have kt : ze_V (ze_c g n) (ze_v g n) (ze_w 0 W) 10 0 true (ze_on 0) (p + 2) t (ze_on d) y := k5
  rw [ze_on0] at kt
  rw [← e2] at kt
  refine zl_nt hL (by omega) kc.symm kt ?_
  rw [if_neg (fun z => by have z := z.1; omega)]
  exact hr
theorem zl_nthl_ok {w : zq_Wd} (x_LW : zj_is w 230 (fun q => zl_LW (q 0) (q 1) (q 2) (q 3) (q 4) (q 5))) (x_TX : zj_is w 226 (fun q => ze_TX (q 0) (q 1) (q 2) (q 3) (q 4))) (x_CD : zj_is w 224 (fun q => ze_CD (q 0) (q 1) (q 2) (q 3))) (x_EV : zj_is w 220 (fun q => ze_EV (q 0) (q 1) (q 2) (q 3) (q 4) (q 5) (q 6) (q 7) (q 8) (q 9))) : zq_okG1 w zl_nthl := by
  refine ⟨rfl, rfl, zu_fac ⟨rfl, by decide⟩ zq_fan, ?_⟩
  intro r P h H hM
  have q0 : zq_ev r (-1, [(5, -1), (6, -1), (7, 1)]) = -r 5 - r 6 + r 7 - 1 := by simp only [zq_ev, zq_ts] <;> omega
  have q1 : zq_ev r (-3, [(9, 1)]) = r 9 - 3 := zu_e3 _ _ _
  have q2 : zq_ev r (3, [(9, -1)]) = -r 9 + 3 := zu_e5 _ _ _
  have q3 : zq_ev r (-1, [(0, 1), (9, -1)]) = r 0 - r 9 - 1 := by simp only [zq_ev, zq_ts] <;> omega
  have q4 : zq_ev r (0, [(0, 1)]) = r 0 := zu_e1 _ _
  have q5 : zq_ev r (0, [(1, 1)]) = r 1 := zu_e1 _ _
  have q6 : zq_ev r (0, [(2, 1)]) = r 2 := zu_e1 _ _
  have q7 : zq_ev r (0, [(3, 1)]) = r 3 := zu_e1 _ _
  have q8 : zq_ev r (0, [(4, 1)]) = r 4 := zu_e1 _ _
  have q9 : zq_ev r (0, [(5, 1)]) = r 5 := zu_e1 _ _
  have q10 : zq_ev r (0, [(8, 1)]) = r 8 := zu_e1 _ _
  have q11 : zq_ev r (0, [(6, 1)]) = r 6 := zu_e1 _ _
  have q12 : zq_ev r (0, [(7, 1)]) = r 7 := zu_e1 _ _
  have q13 : zq_ev r (0, [(9, 1)]) = r 9 := zu_e1 _ _
  have q14 : zq_ev r (1, [(5, 1)]) = r 5 + 1 := zu_e2 _ _ _
  have q15 : zq_ev r (4, []) = 4 := zu_e0 _ _
  have q16 : zq_ev r (10, []) = 10 := zu_e0 _ _
  have q17 : zq_ev r (0, []) = 0 := zu_e0 _ _
  have q18 : zq_ev r (2, [(5, 1)]) = r 5 + 2 := zu_e2 _ _ _
  have q19 : zq_ev r (0, [(10, 1)]) = r 10 := zu_e1 _ _
  have q20 : zq_ev r (0, [(11, 1)]) = r 11 := zu_e1 _ _
  have q21 : zq_ev r (0, [(12, 1)]) = r 12 := zu_e1 _ _
  obtain ⟨hT, hC, hF, hS, -, hK⟩ := hM
  have c := hC.1
  have a1 := zq_all_1 c
  rw [q0] at a1
  have c := zq_all_t c
  have a2 := zq_all_1 c
  rw [q1] at a2
  have c := zq_all_t c
  have a3 := zq_all_1 c
  rw [q2] at a3
  have c := zq_all_t c
  have a4 := zq_all_1 c
  rw [q3] at a4
  have k1 := zj_use x_LW (hK)
  have k1 : zl_LW (zq_ev r (0, [(0, 1)])) (zq_ev r (0, [(1, 1)])) (zq_ev r (0, [(2, 1)])) (zq_ev r (0, [(3, 1)])) (zq_ev r (0, [(4, 1)])) (zq_ev r (0, [(5, 1)])) P h := k1
  simp only [q4, q5, q6, q7, q8, q9] at k1
  have k2 := zj_use x_TX (zq_okX_t (hK))
  have k2 : ze_TX (zq_ev r (0, [(8, 1)])) (zq_ev r (0, [(6, 1)])) (zq_ev r (0, [(7, 1)])) (zq_ev r (0, [(1, 1)])) (zq_ev r (0, [(2, 1)])) P h := k2
  simp only [q10, q11, q12, q5, q6] at k2
  have k3 := zj_use x_CD (zq_okX_t (zq_okX_t (hK)))
  have k3 : ze_CD (zq_ev r (0, [(1, 1)])) (zq_ev r (0, [(2, 1)])) (zq_ev r (0, [(5, 1)])) (zq_ev r (0, [(9, 1)])) P h := k3
  simp only [q13, q5, q6, q9] at k3
  have k4 := zj_use x_CD (zq_okX_t (zq_okX_t (zq_okX_t (hK))))
  have k4 : ze_CD (zq_ev r (0, [(1, 1)])) (zq_ev r (0, [(2, 1)])) (zq_ev r (1, [(5, 1)])) (zq_ev r (4, [])) P h := k4
  simp only [q14, q15, q5, q6] at k4
  have k5 := zj_use x_EV (zq_okX_t (zq_okX_t (zq_okX_t (zq_okX_t (hK)))))
  have k5 : ze_EV (zq_ev r (10, [])) (zq_ev r (0, [(1, 1)])) (zq_ev r (0, [(2, 1)])) (zq_ev r (0, [])) (zq_ev r (0, [(3, 1)])) (zq_ev r (0, [])) (zq_ev r (2, [(5, 1)])) (zq_ev r (0, [(10, 1)])) (zq_ev r (0, [(11, 1)])) (zq_ev r (0, [(12, 1)])) P h := k5
  simp only [q16, q17, q18, q19, q20, q21, q5, q6, q7] at k5
  obtain t1 := zl_nthl_l (P := P) (h := h) (k := r 0) (g := r 1) (n := r 2) (W := r 3) (a := r 4) (p := r 5) (B := r 6) (E := r 7) (K := r 8) (c := r 9) (t := r 10) (d := r 11) (y := r 12) a1 a2 a3 a4 k1 k2 k3 k4 k5
  obtain ⟨rq, hr⟩ : ∃ rq : Nat → Int, (∀ i, i < 13 → rq i = r i) := ⟨r, fun i hi => rfl⟩
  have v0 : rq 0 = r 0 := hr 0 (by decide)
  have v1 : rq 1 = r 1 := hr 1 (by decide)
  have v2 : rq 2 = r 2 := hr 2 (by decide)
  have v3 : rq 3 = r 3 := hr 3 (by decide)
  have v4 : rq 4 = r 4 := hr 4 (by decide)
  have v12 : rq 12 = r 12 := hr 12 (by decide)
  have g0 : zq_ev rq (0, [(0, 1)]) = r 0 := zu_f1 v0
  have g1 : zq_ev rq (0, [(1, 1)]) = r 1 := zu_f1 v1
  have g2 : zq_ev rq (0, [(2, 1)]) = r 2 := zu_f1 v2
  have g3 : zq_ev rq (0, [(3, 1)]) = r 3 := zu_f1 v3
  have g4 : zq_ev rq (0, [(4, 1)]) = r 4 := zu_f1 v4
  have g5 : zq_ev rq (1, [(12, 1)]) = r 12 + 1 := zu_f2 v12 _
  exact ⟨_, List.mem_cons_self .., rq, hr, zq_MeS_mk rfl hT (zq_all_nil) zq_fan (zq_fan) rfl (zu_fac ((x_LW _ _ _).mpr (by show zl_LW (zq_ev rq (0, [(0, 1)])) (zq_ev rq (0, [(1, 1)])) (zq_ev rq (0, [(2, 1)])) (zq_ev rq (0, [(3, 1)])) (zq_ev rq (0, [(4, 1)])) (zq_ev rq (1, [(12, 1)])) P h; simp only [g0, g1, g2, g3, g4, g5]; exact t1)) zq_fan)⟩
noncomputable def zl_ntt : zq_S × List zq_S := (([], [], [(-1, [(5, -1), (6, -1), (7, 1)]), (-3, [(9, 1)]), (3, [(9, -1)]), (0, [(10, -1)])], [], [], [], [(230, [(0, [(0, 1)]), (0, [(1, 1)]), (0, [(2, 1)]), (0, [(3, 1)]), (0, [(4, 1)]), (0, [(5, 1)])]), (226, [(0, [(8, 1)]), (0, [(6, 1)]), (0, [(7, 1)]), (0, [(1, 1)]), (0, [(2, 1)])]), (224, [(0, [(1, 1)]), (0, [(2, 1)]), (0, [(5, 1)]), (0, [(9, 1)])]), (224, [(0, [(1, 1)]), (0, [(2, 1)]), (1, [(5, 1)]), (4, [])]), (220, [(10, []), (0, [(1, 1)]), (0, [(2, 1)]), (0, []), (0, [(3, 1)]), (0, []), (2, [(5, 1)]), (0, [(10, 1)]), (0, [(11, 1)]), (0, [(12, 1)])])], 13), [([], [], [], [], [], [], [(230, [(0, [(0, 1)]), (0, [(1, 1)]), (0, [(2, 1)]), (0, [(3, 1)]), (0, [(4, 1)]), (1, [(12, 1)])])], 13)])
theorem zl_ntt_l {P : zq_Ty} {h : zq_H} {k g n W a p B E K c t d y : Int} (a1 : 0 ≤ -p - B + E - 1) (a2 : 0 ≤ c - 3) (a3 : 0 ≤ -c + 3) (a4 : 0 ≤ -t) (k1 : zl_LW k g n W a p P h) (k2 : ze_TX K B E g n P h) (k3 : ze_CD g n p c P h) (k4 : ze_CD g n (p + 1) 4 P h) (k5 : ze_EV 10 g n 0 W 0 (p + 2) t d y P h) : (zl_LW k g n W a (y + 1) P h) := by
  obtain ⟨z1, z2, z3, z4, z5⟩ := k2
  have hL : p < ze_L g n := by unfold ze_L; omega
  have k3 : c = ze_c g n p := k3
  intro r hr
  apply k1 r
  have e2 : p + 1 + 1 = p + 2 := by omega
  have kc : 4 = ze_c g n (p + 1) := k4
  have kt : ze_V (ze_c g n) (ze_v g n) (ze_w 0 W) 10 0 true (ze_on 0) (p + 2) t (ze_on d) y := k5
  rw [ze_on0] at kt
  rw [← e2] at kt
  refine zl_nt hL (by omega) kc.symm kt ?_
  rw [if_neg (fun z => by have z := z.2.1; omega)]
  exact hr
theorem zl_ntt_ok {w : zq_Wd} (x_LW : zj_is w 230 (fun q => zl_LW (q 0) (q 1) (q 2) (q 3) (q 4) (q 5))) (x_TX : zj_is w 226 (fun q => ze_TX (q 0) (q 1) (q 2) (q 3) (q 4))) (x_CD : zj_is w 224 (fun q => ze_CD (q 0) (q 1) (q 2) (q 3))) (x_EV : zj_is w 220 (fun q => ze_EV (q 0) (q 1) (q 2) (q 3) (q 4) (q 5) (q 6) (q 7) (q 8) (q 9))) : zq_okG1 w zl_ntt := by
  refine ⟨rfl, rfl, zu_fac ⟨rfl, by decide⟩ zq_fan, ?_⟩
  intro r P h H hM
  have q0 : zq_ev r (-1, [(5, -1), (6, -1), (7, 1)]) = -r 5 - r 6 + r 7 - 1 := by simp only [zq_ev, zq_ts] <;> omega
  have q1 : zq_ev r (-3, [(9, 1)]) = r 9 - 3 := zu_e3 _ _ _
  have q2 : zq_ev r (3, [(9, -1)]) = -r 9 + 3 := zu_e5 _ _ _
  have q3 : zq_ev r (0, [(10, -1)]) = -r 10 := zu_e4 _ _
  have q4 : zq_ev r (0, [(0, 1)]) = r 0 := zu_e1 _ _
  have q5 : zq_ev r (0, [(1, 1)]) = r 1 := zu_e1 _ _
  have q6 : zq_ev r (0, [(2, 1)]) = r 2 := zu_e1 _ _
  have q7 : zq_ev r (0, [(3, 1)]) = r 3 := zu_e1 _ _
  have q8 : zq_ev r (0, [(4, 1)]) = r 4 := zu_e1 _ _
  have q9 : zq_ev r (0, [(5, 1)]) = r 5 := zu_e1 _ _
  have q10 : zq_ev r (0, [(8, 1)]) = r 8 := zu_e1 _ _
  have q11 : zq_ev r (0, [(6, 1)]) = r 6 := zu_e1 _ _
  have q12 : zq_ev r (0, [(7, 1)]) = r 7 := zu_e1 _ _
  have q13 : zq_ev r (0, [(9, 1)]) = r 9 := zu_e1 _ _
  have q14 : zq_ev r (1, [(5, 1)]) = r 5 + 1 := zu_e2 _ _ _
  have q15 : zq_ev r (4, []) = 4 := zu_e0 _ _
  have q16 : zq_ev r (10, []) = 10 := zu_e0 _ _
  have q17 : zq_ev r (0, []) = 0 := zu_e0 _ _
  have q18 : zq_ev r (2, [(5, 1)]) = r 5 + 2 := zu_e2 _ _ _
  have q19 : zq_ev r (0, [(10, 1)]) = r 10 := zu_e1 _ _
  have q20 : zq_ev r (0, [(11, 1)]) = r 11 := zu_e1 _ _
  have q21 : zq_ev r (0, [(12, 1)]) = r 12 := zu_e1 _ _
  obtain ⟨hT, hC, hF, hS, -, hK⟩ := hM
  have c := hC.1
  have a1 := zq_all_1 c
  rw [q0] at a1
  have c := zq_all_t c
  have a2 := zq_all_1 c
  rw [q1] at a2
  have c := zq_all_t c
  have a3 := zq_all_1 c
  rw [q2] at a3
  have c := zq_all_t c
  have a4 := zq_all_1 c
  rw [q3] at a4
  have k1 := zj_use x_LW (hK)
  have k1 : zl_LW (zq_ev r (0, [(0, 1)])) (zq_ev r (0, [(1, 1)])) (zq_ev r (0, [(2, 1)])) (zq_ev r (0, [(3, 1)])) (zq_ev r (0, [(4, 1)])) (zq_ev r (0, [(5, 1)])) P h := k1
  simp only [q4, q5, q6, q7, q8, q9] at k1
  have k2 := zj_use x_TX (zq_okX_t (hK))
  have k2 : ze_TX (zq_ev r (0, [(8, 1)])) (zq_ev r (0, [(6, 1)])) (zq_ev r (0, [(7, 1)])) (zq_ev r (0, [(1, 1)])) (zq_ev r (0, [(2, 1)])) P h := k2
  simp only [q10, q11, q12, q5, q6] at k2
  have k3 := zj_use x_CD (zq_okX_t (zq_okX_t (hK)))
  have k3 : ze_CD (zq_ev r (0, [(1, 1)])) (zq_ev r (0, [(2, 1)])) (zq_ev r (0, [(5, 1)])) (zq_ev r (0, [(9, 1)])) P h := k3
  simp only [q13, q5, q6, q9] at k3
  have k4 := zj_use x_CD (zq_okX_t (zq_okX_t (zq_okX_t (hK))))
  have k4 : ze_CD (zq_ev r (0, [(1, 1)])) (zq_ev r (0, [(2, 1)])) (zq_ev r (1, [(5, 1)])) (zq_ev r (4, [])) P h := k4
  simp only [q14, q15, q5, q6] at k4
  have k5 := zj_use x_EV (zq_okX_t (zq_okX_t (zq_okX_t (zq_okX_t (hK)))))
  have k5 : ze_EV (zq_ev r (10, [])) (zq_ev r (0, [(1, 1)])) (zq_ev r (0, [(2, 1)])) (zq_ev r (0, [])) (zq_ev r (0, [(3, 1)])) (zq_ev r (0, [])) (zq_ev r (2, [(5, 1)])) (zq_ev r (0, [(10, 1)])) (zq_ev r (0, [(11, 1)])) (zq_ev r (0, [(12, 1)])) P h := k5
  simp only [q16, q17, q18, q19, q20, q21, q5, q6, q7] at k5
  obtain t1 := zl_ntt_l (P := P) (h := h) (k := r 0) (g := r 1) (n := r 2) (W := r 3) (a := r 4) (p := r 5) (B := r 6) (E := r 7) (K := r 8) (c := r 9) (t := r 10) (d := r 11) (y := r 12) a1 a2 a3 a4 k1 k2 k3 k4 k5
  obtain ⟨rq, hr⟩ : ∃ rq : Nat → Int, (∀ i, i < 13 → rq i = r i) := ⟨r, fun i hi => rfl⟩
  have v0 : rq 0 = r 0 := hr 0 (by decide)
  have v1 : rq 1 = r 1 := hr 1 (by decide)
  have v2 : rq 2 = r 2 := hr 2 (by decide)
  have v3 : rq 3 = r 3 := hr 3 (by decide)
  have v4 : rq 4 = r 4 := hr 4 (by decide)
  have v12 : rq 12 = r 12 := hr 12 (by decide)
  have g0 : zq_ev rq (0, [(0, 1)]) = r 0 := zu_f1 v0
  have g1 : zq_ev rq (0, [(1, 1)]) = r 1 := zu_f1 v1
  have g2 : zq_ev rq (0, [(2, 1)]) = r 2 := zu_f1 v2
  have g3 : zq_ev rq (0, [(3, 1)]) = r 3 := zu_f1 v3
  have g4 : zq_ev rq (0, [(4, 1)]) = r 4 := zu_f1 v4
  have g5 : zq_ev rq (1, [(12, 1)]) = r 12 + 1 := zu_f2 v12 _
  exact ⟨_, List.mem_cons_self .., rq, hr, zq_MeS_mk rfl hT (zq_all_nil) zq_fan (zq_fan) rfl (zu_fac ((x_LW _ _ _).mpr (by show zl_LW (zq_ev rq (0, [(0, 1)])) (zq_ev rq (0, [(1, 1)])) (zq_ev rq (0, [(2, 1)])) (zq_ev rq (0, [(3, 1)])) (zq_ev rq (0, [(4, 1)])) (zq_ev rq (1, [(12, 1)])) P h; simp only [g0, g1, g2, g3, g4, g5]; exact t1)) zq_fan)⟩
noncomputable def zl_ntd : zq_S × List zq_S := (([], [], [(-1, [(5, -1), (6, -1), (7, 1)]), (-3, [(9, 1)]), (3, [(9, -1)]), (-1, [(11, 1)]), (1, [(11, -1)])], [], [], [], [(230, [(0, [(0, 1)]), (0, [(1, 1)]), (0, [(2, 1)]), (0, [(3, 1)]), (0, [(4, 1)]), (0, [(5, 1)])]), (226, [(0, [(8, 1)]), (0, [(6, 1)]), (0, [(7, 1)]), (0, [(1, 1)]), (0, [(2, 1)])]), (224, [(0, [(1, 1)]), (0, [(2, 1)]), (0, [(5, 1)]), (0, [(9, 1)])]), (224, [(0, [(1, 1)]), (0, [(2, 1)]), (1, [(5, 1)]), (4, [])]), (220, [(10, []), (0, [(1, 1)]), (0, [(2, 1)]), (0, []), (0, [(3, 1)]), (0, []), (2, [(5, 1)]), (0, [(10, 1)]), (0, [(11, 1)]), (0, [(12, 1)])])], 13), [([], [], [], [], [], [], [(230, [(0, [(0, 1)]), (0, [(1, 1)]), (0, [(2, 1)]), (0, [(3, 1)]), (0, [(4, 1)]), (1, [(12, 1)])])], 13)])
theorem zl_ntd_l {P : zq_Ty} {h : zq_H} {k g n W a p B E K c t d y : Int} (a1 : 0 ≤ -p - B + E - 1) (a2 : 0 ≤ c - 3) (a3 : 0 ≤ -c + 3) (a4 : 0 ≤ d - 1) (a5 : 0 ≤ -d + 1) (k1 : zl_LW k g n W a p P h) (k2 : ze_TX K B E g n P h) (k3 : ze_CD g n p c P h) (k4 : ze_CD g n (p + 1) 4 P h) (k5 : ze_EV 10 g n 0 W 0 (p + 2) t d y P h) : (zl_LW k g n W a (y + 1) P h) := by
  obtain ⟨z1, z2, z3, z4, z5⟩ := k2
  have hL : p < ze_L g n := by unfold ze_L; omega
  have k3 : c = ze_c g n p := k3
  intro r hr
  apply k1 r
  have e2 : p + 1 + 1 = p + 2 := by omega
  have kc : 4 = ze_c g n (p + 1) := k4
  have kt : ze_V (ze_c g n) (ze_v g n) (ze_w 0 W) 10 0 true (ze_on 0) (p + 2) t (ze_on d) y := k5
  rw [ze_on0] at kt
  rw [← e2] at kt
  have hd : ze_on d = true := by rw [show d = 1 by omega]; exact ze_on1
  refine zl_nt hL (by omega) kc.symm kt ?_
  rw [if_neg (fun z => by have z := z.2.2; rw [hd] at z; cases z)]
  exact hr
theorem zl_ntd_ok {w : zq_Wd} (x_LW : zj_is w 230 (fun q => zl_LW (q 0) (q 1) (q 2) (q 3) (q 4) (q 5))) (x_TX : zj_is w 226 (fun q => ze_TX (q 0) (q 1) (q 2) (q 3) (q 4))) (x_CD : zj_is w 224 (fun q => ze_CD (q 0) (q 1) (q 2) (q 3))) (x_EV : zj_is w 220 (fun q => ze_EV (q 0) (q 1) (q 2) (q 3) (q 4) (q 5) (q 6) (q 7) (q 8) (q 9))) : zq_okG1 w zl_ntd := by
  refine ⟨rfl, rfl, zu_fac ⟨rfl, by decide⟩ zq_fan, ?_⟩
  intro r P h H hM
  have q0 : zq_ev r (-1, [(5, -1), (6, -1), (7, 1)]) = -r 5 - r 6 + r 7 - 1 := by simp only [zq_ev, zq_ts] <;> omega
  have q1 : zq_ev r (-3, [(9, 1)]) = r 9 - 3 := zu_e3 _ _ _
  have q2 : zq_ev r (3, [(9, -1)]) = -r 9 + 3 := zu_e5 _ _ _
  have q3 : zq_ev r (-1, [(11, 1)]) = r 11 - 1 := zu_e3 _ _ _
  have q4 : zq_ev r (1, [(11, -1)]) = -r 11 + 1 := zu_e5 _ _ _
  have q5 : zq_ev r (0, [(0, 1)]) = r 0 := zu_e1 _ _
  have q6 : zq_ev r (0, [(1, 1)]) = r 1 := zu_e1 _ _
  have q7 : zq_ev r (0, [(2, 1)]) = r 2 := zu_e1 _ _
  have q8 : zq_ev r (0, [(3, 1)]) = r 3 := zu_e1 _ _
  have q9 : zq_ev r (0, [(4, 1)]) = r 4 := zu_e1 _ _
  have q10 : zq_ev r (0, [(5, 1)]) = r 5 := zu_e1 _ _
  have q11 : zq_ev r (0, [(8, 1)]) = r 8 := zu_e1 _ _
  have q12 : zq_ev r (0, [(6, 1)]) = r 6 := zu_e1 _ _
  have q13 : zq_ev r (0, [(7, 1)]) = r 7 := zu_e1 _ _
  have q14 : zq_ev r (0, [(9, 1)]) = r 9 := zu_e1 _ _
  have q15 : zq_ev r (1, [(5, 1)]) = r 5 + 1 := zu_e2 _ _ _
  have q16 : zq_ev r (4, []) = 4 := zu_e0 _ _
  have q17 : zq_ev r (10, []) = 10 := zu_e0 _ _
  have q18 : zq_ev r (0, []) = 0 := zu_e0 _ _
  have q19 : zq_ev r (2, [(5, 1)]) = r 5 + 2 := zu_e2 _ _ _
  have q20 : zq_ev r (0, [(10, 1)]) = r 10 := zu_e1 _ _
  have q21 : zq_ev r (0, [(11, 1)]) = r 11 := zu_e1 _ _
  have q22 : zq_ev r (0, [(12, 1)]) = r 12 := zu_e1 _ _
  obtain ⟨hT, hC, hF, hS, -, hK⟩ := hM
  have c := hC.1
  have a1 := zq_all_1 c
  rw [q0] at a1
  have c := zq_all_t c
  have a2 := zq_all_1 c
  rw [q1] at a2
  have c := zq_all_t c
  have a3 := zq_all_1 c
  rw [q2] at a3
  have c := zq_all_t c
  have a4 := zq_all_1 c
  rw [q3] at a4
  have c := zq_all_t c
  have a5 := zq_all_1 c
  rw [q4] at a5
  have k1 := zj_use x_LW (hK)
  have k1 : zl_LW (zq_ev r (0, [(0, 1)])) (zq_ev r (0, [(1, 1)])) (zq_ev r (0, [(2, 1)])) (zq_ev r (0, [(3, 1)])) (zq_ev r (0, [(4, 1)])) (zq_ev r (0, [(5, 1)])) P h := k1
  simp only [q10, q5, q6, q7, q8, q9] at k1
  have k2 := zj_use x_TX (zq_okX_t (hK))
  have k2 : ze_TX (zq_ev r (0, [(8, 1)])) (zq_ev r (0, [(6, 1)])) (zq_ev r (0, [(7, 1)])) (zq_ev r (0, [(1, 1)])) (zq_ev r (0, [(2, 1)])) P h := k2
  simp only [q11, q12, q13, q6, q7] at k2
  have k3 := zj_use x_CD (zq_okX_t (zq_okX_t (hK)))
  have k3 : ze_CD (zq_ev r (0, [(1, 1)])) (zq_ev r (0, [(2, 1)])) (zq_ev r (0, [(5, 1)])) (zq_ev r (0, [(9, 1)])) P h := k3
  simp only [q10, q14, q6, q7] at k3
  have k4 := zj_use x_CD (zq_okX_t (zq_okX_t (zq_okX_t (hK))))
  have k4 : ze_CD (zq_ev r (0, [(1, 1)])) (zq_ev r (0, [(2, 1)])) (zq_ev r (1, [(5, 1)])) (zq_ev r (4, [])) P h := k4
  simp only [q15, q16, q6, q7] at k4
  have k5 := zj_use x_EV (zq_okX_t (zq_okX_t (zq_okX_t (zq_okX_t (hK)))))
  have k5 : ze_EV (zq_ev r (10, [])) (zq_ev r (0, [(1, 1)])) (zq_ev r (0, [(2, 1)])) (zq_ev r (0, [])) (zq_ev r (0, [(3, 1)])) (zq_ev r (0, [])) (zq_ev r (2, [(5, 1)])) (zq_ev r (0, [(10, 1)])) (zq_ev r (0, [(11, 1)])) (zq_ev r (0, [(12, 1)])) P h := k5
  simp only [q17, q18, q19, q20, q21, q22, q6, q7, q8] at k5
  obtain t1 := zl_ntd_l (P := P) (h := h) (k := r 0) (g := r 1) (n := r 2) (W := r 3) (a := r 4) (p := r 5) (B := r 6) (E := r 7) (K := r 8) (c := r 9) (t := r 10) (d := r 11) (y := r 12) a1 a2 a3 a4 a5 k1 k2 k3 k4 k5
  obtain ⟨rq, hr⟩ : ∃ rq : Nat → Int, (∀ i, i < 13 → rq i = r i) := ⟨r, fun i hi => rfl⟩
  have v0 : rq 0 = r 0 := hr 0 (by decide)
  have v1 : rq 1 = r 1 := hr 1 (by decide)
  have v2 : rq 2 = r 2 := hr 2 (by decide)
  have v3 : rq 3 = r 3 := hr 3 (by decide)
  have v4 : rq 4 = r 4 := hr 4 (by decide)
  have v12 : rq 12 = r 12 := hr 12 (by decide)
  have g0 : zq_ev rq (0, [(0, 1)]) = r 0 := zu_f1 v0
  have g1 : zq_ev rq (0, [(1, 1)]) = r 1 := zu_f1 v1
  have g2 : zq_ev rq (0, [(2, 1)]) = r 2 := zu_f1 v2
  have g3 : zq_ev rq (0, [(3, 1)]) = r 3 := zu_f1 v3
  have g4 : zq_ev rq (0, [(4, 1)]) = r 4 := zu_f1 v4
  have g5 : zq_ev rq (1, [(12, 1)]) = r 12 + 1 := zu_f2 v12 _
  exact ⟨_, List.mem_cons_self .., rq, hr, zq_MeS_mk rfl hT (zq_all_nil) zq_fan (zq_fan) rfl (zu_fac ((x_LW _ _ _).mpr (by show zl_LW (zq_ev rq (0, [(0, 1)])) (zq_ev rq (0, [(1, 1)])) (zq_ev rq (0, [(2, 1)])) (zq_ev rq (0, [(3, 1)])) (zq_ev rq (0, [(4, 1)])) (zq_ev rq (1, [(12, 1)])) P h; simp only [g0, g1, g2, g3, g4, g5]; exact t1)) zq_fan)⟩
noncomputable def zl_n0y3 : zq_S × List zq_S := (([], [], [(-1, [(5, -1), (6, -1), (7, 1)]), (-3, [(9, 1)]), (3, [(9, -1)]), (0, [(0, -1), (9, 1)]), (0, [(0, 1), (9, -1)]), (3, [(10, -1)])], [], [], [], [(230, [(0, [(0, 1)]), (0, [(1, 1)]), (0, [(2, 1)]), (0, [(3, 1)]), (0, [(4, 1)]), (0, [(5, 1)])]), (226, [(0, [(8, 1)]), (0, [(6, 1)]), (0, [(7, 1)]), (0, [(1, 1)]), (0, [(2, 1)])]), (224, [(0, [(1, 1)]), (0, [(2, 1)]), (0, [(5, 1)]), (0, [(9, 1)])]), (224, [(0, [(1, 1)]), (0, [(2, 1)]), (1, [(5, 1)]), (0, [(10, 1)])])], 11), [([], [], [], [], [], [], [(230, [(0, [(0, 1)]), (0, [(1, 1)]), (0, [(2, 1)]), (0, [(3, 1)]), (1, []), (2, [(5, 1)])])], 11)])
theorem zl_n0y3_l {P : zq_Ty} {h : zq_H} {k g n W a p B E K c s : Int} (a1 : 0 ≤ -p - B + E - 1) (a2 : 0 ≤ c - 3) (a3 : 0 ≤ -c + 3) (a4 : 0 ≤ -k + c) (a5 : 0 ≤ k - c) (a6 : 0 ≤ -s + 3) (k1 : zl_LW k g n W a p P h) (k2 : ze_TX K B E g n P h) (k3 : ze_CD g n p c P h) (k4 : ze_CD g n (p + 1) s P h) : (zl_LW k g n W 1 (p + 2) P h) := by
  obtain ⟨z1, z2, z3, z4, z5⟩ := k2
  have hL : p < ze_L g n := by unfold ze_L; omega
  have k3 : c = ze_c g n p := k3
  intro r hr
  apply k1 r
  have e2 : p + 1 + 1 = p + 2 := by omega
  have kc : s = ze_c g n (p + 1) := k4
  refine zl_n hL (by omega) (by omega) ?_
  rw [if_pos (by omega)]
  rw [e2]
  exact hr
theorem zl_n0y3_ok {w : zq_Wd} (x_LW : zj_is w 230 (fun q => zl_LW (q 0) (q 1) (q 2) (q 3) (q 4) (q 5))) (x_TX : zj_is w 226 (fun q => ze_TX (q 0) (q 1) (q 2) (q 3) (q 4))) (x_CD : zj_is w 224 (fun q => ze_CD (q 0) (q 1) (q 2) (q 3))) : zq_okG1 w zl_n0y3 := by
  refine ⟨rfl, rfl, zu_fac ⟨rfl, by decide⟩ zq_fan, ?_⟩
  intro r P h H hM
  have q0 : zq_ev r (-1, [(5, -1), (6, -1), (7, 1)]) = -r 5 - r 6 + r 7 - 1 := by simp only [zq_ev, zq_ts] <;> omega
  have q1 : zq_ev r (-3, [(9, 1)]) = r 9 - 3 := zu_e3 _ _ _
  have q2 : zq_ev r (3, [(9, -1)]) = -r 9 + 3 := zu_e5 _ _ _
  have q3 : zq_ev r (0, [(0, -1), (9, 1)]) = -r 0 + r 9 := by simp only [zq_ev, zq_ts] <;> omega
  have q4 : zq_ev r (0, [(0, 1), (9, -1)]) = r 0 - r 9 := by simp only [zq_ev, zq_ts] <;> omega
  have q5 : zq_ev r (3, [(10, -1)]) = -r 10 + 3 := zu_e5 _ _ _
  have q6 : zq_ev r (0, [(0, 1)]) = r 0 := zu_e1 _ _
  have q7 : zq_ev r (0, [(1, 1)]) = r 1 := zu_e1 _ _
  have q8 : zq_ev r (0, [(2, 1)]) = r 2 := zu_e1 _ _
  have q9 : zq_ev r (0, [(3, 1)]) = r 3 := zu_e1 _ _
  have q10 : zq_ev r (0, [(4, 1)]) = r 4 := zu_e1 _ _
  have q11 : zq_ev r (0, [(5, 1)]) = r 5 := zu_e1 _ _
  have q12 : zq_ev r (0, [(8, 1)]) = r 8 := zu_e1 _ _
  have q13 : zq_ev r (0, [(6, 1)]) = r 6 := zu_e1 _ _
  have q14 : zq_ev r (0, [(7, 1)]) = r 7 := zu_e1 _ _
  have q15 : zq_ev r (0, [(9, 1)]) = r 9 := zu_e1 _ _
  have q16 : zq_ev r (1, [(5, 1)]) = r 5 + 1 := zu_e2 _ _ _
  have q17 : zq_ev r (0, [(10, 1)]) = r 10 := zu_e1 _ _
  obtain ⟨hT, hC, hF, hS, -, hK⟩ := hM
  have c := hC.1
  have a1 := zq_all_1 c
  rw [q0] at a1
  have c := zq_all_t c
  have a2 := zq_all_1 c
  rw [q1] at a2
  have c := zq_all_t c
  have a3 := zq_all_1 c
  rw [q2] at a3
  have c := zq_all_t c
  have a4 := zq_all_1 c
  rw [q3] at a4
  have c := zq_all_t c
  have a5 := zq_all_1 c
  rw [q4] at a5
  have c := zq_all_t c
  have a6 := zq_all_1 c
  rw [q5] at a6
  have k1 := zj_use x_LW (hK)
  have k1 : zl_LW (zq_ev r (0, [(0, 1)])) (zq_ev r (0, [(1, 1)])) (zq_ev r (0, [(2, 1)])) (zq_ev r (0, [(3, 1)])) (zq_ev r (0, [(4, 1)])) (zq_ev r (0, [(5, 1)])) P h := k1
  simp only [q10, q11, q6, q7, q8, q9] at k1
  have k2 := zj_use x_TX (zq_okX_t (hK))
  have k2 : ze_TX (zq_ev r (0, [(8, 1)])) (zq_ev r (0, [(6, 1)])) (zq_ev r (0, [(7, 1)])) (zq_ev r (0, [(1, 1)])) (zq_ev r (0, [(2, 1)])) P h := k2
  simp only [q12, q13, q14, q7, q8] at k2
  have k3 := zj_use x_CD (zq_okX_t (zq_okX_t (hK)))
  have k3 : ze_CD (zq_ev r (0, [(1, 1)])) (zq_ev r (0, [(2, 1)])) (zq_ev r (0, [(5, 1)])) (zq_ev r (0, [(9, 1)])) P h := k3
  simp only [q11, q15, q7, q8] at k3
  have k4 := zj_use x_CD (zq_okX_t (zq_okX_t (zq_okX_t (hK))))
  have k4 : ze_CD (zq_ev r (0, [(1, 1)])) (zq_ev r (0, [(2, 1)])) (zq_ev r (1, [(5, 1)])) (zq_ev r (0, [(10, 1)])) P h := k4
  simp only [q16, q17, q7, q8] at k4
  obtain t1 := zl_n0y3_l (P := P) (h := h) (k := r 0) (g := r 1) (n := r 2) (W := r 3) (a := r 4) (p := r 5) (B := r 6) (E := r 7) (K := r 8) (c := r 9) (s := r 10) a1 a2 a3 a4 a5 a6 k1 k2 k3 k4
  obtain ⟨rq, hr⟩ : ∃ rq : Nat → Int, (∀ i, i < 11 → rq i = r i) := ⟨r, fun i hi => rfl⟩
  have v0 : rq 0 = r 0 := hr 0 (by decide)
  have v1 : rq 1 = r 1 := hr 1 (by decide)
  have v2 : rq 2 = r 2 := hr 2 (by decide)
  have v3 : rq 3 = r 3 := hr 3 (by decide)
  have v5 : rq 5 = r 5 := hr 5 (by decide)
  have g0 : zq_ev rq (0, [(0, 1)]) = r 0 := zu_f1 v0
  have g1 : zq_ev rq (0, [(1, 1)]) = r 1 := zu_f1 v1
  have g2 : zq_ev rq (0, [(2, 1)]) = r 2 := zu_f1 v2
  have g3 : zq_ev rq (0, [(3, 1)]) = r 3 := zu_f1 v3
  have g4 : zq_ev rq (1, []) = 1 := zu_e0 _ _
  have g5 : zq_ev rq (2, [(5, 1)]) = r 5 + 2 := zu_f2 v5 _
  exact ⟨_, List.mem_cons_self .., rq, hr, zq_MeS_mk rfl hT (zq_all_nil) zq_fan (zq_fan) rfl (zu_fac ((x_LW _ _ _).mpr (by show zl_LW (zq_ev rq (0, [(0, 1)])) (zq_ev rq (0, [(1, 1)])) (zq_ev rq (0, [(2, 1)])) (zq_ev rq (0, [(3, 1)])) (zq_ev rq (1, [])) (zq_ev rq (2, [(5, 1)])) P h; simp only [g0, g1, g2, g3, g4, g5]; exact t1)) zq_fan)⟩
noncomputable def zl_n0y5 : zq_S × List zq_S := (([], [], [(-1, [(5, -1), (6, -1), (7, 1)]), (-3, [(9, 1)]), (3, [(9, -1)]), (0, [(0, -1), (9, 1)]), (0, [(0, 1), (9, -1)]), (-5, [(10, 1)])], [], [], [], [(230, [(0, [(0, 1)]), (0, [(1, 1)]), (0, [(2, 1)]), (0, [(3, 1)]), (0, [(4, 1)]), (0, [(5, 1)])]), (226, [(0, [(8, 1)]), (0, [(6, 1)]), (0, [(7, 1)]), (0, [(1, 1)]), (0, [(2, 1)])]), (224, [(0, [(1, 1)]), (0, [(2, 1)]), (0, [(5, 1)]), (0, [(9, 1)])]), (224, [(0, [(1, 1)]), (0, [(2, 1)]), (1, [(5, 1)]), (0, [(10, 1)])])], 11), [([], [], [], [], [], [], [(230, [(0, [(0, 1)]), (0, [(1, 1)]), (0, [(2, 1)]), (0, [(3, 1)]), (1, []), (2, [(5, 1)])])], 11)])
theorem zl_n0y5_l {P : zq_Ty} {h : zq_H} {k g n W a p B E K c s : Int} (a1 : 0 ≤ -p - B + E - 1) (a2 : 0 ≤ c - 3) (a3 : 0 ≤ -c + 3) (a4 : 0 ≤ -k + c) (a5 : 0 ≤ k - c) (a6 : 0 ≤ s - 5) (k1 : zl_LW k g n W a p P h) (k2 : ze_TX K B E g n P h) (k3 : ze_CD g n p c P h) (k4 : ze_CD g n (p + 1) s P h) : (zl_LW k g n W 1 (p + 2) P h) := by
  obtain ⟨z1, z2, z3, z4, z5⟩ := k2
  have hL : p < ze_L g n := by unfold ze_L; omega
  have k3 : c = ze_c g n p := k3
  intro r hr
  apply k1 r
  have e2 : p + 1 + 1 = p + 2 := by omega
  have kc : s = ze_c g n (p + 1) := k4
  refine zl_n hL (by omega) (by omega) ?_
  rw [if_pos (by omega)]
  rw [e2]
  exact hr
theorem zl_n0y5_ok {w : zq_Wd} (x_LW : zj_is w 230 (fun q => zl_LW (q 0) (q 1) (q 2) (q 3) (q 4) (q 5))) (x_TX : zj_is w 226 (fun q => ze_TX (q 0) (q 1) (q 2) (q 3) (q 4))) (x_CD : zj_is w 224 (fun q => ze_CD (q 0) (q 1) (q 2) (q 3))) : zq_okG1 w zl_n0y5 := by
  refine ⟨rfl, rfl, zu_fac ⟨rfl, by decide⟩ zq_fan, ?_⟩
  intro r P h H hM
  have q0 : zq_ev r (-1, [(5, -1), (6, -1), (7, 1)]) = -r 5 - r 6 + r 7 - 1 := by simp only [zq_ev, zq_ts] <;> omega
  have q1 : zq_ev r (-3, [(9, 1)]) = r 9 - 3 := zu_e3 _ _ _
  have q2 : zq_ev r (3, [(9, -1)]) = -r 9 + 3 := zu_e5 _ _ _
  have q3 : zq_ev r (0, [(0, -1), (9, 1)]) = -r 0 + r 9 := by simp only [zq_ev, zq_ts] <;> omega
  have q4 : zq_ev r (0, [(0, 1), (9, -1)]) = r 0 - r 9 := by simp only [zq_ev, zq_ts] <;> omega
  have q5 : zq_ev r (-5, [(10, 1)]) = r 10 - 5 := zu_e3 _ _ _
  have q6 : zq_ev r (0, [(0, 1)]) = r 0 := zu_e1 _ _
  have q7 : zq_ev r (0, [(1, 1)]) = r 1 := zu_e1 _ _
  have q8 : zq_ev r (0, [(2, 1)]) = r 2 := zu_e1 _ _
  have q9 : zq_ev r (0, [(3, 1)]) = r 3 := zu_e1 _ _
  have q10 : zq_ev r (0, [(4, 1)]) = r 4 := zu_e1 _ _
  have q11 : zq_ev r (0, [(5, 1)]) = r 5 := zu_e1 _ _
  have q12 : zq_ev r (0, [(8, 1)]) = r 8 := zu_e1 _ _
  have q13 : zq_ev r (0, [(6, 1)]) = r 6 := zu_e1 _ _
  have q14 : zq_ev r (0, [(7, 1)]) = r 7 := zu_e1 _ _
  have q15 : zq_ev r (0, [(9, 1)]) = r 9 := zu_e1 _ _
  have q16 : zq_ev r (1, [(5, 1)]) = r 5 + 1 := zu_e2 _ _ _
  have q17 : zq_ev r (0, [(10, 1)]) = r 10 := zu_e1 _ _
  obtain ⟨hT, hC, hF, hS, -, hK⟩ := hM
  have c := hC.1
  have a1 := zq_all_1 c
  rw [q0] at a1
  have c := zq_all_t c
  have a2 := zq_all_1 c
  rw [q1] at a2
  have c := zq_all_t c
  have a3 := zq_all_1 c
  rw [q2] at a3
  have c := zq_all_t c
  have a4 := zq_all_1 c
  rw [q3] at a4
  have c := zq_all_t c
  have a5 := zq_all_1 c
  rw [q4] at a5
  have c := zq_all_t c
  have a6 := zq_all_1 c
  rw [q5] at a6
  have k1 := zj_use x_LW (hK)
  have k1 : zl_LW (zq_ev r (0, [(0, 1)])) (zq_ev r (0, [(1, 1)])) (zq_ev r (0, [(2, 1)])) (zq_ev r (0, [(3, 1)])) (zq_ev r (0, [(4, 1)])) (zq_ev r (0, [(5, 1)])) P h := k1
  simp only [q10, q11, q6, q7, q8, q9] at k1
  have k2 := zj_use x_TX (zq_okX_t (hK))
  have k2 : ze_TX (zq_ev r (0, [(8, 1)])) (zq_ev r (0, [(6, 1)])) (zq_ev r (0, [(7, 1)])) (zq_ev r (0, [(1, 1)])) (zq_ev r (0, [(2, 1)])) P h := k2
  simp only [q12, q13, q14, q7, q8] at k2
  have k3 := zj_use x_CD (zq_okX_t (zq_okX_t (hK)))
  have k3 : ze_CD (zq_ev r (0, [(1, 1)])) (zq_ev r (0, [(2, 1)])) (zq_ev r (0, [(5, 1)])) (zq_ev r (0, [(9, 1)])) P h := k3
  simp only [q11, q15, q7, q8] at k3
  have k4 := zj_use x_CD (zq_okX_t (zq_okX_t (zq_okX_t (hK))))
  have k4 : ze_CD (zq_ev r (0, [(1, 1)])) (zq_ev r (0, [(2, 1)])) (zq_ev r (1, [(5, 1)])) (zq_ev r (0, [(10, 1)])) P h := k4
  simp only [q16, q17, q7, q8] at k4
  obtain t1 := zl_n0y5_l (P := P) (h := h) (k := r 0) (g := r 1) (n := r 2) (W := r 3) (a := r 4) (p := r 5) (B := r 6) (E := r 7) (K := r 8) (c := r 9) (s := r 10) a1 a2 a3 a4 a5 a6 k1 k2 k3 k4
  obtain ⟨rq, hr⟩ : ∃ rq : Nat → Int, (∀ i, i < 11 → rq i = r i) := ⟨r, fun i hi => rfl⟩
  have v0 : rq 0 = r 0 := hr 0 (by decide)
  have v1 : rq 1 = r 1 := hr 1 (by decide)
  have v2 : rq 2 = r 2 := hr 2 (by decide)
  have v3 : rq 3 = r 3 := hr 3 (by decide)
  have v5 : rq 5 = r 5 := hr 5 (by decide)
  have g0 : zq_ev rq (0, [(0, 1)]) = r 0 := zu_f1 v0
  have g1 : zq_ev rq (0, [(1, 1)]) = r 1 := zu_f1 v1
  have g2 : zq_ev rq (0, [(2, 1)]) = r 2 := zu_f1 v2
  have g3 : zq_ev rq (0, [(3, 1)]) = r 3 := zu_f1 v3
  have g4 : zq_ev rq (1, []) = 1 := zu_e0 _ _
  have g5 : zq_ev rq (2, [(5, 1)]) = r 5 + 2 := zu_f2 v5 _
  exact ⟨_, List.mem_cons_self .., rq, hr, zq_MeS_mk rfl hT (zq_all_nil) zq_fan (zq_fan) rfl (zu_fac ((x_LW _ _ _).mpr (by show zl_LW (zq_ev rq (0, [(0, 1)])) (zq_ev rq (0, [(1, 1)])) (zq_ev rq (0, [(2, 1)])) (zq_ev rq (0, [(3, 1)])) (zq_ev rq (1, [])) (zq_ev rq (2, [(5, 1)])) P h; simp only [g0, g1, g2, g3, g4, g5]; exact t1)) zq_fan)⟩
noncomputable def zl_n0hg3 : zq_S × List zq_S := (([], [], [(-1, [(5, -1), (6, -1), (7, 1)]), (-3, [(9, 1)]), (3, [(9, -1)]), (-1, [(0, -1), (9, 1)]), (3, [(10, -1)])], [], [], [], [(230, [(0, [(0, 1)]), (0, [(1, 1)]), (0, [(2, 1)]), (0, [(3, 1)]), (0, [(4, 1)]), (0, [(5, 1)])]), (226, [(0, [(8, 1)]), (0, [(6, 1)]), (0, [(7, 1)]), (0, [(1, 1)]), (0, [(2, 1)])]), (224, [(0, [(1, 1)]), (0, [(2, 1)]), (0, [(5, 1)]), (0, [(9, 1)])]), (224, [(0, [(1, 1)]), (0, [(2, 1)]), (1, [(5, 1)]), (0, [(10, 1)])])], 11), [([], [], [], [], [], [], [(230, [(0, [(0, 1)]), (0, [(1, 1)]), (0, [(2, 1)]), (0, [(3, 1)]), (0, [(4, 1)]), (2, [(5, 1)])])], 11)])
theorem zl_n0hg3_l {P : zq_Ty} {h : zq_H} {k g n W a p B E K c s : Int} (a1 : 0 ≤ -p - B + E - 1) (a2 : 0 ≤ c - 3) (a3 : 0 ≤ -c + 3) (a4 : 0 ≤ -k + c - 1) (a5 : 0 ≤ -s + 3) (k1 : zl_LW k g n W a p P h) (k2 : ze_TX K B E g n P h) (k3 : ze_CD g n p c P h) (k4 : ze_CD g n (p + 1) s P h) : (zl_LW k g n W a (p + 2) P h) := by
  obtain ⟨z1, z2, z3, z4, z5⟩ := k2
  have hL : p < ze_L g n := by unfold ze_L; omega
  have k3 : c = ze_c g n p := k3
  intro r hr
  apply k1 r
  have e2 : p + 1 + 1 = p + 2 := by omega
  have kc : s = ze_c g n (p + 1) := k4
  refine zl_n hL (by omega) (by omega) ?_
  rw [if_neg (fun z => by have z := z; omega)]
  rw [e2]
  exact hr
theorem zl_n0hg3_ok {w : zq_Wd} (x_LW : zj_is w 230 (fun q => zl_LW (q 0) (q 1) (q 2) (q 3) (q 4) (q 5))) (x_TX : zj_is w 226 (fun q => ze_TX (q 0) (q 1) (q 2) (q 3) (q 4))) (x_CD : zj_is w 224 (fun q => ze_CD (q 0) (q 1) (q 2) (q 3))) : zq_okG1 w zl_n0hg3 := by
  refine ⟨rfl, rfl, zu_fac ⟨rfl, by decide⟩ zq_fan, ?_⟩
  intro r P h H hM
  have q0 : zq_ev r (-1, [(5, -1), (6, -1), (7, 1)]) = -r 5 - r 6 + r 7 - 1 := by simp only [zq_ev, zq_ts] <;> omega
  have q1 : zq_ev r (-3, [(9, 1)]) = r 9 - 3 := zu_e3 _ _ _
  have q2 : zq_ev r (3, [(9, -1)]) = -r 9 + 3 := zu_e5 _ _ _
  have q3 : zq_ev r (-1, [(0, -1), (9, 1)]) = -r 0 + r 9 - 1 := by simp only [zq_ev, zq_ts] <;> omega
  have q4 : zq_ev r (3, [(10, -1)]) = -r 10 + 3 := zu_e5 _ _ _
  have q5 : zq_ev r (0, [(0, 1)]) = r 0 := zu_e1 _ _
  have q6 : zq_ev r (0, [(1, 1)]) = r 1 := zu_e1 _ _
  have q7 : zq_ev r (0, [(2, 1)]) = r 2 := zu_e1 _ _
  have q8 : zq_ev r (0, [(3, 1)]) = r 3 := zu_e1 _ _
  have q9 : zq_ev r (0, [(4, 1)]) = r 4 := zu_e1 _ _
  have q10 : zq_ev r (0, [(5, 1)]) = r 5 := zu_e1 _ _
  have q11 : zq_ev r (0, [(8, 1)]) = r 8 := zu_e1 _ _
  have q12 : zq_ev r (0, [(6, 1)]) = r 6 := zu_e1 _ _
  have q13 : zq_ev r (0, [(7, 1)]) = r 7 := zu_e1 _ _
  have q14 : zq_ev r (0, [(9, 1)]) = r 9 := zu_e1 _ _
  have q15 : zq_ev r (1, [(5, 1)]) = r 5 + 1 := zu_e2 _ _ _
  have q16 : zq_ev r (0, [(10, 1)]) = r 10 := zu_e1 _ _
  obtain ⟨hT, hC, hF, hS, -, hK⟩ := hM
  have c := hC.1
  have a1 := zq_all_1 c
  rw [q0] at a1
  have c := zq_all_t c
  have a2 := zq_all_1 c
  rw [q1] at a2
  have c := zq_all_t c
  have a3 := zq_all_1 c
  rw [q2] at a3
  have c := zq_all_t c
  have a4 := zq_all_1 c
  rw [q3] at a4
  have c := zq_all_t c
  have a5 := zq_all_1 c
  rw [q4] at a5
  have k1 := zj_use x_LW (hK)
  have k1 : zl_LW (zq_ev r (0, [(0, 1)])) (zq_ev r (0, [(1, 1)])) (zq_ev r (0, [(2, 1)])) (zq_ev r (0, [(3, 1)])) (zq_ev r (0, [(4, 1)])) (zq_ev r (0, [(5, 1)])) P h := k1
  simp only [q10, q5, q6, q7, q8, q9] at k1
  have k2 := zj_use x_TX (zq_okX_t (hK))
  have k2 : ze_TX (zq_ev r (0, [(8, 1)])) (zq_ev r (0, [(6, 1)])) (zq_ev r (0, [(7, 1)])) (zq_ev r (0, [(1, 1)])) (zq_ev r (0, [(2, 1)])) P h := k2
  simp only [q11, q12, q13, q6, q7] at k2
  have k3 := zj_use x_CD (zq_okX_t (zq_okX_t (hK)))
  have k3 : ze_CD (zq_ev r (0, [(1, 1)])) (zq_ev r (0, [(2, 1)])) (zq_ev r (0, [(5, 1)])) (zq_ev r (0, [(9, 1)])) P h := k3
  simp only [q10, q14, q6, q7] at k3
  have k4 := zj_use x_CD (zq_okX_t (zq_okX_t (zq_okX_t (hK))))
  have k4 : ze_CD (zq_ev r (0, [(1, 1)])) (zq_ev r (0, [(2, 1)])) (zq_ev r (1, [(5, 1)])) (zq_ev r (0, [(10, 1)])) P h := k4
  simp only [q15, q16, q6, q7] at k4
  obtain t1 := zl_n0hg3_l (P := P) (h := h) (k := r 0) (g := r 1) (n := r 2) (W := r 3) (a := r 4) (p := r 5) (B := r 6) (E := r 7) (K := r 8) (c := r 9) (s := r 10) a1 a2 a3 a4 a5 k1 k2 k3 k4
  obtain ⟨rq, hr⟩ : ∃ rq : Nat → Int, (∀ i, i < 11 → rq i = r i) := ⟨r, fun i hi => rfl⟩
  have v0 : rq 0 = r 0 := hr 0 (by decide)
  have v1 : rq 1 = r 1 := hr 1 (by decide)
  have v2 : rq 2 = r 2 := hr 2 (by decide)
  have v3 : rq 3 = r 3 := hr 3 (by decide)
  have v4 : rq 4 = r 4 := hr 4 (by decide)
  have v5 : rq 5 = r 5 := hr 5 (by decide)
  have g0 : zq_ev rq (0, [(0, 1)]) = r 0 := zu_f1 v0
  have g1 : zq_ev rq (0, [(1, 1)]) = r 1 := zu_f1 v1
  have g2 : zq_ev rq (0, [(2, 1)]) = r 2 := zu_f1 v2
  have g3 : zq_ev rq (0, [(3, 1)]) = r 3 := zu_f1 v3
  have g4 : zq_ev rq (0, [(4, 1)]) = r 4 := zu_f1 v4
  have g5 : zq_ev rq (2, [(5, 1)]) = r 5 + 2 := zu_f2 v5 _
  exact ⟨_, List.mem_cons_self .., rq, hr, zq_MeS_mk rfl hT (zq_all_nil) zq_fan (zq_fan) rfl (zu_fac ((x_LW _ _ _).mpr (by show zl_LW (zq_ev rq (0, [(0, 1)])) (zq_ev rq (0, [(1, 1)])) (zq_ev rq (0, [(2, 1)])) (zq_ev rq (0, [(3, 1)])) (zq_ev rq (0, [(4, 1)])) (zq_ev rq (2, [(5, 1)])) P h; simp only [g0, g1, g2, g3, g4, g5]; exact t1)) zq_fan)⟩
noncomputable def zl_n0hg5 : zq_S × List zq_S := (([], [], [(-1, [(5, -1), (6, -1), (7, 1)]), (-3, [(9, 1)]), (3, [(9, -1)]), (-1, [(0, -1), (9, 1)]), (-5, [(10, 1)])], [], [], [], [(230, [(0, [(0, 1)]), (0, [(1, 1)]), (0, [(2, 1)]), (0, [(3, 1)]), (0, [(4, 1)]), (0, [(5, 1)])]), (226, [(0, [(8, 1)]), (0, [(6, 1)]), (0, [(7, 1)]), (0, [(1, 1)]), (0, [(2, 1)])]), (224, [(0, [(1, 1)]), (0, [(2, 1)]), (0, [(5, 1)]), (0, [(9, 1)])]), (224, [(0, [(1, 1)]), (0, [(2, 1)]), (1, [(5, 1)]), (0, [(10, 1)])])], 11), [([], [], [], [], [], [], [(230, [(0, [(0, 1)]), (0, [(1, 1)]), (0, [(2, 1)]), (0, [(3, 1)]), (0, [(4, 1)]), (2, [(5, 1)])])], 11)])
theorem zl_n0hg5_l {P : zq_Ty} {h : zq_H} {k g n W a p B E K c s : Int} (a1 : 0 ≤ -p - B + E - 1) (a2 : 0 ≤ c - 3) (a3 : 0 ≤ -c + 3) (a4 : 0 ≤ -k + c - 1) (a5 : 0 ≤ s - 5) (k1 : zl_LW k g n W a p P h) (k2 : ze_TX K B E g n P h) (k3 : ze_CD g n p c P h) (k4 : ze_CD g n (p + 1) s P h) : (zl_LW k g n W a (p + 2) P h) := by
  obtain ⟨z1, z2, z3, z4, z5⟩ := k2
  have hL : p < ze_L g n := by unfold ze_L; omega
  have k3 : c = ze_c g n p := k3
  intro r hr
  apply k1 r
  have e2 : p + 1 + 1 = p + 2 := by omega
  have kc : s = ze_c g n (p + 1) := k4
  refine zl_n hL (by omega) (by omega) ?_
  rw [if_neg (fun z => by have z := z; omega)]
  rw [e2]
  exact hr
theorem zl_n0hg5_ok {w : zq_Wd} (x_LW : zj_is w 230 (fun q => zl_LW (q 0) (q 1) (q 2) (q 3) (q 4) (q 5))) (x_TX : zj_is w 226 (fun q => ze_TX (q 0) (q 1) (q 2) (q 3) (q 4))) (x_CD : zj_is w 224 (fun q => ze_CD (q 0) (q 1) (q 2) (q 3))) : zq_okG1 w zl_n0hg5 := by
  refine ⟨rfl, rfl, zu_fac ⟨rfl, by decide⟩ zq_fan, ?_⟩
  intro r P h H hM
  have q0 : zq_ev r (-1, [(5, -1), (6, -1), (7, 1)]) = -r 5 - r 6 + r 7 - 1 := by simp only [zq_ev, zq_ts] <;> omega
  have q1 : zq_ev r (-3, [(9, 1)]) = r 9 - 3 := zu_e3 _ _ _
  have q2 : zq_ev r (3, [(9, -1)]) = -r 9 + 3 := zu_e5 _ _ _
  have q3 : zq_ev r (-1, [(0, -1), (9, 1)]) = -r 0 + r 9 - 1 := by simp only [zq_ev, zq_ts] <;> omega
  have q4 : zq_ev r (-5, [(10, 1)]) = r 10 - 5 := zu_e3 _ _ _
  have q5 : zq_ev r (0, [(0, 1)]) = r 0 := zu_e1 _ _
  have q6 : zq_ev r (0, [(1, 1)]) = r 1 := zu_e1 _ _
  have q7 : zq_ev r (0, [(2, 1)]) = r 2 := zu_e1 _ _
  have q8 : zq_ev r (0, [(3, 1)]) = r 3 := zu_e1 _ _
  have q9 : zq_ev r (0, [(4, 1)]) = r 4 := zu_e1 _ _
  have q10 : zq_ev r (0, [(5, 1)]) = r 5 := zu_e1 _ _
  have q11 : zq_ev r (0, [(8, 1)]) = r 8 := zu_e1 _ _
  have q12 : zq_ev r (0, [(6, 1)]) = r 6 := zu_e1 _ _
  have q13 : zq_ev r (0, [(7, 1)]) = r 7 := zu_e1 _ _
  have q14 : zq_ev r (0, [(9, 1)]) = r 9 := zu_e1 _ _
  have q15 : zq_ev r (1, [(5, 1)]) = r 5 + 1 := zu_e2 _ _ _
  have q16 : zq_ev r (0, [(10, 1)]) = r 10 := zu_e1 _ _
  obtain ⟨hT, hC, hF, hS, -, hK⟩ := hM
  have c := hC.1
  have a1 := zq_all_1 c
  rw [q0] at a1
  have c := zq_all_t c
  have a2 := zq_all_1 c
  rw [q1] at a2
  have c := zq_all_t c
  have a3 := zq_all_1 c
  rw [q2] at a3
  have c := zq_all_t c
  have a4 := zq_all_1 c
  rw [q3] at a4
  have c := zq_all_t c
  have a5 := zq_all_1 c
  rw [q4] at a5
  have k1 := zj_use x_LW (hK)
  have k1 : zl_LW (zq_ev r (0, [(0, 1)])) (zq_ev r (0, [(1, 1)])) (zq_ev r (0, [(2, 1)])) (zq_ev r (0, [(3, 1)])) (zq_ev r (0, [(4, 1)])) (zq_ev r (0, [(5, 1)])) P h := k1
  simp only [q10, q5, q6, q7, q8, q9] at k1
  have k2 := zj_use x_TX (zq_okX_t (hK))
  have k2 : ze_TX (zq_ev r (0, [(8, 1)])) (zq_ev r (0, [(6, 1)])) (zq_ev r (0, [(7, 1)])) (zq_ev r (0, [(1, 1)])) (zq_ev r (0, [(2, 1)])) P h := k2
  simp only [q11, q12, q13, q6, q7] at k2
  have k3 := zj_use x_CD (zq_okX_t (zq_okX_t (hK)))
  have k3 : ze_CD (zq_ev r (0, [(1, 1)])) (zq_ev r (0, [(2, 1)])) (zq_ev r (0, [(5, 1)])) (zq_ev r (0, [(9, 1)])) P h := k3
  simp only [q10, q14, q6, q7] at k3
  have k4 := zj_use x_CD (zq_okX_t (zq_okX_t (zq_okX_t (hK))))
  have k4 : ze_CD (zq_ev r (0, [(1, 1)])) (zq_ev r (0, [(2, 1)])) (zq_ev r (1, [(5, 1)])) (zq_ev r (0, [(10, 1)])) P h := k4
  simp only [q15, q16, q6, q7] at k4
  obtain t1 := zl_n0hg5_l (P := P) (h := h) (k := r 0) (g := r 1) (n := r 2) (W := r 3) (a := r 4) (p := r 5) (B := r 6) (E := r 7) (K := r 8) (c := r 9) (s := r 10) a1 a2 a3 a4 a5 k1 k2 k3 k4
  obtain ⟨rq, hr⟩ : ∃ rq : Nat → Int, (∀ i, i < 11 → rq i = r i) := ⟨r, fun i hi => rfl⟩
  have v0 : rq 0 = r 0 := hr 0 (by decide)
  have v1 : rq 1 = r 1 := hr 1 (by decide)
  have v2 : rq 2 = r 2 := hr 2 (by decide)
  have v3 : rq 3 = r 3 := hr 3 (by decide)
  have v4 : rq 4 = r 4 := hr 4 (by decide)
  have v5 : rq 5 = r 5 := hr 5 (by decide)
  have g0 : zq_ev rq (0, [(0, 1)]) = r 0 := zu_f1 v0
  have g1 : zq_ev rq (0, [(1, 1)]) = r 1 := zu_f1 v1
  have g2 : zq_ev rq (0, [(2, 1)]) = r 2 := zu_f1 v2
  have g3 : zq_ev rq (0, [(3, 1)]) = r 3 := zu_f1 v3
  have g4 : zq_ev rq (0, [(4, 1)]) = r 4 := zu_f1 v4
  have g5 : zq_ev rq (2, [(5, 1)]) = r 5 + 2 := zu_f2 v5 _
  exact ⟨_, List.mem_cons_self .., rq, hr, zq_MeS_mk rfl hT (zq_all_nil) zq_fan (zq_fan) rfl (zu_fac ((x_LW _ _ _).mpr (by show zl_LW (zq_ev rq (0, [(0, 1)])) (zq_ev rq (0, [(1, 1)])) (zq_ev rq (0, [(2, 1)])) (zq_ev rq (0, [(3, 1)])) (zq_ev rq (0, [(4, 1)])) (zq_ev rq (2, [(5, 1)])) P h; simp only [g0, g1, g2, g3, g4, g5]; exact t1)) zq_fan)⟩
noncomputable def zl_n0hl3 : zq_S × List zq_S := (([], [], [(-1, [(5, -1), (6, -1), (7, 1)]), (-3, [(9, 1)]), (3, [(9, -1)]), (-1, [(0, 1), (9, -1)]), (3, [(10, -1)])], [], [], [], [(230, [(0, [(0, 1)]), (0, [(1, 1)]), (0, [(2, 1)]), (0, [(3, 1)]), (0, [(4, 1)]), (0, [(5, 1)])]), (226, [(0, [(8, 1)]), (0, [(6, 1)]), (0, [(7, 1)]), (0, [(1, 1)]), (0, [(2, 1)])]), (224, [(0, [(1, 1)]), (0, [(2, 1)]), (0, [(5, 1)]), (0, [(9, 1)])]), (224, [(0, [(1, 1)]), (0, [(2, 1)]), (1, [(5, 1)]), (0, [(10, 1)])])], 11), [([], [], [], [], [], [], [(230, [(0, [(0, 1)]), (0, [(1, 1)]), (0, [(2, 1)]), (0, [(3, 1)]), (0, [(4, 1)]), (2, [(5, 1)])])], 11)])
theorem zl_n0hl3_l {P : zq_Ty} {h : zq_H} {k g n W a p B E K c s : Int} (a1 : 0 ≤ -p - B + E - 1) (a2 : 0 ≤ c - 3) (a3 : 0 ≤ -c + 3) (a4 : 0 ≤ k - c - 1) (a5 : 0 ≤ -s + 3) (k1 : zl_LW k g n W a p P h) (k2 : ze_TX K B E g n P h) (k3 : ze_CD g n p c P h) (k4 : ze_CD g n (p + 1) s P h) : (zl_LW k g n W a (p + 2) P h) := by
  obtain ⟨z1, z2, z3, z4, z5⟩ := k2
  have hL : p < ze_L g n := by unfold ze_L; omega
  have k3 : c = ze_c g n p := k3
  intro r hr
  apply k1 r
  have e2 : p + 1 + 1 = p + 2 := by omega
  have kc : s = ze_c g n (p + 1) := k4
  refine zl_n hL (by omega) (by omega) ?_
  rw [if_neg (fun z => by have z := z; omega)]
  rw [e2]
  exact hr
theorem zl_n0hl3_ok {w : zq_Wd} (x_LW : zj_is w 230 (fun q => zl_LW (q 0) (q 1) (q 2) (q 3) (q 4) (q 5))) (x_TX : zj_is w 226 (fun q => ze_TX (q 0) (q 1) (q 2) (q 3) (q 4))) (x_CD : zj_is w 224 (fun q => ze_CD (q 0) (q 1) (q 2) (q 3))) : zq_okG1 w zl_n0hl3 := by
  refine ⟨rfl, rfl, zu_fac ⟨rfl, by decide⟩ zq_fan, ?_⟩
  intro r P h H hM
  have q0 : zq_ev r (-1, [(5, -1), (6, -1), (7, 1)]) = -r 5 - r 6 + r 7 - 1 := by simp only [zq_ev, zq_ts] <;> omega
  have q1 : zq_ev r (-3, [(9, 1)]) = r 9 - 3 := zu_e3 _ _ _
  have q2 : zq_ev r (3, [(9, -1)]) = -r 9 + 3 := zu_e5 _ _ _
  have q3 : zq_ev r (-1, [(0, 1), (9, -1)]) = r 0 - r 9 - 1 := by simp only [zq_ev, zq_ts] <;> omega
  have q4 : zq_ev r (3, [(10, -1)]) = -r 10 + 3 := zu_e5 _ _ _
  have q5 : zq_ev r (0, [(0, 1)]) = r 0 := zu_e1 _ _
  have q6 : zq_ev r (0, [(1, 1)]) = r 1 := zu_e1 _ _
  have q7 : zq_ev r (0, [(2, 1)]) = r 2 := zu_e1 _ _
  have q8 : zq_ev r (0, [(3, 1)]) = r 3 := zu_e1 _ _
  have q9 : zq_ev r (0, [(4, 1)]) = r 4 := zu_e1 _ _
  have q10 : zq_ev r (0, [(5, 1)]) = r 5 := zu_e1 _ _
  have q11 : zq_ev r (0, [(8, 1)]) = r 8 := zu_e1 _ _
  have q12 : zq_ev r (0, [(6, 1)]) = r 6 := zu_e1 _ _
  have q13 : zq_ev r (0, [(7, 1)]) = r 7 := zu_e1 _ _
  have q14 : zq_ev r (0, [(9, 1)]) = r 9 := zu_e1 _ _
  have q15 : zq_ev r (1, [(5, 1)]) = r 5 + 1 := zu_e2 _ _ _
  have q16 : zq_ev r (0, [(10, 1)]) = r 10 := zu_e1 _ _
  obtain ⟨hT, hC, hF, hS, -, hK⟩ := hM
  have c := hC.1
  have a1 := zq_all_1 c
  rw [q0] at a1
  have c := zq_all_t c
  have a2 := zq_all_1 c
  rw [q1] at a2
  have c := zq_all_t c
  have a3 := zq_all_1 c
  rw [q2] at a3
  have c := zq_all_t c
  have a4 := zq_all_1 c
  rw [q3] at a4
  have c := zq_all_t c
  have a5 := zq_all_1 c
  rw [q4] at a5
  have k1 := zj_use x_LW (hK)
  have k1 : zl_LW (zq_ev r (0, [(0, 1)])) (zq_ev r (0, [(1, 1)])) (zq_ev r (0, [(2, 1)])) (zq_ev r (0, [(3, 1)])) (zq_ev r (0, [(4, 1)])) (zq_ev r (0, [(5, 1)])) P h := k1
  simp only [q10, q5, q6, q7, q8, q9] at k1
  have k2 := zj_use x_TX (zq_okX_t (hK))
  have k2 : ze_TX (zq_ev r (0, [(8, 1)])) (zq_ev r (0, [(6, 1)])) (zq_ev r (0, [(7, 1)])) (zq_ev r (0, [(1, 1)])) (zq_ev r (0, [(2, 1)])) P h := k2
  simp only [q11, q12, q13, q6, q7] at k2
  have k3 := zj_use x_CD (zq_okX_t (zq_okX_t (hK)))
  have k3 : ze_CD (zq_ev r (0, [(1, 1)])) (zq_ev r (0, [(2, 1)])) (zq_ev r (0, [(5, 1)])) (zq_ev r (0, [(9, 1)])) P h := k3
  simp only [q10, q14, q6, q7] at k3
  have k4 := zj_use x_CD (zq_okX_t (zq_okX_t (zq_okX_t (hK))))
  have k4 : ze_CD (zq_ev r (0, [(1, 1)])) (zq_ev r (0, [(2, 1)])) (zq_ev r (1, [(5, 1)])) (zq_ev r (0, [(10, 1)])) P h := k4
  simp only [q15, q16, q6, q7] at k4
  obtain t1 := zl_n0hl3_l (P := P) (h := h) (k := r 0) (g := r 1) (n := r 2) (W := r 3) (a := r 4) (p := r 5) (B := r 6) (E := r 7) (K := r 8) (c := r 9) (s := r 10) a1 a2 a3 a4 a5 k1 k2 k3 k4
  obtain ⟨rq, hr⟩ : ∃ rq : Nat → Int, (∀ i, i < 11 → rq i = r i) := ⟨r, fun i hi => rfl⟩
  have v0 : rq 0 = r 0 := hr 0 (by decide)
  have v1 : rq 1 = r 1 := hr 1 (by decide)
  have v2 : rq 2 = r 2 := hr 2 (by decide)
  have v3 : rq 3 = r 3 := hr 3 (by decide)
  have v4 : rq 4 = r 4 := hr 4 (by decide)
  have v5 : rq 5 = r 5 := hr 5 (by decide)
  have g0 : zq_ev rq (0, [(0, 1)]) = r 0 := zu_f1 v0
  have g1 : zq_ev rq (0, [(1, 1)]) = r 1 := zu_f1 v1
  have g2 : zq_ev rq (0, [(2, 1)]) = r 2 := zu_f1 v2
  have g3 : zq_ev rq (0, [(3, 1)]) = r 3 := zu_f1 v3
  have g4 : zq_ev rq (0, [(4, 1)]) = r 4 := zu_f1 v4
  have g5 : zq_ev rq (2, [(5, 1)]) = r 5 + 2 := zu_f2 v5 _
  exact ⟨_, List.mem_cons_self .., rq, hr, zq_MeS_mk rfl hT (zq_all_nil) zq_fan (zq_fan) rfl (zu_fac ((x_LW _ _ _).mpr (by show zl_LW (zq_ev rq (0, [(0, 1)])) (zq_ev rq (0, [(1, 1)])) (zq_ev rq (0, [(2, 1)])) (zq_ev rq (0, [(3, 1)])) (zq_ev rq (0, [(4, 1)])) (zq_ev rq (2, [(5, 1)])) P h; simp only [g0, g1, g2, g3, g4, g5]; exact t1)) zq_fan)⟩
noncomputable def zl_n0hl5 : zq_S × List zq_S := (([], [], [(-1, [(5, -1), (6, -1), (7, 1)]), (-3, [(9, 1)]), (3, [(9, -1)]), (-1, [(0, 1), (9, -1)]), (-5, [(10, 1)])], [], [], [], [(230, [(0, [(0, 1)]), (0, [(1, 1)]), (0, [(2, 1)]), (0, [(3, 1)]), (0, [(4, 1)]), (0, [(5, 1)])]), (226, [(0, [(8, 1)]), (0, [(6, 1)]), (0, [(7, 1)]), (0, [(1, 1)]), (0, [(2, 1)])]), (224, [(0, [(1, 1)]), (0, [(2, 1)]), (0, [(5, 1)]), (0, [(9, 1)])]), (224, [(0, [(1, 1)]), (0, [(2, 1)]), (1, [(5, 1)]), (0, [(10, 1)])])], 11), [([], [], [], [], [], [], [(230, [(0, [(0, 1)]), (0, [(1, 1)]), (0, [(2, 1)]), (0, [(3, 1)]), (0, [(4, 1)]), (2, [(5, 1)])])], 11)])
theorem zl_n0hl5_l {P : zq_Ty} {h : zq_H} {k g n W a p B E K c s : Int} (a1 : 0 ≤ -p - B + E - 1) (a2 : 0 ≤ c - 3) (a3 : 0 ≤ -c + 3) (a4 : 0 ≤ k - c - 1) (a5 : 0 ≤ s - 5) (k1 : zl_LW k g n W a p P h) (k2 : ze_TX K B E g n P h) (k3 : ze_CD g n p c P h) (k4 : ze_CD g n (p + 1) s P h) : (zl_LW k g n W a (p + 2) P h) := by
  obtain ⟨z1, z2, z3, z4, z5⟩ := k2
  have hL : p < ze_L g n := by unfold ze_L; omega
  have k3 : c = ze_c g n p := k3
  intro r hr
  apply k1 r
  have e2 : p + 1 + 1 = p + 2 := by omega
  have kc : s = ze_c g n (p + 1) := k4
  refine zl_n hL (by omega) (by omega) ?_
  rw [if_neg (fun z => by have z := z; omega)]
  rw [e2]
  exact hr
theorem zl_n0hl5_ok {w : zq_Wd} (x_LW : zj_is w 230 (fun q => zl_LW (q 0) (q 1) (q 2) (q 3) (q 4) (q 5))) (x_TX : zj_is w 226 (fun q => ze_TX (q 0) (q 1) (q 2) (q 3) (q 4))) (x_CD : zj_is w 224 (fun q => ze_CD (q 0) (q 1) (q 2) (q 3))) : zq_okG1 w zl_n0hl5 := by
  refine ⟨rfl, rfl, zu_fac ⟨rfl, by decide⟩ zq_fan, ?_⟩
  intro r P h H hM
  have q0 : zq_ev r (-1, [(5, -1), (6, -1), (7, 1)]) = -r 5 - r 6 + r 7 - 1 := by simp only [zq_ev, zq_ts] <;> omega
  have q1 : zq_ev r (-3, [(9, 1)]) = r 9 - 3 := zu_e3 _ _ _
  have q2 : zq_ev r (3, [(9, -1)]) = -r 9 + 3 := zu_e5 _ _ _
  have q3 : zq_ev r (-1, [(0, 1), (9, -1)]) = r 0 - r 9 - 1 := by simp only [zq_ev, zq_ts] <;> omega
  have q4 : zq_ev r (-5, [(10, 1)]) = r 10 - 5 := zu_e3 _ _ _
  have q5 : zq_ev r (0, [(0, 1)]) = r 0 := zu_e1 _ _
  have q6 : zq_ev r (0, [(1, 1)]) = r 1 := zu_e1 _ _
  have q7 : zq_ev r (0, [(2, 1)]) = r 2 := zu_e1 _ _
  have q8 : zq_ev r (0, [(3, 1)]) = r 3 := zu_e1 _ _
  have q9 : zq_ev r (0, [(4, 1)]) = r 4 := zu_e1 _ _
  have q10 : zq_ev r (0, [(5, 1)]) = r 5 := zu_e1 _ _
  have q11 : zq_ev r (0, [(8, 1)]) = r 8 := zu_e1 _ _
  have q12 : zq_ev r (0, [(6, 1)]) = r 6 := zu_e1 _ _
  have q13 : zq_ev r (0, [(7, 1)]) = r 7 := zu_e1 _ _
  have q14 : zq_ev r (0, [(9, 1)]) = r 9 := zu_e1 _ _
  have q15 : zq_ev r (1, [(5, 1)]) = r 5 + 1 := zu_e2 _ _ _
  have q16 : zq_ev r (0, [(10, 1)]) = r 10 := zu_e1 _ _
  obtain ⟨hT, hC, hF, hS, -, hK⟩ := hM
  have c := hC.1
  have a1 := zq_all_1 c
  rw [q0] at a1
  have c := zq_all_t c
  have a2 := zq_all_1 c
  rw [q1] at a2
  have c := zq_all_t c
  have a3 := zq_all_1 c
  rw [q2] at a3
  have c := zq_all_t c
  have a4 := zq_all_1 c
  rw [q3] at a4
  have c := zq_all_t c
  have a5 := zq_all_1 c
  rw [q4] at a5
  have k1 := zj_use x_LW (hK)
  have k1 : zl_LW (zq_ev r (0, [(0, 1)])) (zq_ev r (0, [(1, 1)])) (zq_ev r (0, [(2, 1)])) (zq_ev r (0, [(3, 1)])) (zq_ev r (0, [(4, 1)])) (zq_ev r (0, [(5, 1)])) P h := k1
  simp only [q10, q5, q6, q7, q8, q9] at k1
  have k2 := zj_use x_TX (zq_okX_t (hK))
  have k2 : ze_TX (zq_ev r (0, [(8, 1)])) (zq_ev r (0, [(6, 1)])) (zq_ev r (0, [(7, 1)])) (zq_ev r (0, [(1, 1)])) (zq_ev r (0, [(2, 1)])) P h := k2
  simp only [q11, q12, q13, q6, q7] at k2
  have k3 := zj_use x_CD (zq_okX_t (zq_okX_t (hK)))
  have k3 : ze_CD (zq_ev r (0, [(1, 1)])) (zq_ev r (0, [(2, 1)])) (zq_ev r (0, [(5, 1)])) (zq_ev r (0, [(9, 1)])) P h := k3
  simp only [q10, q14, q6, q7] at k3
  have k4 := zj_use x_CD (zq_okX_t (zq_okX_t (zq_okX_t (hK))))
  have k4 : ze_CD (zq_ev r (0, [(1, 1)])) (zq_ev r (0, [(2, 1)])) (zq_ev r (1, [(5, 1)])) (zq_ev r (0, [(10, 1)])) P h := k4
  simp only [q15, q16, q6, q7] at k4
  obtain t1 := zl_n0hl5_l (P := P) (h := h) (k := r 0) (g := r 1) (n := r 2) (W := r 3) (a := r 4) (p := r 5) (B := r 6) (E := r 7) (K := r 8) (c := r 9) (s := r 10) a1 a2 a3 a4 a5 k1 k2 k3 k4
  obtain ⟨rq, hr⟩ : ∃ rq : Nat → Int, (∀ i, i < 11 → rq i = r i) := ⟨r, fun i hi => rfl⟩
  have v0 : rq 0 = r 0 := hr 0 (by decide)
  have v1 : rq 1 = r 1 := hr 1 (by decide)
  have v2 : rq 2 = r 2 := hr 2 (by decide)
  have v3 : rq 3 = r 3 := hr 3 (by decide)
  have v4 : rq 4 = r 4 := hr 4 (by decide)
  have v5 : rq 5 = r 5 := hr 5 (by decide)
  have g0 : zq_ev rq (0, [(0, 1)]) = r 0 := zu_f1 v0
  have g1 : zq_ev rq (0, [(1, 1)]) = r 1 := zu_f1 v1
  have g2 : zq_ev rq (0, [(2, 1)]) = r 2 := zu_f1 v2
  have g3 : zq_ev rq (0, [(3, 1)]) = r 3 := zu_f1 v3
  have g4 : zq_ev rq (0, [(4, 1)]) = r 4 := zu_f1 v4
  have g5 : zq_ev rq (2, [(5, 1)]) = r 5 + 2 := zu_f2 v5 _
  exact ⟨_, List.mem_cons_self .., rq, hr, zq_MeS_mk rfl hT (zq_all_nil) zq_fan (zq_fan) rfl (zu_fac ((x_LW _ _ _).mpr (by show zl_LW (zq_ev rq (0, [(0, 1)])) (zq_ev rq (0, [(1, 1)])) (zq_ev rq (0, [(2, 1)])) (zq_ev rq (0, [(3, 1)])) (zq_ev rq (0, [(4, 1)])) (zq_ev rq (2, [(5, 1)])) P h; simp only [g0, g1, g2, g3, g4, g5]; exact t1)) zq_fan)⟩
