/-! EVALUATION of the reference: facts -/
noncomputable def zo_ol (op a b c : Int) (_ : zq_Ty) (_ : zq_H) : Prop := c = zq_fun 1 op.toNat a b
noncomputable def ze_cd : zq_S × List zq_S := (([], [], [(0, [(1, -1), (5, 1)]), (-1, [(2, 1), (5, -1)])], [], [((0, [(0, 1)]), (71, [(5, 1)]), (0, [(6, 1)]))], [], [(226, [(0, [(0, 1)]), (0, [(1, 1)]), (0, [(2, 1)]), (0, [(3, 1)]), (0, [(4, 1)])])], 7), [([], [], [], [], [], [], [(224, [(0, [(3, 1)]), (0, [(4, 1)]), (0, [(1, -1), (5, 1)]), (0, [(6, 1)])])], 7)])
theorem ze_cd_l {P : zq_Ty} {h : zq_H} {a B E g n q c : Int} (a1 : 0 ≤ -B + q) (a2 : 0 ≤ E - q - 1) (s1 : 0 ≤ a ∧ P (a).toNat ≠ none ∧ h (a).toNat (q + 71) = c) (k1 : ze_TX a B E g n P h) : (ze_CD g n (-B + q) c P h) := by
  obtain ⟨z1, z2, z3, z4, z5⟩ := k1
  have := (z5 (q - B) (by omega) (by omega)).1
  rw [show 71 + (B + (q - B)) = q + 71 by omega, s1.2.2] at this
  show c = ze_c g n (-B + q)
  rw [show -B + q = q - B by omega]; exact this
theorem ze_cd_ok {w : zq_Wd} (x_TX : zj_is w 226 (fun q => ze_TX (q 0) (q 1) (q 2) (q 3) (q 4))) (x_CD : zj_is w 224 (fun q => ze_CD (q 0) (q 1) (q 2) (q 3))) : zq_okG1 w ze_cd := by
  refine ⟨rfl, rfl, zu_fac ⟨rfl, by decide⟩ zq_fan, ?_⟩
  intro r P h H hM
  have q0 : zq_ev r (0, [(1, -1), (5, 1)]) = -r 1 + r 5 := by simp only [zq_ev, zq_ts] <;> omega
  have q1 : zq_ev r (-1, [(2, 1), (5, -1)]) = r 2 - r 5 - 1 := by simp only [zq_ev, zq_ts] <;> omega
  have q2 : zq_ev r (0, [(0, 1)]) = r 0 := zu_e1 _ _
  have q3 : zq_ev r (71, [(5, 1)]) = r 5 + 71 := zu_e2 _ _ _
  have q4 : zq_ev r (0, [(6, 1)]) = r 6 := zu_e1 _ _
  have q5 : zq_ev r (0, [(1, 1)]) = r 1 := zu_e1 _ _
  have q6 : zq_ev r (0, [(2, 1)]) = r 2 := zu_e1 _ _
  have q7 : zq_ev r (0, [(3, 1)]) = r 3 := zu_e1 _ _
  have q8 : zq_ev r (0, [(4, 1)]) = r 4 := zu_e1 _ _
  obtain ⟨hT, hC, hF, hS, -, hK⟩ := hM
  have c := hC.1
  have a1 := zq_all_1 c
  rw [q0] at a1
  have c := zq_all_t c
  have a2 := zq_all_1 c
  rw [q1] at a2
  have s1 := zq_okS_1 (hS)
  simp only [q2, q3, q4] at s1
  have k1 := zj_use x_TX (hK)
  have k1 : ze_TX (zq_ev r (0, [(0, 1)])) (zq_ev r (0, [(1, 1)])) (zq_ev r (0, [(2, 1)])) (zq_ev r (0, [(3, 1)])) (zq_ev r (0, [(4, 1)])) P h := k1
  simp only [q2, q5, q6, q7, q8] at k1
  obtain t1 := ze_cd_l (P := P) (h := h) (a := r 0) (B := r 1) (E := r 2) (g := r 3) (n := r 4) (q := r 5) (c := r 6) a1 a2 s1 k1
  obtain ⟨rq, hr⟩ : ∃ rq : Nat → Int, (∀ i, i < 7 → rq i = r i) := ⟨r, fun i hi => rfl⟩
  have v1 : rq 1 = r 1 := hr 1 (by decide)
  have v3 : rq 3 = r 3 := hr 3 (by decide)
  have v4 : rq 4 = r 4 := hr 4 (by decide)
  have v5 : rq 5 = r 5 := hr 5 (by decide)
  have v6 : rq 6 = r 6 := hr 6 (by decide)
  have g0 : zq_ev rq (0, [(3, 1)]) = r 3 := zu_f1 v3
  have g1 : zq_ev rq (0, [(4, 1)]) = r 4 := zu_f1 v4
  have g2 : zq_ev rq (0, [(1, -1), (5, 1)]) = -r 1 + r 5 := by simp only [zq_ev, zq_ts, v1, v3, v4, v5, v6] <;> omega
  have g3 : zq_ev rq (0, [(6, 1)]) = r 6 := zu_f1 v6
  exact ⟨_, List.mem_cons_self .., rq, hr, zq_MeS_mk rfl hT (zq_all_nil) zq_fan (zq_fan) rfl (zu_fac ((x_CD _ _ _).mpr (by show ze_CD (zq_ev rq (0, [(3, 1)])) (zq_ev rq (0, [(4, 1)])) (zq_ev rq (0, [(1, -1), (5, 1)])) (zq_ev rq (0, [(6, 1)])) P h; simp only [g0, g1, g2, g3]; exact t1)) zq_fan)⟩
noncomputable def ze_ce : zq_S × List zq_S := (([], [], [(0, [(2, -1), (5, 1)])], [], [], [], [(226, [(0, [(0, 1)]), (0, [(1, 1)]), (0, [(2, 1)]), (0, [(3, 1)]), (0, [(4, 1)])])], 6), [([], [], [], [], [], [], [(224, [(0, [(3, 1)]), (0, [(4, 1)]), (0, [(1, -1), (5, 1)]), (0, [])])], 6)])
theorem ze_ce_l {P : zq_Ty} {h : zq_H} {a B E g n q : Int} (a1 : 0 ≤ -E + q) (k1 : ze_TX a B E g n P h) : (ze_CD g n (-B + q) 0 P h) := by
  obtain ⟨z1, z2, z3, z4, z5⟩ := k1
  exact (ze_c_end (by omega)).symm
theorem ze_ce_ok {w : zq_Wd} (x_TX : zj_is w 226 (fun q => ze_TX (q 0) (q 1) (q 2) (q 3) (q 4))) (x_CD : zj_is w 224 (fun q => ze_CD (q 0) (q 1) (q 2) (q 3))) : zq_okG1 w ze_ce := by
  refine ⟨rfl, rfl, zu_fac ⟨rfl, by decide⟩ zq_fan, ?_⟩
  intro r P h H hM
  have q0 : zq_ev r (0, [(2, -1), (5, 1)]) = -r 2 + r 5 := by simp only [zq_ev, zq_ts] <;> omega
  have q1 : zq_ev r (0, [(0, 1)]) = r 0 := zu_e1 _ _
  have q2 : zq_ev r (0, [(1, 1)]) = r 1 := zu_e1 _ _
  have q3 : zq_ev r (0, [(2, 1)]) = r 2 := zu_e1 _ _
  have q4 : zq_ev r (0, [(3, 1)]) = r 3 := zu_e1 _ _
  have q5 : zq_ev r (0, [(4, 1)]) = r 4 := zu_e1 _ _
  obtain ⟨hT, hC, hF, hS, -, hK⟩ := hM
  have c := hC.1
  have a1 := zq_all_1 c
  rw [q0] at a1
  have k1 := zj_use x_TX (hK)
  have k1 : ze_TX (zq_ev r (0, [(0, 1)])) (zq_ev r (0, [(1, 1)])) (zq_ev r (0, [(2, 1)])) (zq_ev r (0, [(3, 1)])) (zq_ev r (0, [(4, 1)])) P h := k1
  simp only [q1, q2, q3, q4, q5] at k1
  obtain t1 := ze_ce_l (P := P) (h := h) (a := r 0) (B := r 1) (E := r 2) (g := r 3) (n := r 4) (q := r 5) a1 k1
  obtain ⟨rq, hr⟩ : ∃ rq : Nat → Int, (∀ i, i < 6 → rq i = r i) := ⟨r, fun i hi => rfl⟩
  have v1 : rq 1 = r 1 := hr 1 (by decide)
  have v3 : rq 3 = r 3 := hr 3 (by decide)
  have v4 : rq 4 = r 4 := hr 4 (by decide)
  have v5 : rq 5 = r 5 := hr 5 (by decide)
  have g0 : zq_ev rq (0, [(3, 1)]) = r 3 := zu_f1 v3
  have g1 : zq_ev rq (0, [(4, 1)]) = r 4 := zu_f1 v4
  have g2 : zq_ev rq (0, [(1, -1), (5, 1)]) = -r 1 + r 5 := by simp only [zq_ev, zq_ts, v1, v3, v4, v5] <;> omega
  have g3 : zq_ev rq (0, []) = 0 := zu_e0 _ _
  exact ⟨_, List.mem_cons_self .., rq, hr, zq_MeS_mk rfl hT (zq_all_nil) zq_fan (zq_fan) rfl (zu_fac ((x_CD _ _ _).mpr (by show ze_CD (zq_ev rq (0, [(3, 1)])) (zq_ev rq (0, [(4, 1)])) (zq_ev rq (0, [(1, -1), (5, 1)])) (zq_ev rq (0, [])) P h; simp only [g0, g1, g2, g3]; exact t1)) zq_fan)⟩
noncomputable def ze_vl : zq_S × List zq_S := (([], [], [(0, [(1, -1), (5, 1)]), (-1, [(2, 1), (5, -1)])], [], [((0, [(0, 1)]), (2871, [(5, 1)]), (0, [(6, 1)]))], [], [(226, [(0, [(0, 1)]), (0, [(1, 1)]), (0, [(2, 1)]), (0, [(3, 1)]), (0, [(4, 1)])]), (224, [(0, [(3, 1)]), (0, [(4, 1)]), (0, [(1, -1), (5, 1)]), (50, [])])], 7), [([], [], [], [], [], [], [(225, [(0, [(3, 1)]), (0, [(4, 1)]), (0, [(1, -1), (5, 1)]), (0, [(6, 1)])])], 7)])
theorem ze_vl_l {P : zq_Ty} {h : zq_H} {a B E g n q v : Int} (a1 : 0 ≤ -B + q) (a2 : 0 ≤ E - q - 1) (s1 : 0 ≤ a ∧ P (a).toNat ≠ none ∧ h (a).toNat (q + 2871) = v) (k1 : ze_TX a B E g n P h) (k2 : ze_CD g n (-B + q) 50 P h) : (ze_VL g n (-B + q) v P h) := by
  obtain ⟨z1, z2, z3, z4, z5⟩ := k1
  have k2 : 50 = ze_c g n (-B + q) := k2
  have := (z5 (-B + q) (by omega) (by omega)).2 k2.symm
  rw [show 2871 + (B + (-B + q)) = q + 2871 by omega, s1.2.2] at this
  exact this
theorem ze_vl_ok {w : zq_Wd} (x_TX : zj_is w 226 (fun q => ze_TX (q 0) (q 1) (q 2) (q 3) (q 4))) (x_CD : zj_is w 224 (fun q => ze_CD (q 0) (q 1) (q 2) (q 3))) (x_VL : zj_is w 225 (fun q => ze_VL (q 0) (q 1) (q 2) (q 3))) : zq_okG1 w ze_vl := by
  refine ⟨rfl, rfl, zu_fac ⟨rfl, by decide⟩ zq_fan, ?_⟩
  intro r P h H hM
  have q0 : zq_ev r (0, [(1, -1), (5, 1)]) = -r 1 + r 5 := by simp only [zq_ev, zq_ts] <;> omega
  have q1 : zq_ev r (-1, [(2, 1), (5, -1)]) = r 2 - r 5 - 1 := by simp only [zq_ev, zq_ts] <;> omega
  have q2 : zq_ev r (0, [(0, 1)]) = r 0 := zu_e1 _ _
  have q3 : zq_ev r (2871, [(5, 1)]) = r 5 + 2871 := zu_e2 _ _ _
  have q4 : zq_ev r (0, [(6, 1)]) = r 6 := zu_e1 _ _
  have q5 : zq_ev r (0, [(1, 1)]) = r 1 := zu_e1 _ _
  have q6 : zq_ev r (0, [(2, 1)]) = r 2 := zu_e1 _ _
  have q7 : zq_ev r (0, [(3, 1)]) = r 3 := zu_e1 _ _
  have q8 : zq_ev r (0, [(4, 1)]) = r 4 := zu_e1 _ _
  have q9 : zq_ev r (50, []) = 50 := zu_e0 _ _
  obtain ⟨hT, hC, hF, hS, -, hK⟩ := hM
  have c := hC.1
  have a1 := zq_all_1 c
  rw [q0] at a1
  have c := zq_all_t c
  have a2 := zq_all_1 c
  rw [q1] at a2
  have s1 := zq_okS_1 (hS)
  simp only [q2, q3, q4] at s1
  have k1 := zj_use x_TX (hK)
  have k1 : ze_TX (zq_ev r (0, [(0, 1)])) (zq_ev r (0, [(1, 1)])) (zq_ev r (0, [(2, 1)])) (zq_ev r (0, [(3, 1)])) (zq_ev r (0, [(4, 1)])) P h := k1
  simp only [q2, q5, q6, q7, q8] at k1
  have k2 := zj_use x_CD (zq_okX_t (hK))
  have k2 : ze_CD (zq_ev r (0, [(3, 1)])) (zq_ev r (0, [(4, 1)])) (zq_ev r (0, [(1, -1), (5, 1)])) (zq_ev r (50, [])) P h := k2
  simp only [q0, q7, q8, q9] at k2
  obtain t1 := ze_vl_l (P := P) (h := h) (a := r 0) (B := r 1) (E := r 2) (g := r 3) (n := r 4) (q := r 5) (v := r 6) a1 a2 s1 k1 k2
  obtain ⟨rq, hr⟩ : ∃ rq : Nat → Int, (∀ i, i < 7 → rq i = r i) := ⟨r, fun i hi => rfl⟩
  have v1 : rq 1 = r 1 := hr 1 (by decide)
  have v3 : rq 3 = r 3 := hr 3 (by decide)
  have v4 : rq 4 = r 4 := hr 4 (by decide)
  have v5 : rq 5 = r 5 := hr 5 (by decide)
  have v6 : rq 6 = r 6 := hr 6 (by decide)
  have g0 : zq_ev rq (0, [(3, 1)]) = r 3 := zu_f1 v3
  have g1 : zq_ev rq (0, [(4, 1)]) = r 4 := zu_f1 v4
  have g2 : zq_ev rq (0, [(1, -1), (5, 1)]) = -r 1 + r 5 := by simp only [zq_ev, zq_ts, v1, v3, v4, v5, v6] <;> omega
  have g3 : zq_ev rq (0, [(6, 1)]) = r 6 := zu_f1 v6
  exact ⟨_, List.mem_cons_self .., rq, hr, zq_MeS_mk rfl hT (zq_all_nil) zq_fan (zq_fan) rfl (zu_fac ((x_VL _ _ _).mpr (by show ze_VL (zq_ev rq (0, [(3, 1)])) (zq_ev rq (0, [(4, 1)])) (zq_ev rq (0, [(1, -1), (5, 1)])) (zq_ev rq (0, [(6, 1)])) P h; simp only [g0, g1, g2, g3]; exact t1)) zq_fan)⟩
noncomputable def ze_aw : zq_S × List zq_S := (([], [], [(0, [(2, 1)]), (7, [(2, -1)])], [], [((0, [(0, 1)]), (0, [(2, 1)]), (0, [(3, 1)]))], [], [(227, [(0, [(0, 1)]), (0, [(1, 1)])])], 4), [([], [], [], [], [], [], [(134, [(0, [(1, 1)]), (0, [(2, 1)]), (0, [(3, 1)])])], 4)])
theorem ze_aw_l {P : zq_Ty} {h : zq_H} {a W i v : Int} (a1 : 0 ≤ i) (a2 : 0 ≤ -i + 7) (s1 : 0 ≤ a ∧ P (a).toNat ≠ none ∧ h (a).toNat i = v) (k1 : ze_AW 11 a W P h) : (zn_DG W i v P h) := by
  have := k1.2 i a1 (by omega)
  rw [s1.2.2] at this
  exact this
theorem ze_aw_ok {w : zq_Wd} (x_AW : zj_is w 227 (fun q => ze_AW 11 (q 0) (q 1))) (x_DG : zj_is w 134 (fun q => zn_DG (q 0) (q 1) (q 2))) : zq_okG1 w ze_aw := by
  refine ⟨rfl, rfl, zu_fac ⟨rfl, by decide⟩ zq_fan, ?_⟩
  intro r P h H hM
  have q0 : zq_ev r (0, [(2, 1)]) = r 2 := zu_e1 _ _
  have q1 : zq_ev r (7, [(2, -1)]) = -r 2 + 7 := zu_e5 _ _ _
  have q2 : zq_ev r (0, [(0, 1)]) = r 0 := zu_e1 _ _
  have q3 : zq_ev r (0, [(3, 1)]) = r 3 := zu_e1 _ _
  have q4 : zq_ev r (0, [(1, 1)]) = r 1 := zu_e1 _ _
  obtain ⟨hT, hC, hF, hS, -, hK⟩ := hM
  have c := hC.1
  have a1 := zq_all_1 c
  rw [q0] at a1
  have c := zq_all_t c
  have a2 := zq_all_1 c
  rw [q1] at a2
  have s1 := zq_okS_1 (hS)
  simp only [q0, q2, q3] at s1
  have k1 := zj_use x_AW (hK)
  have k1 : ze_AW 11 (zq_ev r (0, [(0, 1)])) (zq_ev r (0, [(1, 1)])) P h := k1
  simp only [q2, q4] at k1
  obtain t1 := ze_aw_l (P := P) (h := h) (a := r 0) (W := r 1) (i := r 2) (v := r 3) a1 a2 s1 k1
  obtain ⟨rq, hr⟩ : ∃ rq : Nat → Int, (∀ i, i < 4 → rq i = r i) := ⟨r, fun i hi => rfl⟩
  have v1 : rq 1 = r 1 := hr 1 (by decide)
  have v2 : rq 2 = r 2 := hr 2 (by decide)
  have v3 : rq 3 = r 3 := hr 3 (by decide)
  have g0 : zq_ev rq (0, [(1, 1)]) = r 1 := zu_f1 v1
  have g1 : zq_ev rq (0, [(2, 1)]) = r 2 := zu_f1 v2
  have g2 : zq_ev rq (0, [(3, 1)]) = r 3 := zu_f1 v3
  exact ⟨_, List.mem_cons_self .., rq, hr, zq_MeS_mk rfl hT (zq_all_nil) zq_fan (zq_fan) rfl (zu_fac ((x_DG _ _ _).mpr (by show zn_DG (zq_ev rq (0, [(1, 1)])) (zq_ev rq (0, [(2, 1)])) (zq_ev rq (0, [(3, 1)])) P h; simp only [g0, g1, g2]; exact t1)) zq_fan)⟩
noncomputable def ze_p1a : zq_S × List zq_S := (([], [], [(19, [(5, -1)])], [], [], [], [(224, [(0, [(0, 1)]), (0, [(1, 1)]), (0, [(4, 1)]), (0, [(5, 1)])])], 6), [([], [], [], [], [], [], [(220, [(0, []), (0, [(0, 1)]), (0, [(1, 1)]), (0, [(2, 1)]), (0, [(3, 1)]), (1, []), (0, [(4, 1)]), (0, []), (1, []), (1, [(4, 1)])])], 6)])
theorem ze_p1a_l {P : zq_Ty} {h : zq_H} {g n o W p c : Int} (a1 : 0 ≤ -c + 19) (k1 : ze_CD g n p c P h) : (ze_EV 0 g n o W 1 p 0 1 (p + 1) P h) := by
  have k1 : c = ze_c g n p := k1
  have e := ze_part_n (c := ze_c g n) (v := ze_v g n) (w := ze_w o W) (acc := 0) (p := p) (l := true) (b := true) (by rw [← k1]; omega)
  unfold ze_par at e
  simp only [Bool.not_true, Bool.and_false, cond_false] at e
  rw [if_neg (by rw [← k1]; omega)] at e
  show ze_V _ _ _ _ _ _ (ze_on 1) _ _ (ze_on 1) _
  rw [ze_on1]; exact e
theorem ze_p1a_ok {w : zq_Wd} (x_CD : zj_is w 224 (fun q => ze_CD (q 0) (q 1) (q 2) (q 3))) (x_EV : zj_is w 220 (fun q => ze_EV (q 0) (q 1) (q 2) (q 3) (q 4) (q 5) (q 6) (q 7) (q 8) (q 9))) : zq_okG1 w ze_p1a := by
  refine ⟨rfl, rfl, zu_fac ⟨rfl, by decide⟩ zq_fan, ?_⟩
  intro r P h H hM
  have q0 : zq_ev r (19, [(5, -1)]) = -r 5 + 19 := zu_e5 _ _ _
  have q1 : zq_ev r (0, [(0, 1)]) = r 0 := zu_e1 _ _
  have q2 : zq_ev r (0, [(1, 1)]) = r 1 := zu_e1 _ _
  have q3 : zq_ev r (0, [(4, 1)]) = r 4 := zu_e1 _ _
  have q4 : zq_ev r (0, [(5, 1)]) = r 5 := zu_e1 _ _
  obtain ⟨hT, hC, hF, hS, -, hK⟩ := hM
  have c := hC.1
  have a1 := zq_all_1 c
  rw [q0] at a1
  have k1 := zj_use x_CD (hK)
  have k1 : ze_CD (zq_ev r (0, [(0, 1)])) (zq_ev r (0, [(1, 1)])) (zq_ev r (0, [(4, 1)])) (zq_ev r (0, [(5, 1)])) P h := k1
  simp only [q1, q2, q3, q4] at k1
  obtain t1 := ze_p1a_l (P := P) (h := h) (g := r 0) (n := r 1) (o := r 2) (W := r 3) (p := r 4) (c := r 5) a1 k1
  obtain ⟨rq, hr⟩ : ∃ rq : Nat → Int, (∀ i, i < 6 → rq i = r i) := ⟨r, fun i hi => rfl⟩
  have v0 : rq 0 = r 0 := hr 0 (by decide)
  have v1 : rq 1 = r 1 := hr 1 (by decide)
  have v2 : rq 2 = r 2 := hr 2 (by decide)
  have v3 : rq 3 = r 3 := hr 3 (by decide)
  have v4 : rq 4 = r 4 := hr 4 (by decide)
  have g0 : zq_ev rq (0, []) = 0 := zu_e0 _ _
  have g1 : zq_ev rq (0, [(0, 1)]) = r 0 := zu_f1 v0
  have g2 : zq_ev rq (0, [(1, 1)]) = r 1 := zu_f1 v1
  have g3 : zq_ev rq (0, [(2, 1)]) = r 2 := zu_f1 v2
  have g4 : zq_ev rq (0, [(3, 1)]) = r 3 := zu_f1 v3
  have g5 : zq_ev rq (1, []) = 1 := zu_e0 _ _
  have g6 : zq_ev rq (0, [(4, 1)]) = r 4 := zu_f1 v4
  have g7 : zq_ev rq (1, [(4, 1)]) = r 4 + 1 := zu_f2 v4 _
  exact ⟨_, List.mem_cons_self .., rq, hr, zq_MeS_mk rfl hT (zq_all_nil) zq_fan (zq_fan) rfl (zu_fac ((x_EV _ _ _).mpr (by show ze_EV (zq_ev rq (0, [])) (zq_ev rq (0, [(0, 1)])) (zq_ev rq (0, [(1, 1)])) (zq_ev rq (0, [(2, 1)])) (zq_ev rq (0, [(3, 1)])) (zq_ev rq (1, [])) (zq_ev rq (0, [(4, 1)])) (zq_ev rq (0, [])) (zq_ev rq (1, [])) (zq_ev rq (1, [(4, 1)])) P h; simp only [g0, g1, g2, g3, g4, g5, g6, g7]; exact t1)) zq_fan)⟩
noncomputable def ze_t1a : zq_S × List zq_S := (([], [], [(19, [(3, -1)])], [], [], [], [(224, [(0, [(0, 1)]), (0, [(1, 1)]), (0, [(2, 1)]), (0, [(3, 1)])])], 4), [([], [], [], [], [], [], [(221, [(0, []), (0, [(0, 1)]), (0, [(1, 1)]), (0, [(2, 1)]), (1, [(2, 1)])])], 4)])
theorem ze_t1a_l {P : zq_Ty} {h : zq_H} {g n p c : Int} (a1 : 0 ≤ -c + 19) (k1 : ze_CD g n p c P h) : (ze_TT 0 g n p (p + 1) P h) := by
  have k1 : c = ze_c g n p := k1
  have e := zt_part_n (c := ze_c g n) (p := p) (by rw [← k1]; omega)
  rw [if_neg (by rw [← k1]; omega)] at e
  exact e
theorem ze_t1a_ok {w : zq_Wd} (x_CD : zj_is w 224 (fun q => ze_CD (q 0) (q 1) (q 2) (q 3))) (x_TT : zj_is w 221 (fun q => ze_TT (q 0) (q 1) (q 2) (q 3) (q 4))) : zq_okG1 w ze_t1a := by
  refine ⟨rfl, rfl, zu_fac ⟨rfl, by decide⟩ zq_fan, ?_⟩
  intro r P h H hM
  have q0 : zq_ev r (19, [(3, -1)]) = -r 3 + 19 := zu_e5 _ _ _
  have q1 : zq_ev r (0, [(0, 1)]) = r 0 := zu_e1 _ _
  have q2 : zq_ev r (0, [(1, 1)]) = r 1 := zu_e1 _ _
  have q3 : zq_ev r (0, [(2, 1)]) = r 2 := zu_e1 _ _
  have q4 : zq_ev r (0, [(3, 1)]) = r 3 := zu_e1 _ _
  obtain ⟨hT, hC, hF, hS, -, hK⟩ := hM
  have c := hC.1
  have a1 := zq_all_1 c
  rw [q0] at a1
  have k1 := zj_use x_CD (hK)
  have k1 : ze_CD (zq_ev r (0, [(0, 1)])) (zq_ev r (0, [(1, 1)])) (zq_ev r (0, [(2, 1)])) (zq_ev r (0, [(3, 1)])) P h := k1
  simp only [q1, q2, q3, q4] at k1
  obtain t1 := ze_t1a_l (P := P) (h := h) (g := r 0) (n := r 1) (p := r 2) (c := r 3) a1 k1
  obtain ⟨rq, hr⟩ : ∃ rq : Nat → Int, (∀ i, i < 4 → rq i = r i) := ⟨r, fun i hi => rfl⟩
  have v0 : rq 0 = r 0 := hr 0 (by decide)
  have v1 : rq 1 = r 1 := hr 1 (by decide)
  have v2 : rq 2 = r 2 := hr 2 (by decide)
  have g0 : zq_ev rq (0, []) = 0 := zu_e0 _ _
  have g1 : zq_ev rq (0, [(0, 1)]) = r 0 := zu_f1 v0
  have g2 : zq_ev rq (0, [(1, 1)]) = r 1 := zu_f1 v1
  have g3 : zq_ev rq (0, [(2, 1)]) = r 2 := zu_f1 v2
  have g4 : zq_ev rq (1, [(2, 1)]) = r 2 + 1 := zu_f2 v2 _
  exact ⟨_, List.mem_cons_self .., rq, hr, zq_MeS_mk rfl hT (zq_all_nil) zq_fan (zq_fan) rfl (zu_fac ((x_TT _ _ _).mpr (by show ze_TT (zq_ev rq (0, [])) (zq_ev rq (0, [(0, 1)])) (zq_ev rq (0, [(1, 1)])) (zq_ev rq (0, [(2, 1)])) (zq_ev rq (1, [(2, 1)])) P h; simp only [g0, g1, g2, g3, g4]; exact t1)) zq_fan)⟩
noncomputable def ze_p1b : zq_S × List zq_S := (([], [], [(-22, [(5, 1)]), (190, [(5, -1)])], [], [], [], [(224, [(0, [(0, 1)]), (0, [(1, 1)]), (0, [(4, 1)]), (0, [(5, 1)])])], 6), [([], [], [], [], [], [], [(220, [(0, []), (0, [(0, 1)]), (0, [(1, 1)]), (0, [(2, 1)]), (0, [(3, 1)]), (1, []), (0, [(4, 1)]), (0, []), (1, []), (1, [(4, 1)])])], 6)])
theorem ze_p1b_l {P : zq_Ty} {h : zq_H} {g n o W p c : Int} (a1 : 0 ≤ c - 22) (a2 : 0 ≤ -c + 190) (k1 : ze_CD g n p c P h) : (ze_EV 0 g n o W 1 p 0 1 (p + 1) P h) := by
  have k1 : c = ze_c g n p := k1
  have e := ze_part_n (c := ze_c g n) (v := ze_v g n) (w := ze_w o W) (acc := 0) (p := p) (l := true) (b := true) (by rw [← k1]; omega)
  unfold ze_par at e
  simp only [Bool.not_true, Bool.and_false, cond_false] at e
  rw [if_neg (by rw [← k1]; omega)] at e
  show ze_V _ _ _ _ _ _ (ze_on 1) _ _ (ze_on 1) _
  rw [ze_on1]; exact e
theorem ze_p1b_ok {w : zq_Wd} (x_CD : zj_is w 224 (fun q => ze_CD (q 0) (q 1) (q 2) (q 3))) (x_EV : zj_is w 220 (fun q => ze_EV (q 0) (q 1) (q 2) (q 3) (q 4) (q 5) (q 6) (q 7) (q 8) (q 9))) : zq_okG1 w ze_p1b := by
  refine ⟨rfl, rfl, zu_fac ⟨rfl, by decide⟩ zq_fan, ?_⟩
  intro r P h H hM
  have q0 : zq_ev r (-22, [(5, 1)]) = r 5 - 22 := zu_e3 _ _ _
  have q1 : zq_ev r (190, [(5, -1)]) = -r 5 + 190 := zu_e5 _ _ _
  have q2 : zq_ev r (0, [(0, 1)]) = r 0 := zu_e1 _ _
  have q3 : zq_ev r (0, [(1, 1)]) = r 1 := zu_e1 _ _
  have q4 : zq_ev r (0, [(4, 1)]) = r 4 := zu_e1 _ _
  have q5 : zq_ev r (0, [(5, 1)]) = r 5 := zu_e1 _ _
  obtain ⟨hT, hC, hF, hS, -, hK⟩ := hM
  have c := hC.1
  have a1 := zq_all_1 c
  rw [q0] at a1
  have c := zq_all_t c
  have a2 := zq_all_1 c
  rw [q1] at a2
  have k1 := zj_use x_CD (hK)
  have k1 : ze_CD (zq_ev r (0, [(0, 1)])) (zq_ev r (0, [(1, 1)])) (zq_ev r (0, [(4, 1)])) (zq_ev r (0, [(5, 1)])) P h := k1
  simp only [q2, q3, q4, q5] at k1
  obtain t1 := ze_p1b_l (P := P) (h := h) (g := r 0) (n := r 1) (o := r 2) (W := r 3) (p := r 4) (c := r 5) a1 a2 k1
  obtain ⟨rq, hr⟩ : ∃ rq : Nat → Int, (∀ i, i < 6 → rq i = r i) := ⟨r, fun i hi => rfl⟩
  have v0 : rq 0 = r 0 := hr 0 (by decide)
  have v1 : rq 1 = r 1 := hr 1 (by decide)
  have v2 : rq 2 = r 2 := hr 2 (by decide)
  have v3 : rq 3 = r 3 := hr 3 (by decide)
  have v4 : rq 4 = r 4 := hr 4 (by decide)
  have g0 : zq_ev rq (0, []) = 0 := zu_e0 _ _
  have g1 : zq_ev rq (0, [(0, 1)]) = r 0 := zu_f1 v0
  have g2 : zq_ev rq (0, [(1, 1)]) = r 1 := zu_f1 v1
  have g3 : zq_ev rq (0, [(2, 1)]) = r 2 := zu_f1 v2
  have g4 : zq_ev rq (0, [(3, 1)]) = r 3 := zu_f1 v3
  have g5 : zq_ev rq (1, []) = 1 := zu_e0 _ _
  have g6 : zq_ev rq (0, [(4, 1)]) = r 4 := zu_f1 v4
  have g7 : zq_ev rq (1, [(4, 1)]) = r 4 + 1 := zu_f2 v4 _
  exact ⟨_, List.mem_cons_self .., rq, hr, zq_MeS_mk rfl hT (zq_all_nil) zq_fan (zq_fan) rfl (zu_fac ((x_EV _ _ _).mpr (by show ze_EV (zq_ev rq (0, [])) (zq_ev rq (0, [(0, 1)])) (zq_ev rq (0, [(1, 1)])) (zq_ev rq (0, [(2, 1)])) (zq_ev rq (0, [(3, 1)])) (zq_ev rq (1, [])) (zq_ev rq (0, [(4, 1)])) (zq_ev rq (0, [])) (zq_ev rq (1, [])) (zq_ev rq (1, [(4, 1)])) P h; simp only [g0, g1, g2, g3, g4, g5, g6, g7]; exact t1)) zq_fan)⟩
noncomputable def ze_t1b : zq_S × List zq_S := (([], [], [(-22, [(3, 1)]), (190, [(3, -1)])], [], [], [], [(224, [(0, [(0, 1)]), (0, [(1, 1)]), (0, [(2, 1)]), (0, [(3, 1)])])], 4), [([], [], [], [], [], [], [(221, [(0, []), (0, [(0, 1)]), (0, [(1, 1)]), (0, [(2, 1)]), (1, [(2, 1)])])], 4)])
theorem ze_t1b_l {P : zq_Ty} {h : zq_H} {g n p c : Int} (a1 : 0 ≤ c - 22) (a2 : 0 ≤ -c + 190) (k1 : ze_CD g n p c P h) : (ze_TT 0 g n p (p + 1) P h) := by
  have k1 : c = ze_c g n p := k1
  have e := zt_part_n (c := ze_c g n) (p := p) (by rw [← k1]; omega)
  rw [if_neg (by rw [← k1]; omega)] at e
  exact e
theorem ze_t1b_ok {w : zq_Wd} (x_CD : zj_is w 224 (fun q => ze_CD (q 0) (q 1) (q 2) (q 3))) (x_TT : zj_is w 221 (fun q => ze_TT (q 0) (q 1) (q 2) (q 3) (q 4))) : zq_okG1 w ze_t1b := by
  refine ⟨rfl, rfl, zu_fac ⟨rfl, by decide⟩ zq_fan, ?_⟩
  intro r P h H hM
  have q0 : zq_ev r (-22, [(3, 1)]) = r 3 - 22 := zu_e3 _ _ _
  have q1 : zq_ev r (190, [(3, -1)]) = -r 3 + 190 := zu_e5 _ _ _
  have q2 : zq_ev r (0, [(0, 1)]) = r 0 := zu_e1 _ _
  have q3 : zq_ev r (0, [(1, 1)]) = r 1 := zu_e1 _ _
  have q4 : zq_ev r (0, [(2, 1)]) = r 2 := zu_e1 _ _
  have q5 : zq_ev r (0, [(3, 1)]) = r 3 := zu_e1 _ _
  obtain ⟨hT, hC, hF, hS, -, hK⟩ := hM
  have c := hC.1
  have a1 := zq_all_1 c
  rw [q0] at a1
  have c := zq_all_t c
  have a2 := zq_all_1 c
  rw [q1] at a2
  have k1 := zj_use x_CD (hK)
  have k1 : ze_CD (zq_ev r (0, [(0, 1)])) (zq_ev r (0, [(1, 1)])) (zq_ev r (0, [(2, 1)])) (zq_ev r (0, [(3, 1)])) P h := k1
  simp only [q2, q3, q4, q5] at k1
  obtain t1 := ze_t1b_l (P := P) (h := h) (g := r 0) (n := r 1) (p := r 2) (c := r 3) a1 a2 k1
  obtain ⟨rq, hr⟩ : ∃ rq : Nat → Int, (∀ i, i < 4 → rq i = r i) := ⟨r, fun i hi => rfl⟩
  have v0 : rq 0 = r 0 := hr 0 (by decide)
  have v1 : rq 1 = r 1 := hr 1 (by decide)
  have v2 : rq 2 = r 2 := hr 2 (by decide)
  have g0 : zq_ev rq (0, []) = 0 := zu_e0 _ _
  have g1 : zq_ev rq (0, [(0, 1)]) = r 0 := zu_f1 v0
  have g2 : zq_ev rq (0, [(1, 1)]) = r 1 := zu_f1 v1
  have g3 : zq_ev rq (0, [(2, 1)]) = r 2 := zu_f1 v2
  have g4 : zq_ev rq (1, [(2, 1)]) = r 2 + 1 := zu_f2 v2 _
  exact ⟨_, List.mem_cons_self .., rq, hr, zq_MeS_mk rfl hT (zq_all_nil) zq_fan (zq_fan) rfl (zu_fac ((x_TT _ _ _).mpr (by show ze_TT (zq_ev rq (0, [])) (zq_ev rq (0, [(0, 1)])) (zq_ev rq (0, [(1, 1)])) (zq_ev rq (0, [(2, 1)])) (zq_ev rq (1, [(2, 1)])) P h; simp only [g0, g1, g2, g3, g4]; exact t1)) zq_fan)⟩
noncomputable def ze_p1c : zq_S × List zq_S := (([], [], [(-192, [(5, 1)])], [], [], [], [(224, [(0, [(0, 1)]), (0, [(1, 1)]), (0, [(4, 1)]), (0, [(5, 1)])])], 6), [([], [], [], [], [], [], [(220, [(0, []), (0, [(0, 1)]), (0, [(1, 1)]), (0, [(2, 1)]), (0, [(3, 1)]), (1, []), (0, [(4, 1)]), (0, []), (1, []), (1, [(4, 1)])])], 6)])
theorem ze_p1c_l {P : zq_Ty} {h : zq_H} {g n o W p c : Int} (a1 : 0 ≤ c - 192) (k1 : ze_CD g n p c P h) : (ze_EV 0 g n o W 1 p 0 1 (p + 1) P h) := by
  have k1 : c = ze_c g n p := k1
  have e := ze_part_n (c := ze_c g n) (v := ze_v g n) (w := ze_w o W) (acc := 0) (p := p) (l := true) (b := true) (by rw [← k1]; omega)
  unfold ze_par at e
  simp only [Bool.not_true, Bool.and_false, cond_false] at e
  rw [if_neg (by rw [← k1]; omega)] at e
  show ze_V _ _ _ _ _ _ (ze_on 1) _ _ (ze_on 1) _
  rw [ze_on1]; exact e
theorem ze_p1c_ok {w : zq_Wd} (x_CD : zj_is w 224 (fun q => ze_CD (q 0) (q 1) (q 2) (q 3))) (x_EV : zj_is w 220 (fun q => ze_EV (q 0) (q 1) (q 2) (q 3) (q 4) (q 5) (q 6) (q 7) (q 8) (q 9))) : zq_okG1 w ze_p1c := by
  refine ⟨rfl, rfl, zu_fac ⟨rfl, by decide⟩ zq_fan, ?_⟩
  intro r P h H hM
  have q0 : zq_ev r (-192, [(5, 1)]) = r 5 - 192 := zu_e3 _ _ _
  have q1 : zq_ev r (0, [(0, 1)]) = r 0 := zu_e1 _ _
  have q2 : zq_ev r (0, [(1, 1)]) = r 1 := zu_e1 _ _
  have q3 : zq_ev r (0, [(4, 1)]) = r 4 := zu_e1 _ _
  have q4 : zq_ev r (0, [(5, 1)]) = r 5 := zu_e1 _ _
  obtain ⟨hT, hC, hF, hS, -, hK⟩ := hM
  have c := hC.1
  have a1 := zq_all_1 c
  rw [q0] at a1
  have k1 := zj_use x_CD (hK)
  have k1 : ze_CD (zq_ev r (0, [(0, 1)])) (zq_ev r (0, [(1, 1)])) (zq_ev r (0, [(4, 1)])) (zq_ev r (0, [(5, 1)])) P h := k1
  simp only [q1, q2, q3, q4] at k1
  obtain t1 := ze_p1c_l (P := P) (h := h) (g := r 0) (n := r 1) (o := r 2) (W := r 3) (p := r 4) (c := r 5) a1 k1
  obtain ⟨rq, hr⟩ : ∃ rq : Nat → Int, (∀ i, i < 6 → rq i = r i) := ⟨r, fun i hi => rfl⟩
  have v0 : rq 0 = r 0 := hr 0 (by decide)
  have v1 : rq 1 = r 1 := hr 1 (by decide)
  have v2 : rq 2 = r 2 := hr 2 (by decide)
  have v3 : rq 3 = r 3 := hr 3 (by decide)
  have v4 : rq 4 = r 4 := hr 4 (by decide)
  have g0 : zq_ev rq (0, []) = 0 := zu_e0 _ _
  have g1 : zq_ev rq (0, [(0, 1)]) = r 0 := zu_f1 v0
  have g2 : zq_ev rq (0, [(1, 1)]) = r 1 := zu_f1 v1
  have g3 : zq_ev rq (0, [(2, 1)]) = r 2 := zu_f1 v2
  have g4 : zq_ev rq (0, [(3, 1)]) = r 3 := zu_f1 v3
  have g5 : zq_ev rq (1, []) = 1 := zu_e0 _ _
  have g6 : zq_ev rq (0, [(4, 1)]) = r 4 := zu_f1 v4
  have g7 : zq_ev rq (1, [(4, 1)]) = r 4 + 1 := zu_f2 v4 _
  exact ⟨_, List.mem_cons_self .., rq, hr, zq_MeS_mk rfl hT (zq_all_nil) zq_fan (zq_fan) rfl (zu_fac ((x_EV _ _ _).mpr (by show ze_EV (zq_ev rq (0, [])) (zq_ev rq (0, [(0, 1)])) (zq_ev rq (0, [(1, 1)])) (zq_ev rq (0, [(2, 1)])) (zq_ev rq (0, [(3, 1)])) (zq_ev rq (1, [])) (zq_ev rq (0, [(4, 1)])) (zq_ev rq (0, [])) (zq_ev rq (1, [])) (zq_ev rq (1, [(4, 1)])) P h; simp only [g0, g1, g2, g3, g4, g5, g6, g7]; exact t1)) zq_fan)⟩
noncomputable def ze_t1c : zq_S × List zq_S := (([], [], [(-192, [(3, 1)])], [], [], [], [(224, [(0, [(0, 1)]), (0, [(1, 1)]), (0, [(2, 1)]), (0, [(3, 1)])])], 4), [([], [], [], [], [], [], [(221, [(0, []), (0, [(0, 1)]), (0, [(1, 1)]), (0, [(2, 1)]), (1, [(2, 1)])])], 4)])
theorem ze_t1c_l {P : zq_Ty} {h : zq_H} {g n p c : Int} (a1 : 0 ≤ c - 192) (k1 : ze_CD g n p c P h) : (ze_TT 0 g n p (p + 1) P h) := by
  have k1 : c = ze_c g n p := k1
  have e := zt_part_n (c := ze_c g n) (p := p) (by rw [← k1]; omega)
  rw [if_neg (by rw [← k1]; omega)] at e
  exact e
theorem ze_t1c_ok {w : zq_Wd} (x_CD : zj_is w 224 (fun q => ze_CD (q 0) (q 1) (q 2) (q 3))) (x_TT : zj_is w 221 (fun q => ze_TT (q 0) (q 1) (q 2) (q 3) (q 4))) : zq_okG1 w ze_t1c := by
  refine ⟨rfl, rfl, zu_fac ⟨rfl, by decide⟩ zq_fan, ?_⟩
  intro r P h H hM
  have q0 : zq_ev r (-192, [(3, 1)]) = r 3 - 192 := zu_e3 _ _ _
  have q1 : zq_ev r (0, [(0, 1)]) = r 0 := zu_e1 _ _
  have q2 : zq_ev r (0, [(1, 1)]) = r 1 := zu_e1 _ _
  have q3 : zq_ev r (0, [(2, 1)]) = r 2 := zu_e1 _ _
  have q4 : zq_ev r (0, [(3, 1)]) = r 3 := zu_e1 _ _
  obtain ⟨hT, hC, hF, hS, -, hK⟩ := hM
  have c := hC.1
  have a1 := zq_all_1 c
  rw [q0] at a1
  have k1 := zj_use x_CD (hK)
  have k1 : ze_CD (zq_ev r (0, [(0, 1)])) (zq_ev r (0, [(1, 1)])) (zq_ev r (0, [(2, 1)])) (zq_ev r (0, [(3, 1)])) P h := k1
  simp only [q1, q2, q3, q4] at k1
  obtain t1 := ze_t1c_l (P := P) (h := h) (g := r 0) (n := r 1) (p := r 2) (c := r 3) a1 k1
  obtain ⟨rq, hr⟩ : ∃ rq : Nat → Int, (∀ i, i < 4 → rq i = r i) := ⟨r, fun i hi => rfl⟩
  have v0 : rq 0 = r 0 := hr 0 (by decide)
  have v1 : rq 1 = r 1 := hr 1 (by decide)
  have v2 : rq 2 = r 2 := hr 2 (by decide)
  have g0 : zq_ev rq (0, []) = 0 := zu_e0 _ _
  have g1 : zq_ev rq (0, [(0, 1)]) = r 0 := zu_f1 v0
  have g2 : zq_ev rq (0, [(1, 1)]) = r 1 := zu_f1 v1
  have g3 : zq_ev rq (0, [(2, 1)]) = r 2 := zu_f1 v2
  have g4 : zq_ev rq (1, [(2, 1)]) = r 2 + 1 := zu_f2 v2 _
  exact ⟨_, List.mem_cons_self .., rq, hr, zq_MeS_mk rfl hT (zq_all_nil) zq_fan (zq_fan) rfl (zu_fac ((x_TT _ _ _).mpr (by show ze_TT (zq_ev rq (0, [])) (zq_ev rq (0, [(0, 1)])) (zq_ev rq (0, [(1, 1)])) (zq_ev rq (0, [(2, 1)])) (zq_ev rq (1, [(2, 1)])) P h; simp only [g0, g1, g2, g3, g4]; exact t1)) zq_fan)⟩
noncomputable def ze_p1k : zq_S × List zq_S := (([], [], [(-20, [(5, 1)]), (21, [(5, -1)])], [], [], [], [(224, [(0, [(0, 1)]), (0, [(1, 1)]), (0, [(4, 1)]), (0, [(5, 1)])])], 6), [([], [], [], [], [], [], [(220, [(0, []), (0, [(0, 1)]), (0, [(1, 1)]), (0, [(2, 1)]), (0, [(3, 1)]), (1, []), (0, [(4, 1)]), (0, []), (1, []), (2, [(4, 1)])])], 6)])
theorem ze_p1k_l {P : zq_Ty} {h : zq_H} {g n o W p c : Int} (a1 : 0 ≤ c - 20) (a2 : 0 ≤ -c + 21) (k1 : ze_CD g n p c P h) : (ze_EV 0 g n o W 1 p 0 1 (p + 2) P h) := by
  have k1 : c = ze_c g n p := k1
  have e := ze_part_n (c := ze_c g n) (v := ze_v g n) (w := ze_w o W) (acc := 0) (p := p) (l := true) (b := true) (by rw [← k1]; omega)
  unfold ze_par at e
  simp only [Bool.not_true, Bool.and_false, cond_false] at e
  rw [if_pos (by rw [← k1]; omega)] at e
  show ze_V _ _ _ _ _ _ (ze_on 1) _ _ (ze_on 1) _
  rw [ze_on1]; exact e
theorem ze_p1k_ok {w : zq_Wd} (x_CD : zj_is w 224 (fun q => ze_CD (q 0) (q 1) (q 2) (q 3))) (x_EV : zj_is w 220 (fun q => ze_EV (q 0) (q 1) (q 2) (q 3) (q 4) (q 5) (q 6) (q 7) (q 8) (q 9))) : zq_okG1 w ze_p1k := by
  refine ⟨rfl, rfl, zu_fac ⟨rfl, by decide⟩ zq_fan, ?_⟩
  intro r P h H hM
  have q0 : zq_ev r (-20, [(5, 1)]) = r 5 - 20 := zu_e3 _ _ _
  have q1 : zq_ev r (21, [(5, -1)]) = -r 5 + 21 := zu_e5 _ _ _
  have q2 : zq_ev r (0, [(0, 1)]) = r 0 := zu_e1 _ _
  have q3 : zq_ev r (0, [(1, 1)]) = r 1 := zu_e1 _ _
  have q4 : zq_ev r (0, [(4, 1)]) = r 4 := zu_e1 _ _
  have q5 : zq_ev r (0, [(5, 1)]) = r 5 := zu_e1 _ _
  obtain ⟨hT, hC, hF, hS, -, hK⟩ := hM
  have c := hC.1
  have a1 := zq_all_1 c
  rw [q0] at a1
  have c := zq_all_t c
  have a2 := zq_all_1 c
  rw [q1] at a2
  have k1 := zj_use x_CD (hK)
  have k1 : ze_CD (zq_ev r (0, [(0, 1)])) (zq_ev r (0, [(1, 1)])) (zq_ev r (0, [(4, 1)])) (zq_ev r (0, [(5, 1)])) P h := k1
  simp only [q2, q3, q4, q5] at k1
  obtain t1 := ze_p1k_l (P := P) (h := h) (g := r 0) (n := r 1) (o := r 2) (W := r 3) (p := r 4) (c := r 5) a1 a2 k1
  obtain ⟨rq, hr⟩ : ∃ rq : Nat → Int, (∀ i, i < 6 → rq i = r i) := ⟨r, fun i hi => rfl⟩
  have v0 : rq 0 = r 0 := hr 0 (by decide)
  have v1 : rq 1 = r 1 := hr 1 (by decide)
  have v2 : rq 2 = r 2 := hr 2 (by decide)
  have v3 : rq 3 = r 3 := hr 3 (by decide)
  have v4 : rq 4 = r 4 := hr 4 (by decide)
  have g0 : zq_ev rq (0, []) = 0 := zu_e0 _ _
  have g1 : zq_ev rq (0, [(0, 1)]) = r 0 := zu_f1 v0
  have g2 : zq_ev rq (0, [(1, 1)]) = r 1 := zu_f1 v1
  have g3 : zq_ev rq (0, [(2, 1)]) = r 2 := zu_f1 v2
  have g4 : zq_ev rq (0, [(3, 1)]) = r 3 := zu_f1 v3
  have g5 : zq_ev rq (1, []) = 1 := zu_e0 _ _
  have g6 : zq_ev rq (0, [(4, 1)]) = r 4 := zu_f1 v4
  have g7 : zq_ev rq (2, [(4, 1)]) = r 4 + 2 := zu_f2 v4 _
  exact ⟨_, List.mem_cons_self .., rq, hr, zq_MeS_mk rfl hT (zq_all_nil) zq_fan (zq_fan) rfl (zu_fac ((x_EV _ _ _).mpr (by show ze_EV (zq_ev rq (0, [])) (zq_ev rq (0, [(0, 1)])) (zq_ev rq (0, [(1, 1)])) (zq_ev rq (0, [(2, 1)])) (zq_ev rq (0, [(3, 1)])) (zq_ev rq (1, [])) (zq_ev rq (0, [(4, 1)])) (zq_ev rq (0, [])) (zq_ev rq (1, [])) (zq_ev rq (2, [(4, 1)])) P h; simp only [g0, g1, g2, g3, g4, g5, g6, g7]; exact t1)) zq_fan)⟩
noncomputable def ze_t1k : zq_S × List zq_S := (([], [], [(-20, [(3, 1)]), (21, [(3, -1)])], [], [], [], [(224, [(0, [(0, 1)]), (0, [(1, 1)]), (0, [(2, 1)]), (0, [(3, 1)])])], 4), [([], [], [], [], [], [], [(221, [(0, []), (0, [(0, 1)]), (0, [(1, 1)]), (0, [(2, 1)]), (2, [(2, 1)])])], 4)])
theorem ze_t1k_l {P : zq_Ty} {h : zq_H} {g n p c : Int} (a1 : 0 ≤ c - 20) (a2 : 0 ≤ -c + 21) (k1 : ze_CD g n p c P h) : (ze_TT 0 g n p (p + 2) P h) := by
  have k1 : c = ze_c g n p := k1
  have e := zt_part_n (c := ze_c g n) (p := p) (by rw [← k1]; omega)
  rw [if_pos (by rw [← k1]; omega)] at e
  exact e
theorem ze_t1k_ok {w : zq_Wd} (x_CD : zj_is w 224 (fun q => ze_CD (q 0) (q 1) (q 2) (q 3))) (x_TT : zj_is w 221 (fun q => ze_TT (q 0) (q 1) (q 2) (q 3) (q 4))) : zq_okG1 w ze_t1k := by
  refine ⟨rfl, rfl, zu_fac ⟨rfl, by decide⟩ zq_fan, ?_⟩
  intro r P h H hM
  have q0 : zq_ev r (-20, [(3, 1)]) = r 3 - 20 := zu_e3 _ _ _
  have q1 : zq_ev r (21, [(3, -1)]) = -r 3 + 21 := zu_e5 _ _ _
  have q2 : zq_ev r (0, [(0, 1)]) = r 0 := zu_e1 _ _
  have q3 : zq_ev r (0, [(1, 1)]) = r 1 := zu_e1 _ _
  have q4 : zq_ev r (0, [(2, 1)]) = r 2 := zu_e1 _ _
  have q5 : zq_ev r (0, [(3, 1)]) = r 3 := zu_e1 _ _
  obtain ⟨hT, hC, hF, hS, -, hK⟩ := hM
  have c := hC.1
  have a1 := zq_all_1 c
  rw [q0] at a1
  have c := zq_all_t c
  have a2 := zq_all_1 c
  rw [q1] at a2
  have k1 := zj_use x_CD (hK)
  have k1 : ze_CD (zq_ev r (0, [(0, 1)])) (zq_ev r (0, [(1, 1)])) (zq_ev r (0, [(2, 1)])) (zq_ev r (0, [(3, 1)])) P h := k1
  simp only [q2, q3, q4, q5] at k1
  obtain t1 := ze_t1k_l (P := P) (h := h) (g := r 0) (n := r 1) (p := r 2) (c := r 3) a1 a2 k1
  obtain ⟨rq, hr⟩ : ∃ rq : Nat → Int, (∀ i, i < 4 → rq i = r i) := ⟨r, fun i hi => rfl⟩
  have v0 : rq 0 = r 0 := hr 0 (by decide)
  have v1 : rq 1 = r 1 := hr 1 (by decide)
  have v2 : rq 2 = r 2 := hr 2 (by decide)
  have g0 : zq_ev rq (0, []) = 0 := zu_e0 _ _
  have g1 : zq_ev rq (0, [(0, 1)]) = r 0 := zu_f1 v0
  have g2 : zq_ev rq (0, [(1, 1)]) = r 1 := zu_f1 v1
  have g3 : zq_ev rq (0, [(2, 1)]) = r 2 := zu_f1 v2
  have g4 : zq_ev rq (2, [(2, 1)]) = r 2 + 2 := zu_f2 v2 _
  exact ⟨_, List.mem_cons_self .., rq, hr, zq_MeS_mk rfl hT (zq_all_nil) zq_fan (zq_fan) rfl (zu_fac ((x_TT _ _ _).mpr (by show ze_TT (zq_ev rq (0, [])) (zq_ev rq (0, [(0, 1)])) (zq_ev rq (0, [(1, 1)])) (zq_ev rq (0, [(2, 1)])) (zq_ev rq (2, [(2, 1)])) P h; simp only [g0, g1, g2, g3, g4]; exact t1)) zq_fan)⟩
noncomputable def ze_p50 : zq_S × List zq_S := (([], [], [], [], [], [], [(224, [(0, [(0, 1)]), (0, [(1, 1)]), (0, [(4, 1)]), (50, [])]), (225, [(0, [(0, 1)]), (0, [(1, 1)]), (0, [(4, 1)]), (0, [(5, 1)])])], 6), [([], [], [], [], [], [], [(220, [(0, []), (0, [(0, 1)]), (0, [(1, 1)]), (0, [(2, 1)]), (0, [(3, 1)]), (0, []), (0, [(4, 1)]), (0, [(5, 1)]), (0, []), (1, [(4, 1)])])], 6)])
theorem ze_p50_l {P : zq_Ty} {h : zq_H} {g n o W p v : Int} (k1 : ze_CD g n p 50 P h) (k2 : ze_VL g n p v P h) : (ze_EV 0 g n o W 0 p v 0 (p + 1) P h) := by
  have k1 : 50 = ze_c g n p := k1
  have k2 : v = ze_v g n p := k2
  have e := ze_part_n (c := ze_c g n) (v := ze_v g n) (w := ze_w o W) (acc := 0) (p := p) (l := true) (b := false) (by rw [← k1]; omega)
  unfold ze_par at e
  simp only [Bool.not_false, Bool.and_true, cond_true] at e
  
  rw [if_pos k1.symm, if_neg (by rw [← k1]; omega), ← k2] at e
  show ze_V _ _ _ _ _ _ (ze_on 0) _ _ (ze_on 0) _
  rw [ze_on0]; exact e
theorem ze_p50_ok {w : zq_Wd} (x_CD : zj_is w 224 (fun q => ze_CD (q 0) (q 1) (q 2) (q 3))) (x_VL : zj_is w 225 (fun q => ze_VL (q 0) (q 1) (q 2) (q 3))) (x_EV : zj_is w 220 (fun q => ze_EV (q 0) (q 1) (q 2) (q 3) (q 4) (q 5) (q 6) (q 7) (q 8) (q 9))) : zq_okG1 w ze_p50 := by
  refine ⟨rfl, rfl, zu_fac ⟨rfl, by decide⟩ zq_fan, ?_⟩
  intro r P h H hM
  have q0 : zq_ev r (0, [(0, 1)]) = r 0 := zu_e1 _ _
  have q1 : zq_ev r (0, [(1, 1)]) = r 1 := zu_e1 _ _
  have q2 : zq_ev r (0, [(4, 1)]) = r 4 := zu_e1 _ _
  have q3 : zq_ev r (50, []) = 50 := zu_e0 _ _
  have q4 : zq_ev r (0, [(5, 1)]) = r 5 := zu_e1 _ _
  obtain ⟨hT, hC, hF, hS, -, hK⟩ := hM
  have c := hC.1
  have k1 := zj_use x_CD (hK)
  have k1 : ze_CD (zq_ev r (0, [(0, 1)])) (zq_ev r (0, [(1, 1)])) (zq_ev r (0, [(4, 1)])) (zq_ev r (50, [])) P h := k1
  simp only [q0, q1, q2, q3] at k1
  have k2 := zj_use x_VL (zq_okX_t (hK))
  have k2 : ze_VL (zq_ev r (0, [(0, 1)])) (zq_ev r (0, [(1, 1)])) (zq_ev r (0, [(4, 1)])) (zq_ev r (0, [(5, 1)])) P h := k2
  simp only [q0, q1, q2, q4] at k2
  obtain t1 := ze_p50_l (P := P) (h := h) (g := r 0) (n := r 1) (o := r 2) (W := r 3) (p := r 4) (v := r 5) k1 k2
  obtain ⟨rq, hr⟩ : ∃ rq : Nat → Int, (∀ i, i < 6 → rq i = r i) := ⟨r, fun i hi => rfl⟩
  have v0 : rq 0 = r 0 := hr 0 (by decide)
  have v1 : rq 1 = r 1 := hr 1 (by decide)
  have v2 : rq 2 = r 2 := hr 2 (by decide)
  have v3 : rq 3 = r 3 := hr 3 (by decide)
  have v4 : rq 4 = r 4 := hr 4 (by decide)
  have v5 : rq 5 = r 5 := hr 5 (by decide)
  have g0 : zq_ev rq (0, []) = 0 := zu_e0 _ _
  have g1 : zq_ev rq (0, [(0, 1)]) = r 0 := zu_f1 v0
  have g2 : zq_ev rq (0, [(1, 1)]) = r 1 := zu_f1 v1
  have g3 : zq_ev rq (0, [(2, 1)]) = r 2 := zu_f1 v2
  have g4 : zq_ev rq (0, [(3, 1)]) = r 3 := zu_f1 v3
  have g5 : zq_ev rq (0, [(4, 1)]) = r 4 := zu_f1 v4
  have g6 : zq_ev rq (0, [(5, 1)]) = r 5 := zu_f1 v5
  have g7 : zq_ev rq (1, [(4, 1)]) = r 4 + 1 := zu_f2 v4 _
  exact ⟨_, List.mem_cons_self .., rq, hr, zq_MeS_mk rfl hT (zq_all_nil) zq_fan (zq_fan) rfl (zu_fac ((x_EV _ _ _).mpr (by show ze_EV (zq_ev rq (0, [])) (zq_ev rq (0, [(0, 1)])) (zq_ev rq (0, [(1, 1)])) (zq_ev rq (0, [(2, 1)])) (zq_ev rq (0, [(3, 1)])) (zq_ev rq (0, [])) (zq_ev rq (0, [(4, 1)])) (zq_ev rq (0, [(5, 1)])) (zq_ev rq (0, [])) (zq_ev rq (1, [(4, 1)])) P h; simp only [g0, g1, g2, g3, g4, g5, g6, g7]; exact t1)) zq_fan)⟩
noncomputable def ze_pwl : zq_S × List zq_S := (([], [], [(-8, [(4, 1)]), (15, [(4, -1)])], [], [], [], [(224, [(0, [(0, 1)]), (0, [(1, 1)]), (0, [(3, 1)]), (0, [(4, 1)])]), (134, [(0, [(2, 1)]), (-8, [(4, 1)]), (0, [(5, 1)])])], 6), [([], [], [], [], [], [], [(220, [(0, []), (0, [(0, 1)]), (0, [(1, 1)]), (0, []), (0, [(2, 1)]), (0, []), (0, [(3, 1)]), (0, [(5, 1)]), (0, []), (1, [(3, 1)])])], 6)])
theorem ze_pwl_l {P : zq_Ty} {h : zq_H} {g n W p c v : Int} (a1 : 0 ≤ c - 8) (a2 : 0 ≤ -c + 15) (k1 : ze_CD g n p c P h) (k2 : zn_DG W (c - 8) v P h) : (ze_EV 0 g n 0 W 0 p v 0 (p + 1) P h) := by
  have k1 : c = ze_c g n p := k1
  have k2 : v = zn_dg W (c - 8) := k2
  have e := ze_part_n (c := ze_c g n) (v := ze_v g n) (w := ze_w 0 W) (acc := 0) (p := p) (l := true) (b := false) (by rw [← k1]; omega)
  unfold ze_par at e
  simp only [Bool.not_false, Bool.and_true, cond_true] at e
  rw [if_neg (by rw [← k1]; omega), if_neg (by rw [← k1]; omega), if_neg (by rw [← k1]; omega), ← k1] at e
  have w1 : ze_w 0 W c 0 = v := by
    unfold ze_w
    rw [if_pos rfl, k2]
  rw [w1] at e
  show ze_V _ _ _ _ _ _ (ze_on 0) _ _ (ze_on 0) _
  rw [ze_on0]; exact e
theorem ze_pwl_ok {w : zq_Wd} (x_CD : zj_is w 224 (fun q => ze_CD (q 0) (q 1) (q 2) (q 3))) (x_DG : zj_is w 134 (fun q => zn_DG (q 0) (q 1) (q 2))) (x_EV : zj_is w 220 (fun q => ze_EV (q 0) (q 1) (q 2) (q 3) (q 4) (q 5) (q 6) (q 7) (q 8) (q 9))) : zq_okG1 w ze_pwl := by
  refine ⟨rfl, rfl, zu_fac ⟨rfl, by decide⟩ zq_fan, ?_⟩
  intro r P h H hM
  have q0 : zq_ev r (-8, [(4, 1)]) = r 4 - 8 := zu_e3 _ _ _
  have q1 : zq_ev r (15, [(4, -1)]) = -r 4 + 15 := zu_e5 _ _ _
  have q2 : zq_ev r (0, [(0, 1)]) = r 0 := zu_e1 _ _
  have q3 : zq_ev r (0, [(1, 1)]) = r 1 := zu_e1 _ _
  have q4 : zq_ev r (0, [(3, 1)]) = r 3 := zu_e1 _ _
  have q5 : zq_ev r (0, [(4, 1)]) = r 4 := zu_e1 _ _
  have q6 : zq_ev r (0, [(2, 1)]) = r 2 := zu_e1 _ _
  have q7 : zq_ev r (0, [(5, 1)]) = r 5 := zu_e1 _ _
  obtain ⟨hT, hC, hF, hS, -, hK⟩ := hM
  have c := hC.1
  have a1 := zq_all_1 c
  rw [q0] at a1
  have c := zq_all_t c
  have a2 := zq_all_1 c
  rw [q1] at a2
  have k1 := zj_use x_CD (hK)
  have k1 : ze_CD (zq_ev r (0, [(0, 1)])) (zq_ev r (0, [(1, 1)])) (zq_ev r (0, [(3, 1)])) (zq_ev r (0, [(4, 1)])) P h := k1
  simp only [q2, q3, q4, q5] at k1
  have k2 := zj_use x_DG (zq_okX_t (hK))
  have k2 : zn_DG (zq_ev r (0, [(2, 1)])) (zq_ev r (-8, [(4, 1)])) (zq_ev r (0, [(5, 1)])) P h := k2
  simp only [q0, q6, q7] at k2
  obtain t1 := ze_pwl_l (P := P) (h := h) (g := r 0) (n := r 1) (W := r 2) (p := r 3) (c := r 4) (v := r 5) a1 a2 k1 k2
  obtain ⟨rq, hr⟩ : ∃ rq : Nat → Int, (∀ i, i < 6 → rq i = r i) := ⟨r, fun i hi => rfl⟩
  have v0 : rq 0 = r 0 := hr 0 (by decide)
  have v1 : rq 1 = r 1 := hr 1 (by decide)
  have v2 : rq 2 = r 2 := hr 2 (by decide)
  have v3 : rq 3 = r 3 := hr 3 (by decide)
  have v5 : rq 5 = r 5 := hr 5 (by decide)
  have g0 : zq_ev rq (0, []) = 0 := zu_e0 _ _
  have g1 : zq_ev rq (0, [(0, 1)]) = r 0 := zu_f1 v0
  have g2 : zq_ev rq (0, [(1, 1)]) = r 1 := zu_f1 v1
  have g3 : zq_ev rq (0, [(2, 1)]) = r 2 := zu_f1 v2
  have g4 : zq_ev rq (0, [(3, 1)]) = r 3 := zu_f1 v3
  have g5 : zq_ev rq (0, [(5, 1)]) = r 5 := zu_f1 v5
  have g6 : zq_ev rq (1, [(3, 1)]) = r 3 + 1 := zu_f2 v3 _
  exact ⟨_, List.mem_cons_self .., rq, hr, zq_MeS_mk rfl hT (zq_all_nil) zq_fan (zq_fan) rfl (zu_fac ((x_EV _ _ _).mpr (by show ze_EV (zq_ev rq (0, [])) (zq_ev rq (0, [(0, 1)])) (zq_ev rq (0, [(1, 1)])) (zq_ev rq (0, [])) (zq_ev rq (0, [(2, 1)])) (zq_ev rq (0, [])) (zq_ev rq (0, [(3, 1)])) (zq_ev rq (0, [(5, 1)])) (zq_ev rq (0, [])) (zq_ev rq (1, [(3, 1)])) P h; simp only [g0, g1, g2, g3, g4, g5, g6]; exact t1)) zq_fan)⟩
noncomputable def ze_pwo : zq_S × List zq_S := (([], [], [(-16, [(4, 1)]), (19, [(4, -1)])], [], [], [], [(224, [(0, [(0, 1)]), (0, [(1, 1)]), (0, [(3, 1)]), (0, [(4, 1)])]), (134, [(0, [(2, 1)]), (-16, [(4, 1)]), (0, [(5, 1)])])], 6), [([], [], [], [], [], [], [(220, [(0, []), (0, [(0, 1)]), (0, [(1, 1)]), (1, []), (0, [(2, 1)]), (0, []), (0, [(3, 1)]), (0, [(5, 1)]), (0, []), (1, [(3, 1)])])], 6)])
theorem ze_pwo_l {P : zq_Ty} {h : zq_H} {g n W p c v : Int} (a1 : 0 ≤ c - 16) (a2 : 0 ≤ -c + 19) (k1 : ze_CD g n p c P h) (k2 : zn_DG W (c - 16) v P h) : (ze_EV 0 g n 1 W 0 p v 0 (p + 1) P h) := by
  have k1 : c = ze_c g n p := k1
  have k2 : v = zn_dg W (c - 16) := k2
  have e := ze_part_n (c := ze_c g n) (v := ze_v g n) (w := ze_w 1 W) (acc := 0) (p := p) (l := true) (b := false) (by rw [← k1]; omega)
  unfold ze_par at e
  simp only [Bool.not_false, Bool.and_true, cond_true] at e
  rw [if_neg (by rw [← k1]; omega), if_neg (by rw [← k1]; omega), if_neg (by rw [← k1]; omega), ← k1] at e
  have w1 : ze_w 1 W c 0 = v := by
    unfold ze_w
    rw [if_neg (by decide), if_neg (by omega), if_neg (by omega), k2]
  rw [w1] at e
  show ze_V _ _ _ _ _ _ (ze_on 0) _ _ (ze_on 0) _
  rw [ze_on0]; exact e
theorem ze_pwo_ok {w : zq_Wd} (x_CD : zj_is w 224 (fun q => ze_CD (q 0) (q 1) (q 2) (q 3))) (x_DG : zj_is w 134 (fun q => zn_DG (q 0) (q 1) (q 2))) (x_EV : zj_is w 220 (fun q => ze_EV (q 0) (q 1) (q 2) (q 3) (q 4) (q 5) (q 6) (q 7) (q 8) (q 9))) : zq_okG1 w ze_pwo := by
  refine ⟨rfl, rfl, zu_fac ⟨rfl, by decide⟩ zq_fan, ?_⟩
  intro r P h H hM
  have q0 : zq_ev r (-16, [(4, 1)]) = r 4 - 16 := zu_e3 _ _ _
  have q1 : zq_ev r (19, [(4, -1)]) = -r 4 + 19 := zu_e5 _ _ _
  have q2 : zq_ev r (0, [(0, 1)]) = r 0 := zu_e1 _ _
  have q3 : zq_ev r (0, [(1, 1)]) = r 1 := zu_e1 _ _
  have q4 : zq_ev r (0, [(3, 1)]) = r 3 := zu_e1 _ _
  have q5 : zq_ev r (0, [(4, 1)]) = r 4 := zu_e1 _ _
  have q6 : zq_ev r (0, [(2, 1)]) = r 2 := zu_e1 _ _
  have q7 : zq_ev r (0, [(5, 1)]) = r 5 := zu_e1 _ _
  obtain ⟨hT, hC, hF, hS, -, hK⟩ := hM
  have c := hC.1
  have a1 := zq_all_1 c
  rw [q0] at a1
  have c := zq_all_t c
  have a2 := zq_all_1 c
  rw [q1] at a2
  have k1 := zj_use x_CD (hK)
  have k1 : ze_CD (zq_ev r (0, [(0, 1)])) (zq_ev r (0, [(1, 1)])) (zq_ev r (0, [(3, 1)])) (zq_ev r (0, [(4, 1)])) P h := k1
  simp only [q2, q3, q4, q5] at k1
  have k2 := zj_use x_DG (zq_okX_t (hK))
  have k2 : zn_DG (zq_ev r (0, [(2, 1)])) (zq_ev r (-16, [(4, 1)])) (zq_ev r (0, [(5, 1)])) P h := k2
  simp only [q0, q6, q7] at k2
  obtain t1 := ze_pwo_l (P := P) (h := h) (g := r 0) (n := r 1) (W := r 2) (p := r 3) (c := r 4) (v := r 5) a1 a2 k1 k2
  obtain ⟨rq, hr⟩ : ∃ rq : Nat → Int, (∀ i, i < 6 → rq i = r i) := ⟨r, fun i hi => rfl⟩
  have v0 : rq 0 = r 0 := hr 0 (by decide)
  have v1 : rq 1 = r 1 := hr 1 (by decide)
  have v2 : rq 2 = r 2 := hr 2 (by decide)
  have v3 : rq 3 = r 3 := hr 3 (by decide)
  have v5 : rq 5 = r 5 := hr 5 (by decide)
  have g0 : zq_ev rq (0, []) = 0 := zu_e0 _ _
  have g1 : zq_ev rq (0, [(0, 1)]) = r 0 := zu_f1 v0
  have g2 : zq_ev rq (0, [(1, 1)]) = r 1 := zu_f1 v1
  have g3 : zq_ev rq (1, []) = 1 := zu_e0 _ _
  have g4 : zq_ev rq (0, [(2, 1)]) = r 2 := zu_f1 v2
  have g5 : zq_ev rq (0, [(3, 1)]) = r 3 := zu_f1 v3
  have g6 : zq_ev rq (0, [(5, 1)]) = r 5 := zu_f1 v5
  have g7 : zq_ev rq (1, [(3, 1)]) = r 3 + 1 := zu_f2 v3 _
  exact ⟨_, List.mem_cons_self .., rq, hr, zq_MeS_mk rfl hT (zq_all_nil) zq_fan (zq_fan) rfl (zu_fac ((x_EV _ _ _).mpr (by show ze_EV (zq_ev rq (0, [])) (zq_ev rq (0, [(0, 1)])) (zq_ev rq (0, [(1, 1)])) (zq_ev rq (1, [])) (zq_ev rq (0, [(2, 1)])) (zq_ev rq (0, [])) (zq_ev rq (0, [(3, 1)])) (zq_ev rq (0, [(5, 1)])) (zq_ev rq (0, [])) (zq_ev rq (1, [(3, 1)])) P h; simp only [g0, g1, g2, g3, g4, g5, g6, g7]; exact t1)) zq_fan)⟩
noncomputable def ze_pkb : zq_S × List zq_S := (([], [], [], [], [], [], [(224, [(0, [(0, 1)]), (0, [(1, 1)]), (0, [(3, 1)]), (20, [])]), (225, [(0, [(0, 1)]), (0, [(1, 1)]), (1, [(3, 1)]), (0, [(4, 1)])]), (134, [(0, [(2, 1)]), (4, [(4, 1)]), (0, [(5, 1)])])], 6), [([], [], [], [], [], [], [(220, [(0, []), (0, [(0, 1)]), (0, [(1, 1)]), (1, []), (0, [(2, 1)]), (0, []), (0, [(3, 1)]), (0, [(5, 1)]), (0, []), (2, [(3, 1)])])], 6)])
theorem ze_pkb_l {P : zq_Ty} {h : zq_H} {g n W p k v : Int} (k1 : ze_CD g n p 20 P h) (k2 : ze_VL g n (p + 1) k P h) (k3 : zn_DG W (k + 4) v P h) : (ze_EV 0 g n 1 W 0 p v 0 (p + 2) P h) := by
  have k1 : 20 = ze_c g n p := k1
  have k2 : k = ze_v g n (p + 1) := k2
  have k3 : v = zn_dg W (k + 4) := k3
  have e := ze_part_n (c := ze_c g n) (v := ze_v g n) (w := ze_w 1 W) (acc := 0) (p := p) (l := true) (b := false) (by rw [← k1]; omega)
  unfold ze_par at e
  simp only [Bool.not_false, Bool.and_true, cond_true] at e
  rw [if_neg (by rw [← k1]; omega), if_pos (by rw [← k1]; omega), if_pos (by rw [← k1]; omega), ← k1, ← k2] at e
  have w1 : ze_w 1 W 20 k = v := by
    unfold ze_w
    rw [if_neg (by decide), if_pos rfl, k3]
    congr 1; omega
  rw [w1] at e
  show ze_V _ _ _ _ _ _ (ze_on 0) _ _ (ze_on 0) _
  rw [ze_on0]; exact e
theorem ze_pkb_ok {w : zq_Wd} (x_CD : zj_is w 224 (fun q => ze_CD (q 0) (q 1) (q 2) (q 3))) (x_VL : zj_is w 225 (fun q => ze_VL (q 0) (q 1) (q 2) (q 3))) (x_DG : zj_is w 134 (fun q => zn_DG (q 0) (q 1) (q 2))) (x_EV : zj_is w 220 (fun q => ze_EV (q 0) (q 1) (q 2) (q 3) (q 4) (q 5) (q 6) (q 7) (q 8) (q 9))) : zq_okG1 w ze_pkb := by
  refine ⟨rfl, rfl, zu_fac ⟨rfl, by decide⟩ zq_fan, ?_⟩
  intro r P h H hM
  have q0 : zq_ev r (0, [(0, 1)]) = r 0 := zu_e1 _ _
  have q1 : zq_ev r (0, [(1, 1)]) = r 1 := zu_e1 _ _
  have q2 : zq_ev r (0, [(3, 1)]) = r 3 := zu_e1 _ _
  have q3 : zq_ev r (20, []) = 20 := zu_e0 _ _
  have q4 : zq_ev r (1, [(3, 1)]) = r 3 + 1 := zu_e2 _ _ _
  have q5 : zq_ev r (0, [(4, 1)]) = r 4 := zu_e1 _ _
  have q6 : zq_ev r (0, [(2, 1)]) = r 2 := zu_e1 _ _
  have q7 : zq_ev r (4, [(4, 1)]) = r 4 + 4 := zu_e2 _ _ _
  have q8 : zq_ev r (0, [(5, 1)]) = r 5 := zu_e1 _ _
  obtain ⟨hT, hC, hF, hS, -, hK⟩ := hM
  have c := hC.1
  have k1 := zj_use x_CD (hK)
  have k1 : ze_CD (zq_ev r (0, [(0, 1)])) (zq_ev r (0, [(1, 1)])) (zq_ev r (0, [(3, 1)])) (zq_ev r (20, [])) P h := k1
  simp only [q0, q1, q2, q3] at k1
  have k2 := zj_use x_VL (zq_okX_t (hK))
  have k2 : ze_VL (zq_ev r (0, [(0, 1)])) (zq_ev r (0, [(1, 1)])) (zq_ev r (1, [(3, 1)])) (zq_ev r (0, [(4, 1)])) P h := k2
  simp only [q0, q1, q4, q5] at k2
  have k3 := zj_use x_DG (zq_okX_t (zq_okX_t (hK)))
  have k3 : zn_DG (zq_ev r (0, [(2, 1)])) (zq_ev r (4, [(4, 1)])) (zq_ev r (0, [(5, 1)])) P h := k3
  simp only [q6, q7, q8] at k3
  obtain t1 := ze_pkb_l (P := P) (h := h) (g := r 0) (n := r 1) (W := r 2) (p := r 3) (k := r 4) (v := r 5) k1 k2 k3
  obtain ⟨rq, hr⟩ : ∃ rq : Nat → Int, (∀ i, i < 6 → rq i = r i) := ⟨r, fun i hi => rfl⟩
  have v0 : rq 0 = r 0 := hr 0 (by decide)
  have v1 : rq 1 = r 1 := hr 1 (by decide)
  have v2 : rq 2 = r 2 := hr 2 (by decide)
  have v3 : rq 3 = r 3 := hr 3 (by decide)
  have v5 : rq 5 = r 5 := hr 5 (by decide)
  have g0 : zq_ev rq (0, []) = 0 := zu_e0 _ _
  have g1 : zq_ev rq (0, [(0, 1)]) = r 0 := zu_f1 v0
  have g2 : zq_ev rq (0, [(1, 1)]) = r 1 := zu_f1 v1
  have g3 : zq_ev rq (1, []) = 1 := zu_e0 _ _
  have g4 : zq_ev rq (0, [(2, 1)]) = r 2 := zu_f1 v2
  have g5 : zq_ev rq (0, [(3, 1)]) = r 3 := zu_f1 v3
  have g6 : zq_ev rq (0, [(5, 1)]) = r 5 := zu_f1 v5
  have g7 : zq_ev rq (2, [(3, 1)]) = r 3 + 2 := zu_f2 v3 _
  exact ⟨_, List.mem_cons_self .., rq, hr, zq_MeS_mk rfl hT (zq_all_nil) zq_fan (zq_fan) rfl (zu_fac ((x_EV _ _ _).mpr (by show ze_EV (zq_ev rq (0, [])) (zq_ev rq (0, [(0, 1)])) (zq_ev rq (0, [(1, 1)])) (zq_ev rq (1, [])) (zq_ev rq (0, [(2, 1)])) (zq_ev rq (0, [])) (zq_ev rq (0, [(3, 1)])) (zq_ev rq (0, [(5, 1)])) (zq_ev rq (0, [])) (zq_ev rq (2, [(3, 1)])) P h; simp only [g0, g1, g2, g3, g4, g5, g6, g7]; exact t1)) zq_fan)⟩
noncomputable def ze_pkq : zq_S × List zq_S := (([], [], [], [], [], [], [(224, [(0, [(0, 1)]), (0, [(1, 1)]), (0, [(3, 1)]), (21, [])]), (225, [(0, [(0, 1)]), (0, [(1, 1)]), (1, [(3, 1)]), (0, [(4, 1)])]), (134, [(0, [(2, 1)]), (10, [(4, 1)]), (0, [(5, 1)])])], 6), [([], [], [], [], [], [], [(220, [(0, []), (0, [(0, 1)]), (0, [(1, 1)]), (1, []), (0, [(2, 1)]), (0, []), (0, [(3, 1)]), (0, [(5, 1)]), (0, []), (2, [(3, 1)])])], 6)])
theorem ze_pkq_l {P : zq_Ty} {h : zq_H} {g n W p k v : Int} (k1 : ze_CD g n p 21 P h) (k2 : ze_VL g n (p + 1) k P h) (k3 : zn_DG W (k + 10) v P h) : (ze_EV 0 g n 1 W 0 p v 0 (p + 2) P h) := by
  have k1 : 21 = ze_c g n p := k1
  have k2 : k = ze_v g n (p + 1) := k2
  have k3 : v = zn_dg W (k + 10) := k3
  have e := ze_part_n (c := ze_c g n) (v := ze_v g n) (w := ze_w 1 W) (acc := 0) (p := p) (l := true) (b := false) (by rw [← k1]; omega)
  unfold ze_par at e
  simp only [Bool.not_false, Bool.and_true, cond_true] at e
  rw [if_neg (by rw [← k1]; omega), if_pos (by rw [← k1]; omega), if_pos (by rw [← k1]; omega), ← k1, ← k2] at e
  have w1 : ze_w 1 W 21 k = v := by
    unfold ze_w
    rw [if_neg (by decide), if_neg (by decide), if_pos rfl, k3]
    congr 1; omega
  rw [w1] at e
  show ze_V _ _ _ _ _ _ (ze_on 0) _ _ (ze_on 0) _
  rw [ze_on0]; exact e
theorem ze_pkq_ok {w : zq_Wd} (x_CD : zj_is w 224 (fun q => ze_CD (q 0) (q 1) (q 2) (q 3))) (x_VL : zj_is w 225 (fun q => ze_VL (q 0) (q 1) (q 2) (q 3))) (x_DG : zj_is w 134 (fun q => zn_DG (q 0) (q 1) (q 2))) (x_EV : zj_is w 220 (fun q => ze_EV (q 0) (q 1) (q 2) (q 3) (q 4) (q 5) (q 6) (q 7) (q 8) (q 9))) : zq_okG1 w ze_pkq := by
  refine ⟨rfl, rfl, zu_fac ⟨rfl, by decide⟩ zq_fan, ?_⟩
  intro r P h H hM
  have q0 : zq_ev r (0, [(0, 1)]) = r 0 := zu_e1 _ _
  have q1 : zq_ev r (0, [(1, 1)]) = r 1 := zu_e1 _ _
  have q2 : zq_ev r (0, [(3, 1)]) = r 3 := zu_e1 _ _
  have q3 : zq_ev r (21, []) = 21 := zu_e0 _ _
  have q4 : zq_ev r (1, [(3, 1)]) = r 3 + 1 := zu_e2 _ _ _
  have q5 : zq_ev r (0, [(4, 1)]) = r 4 := zu_e1 _ _
  have q6 : zq_ev r (0, [(2, 1)]) = r 2 := zu_e1 _ _
  have q7 : zq_ev r (10, [(4, 1)]) = r 4 + 10 := zu_e2 _ _ _
  have q8 : zq_ev r (0, [(5, 1)]) = r 5 := zu_e1 _ _
  obtain ⟨hT, hC, hF, hS, -, hK⟩ := hM
  have c := hC.1
  have k1 := zj_use x_CD (hK)
  have k1 : ze_CD (zq_ev r (0, [(0, 1)])) (zq_ev r (0, [(1, 1)])) (zq_ev r (0, [(3, 1)])) (zq_ev r (21, [])) P h := k1
  simp only [q0, q1, q2, q3] at k1
  have k2 := zj_use x_VL (zq_okX_t (hK))
  have k2 : ze_VL (zq_ev r (0, [(0, 1)])) (zq_ev r (0, [(1, 1)])) (zq_ev r (1, [(3, 1)])) (zq_ev r (0, [(4, 1)])) P h := k2
  simp only [q0, q1, q4, q5] at k2
  have k3 := zj_use x_DG (zq_okX_t (zq_okX_t (hK)))
  have k3 : zn_DG (zq_ev r (0, [(2, 1)])) (zq_ev r (10, [(4, 1)])) (zq_ev r (0, [(5, 1)])) P h := k3
  simp only [q6, q7, q8] at k3
  obtain t1 := ze_pkq_l (P := P) (h := h) (g := r 0) (n := r 1) (W := r 2) (p := r 3) (k := r 4) (v := r 5) k1 k2 k3
  obtain ⟨rq, hr⟩ : ∃ rq : Nat → Int, (∀ i, i < 6 → rq i = r i) := ⟨r, fun i hi => rfl⟩
  have v0 : rq 0 = r 0 := hr 0 (by decide)
  have v1 : rq 1 = r 1 := hr 1 (by decide)
  have v2 : rq 2 = r 2 := hr 2 (by decide)
  have v3 : rq 3 = r 3 := hr 3 (by decide)
  have v5 : rq 5 = r 5 := hr 5 (by decide)
  have g0 : zq_ev rq (0, []) = 0 := zu_e0 _ _
  have g1 : zq_ev rq (0, [(0, 1)]) = r 0 := zu_f1 v0
  have g2 : zq_ev rq (0, [(1, 1)]) = r 1 := zu_f1 v1
  have g3 : zq_ev rq (1, []) = 1 := zu_e0 _ _
  have g4 : zq_ev rq (0, [(2, 1)]) = r 2 := zu_f1 v2
  have g5 : zq_ev rq (0, [(3, 1)]) = r 3 := zu_f1 v3
  have g6 : zq_ev rq (0, [(5, 1)]) = r 5 := zu_f1 v5
  have g7 : zq_ev rq (2, [(3, 1)]) = r 3 + 2 := zu_f2 v3 _
  exact ⟨_, List.mem_cons_self .., rq, hr, zq_MeS_mk rfl hT (zq_all_nil) zq_fan (zq_fan) rfl (zu_fac ((x_EV _ _ _).mpr (by show ze_EV (zq_ev rq (0, [])) (zq_ev rq (0, [(0, 1)])) (zq_ev rq (0, [(1, 1)])) (zq_ev rq (1, [])) (zq_ev rq (0, [(2, 1)])) (zq_ev rq (0, [])) (zq_ev rq (0, [(3, 1)])) (zq_ev rq (0, [(5, 1)])) (zq_ev rq (0, [])) (zq_ev rq (2, [(3, 1)])) P h; simp only [g0, g1, g2, g3, g4, g5, g6, g7]; exact t1)) zq_fan)⟩
noncomputable def ze_pb : zq_S × List zq_S := (([], [], [], [], [], [], [(224, [(0, [(0, 1)]), (0, [(1, 1)]), (0, [(5, 1)]), (191, [])]), (220, [(4, []), (0, [(0, 1)]), (0, [(1, 1)]), (0, [(2, 1)]), (0, [(3, 1)]), (0, [(4, 1)]), (1, [(5, 1)]), (0, [(6, 1)]), (0, [(7, 1)]), (0, [(8, 1)])])], 9), [([], [], [], [], [], [], [(220, [(0, []), (0, [(0, 1)]), (0, [(1, 1)]), (0, [(2, 1)]), (0, [(3, 1)]), (0, [(4, 1)]), (0, [(5, 1)]), (0, [(6, 1)]), (0, [(7, 1)]), (1, [(8, 1)])])], 9)])
theorem ze_pb_l {P : zq_Ty} {h : zq_H} {g n o W b p r c q : Int} (k1 : ze_CD g n p 191 P h) (k2 : ze_EV 4 g n o W b (p + 1) r c q P h) : (ze_EV 0 g n o W b p r c (q + 1) P h) := by
  exact ze_part_b (show ze_c g n p = 191 from (show 191 = ze_c g n p from k1).symm) k2
theorem ze_pb_ok {w : zq_Wd} (x_CD : zj_is w 224 (fun q => ze_CD (q 0) (q 1) (q 2) (q 3))) (x_EV : zj_is w 220 (fun q => ze_EV (q 0) (q 1) (q 2) (q 3) (q 4) (q 5) (q 6) (q 7) (q 8) (q 9))) : zq_okG1 w ze_pb := by
  refine ⟨rfl, rfl, zu_fac ⟨rfl, by decide⟩ zq_fan, ?_⟩
  intro r P h H hM
  have q0 : zq_ev r (0, [(0, 1)]) = r 0 := zu_e1 _ _
  have q1 : zq_ev r (0, [(1, 1)]) = r 1 := zu_e1 _ _
  have q2 : zq_ev r (0, [(5, 1)]) = r 5 := zu_e1 _ _
  have q3 : zq_ev r (191, []) = 191 := zu_e0 _ _
  have q4 : zq_ev r (4, []) = 4 := zu_e0 _ _
  have q5 : zq_ev r (0, [(2, 1)]) = r 2 := zu_e1 _ _
  have q6 : zq_ev r (0, [(3, 1)]) = r 3 := zu_e1 _ _
  have q7 : zq_ev r (0, [(4, 1)]) = r 4 := zu_e1 _ _
  have q8 : zq_ev r (1, [(5, 1)]) = r 5 + 1 := zu_e2 _ _ _
  have q9 : zq_ev r (0, [(6, 1)]) = r 6 := zu_e1 _ _
  have q10 : zq_ev r (0, [(7, 1)]) = r 7 := zu_e1 _ _
  have q11 : zq_ev r (0, [(8, 1)]) = r 8 := zu_e1 _ _
  obtain ⟨hT, hC, hF, hS, -, hK⟩ := hM
  have c := hC.1
  have k1 := zj_use x_CD (hK)
  have k1 : ze_CD (zq_ev r (0, [(0, 1)])) (zq_ev r (0, [(1, 1)])) (zq_ev r (0, [(5, 1)])) (zq_ev r (191, [])) P h := k1
  simp only [q0, q1, q2, q3] at k1
  have k2 := zj_use x_EV (zq_okX_t (hK))
  have k2 : ze_EV (zq_ev r (4, [])) (zq_ev r (0, [(0, 1)])) (zq_ev r (0, [(1, 1)])) (zq_ev r (0, [(2, 1)])) (zq_ev r (0, [(3, 1)])) (zq_ev r (0, [(4, 1)])) (zq_ev r (1, [(5, 1)])) (zq_ev r (0, [(6, 1)])) (zq_ev r (0, [(7, 1)])) (zq_ev r (0, [(8, 1)])) P h := k2
  simp only [q0, q1, q10, q11, q4, q5, q6, q7, q8, q9] at k2
  obtain t1 := ze_pb_l (P := P) (h := h) (g := r 0) (n := r 1) (o := r 2) (W := r 3) (b := r 4) (p := r 5) (r := r 6) (c := r 7) (q := r 8) k1 k2
  obtain ⟨rq, hr⟩ : ∃ rq : Nat → Int, (∀ i, i < 9 → rq i = r i) := ⟨r, fun i hi => rfl⟩
  have v0 : rq 0 = r 0 := hr 0 (by decide)
  have v1 : rq 1 = r 1 := hr 1 (by decide)
  have v2 : rq 2 = r 2 := hr 2 (by decide)
  have v3 : rq 3 = r 3 := hr 3 (by decide)
  have v4 : rq 4 = r 4 := hr 4 (by decide)
  have v5 : rq 5 = r 5 := hr 5 (by decide)
  have v6 : rq 6 = r 6 := hr 6 (by decide)
  have v7 : rq 7 = r 7 := hr 7 (by decide)
  have v8 : rq 8 = r 8 := hr 8 (by decide)
  have g0 : zq_ev rq (0, []) = 0 := zu_e0 _ _
  have g1 : zq_ev rq (0, [(0, 1)]) = r 0 := zu_f1 v0
  have g2 : zq_ev rq (0, [(1, 1)]) = r 1 := zu_f1 v1
  have g3 : zq_ev rq (0, [(2, 1)]) = r 2 := zu_f1 v2
  have g4 : zq_ev rq (0, [(3, 1)]) = r 3 := zu_f1 v3
  have g5 : zq_ev rq (0, [(4, 1)]) = r 4 := zu_f1 v4
  have g6 : zq_ev rq (0, [(5, 1)]) = r 5 := zu_f1 v5
  have g7 : zq_ev rq (0, [(6, 1)]) = r 6 := zu_f1 v6
  have g8 : zq_ev rq (0, [(7, 1)]) = r 7 := zu_f1 v7
  have g9 : zq_ev rq (1, [(8, 1)]) = r 8 + 1 := zu_f2 v8 _
  exact ⟨_, List.mem_cons_self .., rq, hr, zq_MeS_mk rfl hT (zq_all_nil) zq_fan (zq_fan) rfl (zu_fac ((x_EV _ _ _).mpr (by show ze_EV (zq_ev rq (0, [])) (zq_ev rq (0, [(0, 1)])) (zq_ev rq (0, [(1, 1)])) (zq_ev rq (0, [(2, 1)])) (zq_ev rq (0, [(3, 1)])) (zq_ev rq (0, [(4, 1)])) (zq_ev rq (0, [(5, 1)])) (zq_ev rq (0, [(6, 1)])) (zq_ev rq (0, [(7, 1)])) (zq_ev rq (1, [(8, 1)])) P h; simp only [g0, g1, g2, g3, g4, g5, g6, g7, g8, g9]; exact t1)) zq_fan)⟩
noncomputable def ze_tb : zq_S × List zq_S := (([], [], [], [], [], [], [(224, [(0, [(0, 1)]), (0, [(1, 1)]), (0, [(2, 1)]), (191, [])]), (221, [(4, []), (0, [(0, 1)]), (0, [(1, 1)]), (1, [(2, 1)]), (0, [(3, 1)])])], 4), [([], [], [], [], [], [], [(221, [(0, []), (0, [(0, 1)]), (0, [(1, 1)]), (0, [(2, 1)]), (1, [(3, 1)])])], 4)])
theorem ze_tb_l {P : zq_Ty} {h : zq_H} {g n p q : Int} (k1 : ze_CD g n p 191 P h) (k2 : ze_TT 4 g n (p + 1) q P h) : (ze_TT 0 g n p (q + 1) P h) := by
  exact zt_part_b (show ze_c g n p = 191 from (show 191 = ze_c g n p from k1).symm) k2
theorem ze_tb_ok {w : zq_Wd} (x_CD : zj_is w 224 (fun q => ze_CD (q 0) (q 1) (q 2) (q 3))) (x_TT : zj_is w 221 (fun q => ze_TT (q 0) (q 1) (q 2) (q 3) (q 4))) : zq_okG1 w ze_tb := by
  refine ⟨rfl, rfl, zu_fac ⟨rfl, by decide⟩ zq_fan, ?_⟩
  intro r P h H hM
  have q0 : zq_ev r (0, [(0, 1)]) = r 0 := zu_e1 _ _
  have q1 : zq_ev r (0, [(1, 1)]) = r 1 := zu_e1 _ _
  have q2 : zq_ev r (0, [(2, 1)]) = r 2 := zu_e1 _ _
  have q3 : zq_ev r (191, []) = 191 := zu_e0 _ _
  have q4 : zq_ev r (4, []) = 4 := zu_e0 _ _
  have q5 : zq_ev r (1, [(2, 1)]) = r 2 + 1 := zu_e2 _ _ _
  have q6 : zq_ev r (0, [(3, 1)]) = r 3 := zu_e1 _ _
  obtain ⟨hT, hC, hF, hS, -, hK⟩ := hM
  have c := hC.1
  have k1 := zj_use x_CD (hK)
  have k1 : ze_CD (zq_ev r (0, [(0, 1)])) (zq_ev r (0, [(1, 1)])) (zq_ev r (0, [(2, 1)])) (zq_ev r (191, [])) P h := k1
  simp only [q0, q1, q2, q3] at k1
  have k2 := zj_use x_TT (zq_okX_t (hK))
  have k2 : ze_TT (zq_ev r (4, [])) (zq_ev r (0, [(0, 1)])) (zq_ev r (0, [(1, 1)])) (zq_ev r (1, [(2, 1)])) (zq_ev r (0, [(3, 1)])) P h := k2
  simp only [q0, q1, q4, q5, q6] at k2
  obtain t1 := ze_tb_l (P := P) (h := h) (g := r 0) (n := r 1) (p := r 2) (q := r 3) k1 k2
  obtain ⟨rq, hr⟩ : ∃ rq : Nat → Int, (∀ i, i < 4 → rq i = r i) := ⟨r, fun i hi => rfl⟩
  have v0 : rq 0 = r 0 := hr 0 (by decide)
  have v1 : rq 1 = r 1 := hr 1 (by decide)
  have v2 : rq 2 = r 2 := hr 2 (by decide)
  have v3 : rq 3 = r 3 := hr 3 (by decide)
  have g0 : zq_ev rq (0, []) = 0 := zu_e0 _ _
  have g1 : zq_ev rq (0, [(0, 1)]) = r 0 := zu_f1 v0
  have g2 : zq_ev rq (0, [(1, 1)]) = r 1 := zu_f1 v1
  have g3 : zq_ev rq (0, [(2, 1)]) = r 2 := zu_f1 v2
  have g4 : zq_ev rq (1, [(3, 1)]) = r 3 + 1 := zu_f2 v3 _
  exact ⟨_, List.mem_cons_self .., rq, hr, zq_MeS_mk rfl hT (zq_all_nil) zq_fan (zq_fan) rfl (zu_fac ((x_TT _ _ _).mpr (by show ze_TT (zq_ev rq (0, [])) (zq_ev rq (0, [(0, 1)])) (zq_ev rq (0, [(1, 1)])) (zq_ev rq (0, [(2, 1)])) (zq_ev rq (1, [(3, 1)])) P h; simp only [g0, g1, g2, g3, g4]; exact t1)) zq_fan)⟩
noncomputable def ze_l2 : zq_S × List zq_S := (([], [], [], [], [], [], [(220, [(0, []), (0, [(0, 1)]), (0, [(1, 1)]), (0, [(2, 1)]), (0, [(3, 1)]), (0, [(4, 1)]), (0, [(5, 1)]), (0, [(6, 1)]), (0, [(7, 1)]), (0, [(8, 1)])])], 9), [([], [], [], [], [], [], [(222, [(1, []), (2, []), (0, [(0, 1)]), (0, [(1, 1)]), (0, [(2, 1)]), (0, [(3, 1)]), (0, [(4, 1)]), (0, [(5, 1)]), (0, [(6, 1)]), (0, [(7, 1)]), (0, [(8, 1)])])], 9)])
theorem ze_l2_l {P : zq_Ty} {h : zq_H} {g n o W b p r c q : Int} (k1 : ze_EV 0 g n o W b p r c q P h) : (ze_SL 1 2 g n o W b p r c q P h) := by
  intro r2 d e h2
  exact ze_term k1 h2
theorem ze_l2_ok {w : zq_Wd} (x_EV : zj_is w 220 (fun q => ze_EV (q 0) (q 1) (q 2) (q 3) (q 4) (q 5) (q 6) (q 7) (q 8) (q 9))) (x_SL : zj_is w 222 (fun q => ze_SL (q 0) (q 1) (q 2) (q 3) (q 4) (q 5) (q 6) (q 7) (q 8) (q 9) (q 10))) : zq_okG1 w ze_l2 := by
  refine ⟨rfl, rfl, zu_fac ⟨rfl, by decide⟩ zq_fan, ?_⟩
  intro r P h H hM
  have q0 : zq_ev r (0, []) = 0 := zu_e0 _ _
  have q1 : zq_ev r (0, [(0, 1)]) = r 0 := zu_e1 _ _
  have q2 : zq_ev r (0, [(1, 1)]) = r 1 := zu_e1 _ _
  have q3 : zq_ev r (0, [(2, 1)]) = r 2 := zu_e1 _ _
  have q4 : zq_ev r (0, [(3, 1)]) = r 3 := zu_e1 _ _
  have q5 : zq_ev r (0, [(4, 1)]) = r 4 := zu_e1 _ _
  have q6 : zq_ev r (0, [(5, 1)]) = r 5 := zu_e1 _ _
  have q7 : zq_ev r (0, [(6, 1)]) = r 6 := zu_e1 _ _
  have q8 : zq_ev r (0, [(7, 1)]) = r 7 := zu_e1 _ _
  have q9 : zq_ev r (0, [(8, 1)]) = r 8 := zu_e1 _ _
  obtain ⟨hT, hC, hF, hS, -, hK⟩ := hM
  have c := hC.1
  have k1 := zj_use x_EV (hK)
  have k1 : ze_EV (zq_ev r (0, [])) (zq_ev r (0, [(0, 1)])) (zq_ev r (0, [(1, 1)])) (zq_ev r (0, [(2, 1)])) (zq_ev r (0, [(3, 1)])) (zq_ev r (0, [(4, 1)])) (zq_ev r (0, [(5, 1)])) (zq_ev r (0, [(6, 1)])) (zq_ev r (0, [(7, 1)])) (zq_ev r (0, [(8, 1)])) P h := k1
  simp only [q0, q1, q2, q3, q4, q5, q6, q7, q8, q9] at k1
  obtain t1 := ze_l2_l (P := P) (h := h) (g := r 0) (n := r 1) (o := r 2) (W := r 3) (b := r 4) (p := r 5) (r := r 6) (c := r 7) (q := r 8) k1
  obtain ⟨rq, hr⟩ : ∃ rq : Nat → Int, (∀ i, i < 9 → rq i = r i) := ⟨r, fun i hi => rfl⟩
  have v0 : rq 0 = r 0 := hr 0 (by decide)
  have v1 : rq 1 = r 1 := hr 1 (by decide)
  have v2 : rq 2 = r 2 := hr 2 (by decide)
  have v3 : rq 3 = r 3 := hr 3 (by decide)
  have v4 : rq 4 = r 4 := hr 4 (by decide)
  have v5 : rq 5 = r 5 := hr 5 (by decide)
  have v6 : rq 6 = r 6 := hr 6 (by decide)
  have v7 : rq 7 = r 7 := hr 7 (by decide)
  have v8 : rq 8 = r 8 := hr 8 (by decide)
  have g0 : zq_ev rq (1, []) = 1 := zu_e0 _ _
  have g1 : zq_ev rq (2, []) = 2 := zu_e0 _ _
  have g2 : zq_ev rq (0, [(0, 1)]) = r 0 := zu_f1 v0
  have g3 : zq_ev rq (0, [(1, 1)]) = r 1 := zu_f1 v1
  have g4 : zq_ev rq (0, [(2, 1)]) = r 2 := zu_f1 v2
  have g5 : zq_ev rq (0, [(3, 1)]) = r 3 := zu_f1 v3
  have g6 : zq_ev rq (0, [(4, 1)]) = r 4 := zu_f1 v4
  have g7 : zq_ev rq (0, [(5, 1)]) = r 5 := zu_f1 v5
  have g8 : zq_ev rq (0, [(6, 1)]) = r 6 := zu_f1 v6
  have g9 : zq_ev rq (0, [(7, 1)]) = r 7 := zu_f1 v7
  have g10 : zq_ev rq (0, [(8, 1)]) = r 8 := zu_f1 v8
  exact ⟨_, List.mem_cons_self .., rq, hr, zq_MeS_mk rfl hT (zq_all_nil) zq_fan (zq_fan) rfl (zu_fac ((x_SL _ _ _).mpr (by show ze_SL (zq_ev rq (1, [])) (zq_ev rq (2, [])) (zq_ev rq (0, [(0, 1)])) (zq_ev rq (0, [(1, 1)])) (zq_ev rq (0, [(2, 1)])) (zq_ev rq (0, [(3, 1)])) (zq_ev rq (0, [(4, 1)])) (zq_ev rq (0, [(5, 1)])) (zq_ev rq (0, [(6, 1)])) (zq_ev rq (0, [(7, 1)])) (zq_ev rq (0, [(8, 1)])) P h; simp only [g0, g1, g10, g2, g3, g4, g5, g6, g7, g8, g9]; exact t1)) zq_fan)⟩
noncomputable def ze_m2 : zq_S × List zq_S := (([], [], [], [], [], [], [(221, [(0, []), (0, [(0, 1)]), (0, [(1, 1)]), (0, [(2, 1)]), (0, [(3, 1)])])], 4), [([], [], [], [], [], [], [(223, [(1, []), (2, []), (0, [(0, 1)]), (0, [(1, 1)]), (0, [(2, 1)]), (0, [(3, 1)])])], 4)])
theorem ze_m2_l {P : zq_Ty} {h : zq_H} {g n p q : Int} (k1 : ze_TT 0 g n p q P h) : (ze_TL 1 2 g n p q P h) := by
  intro e h2
  exact zt_two (k := 2) (k1 := 0) (k2 := 1) (fun R => rfl) k1 h2
theorem ze_m2_ok {w : zq_Wd} (x_TT : zj_is w 221 (fun q => ze_TT (q 0) (q 1) (q 2) (q 3) (q 4))) (x_TL : zj_is w 223 (fun q => ze_TL (q 0) (q 1) (q 2) (q 3) (q 4) (q 5))) : zq_okG1 w ze_m2 := by
  refine ⟨rfl, rfl, zu_fac ⟨rfl, by decide⟩ zq_fan, ?_⟩
  intro r P h H hM
  have q0 : zq_ev r (0, []) = 0 := zu_e0 _ _
  have q1 : zq_ev r (0, [(0, 1)]) = r 0 := zu_e1 _ _
  have q2 : zq_ev r (0, [(1, 1)]) = r 1 := zu_e1 _ _
  have q3 : zq_ev r (0, [(2, 1)]) = r 2 := zu_e1 _ _
  have q4 : zq_ev r (0, [(3, 1)]) = r 3 := zu_e1 _ _
  obtain ⟨hT, hC, hF, hS, -, hK⟩ := hM
  have c := hC.1
  have k1 := zj_use x_TT (hK)
  have k1 : ze_TT (zq_ev r (0, [])) (zq_ev r (0, [(0, 1)])) (zq_ev r (0, [(1, 1)])) (zq_ev r (0, [(2, 1)])) (zq_ev r (0, [(3, 1)])) P h := k1
  simp only [q0, q1, q2, q3, q4] at k1
  obtain t1 := ze_m2_l (P := P) (h := h) (g := r 0) (n := r 1) (p := r 2) (q := r 3) k1
  obtain ⟨rq, hr⟩ : ∃ rq : Nat → Int, (∀ i, i < 4 → rq i = r i) := ⟨r, fun i hi => rfl⟩
  have v0 : rq 0 = r 0 := hr 0 (by decide)
  have v1 : rq 1 = r 1 := hr 1 (by decide)
  have v2 : rq 2 = r 2 := hr 2 (by decide)
  have v3 : rq 3 = r 3 := hr 3 (by decide)
  have g0 : zq_ev rq (1, []) = 1 := zu_e0 _ _
  have g1 : zq_ev rq (2, []) = 2 := zu_e0 _ _
  have g2 : zq_ev rq (0, [(0, 1)]) = r 0 := zu_f1 v0
  have g3 : zq_ev rq (0, [(1, 1)]) = r 1 := zu_f1 v1
  have g4 : zq_ev rq (0, [(2, 1)]) = r 2 := zu_f1 v2
  have g5 : zq_ev rq (0, [(3, 1)]) = r 3 := zu_f1 v3
  exact ⟨_, List.mem_cons_self .., rq, hr, zq_MeS_mk rfl hT (zq_all_nil) zq_fan (zq_fan) rfl (zu_fac ((x_TL _ _ _).mpr (by show ze_TL (zq_ev rq (1, [])) (zq_ev rq (2, [])) (zq_ev rq (0, [(0, 1)])) (zq_ev rq (0, [(1, 1)])) (zq_ev rq (0, [(2, 1)])) (zq_ev rq (0, [(3, 1)])) P h; simp only [g0, g1, g2, g3, g4, g5]; exact t1)) zq_fan)⟩
noncomputable def ze_l4 : zq_S × List zq_S := (([], [], [], [], [], [], [(220, [(2, []), (0, [(0, 1)]), (0, [(1, 1)]), (0, [(2, 1)]), (0, [(3, 1)]), (0, [(4, 1)]), (0, [(5, 1)]), (0, [(6, 1)]), (0, [(7, 1)]), (0, [(8, 1)])])], 9), [([], [], [], [], [], [], [(222, [(3, []), (4, []), (0, [(0, 1)]), (0, [(1, 1)]), (0, [(2, 1)]), (0, [(3, 1)]), (0, [(4, 1)]), (0, [(5, 1)]), (0, [(6, 1)]), (0, [(7, 1)]), (0, [(8, 1)])])], 9)])
theorem ze_l4_l {P : zq_Ty} {h : zq_H} {g n o W b p r c q : Int} (k1 : ze_EV 2 g n o W b p r c q P h) : (ze_SL 3 4 g n o W b p r c q P h) := by
  intro r2 d e h2
  exact ze_sum k1 h2
theorem ze_l4_ok {w : zq_Wd} (x_EV : zj_is w 220 (fun q => ze_EV (q 0) (q 1) (q 2) (q 3) (q 4) (q 5) (q 6) (q 7) (q 8) (q 9))) (x_SL : zj_is w 222 (fun q => ze_SL (q 0) (q 1) (q 2) (q 3) (q 4) (q 5) (q 6) (q 7) (q 8) (q 9) (q 10))) : zq_okG1 w ze_l4 := by
  refine ⟨rfl, rfl, zu_fac ⟨rfl, by decide⟩ zq_fan, ?_⟩
  intro r P h H hM
  have q0 : zq_ev r (2, []) = 2 := zu_e0 _ _
  have q1 : zq_ev r (0, [(0, 1)]) = r 0 := zu_e1 _ _
  have q2 : zq_ev r (0, [(1, 1)]) = r 1 := zu_e1 _ _
  have q3 : zq_ev r (0, [(2, 1)]) = r 2 := zu_e1 _ _
  have q4 : zq_ev r (0, [(3, 1)]) = r 3 := zu_e1 _ _
  have q5 : zq_ev r (0, [(4, 1)]) = r 4 := zu_e1 _ _
  have q6 : zq_ev r (0, [(5, 1)]) = r 5 := zu_e1 _ _
  have q7 : zq_ev r (0, [(6, 1)]) = r 6 := zu_e1 _ _
  have q8 : zq_ev r (0, [(7, 1)]) = r 7 := zu_e1 _ _
  have q9 : zq_ev r (0, [(8, 1)]) = r 8 := zu_e1 _ _
  obtain ⟨hT, hC, hF, hS, -, hK⟩ := hM
  have c := hC.1
  have k1 := zj_use x_EV (hK)
  have k1 : ze_EV (zq_ev r (2, [])) (zq_ev r (0, [(0, 1)])) (zq_ev r (0, [(1, 1)])) (zq_ev r (0, [(2, 1)])) (zq_ev r (0, [(3, 1)])) (zq_ev r (0, [(4, 1)])) (zq_ev r (0, [(5, 1)])) (zq_ev r (0, [(6, 1)])) (zq_ev r (0, [(7, 1)])) (zq_ev r (0, [(8, 1)])) P h := k1
  simp only [q0, q1, q2, q3, q4, q5, q6, q7, q8, q9] at k1
  obtain t1 := ze_l4_l (P := P) (h := h) (g := r 0) (n := r 1) (o := r 2) (W := r 3) (b := r 4) (p := r 5) (r := r 6) (c := r 7) (q := r 8) k1
  obtain ⟨rq, hr⟩ : ∃ rq : Nat → Int, (∀ i, i < 9 → rq i = r i) := ⟨r, fun i hi => rfl⟩
  have v0 : rq 0 = r 0 := hr 0 (by decide)
  have v1 : rq 1 = r 1 := hr 1 (by decide)
  have v2 : rq 2 = r 2 := hr 2 (by decide)
  have v3 : rq 3 = r 3 := hr 3 (by decide)
  have v4 : rq 4 = r 4 := hr 4 (by decide)
  have v5 : rq 5 = r 5 := hr 5 (by decide)
  have v6 : rq 6 = r 6 := hr 6 (by decide)
  have v7 : rq 7 = r 7 := hr 7 (by decide)
  have v8 : rq 8 = r 8 := hr 8 (by decide)
  have g0 : zq_ev rq (3, []) = 3 := zu_e0 _ _
  have g1 : zq_ev rq (4, []) = 4 := zu_e0 _ _
  have g2 : zq_ev rq (0, [(0, 1)]) = r 0 := zu_f1 v0
  have g3 : zq_ev rq (0, [(1, 1)]) = r 1 := zu_f1 v1
  have g4 : zq_ev rq (0, [(2, 1)]) = r 2 := zu_f1 v2
  have g5 : zq_ev rq (0, [(3, 1)]) = r 3 := zu_f1 v3
  have g6 : zq_ev rq (0, [(4, 1)]) = r 4 := zu_f1 v4
  have g7 : zq_ev rq (0, [(5, 1)]) = r 5 := zu_f1 v5
  have g8 : zq_ev rq (0, [(6, 1)]) = r 6 := zu_f1 v6
  have g9 : zq_ev rq (0, [(7, 1)]) = r 7 := zu_f1 v7
  have g10 : zq_ev rq (0, [(8, 1)]) = r 8 := zu_f1 v8
  exact ⟨_, List.mem_cons_self .., rq, hr, zq_MeS_mk rfl hT (zq_all_nil) zq_fan (zq_fan) rfl (zu_fac ((x_SL _ _ _).mpr (by show ze_SL (zq_ev rq (3, [])) (zq_ev rq (4, [])) (zq_ev rq (0, [(0, 1)])) (zq_ev rq (0, [(1, 1)])) (zq_ev rq (0, [(2, 1)])) (zq_ev rq (0, [(3, 1)])) (zq_ev rq (0, [(4, 1)])) (zq_ev rq (0, [(5, 1)])) (zq_ev rq (0, [(6, 1)])) (zq_ev rq (0, [(7, 1)])) (zq_ev rq (0, [(8, 1)])) P h; simp only [g0, g1, g10, g2, g3, g4, g5, g6, g7, g8, g9]; exact t1)) zq_fan)⟩
noncomputable def ze_m4 : zq_S × List zq_S := (([], [], [], [], [], [], [(221, [(2, []), (0, [(0, 1)]), (0, [(1, 1)]), (0, [(2, 1)]), (0, [(3, 1)])])], 4), [([], [], [], [], [], [], [(223, [(3, []), (4, []), (0, [(0, 1)]), (0, [(1, 1)]), (0, [(2, 1)]), (0, [(3, 1)])])], 4)])
theorem ze_m4_l {P : zq_Ty} {h : zq_H} {g n p q : Int} (k1 : ze_TT 2 g n p q P h) : (ze_TL 3 4 g n p q P h) := by
  intro e h2
  exact zt_two (k := 4) (k1 := 2) (k2 := 3) (fun R => rfl) k1 h2
theorem ze_m4_ok {w : zq_Wd} (x_TT : zj_is w 221 (fun q => ze_TT (q 0) (q 1) (q 2) (q 3) (q 4))) (x_TL : zj_is w 223 (fun q => ze_TL (q 0) (q 1) (q 2) (q 3) (q 4) (q 5))) : zq_okG1 w ze_m4 := by
  refine ⟨rfl, rfl, zu_fac ⟨rfl, by decide⟩ zq_fan, ?_⟩
  intro r P h H hM
  have q0 : zq_ev r (2, []) = 2 := zu_e0 _ _
  have q1 : zq_ev r (0, [(0, 1)]) = r 0 := zu_e1 _ _
  have q2 : zq_ev r (0, [(1, 1)]) = r 1 := zu_e1 _ _
  have q3 : zq_ev r (0, [(2, 1)]) = r 2 := zu_e1 _ _
  have q4 : zq_ev r (0, [(3, 1)]) = r 3 := zu_e1 _ _
  obtain ⟨hT, hC, hF, hS, -, hK⟩ := hM
  have c := hC.1
  have k1 := zj_use x_TT (hK)
  have k1 : ze_TT (zq_ev r (2, [])) (zq_ev r (0, [(0, 1)])) (zq_ev r (0, [(1, 1)])) (zq_ev r (0, [(2, 1)])) (zq_ev r (0, [(3, 1)])) P h := k1
  simp only [q0, q1, q2, q3, q4] at k1
  obtain t1 := ze_m4_l (P := P) (h := h) (g := r 0) (n := r 1) (p := r 2) (q := r 3) k1
  obtain ⟨rq, hr⟩ : ∃ rq : Nat → Int, (∀ i, i < 4 → rq i = r i) := ⟨r, fun i hi => rfl⟩
  have v0 : rq 0 = r 0 := hr 0 (by decide)
  have v1 : rq 1 = r 1 := hr 1 (by decide)
  have v2 : rq 2 = r 2 := hr 2 (by decide)
  have v3 : rq 3 = r 3 := hr 3 (by decide)
  have g0 : zq_ev rq (3, []) = 3 := zu_e0 _ _
  have g1 : zq_ev rq (4, []) = 4 := zu_e0 _ _
  have g2 : zq_ev rq (0, [(0, 1)]) = r 0 := zu_f1 v0
  have g3 : zq_ev rq (0, [(1, 1)]) = r 1 := zu_f1 v1
  have g4 : zq_ev rq (0, [(2, 1)]) = r 2 := zu_f1 v2
  have g5 : zq_ev rq (0, [(3, 1)]) = r 3 := zu_f1 v3
  exact ⟨_, List.mem_cons_self .., rq, hr, zq_MeS_mk rfl hT (zq_all_nil) zq_fan (zq_fan) rfl (zu_fac ((x_TL _ _ _).mpr (by show ze_TL (zq_ev rq (3, [])) (zq_ev rq (4, [])) (zq_ev rq (0, [(0, 1)])) (zq_ev rq (0, [(1, 1)])) (zq_ev rq (0, [(2, 1)])) (zq_ev rq (0, [(3, 1)])) P h; simp only [g0, g1, g2, g3, g4, g5]; exact t1)) zq_fan)⟩
noncomputable def ze_l8 : zq_S × List zq_S := (([], [], [], [], [], [], [(220, [(6, []), (0, [(0, 1)]), (0, [(1, 1)]), (0, [(2, 1)]), (0, [(3, 1)]), (0, [(4, 1)]), (0, [(5, 1)]), (0, [(6, 1)]), (0, [(7, 1)]), (0, [(8, 1)])])], 9), [([], [], [], [], [], [], [(222, [(7, []), (8, []), (0, [(0, 1)]), (0, [(1, 1)]), (0, [(2, 1)]), (0, [(3, 1)]), (0, [(4, 1)]), (0, [(5, 1)]), (0, [(6, 1)]), (0, [(7, 1)]), (0, [(8, 1)])])], 9)])
theorem ze_l8_l {P : zq_Ty} {h : zq_H} {g n o W b p r c q : Int} (k1 : ze_EV 6 g n o W b p r c q P h) : (ze_SL 7 8 g n o W b p r c q P h) := by
  intro r2 d e h2
  exact ze_both k1 h2
theorem ze_l8_ok {w : zq_Wd} (x_EV : zj_is w 220 (fun q => ze_EV (q 0) (q 1) (q 2) (q 3) (q 4) (q 5) (q 6) (q 7) (q 8) (q 9))) (x_SL : zj_is w 222 (fun q => ze_SL (q 0) (q 1) (q 2) (q 3) (q 4) (q 5) (q 6) (q 7) (q 8) (q 9) (q 10))) : zq_okG1 w ze_l8 := by
  refine ⟨rfl, rfl, zu_fac ⟨rfl, by decide⟩ zq_fan, ?_⟩
  intro r P h H hM
  have q0 : zq_ev r (6, []) = 6 := zu_e0 _ _
  have q1 : zq_ev r (0, [(0, 1)]) = r 0 := zu_e1 _ _
  have q2 : zq_ev r (0, [(1, 1)]) = r 1 := zu_e1 _ _
  have q3 : zq_ev r (0, [(2, 1)]) = r 2 := zu_e1 _ _
  have q4 : zq_ev r (0, [(3, 1)]) = r 3 := zu_e1 _ _
  have q5 : zq_ev r (0, [(4, 1)]) = r 4 := zu_e1 _ _
  have q6 : zq_ev r (0, [(5, 1)]) = r 5 := zu_e1 _ _
  have q7 : zq_ev r (0, [(6, 1)]) = r 6 := zu_e1 _ _
  have q8 : zq_ev r (0, [(7, 1)]) = r 7 := zu_e1 _ _
  have q9 : zq_ev r (0, [(8, 1)]) = r 8 := zu_e1 _ _
  obtain ⟨hT, hC, hF, hS, -, hK⟩ := hM
  have c := hC.1
  have k1 := zj_use x_EV (hK)
  have k1 : ze_EV (zq_ev r (6, [])) (zq_ev r (0, [(0, 1)])) (zq_ev r (0, [(1, 1)])) (zq_ev r (0, [(2, 1)])) (zq_ev r (0, [(3, 1)])) (zq_ev r (0, [(4, 1)])) (zq_ev r (0, [(5, 1)])) (zq_ev r (0, [(6, 1)])) (zq_ev r (0, [(7, 1)])) (zq_ev r (0, [(8, 1)])) P h := k1
  simp only [q0, q1, q2, q3, q4, q5, q6, q7, q8, q9] at k1
  obtain t1 := ze_l8_l (P := P) (h := h) (g := r 0) (n := r 1) (o := r 2) (W := r 3) (b := r 4) (p := r 5) (r := r 6) (c := r 7) (q := r 8) k1
  obtain ⟨rq, hr⟩ : ∃ rq : Nat → Int, (∀ i, i < 9 → rq i = r i) := ⟨r, fun i hi => rfl⟩
  have v0 : rq 0 = r 0 := hr 0 (by decide)
  have v1 : rq 1 = r 1 := hr 1 (by decide)
  have v2 : rq 2 = r 2 := hr 2 (by decide)
  have v3 : rq 3 = r 3 := hr 3 (by decide)
  have v4 : rq 4 = r 4 := hr 4 (by decide)
  have v5 : rq 5 = r 5 := hr 5 (by decide)
  have v6 : rq 6 = r 6 := hr 6 (by decide)
  have v7 : rq 7 = r 7 := hr 7 (by decide)
  have v8 : rq 8 = r 8 := hr 8 (by decide)
  have g0 : zq_ev rq (7, []) = 7 := zu_e0 _ _
  have g1 : zq_ev rq (8, []) = 8 := zu_e0 _ _
  have g2 : zq_ev rq (0, [(0, 1)]) = r 0 := zu_f1 v0
  have g3 : zq_ev rq (0, [(1, 1)]) = r 1 := zu_f1 v1
  have g4 : zq_ev rq (0, [(2, 1)]) = r 2 := zu_f1 v2
  have g5 : zq_ev rq (0, [(3, 1)]) = r 3 := zu_f1 v3
  have g6 : zq_ev rq (0, [(4, 1)]) = r 4 := zu_f1 v4
  have g7 : zq_ev rq (0, [(5, 1)]) = r 5 := zu_f1 v5
  have g8 : zq_ev rq (0, [(6, 1)]) = r 6 := zu_f1 v6
  have g9 : zq_ev rq (0, [(7, 1)]) = r 7 := zu_f1 v7
  have g10 : zq_ev rq (0, [(8, 1)]) = r 8 := zu_f1 v8
  exact ⟨_, List.mem_cons_self .., rq, hr, zq_MeS_mk rfl hT (zq_all_nil) zq_fan (zq_fan) rfl (zu_fac ((x_SL _ _ _).mpr (by show ze_SL (zq_ev rq (7, [])) (zq_ev rq (8, [])) (zq_ev rq (0, [(0, 1)])) (zq_ev rq (0, [(1, 1)])) (zq_ev rq (0, [(2, 1)])) (zq_ev rq (0, [(3, 1)])) (zq_ev rq (0, [(4, 1)])) (zq_ev rq (0, [(5, 1)])) (zq_ev rq (0, [(6, 1)])) (zq_ev rq (0, [(7, 1)])) (zq_ev rq (0, [(8, 1)])) P h; simp only [g0, g1, g10, g2, g3, g4, g5, g6, g7, g8, g9]; exact t1)) zq_fan)⟩
noncomputable def ze_m8 : zq_S × List zq_S := (([], [], [], [], [], [], [(221, [(6, []), (0, [(0, 1)]), (0, [(1, 1)]), (0, [(2, 1)]), (0, [(3, 1)])])], 4), [([], [], [], [], [], [], [(223, [(7, []), (8, []), (0, [(0, 1)]), (0, [(1, 1)]), (0, [(2, 1)]), (0, [(3, 1)])])], 4)])
theorem ze_m8_l {P : zq_Ty} {h : zq_H} {g n p q : Int} (k1 : ze_TT 6 g n p q P h) : (ze_TL 7 8 g n p q P h) := by
  intro e h2
  exact zt_two (k := 8) (k1 := 6) (k2 := 7) (fun R => rfl) k1 h2
theorem ze_m8_ok {w : zq_Wd} (x_TT : zj_is w 221 (fun q => ze_TT (q 0) (q 1) (q 2) (q 3) (q 4))) (x_TL : zj_is w 223 (fun q => ze_TL (q 0) (q 1) (q 2) (q 3) (q 4) (q 5))) : zq_okG1 w ze_m8 := by
  refine ⟨rfl, rfl, zu_fac ⟨rfl, by decide⟩ zq_fan, ?_⟩
  intro r P h H hM
  have q0 : zq_ev r (6, []) = 6 := zu_e0 _ _
  have q1 : zq_ev r (0, [(0, 1)]) = r 0 := zu_e1 _ _
  have q2 : zq_ev r (0, [(1, 1)]) = r 1 := zu_e1 _ _
  have q3 : zq_ev r (0, [(2, 1)]) = r 2 := zu_e1 _ _
  have q4 : zq_ev r (0, [(3, 1)]) = r 3 := zu_e1 _ _
  obtain ⟨hT, hC, hF, hS, -, hK⟩ := hM
  have c := hC.1
  have k1 := zj_use x_TT (hK)
  have k1 : ze_TT (zq_ev r (6, [])) (zq_ev r (0, [(0, 1)])) (zq_ev r (0, [(1, 1)])) (zq_ev r (0, [(2, 1)])) (zq_ev r (0, [(3, 1)])) P h := k1
  simp only [q0, q1, q2, q3, q4] at k1
  obtain t1 := ze_m8_l (P := P) (h := h) (g := r 0) (n := r 1) (p := r 2) (q := r 3) k1
  obtain ⟨rq, hr⟩ : ∃ rq : Nat → Int, (∀ i, i < 4 → rq i = r i) := ⟨r, fun i hi => rfl⟩
  have v0 : rq 0 = r 0 := hr 0 (by decide)
  have v1 : rq 1 = r 1 := hr 1 (by decide)
  have v2 : rq 2 = r 2 := hr 2 (by decide)
  have v3 : rq 3 = r 3 := hr 3 (by decide)
  have g0 : zq_ev rq (7, []) = 7 := zu_e0 _ _
  have g1 : zq_ev rq (8, []) = 8 := zu_e0 _ _
  have g2 : zq_ev rq (0, [(0, 1)]) = r 0 := zu_f1 v0
  have g3 : zq_ev rq (0, [(1, 1)]) = r 1 := zu_f1 v1
  have g4 : zq_ev rq (0, [(2, 1)]) = r 2 := zu_f1 v2
  have g5 : zq_ev rq (0, [(3, 1)]) = r 3 := zu_f1 v3
  exact ⟨_, List.mem_cons_self .., rq, hr, zq_MeS_mk rfl hT (zq_all_nil) zq_fan (zq_fan) rfl (zu_fac ((x_TL _ _ _).mpr (by show ze_TL (zq_ev rq (7, [])) (zq_ev rq (8, [])) (zq_ev rq (0, [(0, 1)])) (zq_ev rq (0, [(1, 1)])) (zq_ev rq (0, [(2, 1)])) (zq_ev rq (0, [(3, 1)])) P h; simp only [g0, g1, g2, g3, g4, g5]; exact t1)) zq_fan)⟩
noncomputable def ze_l10 : zq_S × List zq_S := (([], [], [], [], [], [], [(220, [(8, []), (0, [(0, 1)]), (0, [(1, 1)]), (0, [(2, 1)]), (0, [(3, 1)]), (0, [(4, 1)]), (0, [(5, 1)]), (0, [(6, 1)]), (0, [(7, 1)]), (0, [(8, 1)])])], 9), [([], [], [], [], [], [], [(222, [(9, []), (10, []), (0, [(0, 1)]), (0, [(1, 1)]), (0, [(2, 1)]), (0, [(3, 1)]), (0, [(4, 1)]), (0, [(5, 1)]), (0, [(6, 1)]), (0, [(7, 1)]), (0, [(8, 1)])])], 9)])
theorem ze_l10_l {P : zq_Ty} {h : zq_H} {g n o W b p r c q : Int} (k1 : ze_EV 8 g n o W b p r c q P h) : (ze_SL 9 10 g n o W b p r c q P h) := by
  intro r2 d e h2
  exact ze_test k1 h2
theorem ze_l10_ok {w : zq_Wd} (x_EV : zj_is w 220 (fun q => ze_EV (q 0) (q 1) (q 2) (q 3) (q 4) (q 5) (q 6) (q 7) (q 8) (q 9))) (x_SL : zj_is w 222 (fun q => ze_SL (q 0) (q 1) (q 2) (q 3) (q 4) (q 5) (q 6) (q 7) (q 8) (q 9) (q 10))) : zq_okG1 w ze_l10 := by
  refine ⟨rfl, rfl, zu_fac ⟨rfl, by decide⟩ zq_fan, ?_⟩
  intro r P h H hM
  have q0 : zq_ev r (8, []) = 8 := zu_e0 _ _
  have q1 : zq_ev r (0, [(0, 1)]) = r 0 := zu_e1 _ _
  have q2 : zq_ev r (0, [(1, 1)]) = r 1 := zu_e1 _ _
  have q3 : zq_ev r (0, [(2, 1)]) = r 2 := zu_e1 _ _
  have q4 : zq_ev r (0, [(3, 1)]) = r 3 := zu_e1 _ _
  have q5 : zq_ev r (0, [(4, 1)]) = r 4 := zu_e1 _ _
  have q6 : zq_ev r (0, [(5, 1)]) = r 5 := zu_e1 _ _
  have q7 : zq_ev r (0, [(6, 1)]) = r 6 := zu_e1 _ _
  have q8 : zq_ev r (0, [(7, 1)]) = r 7 := zu_e1 _ _
  have q9 : zq_ev r (0, [(8, 1)]) = r 8 := zu_e1 _ _
  obtain ⟨hT, hC, hF, hS, -, hK⟩ := hM
  have c := hC.1
  have k1 := zj_use x_EV (hK)
  have k1 : ze_EV (zq_ev r (8, [])) (zq_ev r (0, [(0, 1)])) (zq_ev r (0, [(1, 1)])) (zq_ev r (0, [(2, 1)])) (zq_ev r (0, [(3, 1)])) (zq_ev r (0, [(4, 1)])) (zq_ev r (0, [(5, 1)])) (zq_ev r (0, [(6, 1)])) (zq_ev r (0, [(7, 1)])) (zq_ev r (0, [(8, 1)])) P h := k1
  simp only [q0, q1, q2, q3, q4, q5, q6, q7, q8, q9] at k1
  obtain t1 := ze_l10_l (P := P) (h := h) (g := r 0) (n := r 1) (o := r 2) (W := r 3) (b := r 4) (p := r 5) (r := r 6) (c := r 7) (q := r 8) k1
  obtain ⟨rq, hr⟩ : ∃ rq : Nat → Int, (∀ i, i < 9 → rq i = r i) := ⟨r, fun i hi => rfl⟩
  have v0 : rq 0 = r 0 := hr 0 (by decide)
  have v1 : rq 1 = r 1 := hr 1 (by decide)
  have v2 : rq 2 = r 2 := hr 2 (by decide)
  have v3 : rq 3 = r 3 := hr 3 (by decide)
  have v4 : rq 4 = r 4 := hr 4 (by decide)
  have v5 : rq 5 = r 5 := hr 5 (by decide)
  have v6 : rq 6 = r 6 := hr 6 (by decide)
  have v7 : rq 7 = r 7 := hr 7 (by decide)
  have v8 : rq 8 = r 8 := hr 8 (by decide)
  have g0 : zq_ev rq (9, []) = 9 := zu_e0 _ _
  have g1 : zq_ev rq (10, []) = 10 := zu_e0 _ _
  have g2 : zq_ev rq (0, [(0, 1)]) = r 0 := zu_f1 v0
  have g3 : zq_ev rq (0, [(1, 1)]) = r 1 := zu_f1 v1
  have g4 : zq_ev rq (0, [(2, 1)]) = r 2 := zu_f1 v2
  have g5 : zq_ev rq (0, [(3, 1)]) = r 3 := zu_f1 v3
  have g6 : zq_ev rq (0, [(4, 1)]) = r 4 := zu_f1 v4
  have g7 : zq_ev rq (0, [(5, 1)]) = r 5 := zu_f1 v5
  have g8 : zq_ev rq (0, [(6, 1)]) = r 6 := zu_f1 v6
  have g9 : zq_ev rq (0, [(7, 1)]) = r 7 := zu_f1 v7
  have g10 : zq_ev rq (0, [(8, 1)]) = r 8 := zu_f1 v8
  exact ⟨_, List.mem_cons_self .., rq, hr, zq_MeS_mk rfl hT (zq_all_nil) zq_fan (zq_fan) rfl (zu_fac ((x_SL _ _ _).mpr (by show ze_SL (zq_ev rq (9, [])) (zq_ev rq (10, [])) (zq_ev rq (0, [(0, 1)])) (zq_ev rq (0, [(1, 1)])) (zq_ev rq (0, [(2, 1)])) (zq_ev rq (0, [(3, 1)])) (zq_ev rq (0, [(4, 1)])) (zq_ev rq (0, [(5, 1)])) (zq_ev rq (0, [(6, 1)])) (zq_ev rq (0, [(7, 1)])) (zq_ev rq (0, [(8, 1)])) P h; simp only [g0, g1, g10, g2, g3, g4, g5, g6, g7, g8, g9]; exact t1)) zq_fan)⟩
noncomputable def ze_m10 : zq_S × List zq_S := (([], [], [], [], [], [], [(221, [(8, []), (0, [(0, 1)]), (0, [(1, 1)]), (0, [(2, 1)]), (0, [(3, 1)])])], 4), [([], [], [], [], [], [], [(223, [(9, []), (10, []), (0, [(0, 1)]), (0, [(1, 1)]), (0, [(2, 1)]), (0, [(3, 1)])])], 4)])
theorem ze_m10_l {P : zq_Ty} {h : zq_H} {g n p q : Int} (k1 : ze_TT 8 g n p q P h) : (ze_TL 9 10 g n p q P h) := by
  intro e h2
  exact zt_two (k := 10) (k1 := 8) (k2 := 9) (fun R => rfl) k1 h2
theorem ze_m10_ok {w : zq_Wd} (x_TT : zj_is w 221 (fun q => ze_TT (q 0) (q 1) (q 2) (q 3) (q 4))) (x_TL : zj_is w 223 (fun q => ze_TL (q 0) (q 1) (q 2) (q 3) (q 4) (q 5))) : zq_okG1 w ze_m10 := by
  refine ⟨rfl, rfl, zu_fac ⟨rfl, by decide⟩ zq_fan, ?_⟩
  intro r P h H hM
  have q0 : zq_ev r (8, []) = 8 := zu_e0 _ _
  have q1 : zq_ev r (0, [(0, 1)]) = r 0 := zu_e1 _ _
  have q2 : zq_ev r (0, [(1, 1)]) = r 1 := zu_e1 _ _
  have q3 : zq_ev r (0, [(2, 1)]) = r 2 := zu_e1 _ _
  have q4 : zq_ev r (0, [(3, 1)]) = r 3 := zu_e1 _ _
  obtain ⟨hT, hC, hF, hS, -, hK⟩ := hM
  have c := hC.1
  have k1 := zj_use x_TT (hK)
  have k1 : ze_TT (zq_ev r (8, [])) (zq_ev r (0, [(0, 1)])) (zq_ev r (0, [(1, 1)])) (zq_ev r (0, [(2, 1)])) (zq_ev r (0, [(3, 1)])) P h := k1
  simp only [q0, q1, q2, q3, q4] at k1
  obtain t1 := ze_m10_l (P := P) (h := h) (g := r 0) (n := r 1) (p := r 2) (q := r 3) k1
  obtain ⟨rq, hr⟩ : ∃ rq : Nat → Int, (∀ i, i < 4 → rq i = r i) := ⟨r, fun i hi => rfl⟩
  have v0 : rq 0 = r 0 := hr 0 (by decide)
  have v1 : rq 1 = r 1 := hr 1 (by decide)
  have v2 : rq 2 = r 2 := hr 2 (by decide)
  have v3 : rq 3 = r 3 := hr 3 (by decide)
  have g0 : zq_ev rq (9, []) = 9 := zu_e0 _ _
  have g1 : zq_ev rq (10, []) = 10 := zu_e0 _ _
  have g2 : zq_ev rq (0, [(0, 1)]) = r 0 := zu_f1 v0
  have g3 : zq_ev rq (0, [(1, 1)]) = r 1 := zu_f1 v1
  have g4 : zq_ev rq (0, [(2, 1)]) = r 2 := zu_f1 v2
  have g5 : zq_ev rq (0, [(3, 1)]) = r 3 := zu_f1 v3
  exact ⟨_, List.mem_cons_self .., rq, hr, zq_MeS_mk rfl hT (zq_all_nil) zq_fan (zq_fan) rfl (zu_fac ((x_TL _ _ _).mpr (by show ze_TL (zq_ev rq (9, [])) (zq_ev rq (10, [])) (zq_ev rq (0, [(0, 1)])) (zq_ev rq (0, [(1, 1)])) (zq_ev rq (0, [(2, 1)])) (zq_ev rq (0, [(3, 1)])) P h; simp only [g0, g1, g2, g3, g4, g5]; exact t1)) zq_fan)⟩
noncomputable def ze_n0 : zq_S × List zq_S := (([], [], [], [], [], [], [], 6), [([], [], [], [], [], [], [(222, [(6, []), (6, []), (0, [(0, 1)]), (0, [(1, 1)]), (0, [(2, 1)]), (0, [(3, 1)]), (0, [(4, 1)]), (0, [(5, 1)]), (0, []), (0, [(4, 1)]), (0, [(5, 1)])])], 6)])
theorem ze_n0_l {P : zq_Ty} {h : zq_H} {g n o W b p : Int}  : (ze_SL 6 6 g n o W b p 0 b p P h) := by
  intro r d e h2
  exact h2
theorem ze_n0_ok {w : zq_Wd} (x_SL : zj_is w 222 (fun q => ze_SL (q 0) (q 1) (q 2) (q 3) (q 4) (q 5) (q 6) (q 7) (q 8) (q 9) (q 10))) : zq_okG1 w ze_n0 := by
  refine ⟨rfl, rfl, zu_fac ⟨rfl, by decide⟩ zq_fan, ?_⟩
  intro r P h H hM
  obtain ⟨hT, hC, hF, hS, -, hK⟩ := hM
  have c := hC.1
  obtain t1 := ze_n0_l (P := P) (h := h) (g := r 0) (n := r 1) (o := r 2) (W := r 3) (b := r 4) (p := r 5) 
  obtain ⟨rq, hr⟩ : ∃ rq : Nat → Int, (∀ i, i < 6 → rq i = r i) := ⟨r, fun i hi => rfl⟩
  have v0 : rq 0 = r 0 := hr 0 (by decide)
  have v1 : rq 1 = r 1 := hr 1 (by decide)
  have v2 : rq 2 = r 2 := hr 2 (by decide)
  have v3 : rq 3 = r 3 := hr 3 (by decide)
  have v4 : rq 4 = r 4 := hr 4 (by decide)
  have v5 : rq 5 = r 5 := hr 5 (by decide)
  have g0 : zq_ev rq (6, []) = 6 := zu_e0 _ _
  have g1 : zq_ev rq (0, [(0, 1)]) = r 0 := zu_f1 v0
  have g2 : zq_ev rq (0, [(1, 1)]) = r 1 := zu_f1 v1
  have g3 : zq_ev rq (0, [(2, 1)]) = r 2 := zu_f1 v2
  have g4 : zq_ev rq (0, [(3, 1)]) = r 3 := zu_f1 v3
  have g5 : zq_ev rq (0, [(4, 1)]) = r 4 := zu_f1 v4
  have g6 : zq_ev rq (0, [(5, 1)]) = r 5 := zu_f1 v5
  have g7 : zq_ev rq (0, []) = 0 := zu_e0 _ _
  exact ⟨_, List.mem_cons_self .., rq, hr, zq_MeS_mk rfl hT (zq_all_nil) zq_fan (zq_fan) rfl (zu_fac ((x_SL _ _ _).mpr (by show ze_SL (zq_ev rq (6, [])) (zq_ev rq (6, [])) (zq_ev rq (0, [(0, 1)])) (zq_ev rq (0, [(1, 1)])) (zq_ev rq (0, [(2, 1)])) (zq_ev rq (0, [(3, 1)])) (zq_ev rq (0, [(4, 1)])) (zq_ev rq (0, [(5, 1)])) (zq_ev rq (0, [])) (zq_ev rq (0, [(4, 1)])) (zq_ev rq (0, [(5, 1)])) P h; simp only [g0, g1, g2, g3, g4, g5, g6, g7]; exact t1)) zq_fan)⟩
noncomputable def ze_n0t : zq_S × List zq_S := (([], [], [], [], [], [], [], 3), [([], [], [], [], [], [], [(223, [(6, []), (6, []), (0, [(0, 1)]), (0, [(1, 1)]), (0, [(2, 1)]), (0, [(2, 1)])])], 3)])
theorem ze_n0t_l {P : zq_Ty} {h : zq_H} {g n p : Int}  : (ze_TL 6 6 g n p p P h) := by
  intro e h2
  exact h2
theorem ze_n0t_ok {w : zq_Wd} (x_TL : zj_is w 223 (fun q => ze_TL (q 0) (q 1) (q 2) (q 3) (q 4) (q 5))) : zq_okG1 w ze_n0t := by
  refine ⟨rfl, rfl, zu_fac ⟨rfl, by decide⟩ zq_fan, ?_⟩
  intro r P h H hM
  obtain ⟨hT, hC, hF, hS, -, hK⟩ := hM
  have c := hC.1
  obtain t1 := ze_n0t_l (P := P) (h := h) (g := r 0) (n := r 1) (p := r 2) 
  obtain ⟨rq, hr⟩ : ∃ rq : Nat → Int, (∀ i, i < 3 → rq i = r i) := ⟨r, fun i hi => rfl⟩
  have v0 : rq 0 = r 0 := hr 0 (by decide)
  have v1 : rq 1 = r 1 := hr 1 (by decide)
  have v2 : rq 2 = r 2 := hr 2 (by decide)
  have g0 : zq_ev rq (6, []) = 6 := zu_e0 _ _
  have g1 : zq_ev rq (0, [(0, 1)]) = r 0 := zu_f1 v0
  have g2 : zq_ev rq (0, [(1, 1)]) = r 1 := zu_f1 v1
  have g3 : zq_ev rq (0, [(2, 1)]) = r 2 := zu_f1 v2
  exact ⟨_, List.mem_cons_self .., rq, hr, zq_MeS_mk rfl hT (zq_all_nil) zq_fan (zq_fan) rfl (zu_fac ((x_TL _ _ _).mpr (by show ze_TL (zq_ev rq (6, [])) (zq_ev rq (6, [])) (zq_ev rq (0, [(0, 1)])) (zq_ev rq (0, [(1, 1)])) (zq_ev rq (0, [(2, 1)])) (zq_ev rq (0, [(2, 1)])) P h; simp only [g0, g1, g2, g3]; exact t1)) zq_fan)⟩
noncomputable def ze_n1 : zq_S × List zq_S := (([], [], [], [], [], [], [(222, [(6, []), (6, []), (0, [(0, 1)]), (0, [(1, 1)]), (0, [(2, 1)]), (0, [(3, 1)]), (0, [(4, 1)]), (0, [(5, 1)]), (0, [(6, 1)]), (0, [(7, 1)]), (0, [(8, 1)])]), (224, [(0, [(0, 1)]), (0, [(1, 1)]), (0, [(8, 1)]), (7, [])])], 9), [([], [], [], [], [], [], [(222, [(6, []), (6, []), (0, [(0, 1)]), (0, [(1, 1)]), (0, [(2, 1)]), (0, [(3, 1)]), (0, [(4, 1)]), (0, [(5, 1)]), (1, [(6, -1)]), (0, [(7, 1)]), (1, [(8, 1)])])], 9)])
theorem ze_n1_l {P : zq_Ty} {h : zq_H} {g n o W b p a c q : Int} (k1 : ze_SL 6 6 g n o W b p a c q P h) (k2 : ze_CD g n q 7 P h) : (ze_SL 6 6 g n o W b p (-a + 1) c (q + 1) P h) := by
  intro r d e h2
  have k2 : 7 = ze_c g n q := k2
  refine k1 r d e (ze_pl_n k2.symm ?_)
  rw [show 1 - a = -a + 1 by omega]; exact h2
theorem ze_n1_ok {w : zq_Wd} (x_SL : zj_is w 222 (fun q => ze_SL (q 0) (q 1) (q 2) (q 3) (q 4) (q 5) (q 6) (q 7) (q 8) (q 9) (q 10))) (x_CD : zj_is w 224 (fun q => ze_CD (q 0) (q 1) (q 2) (q 3))) : zq_okG1 w ze_n1 := by
  refine ⟨rfl, rfl, zu_fac ⟨rfl, by decide⟩ zq_fan, ?_⟩
  intro r P h H hM
  have q0 : zq_ev r (6, []) = 6 := zu_e0 _ _
  have q1 : zq_ev r (0, [(0, 1)]) = r 0 := zu_e1 _ _
  have q2 : zq_ev r (0, [(1, 1)]) = r 1 := zu_e1 _ _
  have q3 : zq_ev r (0, [(2, 1)]) = r 2 := zu_e1 _ _
  have q4 : zq_ev r (0, [(3, 1)]) = r 3 := zu_e1 _ _
  have q5 : zq_ev r (0, [(4, 1)]) = r 4 := zu_e1 _ _
  have q6 : zq_ev r (0, [(5, 1)]) = r 5 := zu_e1 _ _
  have q7 : zq_ev r (0, [(6, 1)]) = r 6 := zu_e1 _ _
  have q8 : zq_ev r (0, [(7, 1)]) = r 7 := zu_e1 _ _
  have q9 : zq_ev r (0, [(8, 1)]) = r 8 := zu_e1 _ _
  have q10 : zq_ev r (7, []) = 7 := zu_e0 _ _
  obtain ⟨hT, hC, hF, hS, -, hK⟩ := hM
  have c := hC.1
  have k1 := zj_use x_SL (hK)
  have k1 : ze_SL (zq_ev r (6, [])) (zq_ev r (6, [])) (zq_ev r (0, [(0, 1)])) (zq_ev r (0, [(1, 1)])) (zq_ev r (0, [(2, 1)])) (zq_ev r (0, [(3, 1)])) (zq_ev r (0, [(4, 1)])) (zq_ev r (0, [(5, 1)])) (zq_ev r (0, [(6, 1)])) (zq_ev r (0, [(7, 1)])) (zq_ev r (0, [(8, 1)])) P h := k1
  simp only [q0, q1, q2, q3, q4, q5, q6, q7, q8, q9] at k1
  have k2 := zj_use x_CD (zq_okX_t (hK))
  have k2 : ze_CD (zq_ev r (0, [(0, 1)])) (zq_ev r (0, [(1, 1)])) (zq_ev r (0, [(8, 1)])) (zq_ev r (7, [])) P h := k2
  simp only [q1, q10, q2, q9] at k2
  obtain t1 := ze_n1_l (P := P) (h := h) (g := r 0) (n := r 1) (o := r 2) (W := r 3) (b := r 4) (p := r 5) (a := r 6) (c := r 7) (q := r 8) k1 k2
  obtain ⟨rq, hr⟩ : ∃ rq : Nat → Int, (∀ i, i < 9 → rq i = r i) := ⟨r, fun i hi => rfl⟩
  have v0 : rq 0 = r 0 := hr 0 (by decide)
  have v1 : rq 1 = r 1 := hr 1 (by decide)
  have v2 : rq 2 = r 2 := hr 2 (by decide)
  have v3 : rq 3 = r 3 := hr 3 (by decide)
  have v4 : rq 4 = r 4 := hr 4 (by decide)
  have v5 : rq 5 = r 5 := hr 5 (by decide)
  have v6 : rq 6 = r 6 := hr 6 (by decide)
  have v7 : rq 7 = r 7 := hr 7 (by decide)
  have v8 : rq 8 = r 8 := hr 8 (by decide)
  have g0 : zq_ev rq (6, []) = 6 := zu_e0 _ _
  have g1 : zq_ev rq (0, [(0, 1)]) = r 0 := zu_f1 v0
  have g2 : zq_ev rq (0, [(1, 1)]) = r 1 := zu_f1 v1
  have g3 : zq_ev rq (0, [(2, 1)]) = r 2 := zu_f1 v2
  have g4 : zq_ev rq (0, [(3, 1)]) = r 3 := zu_f1 v3
  have g5 : zq_ev rq (0, [(4, 1)]) = r 4 := zu_f1 v4
  have g6 : zq_ev rq (0, [(5, 1)]) = r 5 := zu_f1 v5
  have g7 : zq_ev rq (1, [(6, -1)]) = -r 6 + 1 := zu_f5 v6 _
  have g8 : zq_ev rq (0, [(7, 1)]) = r 7 := zu_f1 v7
  have g9 : zq_ev rq (1, [(8, 1)]) = r 8 + 1 := zu_f2 v8 _
  exact ⟨_, List.mem_cons_self .., rq, hr, zq_MeS_mk rfl hT (zq_all_nil) zq_fan (zq_fan) rfl (zu_fac ((x_SL _ _ _).mpr (by show ze_SL (zq_ev rq (6, [])) (zq_ev rq (6, [])) (zq_ev rq (0, [(0, 1)])) (zq_ev rq (0, [(1, 1)])) (zq_ev rq (0, [(2, 1)])) (zq_ev rq (0, [(3, 1)])) (zq_ev rq (0, [(4, 1)])) (zq_ev rq (0, [(5, 1)])) (zq_ev rq (1, [(6, -1)])) (zq_ev rq (0, [(7, 1)])) (zq_ev rq (1, [(8, 1)])) P h; simp only [g0, g1, g2, g3, g4, g5, g6, g7, g8, g9]; exact t1)) zq_fan)⟩
noncomputable def ze_n1t : zq_S × List zq_S := (([], [], [], [], [], [], [(223, [(6, []), (6, []), (0, [(0, 1)]), (0, [(1, 1)]), (0, [(2, 1)]), (0, [(3, 1)])]), (224, [(0, [(0, 1)]), (0, [(1, 1)]), (0, [(3, 1)]), (7, [])])], 4), [([], [], [], [], [], [], [(223, [(6, []), (6, []), (0, [(0, 1)]), (0, [(1, 1)]), (0, [(2, 1)]), (1, [(3, 1)])])], 4)])
theorem ze_n1t_l {P : zq_Ty} {h : zq_H} {g n p q : Int} (k1 : ze_TL 6 6 g n p q P h) (k2 : ze_CD g n q 7 P h) : (ze_TL 6 6 g n p (q + 1) P h) := by
  intro e h2
  have k2 : 7 = ze_c g n q := k2
  exact k1 e (zt_pl_n k2.symm h2)
theorem ze_n1t_ok {w : zq_Wd} (x_TL : zj_is w 223 (fun q => ze_TL (q 0) (q 1) (q 2) (q 3) (q 4) (q 5))) (x_CD : zj_is w 224 (fun q => ze_CD (q 0) (q 1) (q 2) (q 3))) : zq_okG1 w ze_n1t := by
  refine ⟨rfl, rfl, zu_fac ⟨rfl, by decide⟩ zq_fan, ?_⟩
  intro r P h H hM
  have q0 : zq_ev r (6, []) = 6 := zu_e0 _ _
  have q1 : zq_ev r (0, [(0, 1)]) = r 0 := zu_e1 _ _
  have q2 : zq_ev r (0, [(1, 1)]) = r 1 := zu_e1 _ _
  have q3 : zq_ev r (0, [(2, 1)]) = r 2 := zu_e1 _ _
  have q4 : zq_ev r (0, [(3, 1)]) = r 3 := zu_e1 _ _
  have q5 : zq_ev r (7, []) = 7 := zu_e0 _ _
  obtain ⟨hT, hC, hF, hS, -, hK⟩ := hM
  have c := hC.1
  have k1 := zj_use x_TL (hK)
  have k1 : ze_TL (zq_ev r (6, [])) (zq_ev r (6, [])) (zq_ev r (0, [(0, 1)])) (zq_ev r (0, [(1, 1)])) (zq_ev r (0, [(2, 1)])) (zq_ev r (0, [(3, 1)])) P h := k1
  simp only [q0, q1, q2, q3, q4] at k1
  have k2 := zj_use x_CD (zq_okX_t (hK))
  have k2 : ze_CD (zq_ev r (0, [(0, 1)])) (zq_ev r (0, [(1, 1)])) (zq_ev r (0, [(3, 1)])) (zq_ev r (7, [])) P h := k2
  simp only [q1, q2, q4, q5] at k2
  obtain t1 := ze_n1t_l (P := P) (h := h) (g := r 0) (n := r 1) (p := r 2) (q := r 3) k1 k2
  obtain ⟨rq, hr⟩ : ∃ rq : Nat → Int, (∀ i, i < 4 → rq i = r i) := ⟨r, fun i hi => rfl⟩
  have v0 : rq 0 = r 0 := hr 0 (by decide)
  have v1 : rq 1 = r 1 := hr 1 (by decide)
  have v2 : rq 2 = r 2 := hr 2 (by decide)
  have v3 : rq 3 = r 3 := hr 3 (by decide)
  have g0 : zq_ev rq (6, []) = 6 := zu_e0 _ _
  have g1 : zq_ev rq (0, [(0, 1)]) = r 0 := zu_f1 v0
  have g2 : zq_ev rq (0, [(1, 1)]) = r 1 := zu_f1 v1
  have g3 : zq_ev rq (0, [(2, 1)]) = r 2 := zu_f1 v2
  have g4 : zq_ev rq (1, [(3, 1)]) = r 3 + 1 := zu_f2 v3 _
  exact ⟨_, List.mem_cons_self .., rq, hr, zq_MeS_mk rfl hT (zq_all_nil) zq_fan (zq_fan) rfl (zu_fac ((x_TL _ _ _).mpr (by show ze_TL (zq_ev rq (6, [])) (zq_ev rq (6, [])) (zq_ev rq (0, [(0, 1)])) (zq_ev rq (0, [(1, 1)])) (zq_ev rq (0, [(2, 1)])) (zq_ev rq (1, [(3, 1)])) P h; simp only [g0, g1, g2, g3, g4]; exact t1)) zq_fan)⟩
noncomputable def ze_n2a0 : zq_S × List zq_S := (([], [], [(6, [(9, -1)]), (0, [(6, -1), (10, 1)]), (0, [(6, 1), (10, -1)])], [], [], [], [(222, [(6, []), (6, []), (0, [(0, 1)]), (0, [(1, 1)]), (0, [(2, 1)]), (0, [(3, 1)]), (0, [(4, 1)]), (0, [(5, 1)]), (0, [(6, 1)]), (0, [(7, 1)]), (0, [(8, 1)])]), (224, [(0, [(0, 1)]), (0, [(1, 1)]), (0, [(8, 1)]), (0, [(9, 1)])]), (220, [(5, []), (0, [(0, 1)]), (0, [(1, 1)]), (0, [(2, 1)]), (0, [(3, 1)]), (0, [(7, 1)]), (0, [(8, 1)]), (0, [(10, 1)]), (0, [(11, 1)]), (0, [(12, 1)])])], 13), [([], [], [], [], [], [], [(220, [(6, []), (0, [(0, 1)]), (0, [(1, 1)]), (0, [(2, 1)]), (0, [(3, 1)]), (0, [(4, 1)]), (0, [(5, 1)]), (0, []), (0, [(11, 1)]), (0, [(12, 1)])])], 13)])
theorem ze_n2a0_l {P : zq_Ty} {h : zq_H} {g n o W b p a c q s r d t : Int} (a1 : 0 ≤ -s + 6) (a2 : 0 ≤ -a + r) (a3 : 0 ≤ a - r) (k1 : ze_SL 6 6 g n o W b p a c q P h) (k2 : ze_CD g n q s P h) (k3 : ze_EV 5 g n o W c q r d t P h) : (ze_EV 6 g n o W b p 0 d t P h) := by
  have k2 : s = ze_c g n q := k2
  have e := k1 _ _ _ (ze_pl_p (acc := a) (by rw [← k2]; omega) k3)
  have x : (ze_bi (!decide (r = a))) = 0 := by rw [decide_eq_true (by omega)]; rfl
  rw [x] at e
  exact e
theorem ze_n2a0_ok {w : zq_Wd} (x_SL : zj_is w 222 (fun q => ze_SL (q 0) (q 1) (q 2) (q 3) (q 4) (q 5) (q 6) (q 7) (q 8) (q 9) (q 10))) (x_CD : zj_is w 224 (fun q => ze_CD (q 0) (q 1) (q 2) (q 3))) (x_EV : zj_is w 220 (fun q => ze_EV (q 0) (q 1) (q 2) (q 3) (q 4) (q 5) (q 6) (q 7) (q 8) (q 9))) : zq_okG1 w ze_n2a0 := by
  refine ⟨rfl, rfl, zu_fac ⟨rfl, by decide⟩ zq_fan, ?_⟩
  intro r P h H hM
  have q0 : zq_ev r (6, [(9, -1)]) = -r 9 + 6 := zu_e5 _ _ _
  have q1 : zq_ev r (0, [(6, -1), (10, 1)]) = -r 6 + r 10 := by simp only [zq_ev, zq_ts] <;> omega
  have q2 : zq_ev r (0, [(6, 1), (10, -1)]) = r 6 - r 10 := by simp only [zq_ev, zq_ts] <;> omega
  have q3 : zq_ev r (6, []) = 6 := zu_e0 _ _
  have q4 : zq_ev r (0, [(0, 1)]) = r 0 := zu_e1 _ _
  have q5 : zq_ev r (0, [(1, 1)]) = r 1 := zu_e1 _ _
  have q6 : zq_ev r (0, [(2, 1)]) = r 2 := zu_e1 _ _
  have q7 : zq_ev r (0, [(3, 1)]) = r 3 := zu_e1 _ _
  have q8 : zq_ev r (0, [(4, 1)]) = r 4 := zu_e1 _ _
  have q9 : zq_ev r (0, [(5, 1)]) = r 5 := zu_e1 _ _
  have q10 : zq_ev r (0, [(6, 1)]) = r 6 := zu_e1 _ _
  have q11 : zq_ev r (0, [(7, 1)]) = r 7 := zu_e1 _ _
  have q12 : zq_ev r (0, [(8, 1)]) = r 8 := zu_e1 _ _
  have q13 : zq_ev r (0, [(9, 1)]) = r 9 := zu_e1 _ _
  have q14 : zq_ev r (5, []) = 5 := zu_e0 _ _
  have q15 : zq_ev r (0, [(10, 1)]) = r 10 := zu_e1 _ _
  have q16 : zq_ev r (0, [(11, 1)]) = r 11 := zu_e1 _ _
  have q17 : zq_ev r (0, [(12, 1)]) = r 12 := zu_e1 _ _
  obtain ⟨hT, hC, hF, hS, -, hK⟩ := hM
  have c := hC.1
  have a1 := zq_all_1 c
  rw [q0] at a1
  have c := zq_all_t c
  have a2 := zq_all_1 c
  rw [q1] at a2
  have c := zq_all_t c
  have a3 := zq_all_1 c
  rw [q2] at a3
  have k1 := zj_use x_SL (hK)
  have k1 : ze_SL (zq_ev r (6, [])) (zq_ev r (6, [])) (zq_ev r (0, [(0, 1)])) (zq_ev r (0, [(1, 1)])) (zq_ev r (0, [(2, 1)])) (zq_ev r (0, [(3, 1)])) (zq_ev r (0, [(4, 1)])) (zq_ev r (0, [(5, 1)])) (zq_ev r (0, [(6, 1)])) (zq_ev r (0, [(7, 1)])) (zq_ev r (0, [(8, 1)])) P h := k1
  simp only [q10, q11, q12, q3, q4, q5, q6, q7, q8, q9] at k1
  have k2 := zj_use x_CD (zq_okX_t (hK))
  have k2 : ze_CD (zq_ev r (0, [(0, 1)])) (zq_ev r (0, [(1, 1)])) (zq_ev r (0, [(8, 1)])) (zq_ev r (0, [(9, 1)])) P h := k2
  simp only [q12, q13, q4, q5] at k2
  have k3 := zj_use x_EV (zq_okX_t (zq_okX_t (hK)))
  have k3 : ze_EV (zq_ev r (5, [])) (zq_ev r (0, [(0, 1)])) (zq_ev r (0, [(1, 1)])) (zq_ev r (0, [(2, 1)])) (zq_ev r (0, [(3, 1)])) (zq_ev r (0, [(7, 1)])) (zq_ev r (0, [(8, 1)])) (zq_ev r (0, [(10, 1)])) (zq_ev r (0, [(11, 1)])) (zq_ev r (0, [(12, 1)])) P h := k3
  simp only [q11, q12, q14, q15, q16, q17, q4, q5, q6, q7] at k3
  obtain t1 := ze_n2a0_l (P := P) (h := h) (g := r 0) (n := r 1) (o := r 2) (W := r 3) (b := r 4) (p := r 5) (a := r 6) (c := r 7) (q := r 8) (s := r 9) (r := r 10) (d := r 11) (t := r 12) a1 a2 a3 k1 k2 k3
  obtain ⟨rq, hr⟩ : ∃ rq : Nat → Int, (∀ i, i < 13 → rq i = r i) := ⟨r, fun i hi => rfl⟩
  have v0 : rq 0 = r 0 := hr 0 (by decide)
  have v1 : rq 1 = r 1 := hr 1 (by decide)
  have v2 : rq 2 = r 2 := hr 2 (by decide)
  have v3 : rq 3 = r 3 := hr 3 (by decide)
  have v4 : rq 4 = r 4 := hr 4 (by decide)
  have v5 : rq 5 = r 5 := hr 5 (by decide)
  have v11 : rq 11 = r 11 := hr 11 (by decide)
  have v12 : rq 12 = r 12 := hr 12 (by decide)
  have g0 : zq_ev rq (6, []) = 6 := zu_e0 _ _
  have g1 : zq_ev rq (0, [(0, 1)]) = r 0 := zu_f1 v0
  have g2 : zq_ev rq (0, [(1, 1)]) = r 1 := zu_f1 v1
  have g3 : zq_ev rq (0, [(2, 1)]) = r 2 := zu_f1 v2
  have g4 : zq_ev rq (0, [(3, 1)]) = r 3 := zu_f1 v3
  have g5 : zq_ev rq (0, [(4, 1)]) = r 4 := zu_f1 v4
  have g6 : zq_ev rq (0, [(5, 1)]) = r 5 := zu_f1 v5
  have g7 : zq_ev rq (0, []) = 0 := zu_e0 _ _
  have g8 : zq_ev rq (0, [(11, 1)]) = r 11 := zu_f1 v11
  have g9 : zq_ev rq (0, [(12, 1)]) = r 12 := zu_f1 v12
  exact ⟨_, List.mem_cons_self .., rq, hr, zq_MeS_mk rfl hT (zq_all_nil) zq_fan (zq_fan) rfl (zu_fac ((x_EV _ _ _).mpr (by show ze_EV (zq_ev rq (6, [])) (zq_ev rq (0, [(0, 1)])) (zq_ev rq (0, [(1, 1)])) (zq_ev rq (0, [(2, 1)])) (zq_ev rq (0, [(3, 1)])) (zq_ev rq (0, [(4, 1)])) (zq_ev rq (0, [(5, 1)])) (zq_ev rq (0, [])) (zq_ev rq (0, [(11, 1)])) (zq_ev rq (0, [(12, 1)])) P h; simp only [g0, g1, g2, g3, g4, g5, g6, g7, g8, g9]; exact t1)) zq_fan)⟩
noncomputable def ze_n2a1 : zq_S × List zq_S := (([], [], [(6, [(9, -1)]), (-1, [(6, -1), (10, 1)])], [], [], [], [(222, [(6, []), (6, []), (0, [(0, 1)]), (0, [(1, 1)]), (0, [(2, 1)]), (0, [(3, 1)]), (0, [(4, 1)]), (0, [(5, 1)]), (0, [(6, 1)]), (0, [(7, 1)]), (0, [(8, 1)])]), (224, [(0, [(0, 1)]), (0, [(1, 1)]), (0, [(8, 1)]), (0, [(9, 1)])]), (220, [(5, []), (0, [(0, 1)]), (0, [(1, 1)]), (0, [(2, 1)]), (0, [(3, 1)]), (0, [(7, 1)]), (0, [(8, 1)]), (0, [(10, 1)]), (0, [(11, 1)]), (0, [(12, 1)])])], 13), [([], [], [], [], [], [], [(220, [(6, []), (0, [(0, 1)]), (0, [(1, 1)]), (0, [(2, 1)]), (0, [(3, 1)]), (0, [(4, 1)]), (0, [(5, 1)]), (1, []), (0, [(11, 1)]), (0, [(12, 1)])])], 13)])
theorem ze_n2a1_l {P : zq_Ty} {h : zq_H} {g n o W b p a c q s r d t : Int} (a1 : 0 ≤ -s + 6) (a2 : 0 ≤ -a + r - 1) (k1 : ze_SL 6 6 g n o W b p a c q P h) (k2 : ze_CD g n q s P h) (k3 : ze_EV 5 g n o W c q r d t P h) : (ze_EV 6 g n o W b p 1 d t P h) := by
  have k2 : s = ze_c g n q := k2
  have e := k1 _ _ _ (ze_pl_p (acc := a) (by rw [← k2]; omega) k3)
  have x : (ze_bi (!decide (r = a))) = 1 := by rw [decide_eq_false (by omega)]; rfl
  rw [x] at e
  exact e
theorem ze_n2a1_ok {w : zq_Wd} (x_SL : zj_is w 222 (fun q => ze_SL (q 0) (q 1) (q 2) (q 3) (q 4) (q 5) (q 6) (q 7) (q 8) (q 9) (q 10))) (x_CD : zj_is w 224 (fun q => ze_CD (q 0) (q 1) (q 2) (q 3))) (x_EV : zj_is w 220 (fun q => ze_EV (q 0) (q 1) (q 2) (q 3) (q 4) (q 5) (q 6) (q 7) (q 8) (q 9))) : zq_okG1 w ze_n2a1 := by
  refine ⟨rfl, rfl, zu_fac ⟨rfl, by decide⟩ zq_fan, ?_⟩
  intro r P h H hM
  have q0 : zq_ev r (6, [(9, -1)]) = -r 9 + 6 := zu_e5 _ _ _
  have q1 : zq_ev r (-1, [(6, -1), (10, 1)]) = -r 6 + r 10 - 1 := by simp only [zq_ev, zq_ts] <;> omega
  have q2 : zq_ev r (6, []) = 6 := zu_e0 _ _
  have q3 : zq_ev r (0, [(0, 1)]) = r 0 := zu_e1 _ _
  have q4 : zq_ev r (0, [(1, 1)]) = r 1 := zu_e1 _ _
  have q5 : zq_ev r (0, [(2, 1)]) = r 2 := zu_e1 _ _
  have q6 : zq_ev r (0, [(3, 1)]) = r 3 := zu_e1 _ _
  have q7 : zq_ev r (0, [(4, 1)]) = r 4 := zu_e1 _ _
  have q8 : zq_ev r (0, [(5, 1)]) = r 5 := zu_e1 _ _
  have q9 : zq_ev r (0, [(6, 1)]) = r 6 := zu_e1 _ _
  have q10 : zq_ev r (0, [(7, 1)]) = r 7 := zu_e1 _ _
  have q11 : zq_ev r (0, [(8, 1)]) = r 8 := zu_e1 _ _
  have q12 : zq_ev r (0, [(9, 1)]) = r 9 := zu_e1 _ _
  have q13 : zq_ev r (5, []) = 5 := zu_e0 _ _
  have q14 : zq_ev r (0, [(10, 1)]) = r 10 := zu_e1 _ _
  have q15 : zq_ev r (0, [(11, 1)]) = r 11 := zu_e1 _ _
  have q16 : zq_ev r (0, [(12, 1)]) = r 12 := zu_e1 _ _
  obtain ⟨hT, hC, hF, hS, -, hK⟩ := hM
  have c := hC.1
  have a1 := zq_all_1 c
  rw [q0] at a1
  have c := zq_all_t c
  have a2 := zq_all_1 c
  rw [q1] at a2
  have k1 := zj_use x_SL (hK)
  have k1 : ze_SL (zq_ev r (6, [])) (zq_ev r (6, [])) (zq_ev r (0, [(0, 1)])) (zq_ev r (0, [(1, 1)])) (zq_ev r (0, [(2, 1)])) (zq_ev r (0, [(3, 1)])) (zq_ev r (0, [(4, 1)])) (zq_ev r (0, [(5, 1)])) (zq_ev r (0, [(6, 1)])) (zq_ev r (0, [(7, 1)])) (zq_ev r (0, [(8, 1)])) P h := k1
  simp only [q10, q11, q2, q3, q4, q5, q6, q7, q8, q9] at k1
  have k2 := zj_use x_CD (zq_okX_t (hK))
  have k2 : ze_CD (zq_ev r (0, [(0, 1)])) (zq_ev r (0, [(1, 1)])) (zq_ev r (0, [(8, 1)])) (zq_ev r (0, [(9, 1)])) P h := k2
  simp only [q11, q12, q3, q4] at k2
  have k3 := zj_use x_EV (zq_okX_t (zq_okX_t (hK)))
  have k3 : ze_EV (zq_ev r (5, [])) (zq_ev r (0, [(0, 1)])) (zq_ev r (0, [(1, 1)])) (zq_ev r (0, [(2, 1)])) (zq_ev r (0, [(3, 1)])) (zq_ev r (0, [(7, 1)])) (zq_ev r (0, [(8, 1)])) (zq_ev r (0, [(10, 1)])) (zq_ev r (0, [(11, 1)])) (zq_ev r (0, [(12, 1)])) P h := k3
  simp only [q10, q11, q13, q14, q15, q16, q3, q4, q5, q6] at k3
  obtain t1 := ze_n2a1_l (P := P) (h := h) (g := r 0) (n := r 1) (o := r 2) (W := r 3) (b := r 4) (p := r 5) (a := r 6) (c := r 7) (q := r 8) (s := r 9) (r := r 10) (d := r 11) (t := r 12) a1 a2 k1 k2 k3
  obtain ⟨rq, hr⟩ : ∃ rq : Nat → Int, (∀ i, i < 13 → rq i = r i) := ⟨r, fun i hi => rfl⟩
  have v0 : rq 0 = r 0 := hr 0 (by decide)
  have v1 : rq 1 = r 1 := hr 1 (by decide)
  have v2 : rq 2 = r 2 := hr 2 (by decide)
  have v3 : rq 3 = r 3 := hr 3 (by decide)
  have v4 : rq 4 = r 4 := hr 4 (by decide)
  have v5 : rq 5 = r 5 := hr 5 (by decide)
  have v11 : rq 11 = r 11 := hr 11 (by decide)
  have v12 : rq 12 = r 12 := hr 12 (by decide)
  have g0 : zq_ev rq (6, []) = 6 := zu_e0 _ _
  have g1 : zq_ev rq (0, [(0, 1)]) = r 0 := zu_f1 v0
  have g2 : zq_ev rq (0, [(1, 1)]) = r 1 := zu_f1 v1
  have g3 : zq_ev rq (0, [(2, 1)]) = r 2 := zu_f1 v2
  have g4 : zq_ev rq (0, [(3, 1)]) = r 3 := zu_f1 v3
  have g5 : zq_ev rq (0, [(4, 1)]) = r 4 := zu_f1 v4
  have g6 : zq_ev rq (0, [(5, 1)]) = r 5 := zu_f1 v5
  have g7 : zq_ev rq (1, []) = 1 := zu_e0 _ _
  have g8 : zq_ev rq (0, [(11, 1)]) = r 11 := zu_f1 v11
  have g9 : zq_ev rq (0, [(12, 1)]) = r 12 := zu_f1 v12
  exact ⟨_, List.mem_cons_self .., rq, hr, zq_MeS_mk rfl hT (zq_all_nil) zq_fan (zq_fan) rfl (zu_fac ((x_EV _ _ _).mpr (by show ze_EV (zq_ev rq (6, [])) (zq_ev rq (0, [(0, 1)])) (zq_ev rq (0, [(1, 1)])) (zq_ev rq (0, [(2, 1)])) (zq_ev rq (0, [(3, 1)])) (zq_ev rq (0, [(4, 1)])) (zq_ev rq (0, [(5, 1)])) (zq_ev rq (1, [])) (zq_ev rq (0, [(11, 1)])) (zq_ev rq (0, [(12, 1)])) P h; simp only [g0, g1, g2, g3, g4, g5, g6, g7, g8, g9]; exact t1)) zq_fan)⟩
noncomputable def ze_n2a2 : zq_S × List zq_S := (([], [], [(6, [(9, -1)]), (-1, [(6, 1), (10, -1)])], [], [], [], [(222, [(6, []), (6, []), (0, [(0, 1)]), (0, [(1, 1)]), (0, [(2, 1)]), (0, [(3, 1)]), (0, [(4, 1)]), (0, [(5, 1)]), (0, [(6, 1)]), (0, [(7, 1)]), (0, [(8, 1)])]), (224, [(0, [(0, 1)]), (0, [(1, 1)]), (0, [(8, 1)]), (0, [(9, 1)])]), (220, [(5, []), (0, [(0, 1)]), (0, [(1, 1)]), (0, [(2, 1)]), (0, [(3, 1)]), (0, [(7, 1)]), (0, [(8, 1)]), (0, [(10, 1)]), (0, [(11, 1)]), (0, [(12, 1)])])], 13), [([], [], [], [], [], [], [(220, [(6, []), (0, [(0, 1)]), (0, [(1, 1)]), (0, [(2, 1)]), (0, [(3, 1)]), (0, [(4, 1)]), (0, [(5, 1)]), (1, []), (0, [(11, 1)]), (0, [(12, 1)])])], 13)])
theorem ze_n2a2_l {P : zq_Ty} {h : zq_H} {g n o W b p a c q s r d t : Int} (a1 : 0 ≤ -s + 6) (a2 : 0 ≤ a - r - 1) (k1 : ze_SL 6 6 g n o W b p a c q P h) (k2 : ze_CD g n q s P h) (k3 : ze_EV 5 g n o W c q r d t P h) : (ze_EV 6 g n o W b p 1 d t P h) := by
  have k2 : s = ze_c g n q := k2
  have e := k1 _ _ _ (ze_pl_p (acc := a) (by rw [← k2]; omega) k3)
  have x : (ze_bi (!decide (r = a))) = 1 := by rw [decide_eq_false (by omega)]; rfl
  rw [x] at e
  exact e
theorem ze_n2a2_ok {w : zq_Wd} (x_SL : zj_is w 222 (fun q => ze_SL (q 0) (q 1) (q 2) (q 3) (q 4) (q 5) (q 6) (q 7) (q 8) (q 9) (q 10))) (x_CD : zj_is w 224 (fun q => ze_CD (q 0) (q 1) (q 2) (q 3))) (x_EV : zj_is w 220 (fun q => ze_EV (q 0) (q 1) (q 2) (q 3) (q 4) (q 5) (q 6) (q 7) (q 8) (q 9))) : zq_okG1 w ze_n2a2 := by
  refine ⟨rfl, rfl, zu_fac ⟨rfl, by decide⟩ zq_fan, ?_⟩
  intro r P h H hM
  have q0 : zq_ev r (6, [(9, -1)]) = -r 9 + 6 := zu_e5 _ _ _
  have q1 : zq_ev r (-1, [(6, 1), (10, -1)]) = r 6 - r 10 - 1 := by simp only [zq_ev, zq_ts] <;> omega
  have q2 : zq_ev r (6, []) = 6 := zu_e0 _ _
  have q3 : zq_ev r (0, [(0, 1)]) = r 0 := zu_e1 _ _
  have q4 : zq_ev r (0, [(1, 1)]) = r 1 := zu_e1 _ _
  have q5 : zq_ev r (0, [(2, 1)]) = r 2 := zu_e1 _ _
  have q6 : zq_ev r (0, [(3, 1)]) = r 3 := zu_e1 _ _
  have q7 : zq_ev r (0, [(4, 1)]) = r 4 := zu_e1 _ _
  have q8 : zq_ev r (0, [(5, 1)]) = r 5 := zu_e1 _ _
  have q9 : zq_ev r (0, [(6, 1)]) = r 6 := zu_e1 _ _
  have q10 : zq_ev r (0, [(7, 1)]) = r 7 := zu_e1 _ _
  have q11 : zq_ev r (0, [(8, 1)]) = r 8 := zu_e1 _ _
  have q12 : zq_ev r (0, [(9, 1)]) = r 9 := zu_e1 _ _
  have q13 : zq_ev r (5, []) = 5 := zu_e0 _ _
  have q14 : zq_ev r (0, [(10, 1)]) = r 10 := zu_e1 _ _
  have q15 : zq_ev r (0, [(11, 1)]) = r 11 := zu_e1 _ _
  have q16 : zq_ev r (0, [(12, 1)]) = r 12 := zu_e1 _ _
  obtain ⟨hT, hC, hF, hS, -, hK⟩ := hM
  have c := hC.1
  have a1 := zq_all_1 c
  rw [q0] at a1
  have c := zq_all_t c
  have a2 := zq_all_1 c
  rw [q1] at a2
  have k1 := zj_use x_SL (hK)
  have k1 : ze_SL (zq_ev r (6, [])) (zq_ev r (6, [])) (zq_ev r (0, [(0, 1)])) (zq_ev r (0, [(1, 1)])) (zq_ev r (0, [(2, 1)])) (zq_ev r (0, [(3, 1)])) (zq_ev r (0, [(4, 1)])) (zq_ev r (0, [(5, 1)])) (zq_ev r (0, [(6, 1)])) (zq_ev r (0, [(7, 1)])) (zq_ev r (0, [(8, 1)])) P h := k1
  simp only [q10, q11, q2, q3, q4, q5, q6, q7, q8, q9] at k1
  have k2 := zj_use x_CD (zq_okX_t (hK))
  have k2 : ze_CD (zq_ev r (0, [(0, 1)])) (zq_ev r (0, [(1, 1)])) (zq_ev r (0, [(8, 1)])) (zq_ev r (0, [(9, 1)])) P h := k2
  simp only [q11, q12, q3, q4] at k2
  have k3 := zj_use x_EV (zq_okX_t (zq_okX_t (hK)))
  have k3 : ze_EV (zq_ev r (5, [])) (zq_ev r (0, [(0, 1)])) (zq_ev r (0, [(1, 1)])) (zq_ev r (0, [(2, 1)])) (zq_ev r (0, [(3, 1)])) (zq_ev r (0, [(7, 1)])) (zq_ev r (0, [(8, 1)])) (zq_ev r (0, [(10, 1)])) (zq_ev r (0, [(11, 1)])) (zq_ev r (0, [(12, 1)])) P h := k3
  simp only [q10, q11, q13, q14, q15, q16, q3, q4, q5, q6] at k3
  obtain t1 := ze_n2a2_l (P := P) (h := h) (g := r 0) (n := r 1) (o := r 2) (W := r 3) (b := r 4) (p := r 5) (a := r 6) (c := r 7) (q := r 8) (s := r 9) (r := r 10) (d := r 11) (t := r 12) a1 a2 k1 k2 k3
  obtain ⟨rq, hr⟩ : ∃ rq : Nat → Int, (∀ i, i < 13 → rq i = r i) := ⟨r, fun i hi => rfl⟩
  have v0 : rq 0 = r 0 := hr 0 (by decide)
  have v1 : rq 1 = r 1 := hr 1 (by decide)
  have v2 : rq 2 = r 2 := hr 2 (by decide)
  have v3 : rq 3 = r 3 := hr 3 (by decide)
  have v4 : rq 4 = r 4 := hr 4 (by decide)
  have v5 : rq 5 = r 5 := hr 5 (by decide)
  have v11 : rq 11 = r 11 := hr 11 (by decide)
  have v12 : rq 12 = r 12 := hr 12 (by decide)
  have g0 : zq_ev rq (6, []) = 6 := zu_e0 _ _
  have g1 : zq_ev rq (0, [(0, 1)]) = r 0 := zu_f1 v0
  have g2 : zq_ev rq (0, [(1, 1)]) = r 1 := zu_f1 v1
  have g3 : zq_ev rq (0, [(2, 1)]) = r 2 := zu_f1 v2
  have g4 : zq_ev rq (0, [(3, 1)]) = r 3 := zu_f1 v3
  have g5 : zq_ev rq (0, [(4, 1)]) = r 4 := zu_f1 v4
  have g6 : zq_ev rq (0, [(5, 1)]) = r 5 := zu_f1 v5
  have g7 : zq_ev rq (1, []) = 1 := zu_e0 _ _
  have g8 : zq_ev rq (0, [(11, 1)]) = r 11 := zu_f1 v11
  have g9 : zq_ev rq (0, [(12, 1)]) = r 12 := zu_f1 v12
  exact ⟨_, List.mem_cons_self .., rq, hr, zq_MeS_mk rfl hT (zq_all_nil) zq_fan (zq_fan) rfl (zu_fac ((x_EV _ _ _).mpr (by show ze_EV (zq_ev rq (6, [])) (zq_ev rq (0, [(0, 1)])) (zq_ev rq (0, [(1, 1)])) (zq_ev rq (0, [(2, 1)])) (zq_ev rq (0, [(3, 1)])) (zq_ev rq (0, [(4, 1)])) (zq_ev rq (0, [(5, 1)])) (zq_ev rq (1, [])) (zq_ev rq (0, [(11, 1)])) (zq_ev rq (0, [(12, 1)])) P h; simp only [g0, g1, g2, g3, g4, g5, g6, g7, g8, g9]; exact t1)) zq_fan)⟩
noncomputable def ze_n2ta : zq_S × List zq_S := (([], [], [(6, [(4, -1)])], [], [], [], [(223, [(6, []), (6, []), (0, [(0, 1)]), (0, [(1, 1)]), (0, [(2, 1)]), (0, [(3, 1)])]), (224, [(0, [(0, 1)]), (0, [(1, 1)]), (0, [(3, 1)]), (0, [(4, 1)])]), (221, [(5, []), (0, [(0, 1)]), (0, [(1, 1)]), (0, [(3, 1)]), (0, [(5, 1)])])], 6), [([], [], [], [], [], [], [(221, [(6, []), (0, [(0, 1)]), (0, [(1, 1)]), (0, [(2, 1)]), (0, [(5, 1)])])], 6)])
theorem ze_n2ta_l {P : zq_Ty} {h : zq_H} {g n p q s t : Int} (a1 : 0 ≤ -s + 6) (k1 : ze_TL 6 6 g n p q P h) (k2 : ze_CD g n q s P h) (k3 : ze_TT 5 g n q t P h) : (ze_TT 6 g n p t P h) := by
  have k2 : s = ze_c g n q := k2
  exact k1 t (zt_pl_p (by rw [← k2]; omega) k3)
theorem ze_n2ta_ok {w : zq_Wd} (x_TL : zj_is w 223 (fun q => ze_TL (q 0) (q 1) (q 2) (q 3) (q 4) (q 5))) (x_CD : zj_is w 224 (fun q => ze_CD (q 0) (q 1) (q 2) (q 3))) (x_TT : zj_is w 221 (fun q => ze_TT (q 0) (q 1) (q 2) (q 3) (q 4))) : zq_okG1 w ze_n2ta := by
  refine ⟨rfl, rfl, zu_fac ⟨rfl, by decide⟩ zq_fan, ?_⟩
  intro r P h H hM
  have q0 : zq_ev r (6, [(4, -1)]) = -r 4 + 6 := zu_e5 _ _ _
  have q1 : zq_ev r (6, []) = 6 := zu_e0 _ _
  have q2 : zq_ev r (0, [(0, 1)]) = r 0 := zu_e1 _ _
  have q3 : zq_ev r (0, [(1, 1)]) = r 1 := zu_e1 _ _
  have q4 : zq_ev r (0, [(2, 1)]) = r 2 := zu_e1 _ _
  have q5 : zq_ev r (0, [(3, 1)]) = r 3 := zu_e1 _ _
  have q6 : zq_ev r (0, [(4, 1)]) = r 4 := zu_e1 _ _
  have q7 : zq_ev r (5, []) = 5 := zu_e0 _ _
  have q8 : zq_ev r (0, [(5, 1)]) = r 5 := zu_e1 _ _
  obtain ⟨hT, hC, hF, hS, -, hK⟩ := hM
  have c := hC.1
  have a1 := zq_all_1 c
  rw [q0] at a1
  have k1 := zj_use x_TL (hK)
  have k1 : ze_TL (zq_ev r (6, [])) (zq_ev r (6, [])) (zq_ev r (0, [(0, 1)])) (zq_ev r (0, [(1, 1)])) (zq_ev r (0, [(2, 1)])) (zq_ev r (0, [(3, 1)])) P h := k1
  simp only [q1, q2, q3, q4, q5] at k1
  have k2 := zj_use x_CD (zq_okX_t (hK))
  have k2 : ze_CD (zq_ev r (0, [(0, 1)])) (zq_ev r (0, [(1, 1)])) (zq_ev r (0, [(3, 1)])) (zq_ev r (0, [(4, 1)])) P h := k2
  simp only [q2, q3, q5, q6] at k2
  have k3 := zj_use x_TT (zq_okX_t (zq_okX_t (hK)))
  have k3 : ze_TT (zq_ev r (5, [])) (zq_ev r (0, [(0, 1)])) (zq_ev r (0, [(1, 1)])) (zq_ev r (0, [(3, 1)])) (zq_ev r (0, [(5, 1)])) P h := k3
  simp only [q2, q3, q5, q7, q8] at k3
  obtain t1 := ze_n2ta_l (P := P) (h := h) (g := r 0) (n := r 1) (p := r 2) (q := r 3) (s := r 4) (t := r 5) a1 k1 k2 k3
  obtain ⟨rq, hr⟩ : ∃ rq : Nat → Int, (∀ i, i < 6 → rq i = r i) := ⟨r, fun i hi => rfl⟩
  have v0 : rq 0 = r 0 := hr 0 (by decide)
  have v1 : rq 1 = r 1 := hr 1 (by decide)
  have v2 : rq 2 = r 2 := hr 2 (by decide)
  have v5 : rq 5 = r 5 := hr 5 (by decide)
  have g0 : zq_ev rq (6, []) = 6 := zu_e0 _ _
  have g1 : zq_ev rq (0, [(0, 1)]) = r 0 := zu_f1 v0
  have g2 : zq_ev rq (0, [(1, 1)]) = r 1 := zu_f1 v1
  have g3 : zq_ev rq (0, [(2, 1)]) = r 2 := zu_f1 v2
  have g4 : zq_ev rq (0, [(5, 1)]) = r 5 := zu_f1 v5
  exact ⟨_, List.mem_cons_self .., rq, hr, zq_MeS_mk rfl hT (zq_all_nil) zq_fan (zq_fan) rfl (zu_fac ((x_TT _ _ _).mpr (by show ze_TT (zq_ev rq (6, [])) (zq_ev rq (0, [(0, 1)])) (zq_ev rq (0, [(1, 1)])) (zq_ev rq (0, [(2, 1)])) (zq_ev rq (0, [(5, 1)])) P h; simp only [g0, g1, g2, g3, g4]; exact t1)) zq_fan)⟩
noncomputable def ze_n2b0 : zq_S × List zq_S := (([], [], [(-8, [(9, 1)]), (0, [(6, -1), (10, 1)]), (0, [(6, 1), (10, -1)])], [], [], [], [(222, [(6, []), (6, []), (0, [(0, 1)]), (0, [(1, 1)]), (0, [(2, 1)]), (0, [(3, 1)]), (0, [(4, 1)]), (0, [(5, 1)]), (0, [(6, 1)]), (0, [(7, 1)]), (0, [(8, 1)])]), (224, [(0, [(0, 1)]), (0, [(1, 1)]), (0, [(8, 1)]), (0, [(9, 1)])]), (220, [(5, []), (0, [(0, 1)]), (0, [(1, 1)]), (0, [(2, 1)]), (0, [(3, 1)]), (0, [(7, 1)]), (0, [(8, 1)]), (0, [(10, 1)]), (0, [(11, 1)]), (0, [(12, 1)])])], 13), [([], [], [], [], [], [], [(220, [(6, []), (0, [(0, 1)]), (0, [(1, 1)]), (0, [(2, 1)]), (0, [(3, 1)]), (0, [(4, 1)]), (0, [(5, 1)]), (0, []), (0, [(11, 1)]), (0, [(12, 1)])])], 13)])
theorem ze_n2b0_l {P : zq_Ty} {h : zq_H} {g n o W b p a c q s r d t : Int} (a1 : 0 ≤ s - 8) (a2 : 0 ≤ -a + r) (a3 : 0 ≤ a - r) (k1 : ze_SL 6 6 g n o W b p a c q P h) (k2 : ze_CD g n q s P h) (k3 : ze_EV 5 g n o W c q r d t P h) : (ze_EV 6 g n o W b p 0 d t P h) := by
  have k2 : s = ze_c g n q := k2
  have e := k1 _ _ _ (ze_pl_p (acc := a) (by rw [← k2]; omega) k3)
  have x : (ze_bi (!decide (r = a))) = 0 := by rw [decide_eq_true (by omega)]; rfl
  rw [x] at e
  exact e
theorem ze_n2b0_ok {w : zq_Wd} (x_SL : zj_is w 222 (fun q => ze_SL (q 0) (q 1) (q 2) (q 3) (q 4) (q 5) (q 6) (q 7) (q 8) (q 9) (q 10))) (x_CD : zj_is w 224 (fun q => ze_CD (q 0) (q 1) (q 2) (q 3))) (x_EV : zj_is w 220 (fun q => ze_EV (q 0) (q 1) (q 2) (q 3) (q 4) (q 5) (q 6) (q 7) (q 8) (q 9))) : zq_okG1 w ze_n2b0 := by
  refine ⟨rfl, rfl, zu_fac ⟨rfl, by decide⟩ zq_fan, ?_⟩
  intro r P h H hM
  have q0 : zq_ev r (-8, [(9, 1)]) = r 9 - 8 := zu_e3 _ _ _
  have q1 : zq_ev r (0, [(6, -1), (10, 1)]) = -r 6 + r 10 := by simp only [zq_ev, zq_ts] <;> omega
  have q2 : zq_ev r (0, [(6, 1), (10, -1)]) = r 6 - r 10 := by simp only [zq_ev, zq_ts] <;> omega
  have q3 : zq_ev r (6, []) = 6 := zu_e0 _ _
  have q4 : zq_ev r (0, [(0, 1)]) = r 0 := zu_e1 _ _
  have q5 : zq_ev r (0, [(1, 1)]) = r 1 := zu_e1 _ _
  have q6 : zq_ev r (0, [(2, 1)]) = r 2 := zu_e1 _ _
  have q7 : zq_ev r (0, [(3, 1)]) = r 3 := zu_e1 _ _
  have q8 : zq_ev r (0, [(4, 1)]) = r 4 := zu_e1 _ _
  have q9 : zq_ev r (0, [(5, 1)]) = r 5 := zu_e1 _ _
  have q10 : zq_ev r (0, [(6, 1)]) = r 6 := zu_e1 _ _
  have q11 : zq_ev r (0, [(7, 1)]) = r 7 := zu_e1 _ _
  have q12 : zq_ev r (0, [(8, 1)]) = r 8 := zu_e1 _ _
  have q13 : zq_ev r (0, [(9, 1)]) = r 9 := zu_e1 _ _
  have q14 : zq_ev r (5, []) = 5 := zu_e0 _ _
  have q15 : zq_ev r (0, [(10, 1)]) = r 10 := zu_e1 _ _
  have q16 : zq_ev r (0, [(11, 1)]) = r 11 := zu_e1 _ _
  have q17 : zq_ev r (0, [(12, 1)]) = r 12 := zu_e1 _ _
  obtain ⟨hT, hC, hF, hS, -, hK⟩ := hM
  have c := hC.1
  have a1 := zq_all_1 c
  rw [q0] at a1
  have c := zq_all_t c
  have a2 := zq_all_1 c
  rw [q1] at a2
  have c := zq_all_t c
  have a3 := zq_all_1 c
  rw [q2] at a3
  have k1 := zj_use x_SL (hK)
  have k1 : ze_SL (zq_ev r (6, [])) (zq_ev r (6, [])) (zq_ev r (0, [(0, 1)])) (zq_ev r (0, [(1, 1)])) (zq_ev r (0, [(2, 1)])) (zq_ev r (0, [(3, 1)])) (zq_ev r (0, [(4, 1)])) (zq_ev r (0, [(5, 1)])) (zq_ev r (0, [(6, 1)])) (zq_ev r (0, [(7, 1)])) (zq_ev r (0, [(8, 1)])) P h := k1
  simp only [q10, q11, q12, q3, q4, q5, q6, q7, q8, q9] at k1
  have k2 := zj_use x_CD (zq_okX_t (hK))
  have k2 : ze_CD (zq_ev r (0, [(0, 1)])) (zq_ev r (0, [(1, 1)])) (zq_ev r (0, [(8, 1)])) (zq_ev r (0, [(9, 1)])) P h := k2
  simp only [q12, q13, q4, q5] at k2
  have k3 := zj_use x_EV (zq_okX_t (zq_okX_t (hK)))
  have k3 : ze_EV (zq_ev r (5, [])) (zq_ev r (0, [(0, 1)])) (zq_ev r (0, [(1, 1)])) (zq_ev r (0, [(2, 1)])) (zq_ev r (0, [(3, 1)])) (zq_ev r (0, [(7, 1)])) (zq_ev r (0, [(8, 1)])) (zq_ev r (0, [(10, 1)])) (zq_ev r (0, [(11, 1)])) (zq_ev r (0, [(12, 1)])) P h := k3
  simp only [q11, q12, q14, q15, q16, q17, q4, q5, q6, q7] at k3
  obtain t1 := ze_n2b0_l (P := P) (h := h) (g := r 0) (n := r 1) (o := r 2) (W := r 3) (b := r 4) (p := r 5) (a := r 6) (c := r 7) (q := r 8) (s := r 9) (r := r 10) (d := r 11) (t := r 12) a1 a2 a3 k1 k2 k3
  obtain ⟨rq, hr⟩ : ∃ rq : Nat → Int, (∀ i, i < 13 → rq i = r i) := ⟨r, fun i hi => rfl⟩
  have v0 : rq 0 = r 0 := hr 0 (by decide)
  have v1 : rq 1 = r 1 := hr 1 (by decide)
  have v2 : rq 2 = r 2 := hr 2 (by decide)
  have v3 : rq 3 = r 3 := hr 3 (by decide)
  have v4 : rq 4 = r 4 := hr 4 (by decide)
  have v5 : rq 5 = r 5 := hr 5 (by decide)
  have v11 : rq 11 = r 11 := hr 11 (by decide)
  have v12 : rq 12 = r 12 := hr 12 (by decide)
  have g0 : zq_ev rq (6, []) = 6 := zu_e0 _ _
  have g1 : zq_ev rq (0, [(0, 1)]) = r 0 := zu_f1 v0
  have g2 : zq_ev rq (0, [(1, 1)]) = r 1 := zu_f1 v1
  have g3 : zq_ev rq (0, [(2, 1)]) = r 2 := zu_f1 v2
  have g4 : zq_ev rq (0, [(3, 1)]) = r 3 := zu_f1 v3
  have g5 : zq_ev rq (0, [(4, 1)]) = r 4 := zu_f1 v4
  have g6 : zq_ev rq (0, [(5, 1)]) = r 5 := zu_f1 v5
  have g7 : zq_ev rq (0, []) = 0 := zu_e0 _ _
  have g8 : zq_ev rq (0, [(11, 1)]) = r 11 := zu_f1 v11
  have g9 : zq_ev rq (0, [(12, 1)]) = r 12 := zu_f1 v12
  exact ⟨_, List.mem_cons_self .., rq, hr, zq_MeS_mk rfl hT (zq_all_nil) zq_fan (zq_fan) rfl (zu_fac ((x_EV _ _ _).mpr (by show ze_EV (zq_ev rq (6, [])) (zq_ev rq (0, [(0, 1)])) (zq_ev rq (0, [(1, 1)])) (zq_ev rq (0, [(2, 1)])) (zq_ev rq (0, [(3, 1)])) (zq_ev rq (0, [(4, 1)])) (zq_ev rq (0, [(5, 1)])) (zq_ev rq (0, [])) (zq_ev rq (0, [(11, 1)])) (zq_ev rq (0, [(12, 1)])) P h; simp only [g0, g1, g2, g3, g4, g5, g6, g7, g8, g9]; exact t1)) zq_fan)⟩
noncomputable def ze_n2b1 : zq_S × List zq_S := (([], [], [(-8, [(9, 1)]), (-1, [(6, -1), (10, 1)])], [], [], [], [(222, [(6, []), (6, []), (0, [(0, 1)]), (0, [(1, 1)]), (0, [(2, 1)]), (0, [(3, 1)]), (0, [(4, 1)]), (0, [(5, 1)]), (0, [(6, 1)]), (0, [(7, 1)]), (0, [(8, 1)])]), (224, [(0, [(0, 1)]), (0, [(1, 1)]), (0, [(8, 1)]), (0, [(9, 1)])]), (220, [(5, []), (0, [(0, 1)]), (0, [(1, 1)]), (0, [(2, 1)]), (0, [(3, 1)]), (0, [(7, 1)]), (0, [(8, 1)]), (0, [(10, 1)]), (0, [(11, 1)]), (0, [(12, 1)])])], 13), [([], [], [], [], [], [], [(220, [(6, []), (0, [(0, 1)]), (0, [(1, 1)]), (0, [(2, 1)]), (0, [(3, 1)]), (0, [(4, 1)]), (0, [(5, 1)]), (1, []), (0, [(11, 1)]), (0, [(12, 1)])])], 13)])
theorem ze_n2b1_l {P : zq_Ty} {h : zq_H} {g n o W b p a c q s r d t : Int} (a1 : 0 ≤ s - 8) (a2 : 0 ≤ -a + r - 1) (k1 : ze_SL 6 6 g n o W b p a c q P h) (k2 : ze_CD g n q s P h) (k3 : ze_EV 5 g n o W c q r d t P h) : (ze_EV 6 g n o W b p 1 d t P h) := by
  have k2 : s = ze_c g n q := k2
  have e := k1 _ _ _ (ze_pl_p (acc := a) (by rw [← k2]; omega) k3)
  have x : (ze_bi (!decide (r = a))) = 1 := by rw [decide_eq_false (by omega)]; rfl
  rw [x] at e
  exact e
theorem ze_n2b1_ok {w : zq_Wd} (x_SL : zj_is w 222 (fun q => ze_SL (q 0) (q 1) (q 2) (q 3) (q 4) (q 5) (q 6) (q 7) (q 8) (q 9) (q 10))) (x_CD : zj_is w 224 (fun q => ze_CD (q 0) (q 1) (q 2) (q 3))) (x_EV : zj_is w 220 (fun q => ze_EV (q 0) (q 1) (q 2) (q 3) (q 4) (q 5) (q 6) (q 7) (q 8) (q 9))) : zq_okG1 w ze_n2b1 := by
  refine ⟨rfl, rfl, zu_fac ⟨rfl, by decide⟩ zq_fan, ?_⟩
  intro r P h H hM
  have q0 : zq_ev r (-8, [(9, 1)]) = r 9 - 8 := zu_e3 _ _ _
  have q1 : zq_ev r (-1, [(6, -1), (10, 1)]) = -r 6 + r 10 - 1 := by simp only [zq_ev, zq_ts] <;> omega
  have q2 : zq_ev r (6, []) = 6 := zu_e0 _ _
  have q3 : zq_ev r (0, [(0, 1)]) = r 0 := zu_e1 _ _
  have q4 : zq_ev r (0, [(1, 1)]) = r 1 := zu_e1 _ _
  have q5 : zq_ev r (0, [(2, 1)]) = r 2 := zu_e1 _ _
  have q6 : zq_ev r (0, [(3, 1)]) = r 3 := zu_e1 _ _
  have q7 : zq_ev r (0, [(4, 1)]) = r 4 := zu_e1 _ _
  have q8 : zq_ev r (0, [(5, 1)]) = r 5 := zu_e1 _ _
  have q9 : zq_ev r (0, [(6, 1)]) = r 6 := zu_e1 _ _
  have q10 : zq_ev r (0, [(7, 1)]) = r 7 := zu_e1 _ _
  have q11 : zq_ev r (0, [(8, 1)]) = r 8 := zu_e1 _ _
  have q12 : zq_ev r (0, [(9, 1)]) = r 9 := zu_e1 _ _
  have q13 : zq_ev r (5, []) = 5 := zu_e0 _ _
  have q14 : zq_ev r (0, [(10, 1)]) = r 10 := zu_e1 _ _
  have q15 : zq_ev r (0, [(11, 1)]) = r 11 := zu_e1 _ _
  have q16 : zq_ev r (0, [(12, 1)]) = r 12 := zu_e1 _ _
  obtain ⟨hT, hC, hF, hS, -, hK⟩ := hM
  have c := hC.1
  have a1 := zq_all_1 c
  rw [q0] at a1
  have c := zq_all_t c
  have a2 := zq_all_1 c
  rw [q1] at a2
  have k1 := zj_use x_SL (hK)
  have k1 : ze_SL (zq_ev r (6, [])) (zq_ev r (6, [])) (zq_ev r (0, [(0, 1)])) (zq_ev r (0, [(1, 1)])) (zq_ev r (0, [(2, 1)])) (zq_ev r (0, [(3, 1)])) (zq_ev r (0, [(4, 1)])) (zq_ev r (0, [(5, 1)])) (zq_ev r (0, [(6, 1)])) (zq_ev r (0, [(7, 1)])) (zq_ev r (0, [(8, 1)])) P h := k1
  simp only [q10, q11, q2, q3, q4, q5, q6, q7, q8, q9] at k1
  have k2 := zj_use x_CD (zq_okX_t (hK))
  have k2 : ze_CD (zq_ev r (0, [(0, 1)])) (zq_ev r (0, [(1, 1)])) (zq_ev r (0, [(8, 1)])) (zq_ev r (0, [(9, 1)])) P h := k2
  simp only [q11, q12, q3, q4] at k2
  have k3 := zj_use x_EV (zq_okX_t (zq_okX_t (hK)))
  have k3 : ze_EV (zq_ev r (5, [])) (zq_ev r (0, [(0, 1)])) (zq_ev r (0, [(1, 1)])) (zq_ev r (0, [(2, 1)])) (zq_ev r (0, [(3, 1)])) (zq_ev r (0, [(7, 1)])) (zq_ev r (0, [(8, 1)])) (zq_ev r (0, [(10, 1)])) (zq_ev r (0, [(11, 1)])) (zq_ev r (0, [(12, 1)])) P h := k3
  simp only [q10, q11, q13, q14, q15, q16, q3, q4, q5, q6] at k3
  obtain t1 := ze_n2b1_l (P := P) (h := h) (g := r 0) (n := r 1) (o := r 2) (W := r 3) (b := r 4) (p := r 5) (a := r 6) (c := r 7) (q := r 8) (s := r 9) (r := r 10) (d := r 11) (t := r 12) a1 a2 k1 k2 k3
  obtain ⟨rq, hr⟩ : ∃ rq : Nat → Int, (∀ i, i < 13 → rq i = r i) := ⟨r, fun i hi => rfl⟩
  have v0 : rq 0 = r 0 := hr 0 (by decide)
  have v1 : rq 1 = r 1 := hr 1 (by decide)
  have v2 : rq 2 = r 2 := hr 2 (by decide)
  have v3 : rq 3 = r 3 := hr 3 (by decide)
  have v4 : rq 4 = r 4 := hr 4 (by decide)
  have v5 : rq 5 = r 5 := hr 5 (by decide)
  have v11 : rq 11 = r 11 := hr 11 (by decide)
  have v12 : rq 12 = r 12 := hr 12 (by decide)
  have g0 : zq_ev rq (6, []) = 6 := zu_e0 _ _
  have g1 : zq_ev rq (0, [(0, 1)]) = r 0 := zu_f1 v0
  have g2 : zq_ev rq (0, [(1, 1)]) = r 1 := zu_f1 v1
  have g3 : zq_ev rq (0, [(2, 1)]) = r 2 := zu_f1 v2
  have g4 : zq_ev rq (0, [(3, 1)]) = r 3 := zu_f1 v3
  have g5 : zq_ev rq (0, [(4, 1)]) = r 4 := zu_f1 v4
  have g6 : zq_ev rq (0, [(5, 1)]) = r 5 := zu_f1 v5
  have g7 : zq_ev rq (1, []) = 1 := zu_e0 _ _
  have g8 : zq_ev rq (0, [(11, 1)]) = r 11 := zu_f1 v11
  have g9 : zq_ev rq (0, [(12, 1)]) = r 12 := zu_f1 v12
  exact ⟨_, List.mem_cons_self .., rq, hr, zq_MeS_mk rfl hT (zq_all_nil) zq_fan (zq_fan) rfl (zu_fac ((x_EV _ _ _).mpr (by show ze_EV (zq_ev rq (6, [])) (zq_ev rq (0, [(0, 1)])) (zq_ev rq (0, [(1, 1)])) (zq_ev rq (0, [(2, 1)])) (zq_ev rq (0, [(3, 1)])) (zq_ev rq (0, [(4, 1)])) (zq_ev rq (0, [(5, 1)])) (zq_ev rq (1, [])) (zq_ev rq (0, [(11, 1)])) (zq_ev rq (0, [(12, 1)])) P h; simp only [g0, g1, g2, g3, g4, g5, g6, g7, g8, g9]; exact t1)) zq_fan)⟩
noncomputable def ze_n2b2 : zq_S × List zq_S := (([], [], [(-8, [(9, 1)]), (-1, [(6, 1), (10, -1)])], [], [], [], [(222, [(6, []), (6, []), (0, [(0, 1)]), (0, [(1, 1)]), (0, [(2, 1)]), (0, [(3, 1)]), (0, [(4, 1)]), (0, [(5, 1)]), (0, [(6, 1)]), (0, [(7, 1)]), (0, [(8, 1)])]), (224, [(0, [(0, 1)]), (0, [(1, 1)]), (0, [(8, 1)]), (0, [(9, 1)])]), (220, [(5, []), (0, [(0, 1)]), (0, [(1, 1)]), (0, [(2, 1)]), (0, [(3, 1)]), (0, [(7, 1)]), (0, [(8, 1)]), (0, [(10, 1)]), (0, [(11, 1)]), (0, [(12, 1)])])], 13), [([], [], [], [], [], [], [(220, [(6, []), (0, [(0, 1)]), (0, [(1, 1)]), (0, [(2, 1)]), (0, [(3, 1)]), (0, [(4, 1)]), (0, [(5, 1)]), (1, []), (0, [(11, 1)]), (0, [(12, 1)])])], 13)])
theorem ze_n2b2_l {P : zq_Ty} {h : zq_H} {g n o W b p a c q s r d t : Int} (a1 : 0 ≤ s - 8) (a2 : 0 ≤ a - r - 1) (k1 : ze_SL 6 6 g n o W b p a c q P h) (k2 : ze_CD g n q s P h) (k3 : ze_EV 5 g n o W c q r d t P h) : (ze_EV 6 g n o W b p 1 d t P h) := by
  have k2 : s = ze_c g n q := k2
  have e := k1 _ _ _ (ze_pl_p (acc := a) (by rw [← k2]; omega) k3)
  have x : (ze_bi (!decide (r = a))) = 1 := by rw [decide_eq_false (by omega)]; rfl
  rw [x] at e
  exact e
theorem ze_n2b2_ok {w : zq_Wd} (x_SL : zj_is w 222 (fun q => ze_SL (q 0) (q 1) (q 2) (q 3) (q 4) (q 5) (q 6) (q 7) (q 8) (q 9) (q 10))) (x_CD : zj_is w 224 (fun q => ze_CD (q 0) (q 1) (q 2) (q 3))) (x_EV : zj_is w 220 (fun q => ze_EV (q 0) (q 1) (q 2) (q 3) (q 4) (q 5) (q 6) (q 7) (q 8) (q 9))) : zq_okG1 w ze_n2b2 := by
  refine ⟨rfl, rfl, zu_fac ⟨rfl, by decide⟩ zq_fan, ?_⟩
  intro r P h H hM
  have q0 : zq_ev r (-8, [(9, 1)]) = r 9 - 8 := zu_e3 _ _ _
  have q1 : zq_ev r (-1, [(6, 1), (10, -1)]) = r 6 - r 10 - 1 := by simp only [zq_ev, zq_ts] <;> omega
  have q2 : zq_ev r (6, []) = 6 := zu_e0 _ _
  have q3 : zq_ev r (0, [(0, 1)]) = r 0 := zu_e1 _ _
  have q4 : zq_ev r (0, [(1, 1)]) = r 1 := zu_e1 _ _
  have q5 : zq_ev r (0, [(2, 1)]) = r 2 := zu_e1 _ _
  have q6 : zq_ev r (0, [(3, 1)]) = r 3 := zu_e1 _ _
  have q7 : zq_ev r (0, [(4, 1)]) = r 4 := zu_e1 _ _
  have q8 : zq_ev r (0, [(5, 1)]) = r 5 := zu_e1 _ _
  have q9 : zq_ev r (0, [(6, 1)]) = r 6 := zu_e1 _ _
  have q10 : zq_ev r (0, [(7, 1)]) = r 7 := zu_e1 _ _
  have q11 : zq_ev r (0, [(8, 1)]) = r 8 := zu_e1 _ _
  have q12 : zq_ev r (0, [(9, 1)]) = r 9 := zu_e1 _ _
  have q13 : zq_ev r (5, []) = 5 := zu_e0 _ _
  have q14 : zq_ev r (0, [(10, 1)]) = r 10 := zu_e1 _ _
  have q15 : zq_ev r (0, [(11, 1)]) = r 11 := zu_e1 _ _
  have q16 : zq_ev r (0, [(12, 1)]) = r 12 := zu_e1 _ _
  obtain ⟨hT, hC, hF, hS, -, hK⟩ := hM
  have c := hC.1
  have a1 := zq_all_1 c
  rw [q0] at a1
  have c := zq_all_t c
  have a2 := zq_all_1 c
  rw [q1] at a2
  have k1 := zj_use x_SL (hK)
  have k1 : ze_SL (zq_ev r (6, [])) (zq_ev r (6, [])) (zq_ev r (0, [(0, 1)])) (zq_ev r (0, [(1, 1)])) (zq_ev r (0, [(2, 1)])) (zq_ev r (0, [(3, 1)])) (zq_ev r (0, [(4, 1)])) (zq_ev r (0, [(5, 1)])) (zq_ev r (0, [(6, 1)])) (zq_ev r (0, [(7, 1)])) (zq_ev r (0, [(8, 1)])) P h := k1
  simp only [q10, q11, q2, q3, q4, q5, q6, q7, q8, q9] at k1
  have k2 := zj_use x_CD (zq_okX_t (hK))
  have k2 : ze_CD (zq_ev r (0, [(0, 1)])) (zq_ev r (0, [(1, 1)])) (zq_ev r (0, [(8, 1)])) (zq_ev r (0, [(9, 1)])) P h := k2
  simp only [q11, q12, q3, q4] at k2
  have k3 := zj_use x_EV (zq_okX_t (zq_okX_t (hK)))
  have k3 : ze_EV (zq_ev r (5, [])) (zq_ev r (0, [(0, 1)])) (zq_ev r (0, [(1, 1)])) (zq_ev r (0, [(2, 1)])) (zq_ev r (0, [(3, 1)])) (zq_ev r (0, [(7, 1)])) (zq_ev r (0, [(8, 1)])) (zq_ev r (0, [(10, 1)])) (zq_ev r (0, [(11, 1)])) (zq_ev r (0, [(12, 1)])) P h := k3
  simp only [q10, q11, q13, q14, q15, q16, q3, q4, q5, q6] at k3
  obtain t1 := ze_n2b2_l (P := P) (h := h) (g := r 0) (n := r 1) (o := r 2) (W := r 3) (b := r 4) (p := r 5) (a := r 6) (c := r 7) (q := r 8) (s := r 9) (r := r 10) (d := r 11) (t := r 12) a1 a2 k1 k2 k3
  obtain ⟨rq, hr⟩ : ∃ rq : Nat → Int, (∀ i, i < 13 → rq i = r i) := ⟨r, fun i hi => rfl⟩
  have v0 : rq 0 = r 0 := hr 0 (by decide)
  have v1 : rq 1 = r 1 := hr 1 (by decide)
  have v2 : rq 2 = r 2 := hr 2 (by decide)
  have v3 : rq 3 = r 3 := hr 3 (by decide)
  have v4 : rq 4 = r 4 := hr 4 (by decide)
  have v5 : rq 5 = r 5 := hr 5 (by decide)
  have v11 : rq 11 = r 11 := hr 11 (by decide)
  have v12 : rq 12 = r 12 := hr 12 (by decide)
  have g0 : zq_ev rq (6, []) = 6 := zu_e0 _ _
  have g1 : zq_ev rq (0, [(0, 1)]) = r 0 := zu_f1 v0
  have g2 : zq_ev rq (0, [(1, 1)]) = r 1 := zu_f1 v1
  have g3 : zq_ev rq (0, [(2, 1)]) = r 2 := zu_f1 v2
  have g4 : zq_ev rq (0, [(3, 1)]) = r 3 := zu_f1 v3
  have g5 : zq_ev rq (0, [(4, 1)]) = r 4 := zu_f1 v4
  have g6 : zq_ev rq (0, [(5, 1)]) = r 5 := zu_f1 v5
  have g7 : zq_ev rq (1, []) = 1 := zu_e0 _ _
  have g8 : zq_ev rq (0, [(11, 1)]) = r 11 := zu_f1 v11
  have g9 : zq_ev rq (0, [(12, 1)]) = r 12 := zu_f1 v12
  exact ⟨_, List.mem_cons_self .., rq, hr, zq_MeS_mk rfl hT (zq_all_nil) zq_fan (zq_fan) rfl (zu_fac ((x_EV _ _ _).mpr (by show ze_EV (zq_ev rq (6, [])) (zq_ev rq (0, [(0, 1)])) (zq_ev rq (0, [(1, 1)])) (zq_ev rq (0, [(2, 1)])) (zq_ev rq (0, [(3, 1)])) (zq_ev rq (0, [(4, 1)])) (zq_ev rq (0, [(5, 1)])) (zq_ev rq (1, [])) (zq_ev rq (0, [(11, 1)])) (zq_ev rq (0, [(12, 1)])) P h; simp only [g0, g1, g2, g3, g4, g5, g6, g7, g8, g9]; exact t1)) zq_fan)⟩
noncomputable def ze_n2tb : zq_S × List zq_S := (([], [], [(-8, [(4, 1)])], [], [], [], [(223, [(6, []), (6, []), (0, [(0, 1)]), (0, [(1, 1)]), (0, [(2, 1)]), (0, [(3, 1)])]), (224, [(0, [(0, 1)]), (0, [(1, 1)]), (0, [(3, 1)]), (0, [(4, 1)])]), (221, [(5, []), (0, [(0, 1)]), (0, [(1, 1)]), (0, [(3, 1)]), (0, [(5, 1)])])], 6), [([], [], [], [], [], [], [(221, [(6, []), (0, [(0, 1)]), (0, [(1, 1)]), (0, [(2, 1)]), (0, [(5, 1)])])], 6)])
theorem ze_n2tb_l {P : zq_Ty} {h : zq_H} {g n p q s t : Int} (a1 : 0 ≤ s - 8) (k1 : ze_TL 6 6 g n p q P h) (k2 : ze_CD g n q s P h) (k3 : ze_TT 5 g n q t P h) : (ze_TT 6 g n p t P h) := by
  have k2 : s = ze_c g n q := k2
  exact k1 t (zt_pl_p (by rw [← k2]; omega) k3)
theorem ze_n2tb_ok {w : zq_Wd} (x_TL : zj_is w 223 (fun q => ze_TL (q 0) (q 1) (q 2) (q 3) (q 4) (q 5))) (x_CD : zj_is w 224 (fun q => ze_CD (q 0) (q 1) (q 2) (q 3))) (x_TT : zj_is w 221 (fun q => ze_TT (q 0) (q 1) (q 2) (q 3) (q 4))) : zq_okG1 w ze_n2tb := by
  refine ⟨rfl, rfl, zu_fac ⟨rfl, by decide⟩ zq_fan, ?_⟩
  intro r P h H hM
  have q0 : zq_ev r (-8, [(4, 1)]) = r 4 - 8 := zu_e3 _ _ _
  have q1 : zq_ev r (6, []) = 6 := zu_e0 _ _
  have q2 : zq_ev r (0, [(0, 1)]) = r 0 := zu_e1 _ _
  have q3 : zq_ev r (0, [(1, 1)]) = r 1 := zu_e1 _ _
  have q4 : zq_ev r (0, [(2, 1)]) = r 2 := zu_e1 _ _
  have q5 : zq_ev r (0, [(3, 1)]) = r 3 := zu_e1 _ _
  have q6 : zq_ev r (0, [(4, 1)]) = r 4 := zu_e1 _ _
  have q7 : zq_ev r (5, []) = 5 := zu_e0 _ _
  have q8 : zq_ev r (0, [(5, 1)]) = r 5 := zu_e1 _ _
  obtain ⟨hT, hC, hF, hS, -, hK⟩ := hM
  have c := hC.1
  have a1 := zq_all_1 c
  rw [q0] at a1
  have k1 := zj_use x_TL (hK)
  have k1 : ze_TL (zq_ev r (6, [])) (zq_ev r (6, [])) (zq_ev r (0, [(0, 1)])) (zq_ev r (0, [(1, 1)])) (zq_ev r (0, [(2, 1)])) (zq_ev r (0, [(3, 1)])) P h := k1
  simp only [q1, q2, q3, q4, q5] at k1
  have k2 := zj_use x_CD (zq_okX_t (hK))
  have k2 : ze_CD (zq_ev r (0, [(0, 1)])) (zq_ev r (0, [(1, 1)])) (zq_ev r (0, [(3, 1)])) (zq_ev r (0, [(4, 1)])) P h := k2
  simp only [q2, q3, q5, q6] at k2
  have k3 := zj_use x_TT (zq_okX_t (zq_okX_t (hK)))
  have k3 : ze_TT (zq_ev r (5, [])) (zq_ev r (0, [(0, 1)])) (zq_ev r (0, [(1, 1)])) (zq_ev r (0, [(3, 1)])) (zq_ev r (0, [(5, 1)])) P h := k3
  simp only [q2, q3, q5, q7, q8] at k3
  obtain t1 := ze_n2tb_l (P := P) (h := h) (g := r 0) (n := r 1) (p := r 2) (q := r 3) (s := r 4) (t := r 5) a1 k1 k2 k3
  obtain ⟨rq, hr⟩ : ∃ rq : Nat → Int, (∀ i, i < 6 → rq i = r i) := ⟨r, fun i hi => rfl⟩
  have v0 : rq 0 = r 0 := hr 0 (by decide)
  have v1 : rq 1 = r 1 := hr 1 (by decide)
  have v2 : rq 2 = r 2 := hr 2 (by decide)
  have v5 : rq 5 = r 5 := hr 5 (by decide)
  have g0 : zq_ev rq (6, []) = 6 := zu_e0 _ _
  have g1 : zq_ev rq (0, [(0, 1)]) = r 0 := zu_f1 v0
  have g2 : zq_ev rq (0, [(1, 1)]) = r 1 := zu_f1 v1
  have g3 : zq_ev rq (0, [(2, 1)]) = r 2 := zu_f1 v2
  have g4 : zq_ev rq (0, [(5, 1)]) = r 5 := zu_f1 v5
  exact ⟨_, List.mem_cons_self .., rq, hr, zq_MeS_mk rfl hT (zq_all_nil) zq_fan (zq_fan) rfl (zu_fac ((x_TT _ _ _).mpr (by show ze_TT (zq_ev rq (6, [])) (zq_ev rq (0, [(0, 1)])) (zq_ev rq (0, [(1, 1)])) (zq_ev rq (0, [(2, 1)])) (zq_ev rq (0, [(5, 1)])) P h; simp only [g0, g1, g2, g3, g4]; exact t1)) zq_fan)⟩
noncomputable def ze_e1a : zq_S × List zq_S := (([], [], [(136, [(9, -1)])], [], [], [], [(222, [(1, []), (2, []), (0, [(0, 1)]), (0, [(1, 1)]), (0, [(2, 1)]), (0, [(3, 1)]), (0, [(4, 1)]), (0, [(5, 1)]), (0, [(6, 1)]), (0, [(7, 1)]), (0, [(8, 1)])]), (224, [(0, [(0, 1)]), (0, [(1, 1)]), (0, [(8, 1)]), (0, [(9, 1)])])], 10), [([], [], [], [], [], [], [(220, [(2, []), (0, [(0, 1)]), (0, [(1, 1)]), (0, [(2, 1)]), (0, [(3, 1)]), (0, [(4, 1)]), (0, [(5, 1)]), (0, [(6, 1)]), (0, [(7, 1)]), (0, [(8, 1)])])], 10)])
theorem ze_e1a_l {P : zq_Ty} {h : zq_H} {g n o W b p a c q s : Int} (a1 : 0 ≤ -s + 136) (k1 : ze_SL 1 2 g n o W b p a c q P h) (k2 : ze_CD g n q s P h) : (ze_EV 2 g n o W b p a c q P h) := by
  have k2 : s = ze_c g n q := k2
  exact k1 _ _ _ (ze_tl_end (by rw [← k2]; exact by unfold ze_mul; rw [decide_eq_false (by omega), decide_eq_false (by omega), decide_eq_false (by omega)]; rfl))
theorem ze_e1a_ok {w : zq_Wd} (x_SL : zj_is w 222 (fun q => ze_SL (q 0) (q 1) (q 2) (q 3) (q 4) (q 5) (q 6) (q 7) (q 8) (q 9) (q 10))) (x_CD : zj_is w 224 (fun q => ze_CD (q 0) (q 1) (q 2) (q 3))) (x_EV : zj_is w 220 (fun q => ze_EV (q 0) (q 1) (q 2) (q 3) (q 4) (q 5) (q 6) (q 7) (q 8) (q 9))) : zq_okG1 w ze_e1a := by
  refine ⟨rfl, rfl, zu_fac ⟨rfl, by decide⟩ zq_fan, ?_⟩
  intro r P h H hM
  have q0 : zq_ev r (136, [(9, -1)]) = -r 9 + 136 := zu_e5 _ _ _
  have q1 : zq_ev r (1, []) = 1 := zu_e0 _ _
  have q2 : zq_ev r (2, []) = 2 := zu_e0 _ _
  have q3 : zq_ev r (0, [(0, 1)]) = r 0 := zu_e1 _ _
  have q4 : zq_ev r (0, [(1, 1)]) = r 1 := zu_e1 _ _
  have q5 : zq_ev r (0, [(2, 1)]) = r 2 := zu_e1 _ _
  have q6 : zq_ev r (0, [(3, 1)]) = r 3 := zu_e1 _ _
  have q7 : zq_ev r (0, [(4, 1)]) = r 4 := zu_e1 _ _
  have q8 : zq_ev r (0, [(5, 1)]) = r 5 := zu_e1 _ _
  have q9 : zq_ev r (0, [(6, 1)]) = r 6 := zu_e1 _ _
  have q10 : zq_ev r (0, [(7, 1)]) = r 7 := zu_e1 _ _
  have q11 : zq_ev r (0, [(8, 1)]) = r 8 := zu_e1 _ _
  have q12 : zq_ev r (0, [(9, 1)]) = r 9 := zu_e1 _ _
  obtain ⟨hT, hC, hF, hS, -, hK⟩ := hM
  have c := hC.1
  have a1 := zq_all_1 c
  rw [q0] at a1
  have k1 := zj_use x_SL (hK)
  have k1 : ze_SL (zq_ev r (1, [])) (zq_ev r (2, [])) (zq_ev r (0, [(0, 1)])) (zq_ev r (0, [(1, 1)])) (zq_ev r (0, [(2, 1)])) (zq_ev r (0, [(3, 1)])) (zq_ev r (0, [(4, 1)])) (zq_ev r (0, [(5, 1)])) (zq_ev r (0, [(6, 1)])) (zq_ev r (0, [(7, 1)])) (zq_ev r (0, [(8, 1)])) P h := k1
  simp only [q1, q10, q11, q2, q3, q4, q5, q6, q7, q8, q9] at k1
  have k2 := zj_use x_CD (zq_okX_t (hK))
  have k2 : ze_CD (zq_ev r (0, [(0, 1)])) (zq_ev r (0, [(1, 1)])) (zq_ev r (0, [(8, 1)])) (zq_ev r (0, [(9, 1)])) P h := k2
  simp only [q11, q12, q3, q4] at k2
  obtain t1 := ze_e1a_l (P := P) (h := h) (g := r 0) (n := r 1) (o := r 2) (W := r 3) (b := r 4) (p := r 5) (a := r 6) (c := r 7) (q := r 8) (s := r 9) a1 k1 k2
  obtain ⟨rq, hr⟩ : ∃ rq : Nat → Int, (∀ i, i < 10 → rq i = r i) := ⟨r, fun i hi => rfl⟩
  have v0 : rq 0 = r 0 := hr 0 (by decide)
  have v1 : rq 1 = r 1 := hr 1 (by decide)
  have v2 : rq 2 = r 2 := hr 2 (by decide)
  have v3 : rq 3 = r 3 := hr 3 (by decide)
  have v4 : rq 4 = r 4 := hr 4 (by decide)
  have v5 : rq 5 = r 5 := hr 5 (by decide)
  have v6 : rq 6 = r 6 := hr 6 (by decide)
  have v7 : rq 7 = r 7 := hr 7 (by decide)
  have v8 : rq 8 = r 8 := hr 8 (by decide)
  have g0 : zq_ev rq (2, []) = 2 := zu_e0 _ _
  have g1 : zq_ev rq (0, [(0, 1)]) = r 0 := zu_f1 v0
  have g2 : zq_ev rq (0, [(1, 1)]) = r 1 := zu_f1 v1
  have g3 : zq_ev rq (0, [(2, 1)]) = r 2 := zu_f1 v2
  have g4 : zq_ev rq (0, [(3, 1)]) = r 3 := zu_f1 v3
  have g5 : zq_ev rq (0, [(4, 1)]) = r 4 := zu_f1 v4
  have g6 : zq_ev rq (0, [(5, 1)]) = r 5 := zu_f1 v5
  have g7 : zq_ev rq (0, [(6, 1)]) = r 6 := zu_f1 v6
  have g8 : zq_ev rq (0, [(7, 1)]) = r 7 := zu_f1 v7
  have g9 : zq_ev rq (0, [(8, 1)]) = r 8 := zu_f1 v8
  exact ⟨_, List.mem_cons_self .., rq, hr, zq_MeS_mk rfl hT (zq_all_nil) zq_fan (zq_fan) rfl (zu_fac ((x_EV _ _ _).mpr (by show ze_EV (zq_ev rq (2, [])) (zq_ev rq (0, [(0, 1)])) (zq_ev rq (0, [(1, 1)])) (zq_ev rq (0, [(2, 1)])) (zq_ev rq (0, [(3, 1)])) (zq_ev rq (0, [(4, 1)])) (zq_ev rq (0, [(5, 1)])) (zq_ev rq (0, [(6, 1)])) (zq_ev rq (0, [(7, 1)])) (zq_ev rq (0, [(8, 1)])) P h; simp only [g0, g1, g2, g3, g4, g5, g6, g7, g8, g9]; exact t1)) zq_fan)⟩
noncomputable def ze_f1a : zq_S × List zq_S := (([], [], [(136, [(4, -1)])], [], [], [], [(223, [(1, []), (2, []), (0, [(0, 1)]), (0, [(1, 1)]), (0, [(2, 1)]), (0, [(3, 1)])]), (224, [(0, [(0, 1)]), (0, [(1, 1)]), (0, [(3, 1)]), (0, [(4, 1)])])], 5), [([], [], [], [], [], [], [(221, [(2, []), (0, [(0, 1)]), (0, [(1, 1)]), (0, [(2, 1)]), (0, [(3, 1)])])], 5)])
theorem ze_f1a_l {P : zq_Ty} {h : zq_H} {g n p q s : Int} (a1 : 0 ≤ -s + 136) (k1 : ze_TL 1 2 g n p q P h) (k2 : ze_CD g n q s P h) : (ze_TT 2 g n p q P h) := by
  have k2 : s = ze_c g n q := k2
  exact k1 _ (zt_tl_end (by rw [← k2]; exact by unfold ze_mul; rw [decide_eq_false (by omega), decide_eq_false (by omega), decide_eq_false (by omega)]; rfl))
theorem ze_f1a_ok {w : zq_Wd} (x_TL : zj_is w 223 (fun q => ze_TL (q 0) (q 1) (q 2) (q 3) (q 4) (q 5))) (x_CD : zj_is w 224 (fun q => ze_CD (q 0) (q 1) (q 2) (q 3))) (x_TT : zj_is w 221 (fun q => ze_TT (q 0) (q 1) (q 2) (q 3) (q 4))) : zq_okG1 w ze_f1a := by
  refine ⟨rfl, rfl, zu_fac ⟨rfl, by decide⟩ zq_fan, ?_⟩
  intro r P h H hM
  have q0 : zq_ev r (136, [(4, -1)]) = -r 4 + 136 := zu_e5 _ _ _
  have q1 : zq_ev r (1, []) = 1 := zu_e0 _ _
  have q2 : zq_ev r (2, []) = 2 := zu_e0 _ _
  have q3 : zq_ev r (0, [(0, 1)]) = r 0 := zu_e1 _ _
  have q4 : zq_ev r (0, [(1, 1)]) = r 1 := zu_e1 _ _
  have q5 : zq_ev r (0, [(2, 1)]) = r 2 := zu_e1 _ _
  have q6 : zq_ev r (0, [(3, 1)]) = r 3 := zu_e1 _ _
  have q7 : zq_ev r (0, [(4, 1)]) = r 4 := zu_e1 _ _
  obtain ⟨hT, hC, hF, hS, -, hK⟩ := hM
  have c := hC.1
  have a1 := zq_all_1 c
  rw [q0] at a1
  have k1 := zj_use x_TL (hK)
  have k1 : ze_TL (zq_ev r (1, [])) (zq_ev r (2, [])) (zq_ev r (0, [(0, 1)])) (zq_ev r (0, [(1, 1)])) (zq_ev r (0, [(2, 1)])) (zq_ev r (0, [(3, 1)])) P h := k1
  simp only [q1, q2, q3, q4, q5, q6] at k1
  have k2 := zj_use x_CD (zq_okX_t (hK))
  have k2 : ze_CD (zq_ev r (0, [(0, 1)])) (zq_ev r (0, [(1, 1)])) (zq_ev r (0, [(3, 1)])) (zq_ev r (0, [(4, 1)])) P h := k2
  simp only [q3, q4, q6, q7] at k2
  obtain t1 := ze_f1a_l (P := P) (h := h) (g := r 0) (n := r 1) (p := r 2) (q := r 3) (s := r 4) a1 k1 k2
  obtain ⟨rq, hr⟩ : ∃ rq : Nat → Int, (∀ i, i < 5 → rq i = r i) := ⟨r, fun i hi => rfl⟩
  have v0 : rq 0 = r 0 := hr 0 (by decide)
  have v1 : rq 1 = r 1 := hr 1 (by decide)
  have v2 : rq 2 = r 2 := hr 2 (by decide)
  have v3 : rq 3 = r 3 := hr 3 (by decide)
  have g0 : zq_ev rq (2, []) = 2 := zu_e0 _ _
  have g1 : zq_ev rq (0, [(0, 1)]) = r 0 := zu_f1 v0
  have g2 : zq_ev rq (0, [(1, 1)]) = r 1 := zu_f1 v1
  have g3 : zq_ev rq (0, [(2, 1)]) = r 2 := zu_f1 v2
  have g4 : zq_ev rq (0, [(3, 1)]) = r 3 := zu_f1 v3
  exact ⟨_, List.mem_cons_self .., rq, hr, zq_MeS_mk rfl hT (zq_all_nil) zq_fan (zq_fan) rfl (zu_fac ((x_TT _ _ _).mpr (by show ze_TT (zq_ev rq (2, [])) (zq_ev rq (0, [(0, 1)])) (zq_ev rq (0, [(1, 1)])) (zq_ev rq (0, [(2, 1)])) (zq_ev rq (0, [(3, 1)])) P h; simp only [g0, g1, g2, g3, g4]; exact t1)) zq_fan)⟩
noncomputable def ze_e1b : zq_S × List zq_S := (([], [], [(-138, [(9, 1)]), (141, [(9, -1)])], [], [], [], [(222, [(1, []), (2, []), (0, [(0, 1)]), (0, [(1, 1)]), (0, [(2, 1)]), (0, [(3, 1)]), (0, [(4, 1)]), (0, [(5, 1)]), (0, [(6, 1)]), (0, [(7, 1)]), (0, [(8, 1)])]), (224, [(0, [(0, 1)]), (0, [(1, 1)]), (0, [(8, 1)]), (0, [(9, 1)])])], 10), [([], [], [], [], [], [], [(220, [(2, []), (0, [(0, 1)]), (0, [(1, 1)]), (0, [(2, 1)]), (0, [(3, 1)]), (0, [(4, 1)]), (0, [(5, 1)]), (0, [(6, 1)]), (0, [(7, 1)]), (0, [(8, 1)])])], 10)])
theorem ze_e1b_l {P : zq_Ty} {h : zq_H} {g n o W b p a c q s : Int} (a1 : 0 ≤ s - 138) (a2 : 0 ≤ -s + 141) (k1 : ze_SL 1 2 g n o W b p a c q P h) (k2 : ze_CD g n q s P h) : (ze_EV 2 g n o W b p a c q P h) := by
  have k2 : s = ze_c g n q := k2
  exact k1 _ _ _ (ze_tl_end (by rw [← k2]; exact by unfold ze_mul; rw [decide_eq_false (by omega), decide_eq_false (by omega), decide_eq_false (by omega)]; rfl))
theorem ze_e1b_ok {w : zq_Wd} (x_SL : zj_is w 222 (fun q => ze_SL (q 0) (q 1) (q 2) (q 3) (q 4) (q 5) (q 6) (q 7) (q 8) (q 9) (q 10))) (x_CD : zj_is w 224 (fun q => ze_CD (q 0) (q 1) (q 2) (q 3))) (x_EV : zj_is w 220 (fun q => ze_EV (q 0) (q 1) (q 2) (q 3) (q 4) (q 5) (q 6) (q 7) (q 8) (q 9))) : zq_okG1 w ze_e1b := by
  refine ⟨rfl, rfl, zu_fac ⟨rfl, by decide⟩ zq_fan, ?_⟩
  intro r P h H hM
  have q0 : zq_ev r (-138, [(9, 1)]) = r 9 - 138 := zu_e3 _ _ _
  have q1 : zq_ev r (141, [(9, -1)]) = -r 9 + 141 := zu_e5 _ _ _
  have q2 : zq_ev r (1, []) = 1 := zu_e0 _ _
  have q3 : zq_ev r (2, []) = 2 := zu_e0 _ _
  have q4 : zq_ev r (0, [(0, 1)]) = r 0 := zu_e1 _ _
  have q5 : zq_ev r (0, [(1, 1)]) = r 1 := zu_e1 _ _
  have q6 : zq_ev r (0, [(2, 1)]) = r 2 := zu_e1 _ _
  have q7 : zq_ev r (0, [(3, 1)]) = r 3 := zu_e1 _ _
  have q8 : zq_ev r (0, [(4, 1)]) = r 4 := zu_e1 _ _
  have q9 : zq_ev r (0, [(5, 1)]) = r 5 := zu_e1 _ _
  have q10 : zq_ev r (0, [(6, 1)]) = r 6 := zu_e1 _ _
  have q11 : zq_ev r (0, [(7, 1)]) = r 7 := zu_e1 _ _
  have q12 : zq_ev r (0, [(8, 1)]) = r 8 := zu_e1 _ _
  have q13 : zq_ev r (0, [(9, 1)]) = r 9 := zu_e1 _ _
  obtain ⟨hT, hC, hF, hS, -, hK⟩ := hM
  have c := hC.1
  have a1 := zq_all_1 c
  rw [q0] at a1
  have c := zq_all_t c
  have a2 := zq_all_1 c
  rw [q1] at a2
  have k1 := zj_use x_SL (hK)
  have k1 : ze_SL (zq_ev r (1, [])) (zq_ev r (2, [])) (zq_ev r (0, [(0, 1)])) (zq_ev r (0, [(1, 1)])) (zq_ev r (0, [(2, 1)])) (zq_ev r (0, [(3, 1)])) (zq_ev r (0, [(4, 1)])) (zq_ev r (0, [(5, 1)])) (zq_ev r (0, [(6, 1)])) (zq_ev r (0, [(7, 1)])) (zq_ev r (0, [(8, 1)])) P h := k1
  simp only [q10, q11, q12, q2, q3, q4, q5, q6, q7, q8, q9] at k1
  have k2 := zj_use x_CD (zq_okX_t (hK))
  have k2 : ze_CD (zq_ev r (0, [(0, 1)])) (zq_ev r (0, [(1, 1)])) (zq_ev r (0, [(8, 1)])) (zq_ev r (0, [(9, 1)])) P h := k2
  simp only [q12, q13, q4, q5] at k2
  obtain t1 := ze_e1b_l (P := P) (h := h) (g := r 0) (n := r 1) (o := r 2) (W := r 3) (b := r 4) (p := r 5) (a := r 6) (c := r 7) (q := r 8) (s := r 9) a1 a2 k1 k2
  obtain ⟨rq, hr⟩ : ∃ rq : Nat → Int, (∀ i, i < 10 → rq i = r i) := ⟨r, fun i hi => rfl⟩
  have v0 : rq 0 = r 0 := hr 0 (by decide)
  have v1 : rq 1 = r 1 := hr 1 (by decide)
  have v2 : rq 2 = r 2 := hr 2 (by decide)
  have v3 : rq 3 = r 3 := hr 3 (by decide)
  have v4 : rq 4 = r 4 := hr 4 (by decide)
  have v5 : rq 5 = r 5 := hr 5 (by decide)
  have v6 : rq 6 = r 6 := hr 6 (by decide)
  have v7 : rq 7 = r 7 := hr 7 (by decide)
  have v8 : rq 8 = r 8 := hr 8 (by decide)
  have g0 : zq_ev rq (2, []) = 2 := zu_e0 _ _
  have g1 : zq_ev rq (0, [(0, 1)]) = r 0 := zu_f1 v0
  have g2 : zq_ev rq (0, [(1, 1)]) = r 1 := zu_f1 v1
  have g3 : zq_ev rq (0, [(2, 1)]) = r 2 := zu_f1 v2
  have g4 : zq_ev rq (0, [(3, 1)]) = r 3 := zu_f1 v3
  have g5 : zq_ev rq (0, [(4, 1)]) = r 4 := zu_f1 v4
  have g6 : zq_ev rq (0, [(5, 1)]) = r 5 := zu_f1 v5
  have g7 : zq_ev rq (0, [(6, 1)]) = r 6 := zu_f1 v6
  have g8 : zq_ev rq (0, [(7, 1)]) = r 7 := zu_f1 v7
  have g9 : zq_ev rq (0, [(8, 1)]) = r 8 := zu_f1 v8
  exact ⟨_, List.mem_cons_self .., rq, hr, zq_MeS_mk rfl hT (zq_all_nil) zq_fan (zq_fan) rfl (zu_fac ((x_EV _ _ _).mpr (by show ze_EV (zq_ev rq (2, [])) (zq_ev rq (0, [(0, 1)])) (zq_ev rq (0, [(1, 1)])) (zq_ev rq (0, [(2, 1)])) (zq_ev rq (0, [(3, 1)])) (zq_ev rq (0, [(4, 1)])) (zq_ev rq (0, [(5, 1)])) (zq_ev rq (0, [(6, 1)])) (zq_ev rq (0, [(7, 1)])) (zq_ev rq (0, [(8, 1)])) P h; simp only [g0, g1, g2, g3, g4, g5, g6, g7, g8, g9]; exact t1)) zq_fan)⟩
noncomputable def ze_f1b : zq_S × List zq_S := (([], [], [(-138, [(4, 1)]), (141, [(4, -1)])], [], [], [], [(223, [(1, []), (2, []), (0, [(0, 1)]), (0, [(1, 1)]), (0, [(2, 1)]), (0, [(3, 1)])]), (224, [(0, [(0, 1)]), (0, [(1, 1)]), (0, [(3, 1)]), (0, [(4, 1)])])], 5), [([], [], [], [], [], [], [(221, [(2, []), (0, [(0, 1)]), (0, [(1, 1)]), (0, [(2, 1)]), (0, [(3, 1)])])], 5)])
theorem ze_f1b_l {P : zq_Ty} {h : zq_H} {g n p q s : Int} (a1 : 0 ≤ s - 138) (a2 : 0 ≤ -s + 141) (k1 : ze_TL 1 2 g n p q P h) (k2 : ze_CD g n q s P h) : (ze_TT 2 g n p q P h) := by
  have k2 : s = ze_c g n q := k2
  exact k1 _ (zt_tl_end (by rw [← k2]; exact by unfold ze_mul; rw [decide_eq_false (by omega), decide_eq_false (by omega), decide_eq_false (by omega)]; rfl))
theorem ze_f1b_ok {w : zq_Wd} (x_TL : zj_is w 223 (fun q => ze_TL (q 0) (q 1) (q 2) (q 3) (q 4) (q 5))) (x_CD : zj_is w 224 (fun q => ze_CD (q 0) (q 1) (q 2) (q 3))) (x_TT : zj_is w 221 (fun q => ze_TT (q 0) (q 1) (q 2) (q 3) (q 4))) : zq_okG1 w ze_f1b := by
  refine ⟨rfl, rfl, zu_fac ⟨rfl, by decide⟩ zq_fan, ?_⟩
  intro r P h H hM
  have q0 : zq_ev r (-138, [(4, 1)]) = r 4 - 138 := zu_e3 _ _ _
  have q1 : zq_ev r (141, [(4, -1)]) = -r 4 + 141 := zu_e5 _ _ _
  have q2 : zq_ev r (1, []) = 1 := zu_e0 _ _
  have q3 : zq_ev r (2, []) = 2 := zu_e0 _ _
  have q4 : zq_ev r (0, [(0, 1)]) = r 0 := zu_e1 _ _
  have q5 : zq_ev r (0, [(1, 1)]) = r 1 := zu_e1 _ _
  have q6 : zq_ev r (0, [(2, 1)]) = r 2 := zu_e1 _ _
  have q7 : zq_ev r (0, [(3, 1)]) = r 3 := zu_e1 _ _
  have q8 : zq_ev r (0, [(4, 1)]) = r 4 := zu_e1 _ _
  obtain ⟨hT, hC, hF, hS, -, hK⟩ := hM
  have c := hC.1
  have a1 := zq_all_1 c
  rw [q0] at a1
  have c := zq_all_t c
  have a2 := zq_all_1 c
  rw [q1] at a2
  have k1 := zj_use x_TL (hK)
  have k1 : ze_TL (zq_ev r (1, [])) (zq_ev r (2, [])) (zq_ev r (0, [(0, 1)])) (zq_ev r (0, [(1, 1)])) (zq_ev r (0, [(2, 1)])) (zq_ev r (0, [(3, 1)])) P h := k1
  simp only [q2, q3, q4, q5, q6, q7] at k1
  have k2 := zj_use x_CD (zq_okX_t (hK))
  have k2 : ze_CD (zq_ev r (0, [(0, 1)])) (zq_ev r (0, [(1, 1)])) (zq_ev r (0, [(3, 1)])) (zq_ev r (0, [(4, 1)])) P h := k2
  simp only [q4, q5, q7, q8] at k2
  obtain t1 := ze_f1b_l (P := P) (h := h) (g := r 0) (n := r 1) (p := r 2) (q := r 3) (s := r 4) a1 a2 k1 k2
  obtain ⟨rq, hr⟩ : ∃ rq : Nat → Int, (∀ i, i < 5 → rq i = r i) := ⟨r, fun i hi => rfl⟩
  have v0 : rq 0 = r 0 := hr 0 (by decide)
  have v1 : rq 1 = r 1 := hr 1 (by decide)
  have v2 : rq 2 = r 2 := hr 2 (by decide)
  have v3 : rq 3 = r 3 := hr 3 (by decide)
  have g0 : zq_ev rq (2, []) = 2 := zu_e0 _ _
  have g1 : zq_ev rq (0, [(0, 1)]) = r 0 := zu_f1 v0
  have g2 : zq_ev rq (0, [(1, 1)]) = r 1 := zu_f1 v1
  have g3 : zq_ev rq (0, [(2, 1)]) = r 2 := zu_f1 v2
  have g4 : zq_ev rq (0, [(3, 1)]) = r 3 := zu_f1 v3
  exact ⟨_, List.mem_cons_self .., rq, hr, zq_MeS_mk rfl hT (zq_all_nil) zq_fan (zq_fan) rfl (zu_fac ((x_TT _ _ _).mpr (by show ze_TT (zq_ev rq (2, [])) (zq_ev rq (0, [(0, 1)])) (zq_ev rq (0, [(1, 1)])) (zq_ev rq (0, [(2, 1)])) (zq_ev rq (0, [(3, 1)])) P h; simp only [g0, g1, g2, g3, g4]; exact t1)) zq_fan)⟩
noncomputable def ze_e1c : zq_S × List zq_S := (([], [], [(-143, [(9, 1)]), (146, [(9, -1)])], [], [], [], [(222, [(1, []), (2, []), (0, [(0, 1)]), (0, [(1, 1)]), (0, [(2, 1)]), (0, [(3, 1)]), (0, [(4, 1)]), (0, [(5, 1)]), (0, [(6, 1)]), (0, [(7, 1)]), (0, [(8, 1)])]), (224, [(0, [(0, 1)]), (0, [(1, 1)]), (0, [(8, 1)]), (0, [(9, 1)])])], 10), [([], [], [], [], [], [], [(220, [(2, []), (0, [(0, 1)]), (0, [(1, 1)]), (0, [(2, 1)]), (0, [(3, 1)]), (0, [(4, 1)]), (0, [(5, 1)]), (0, [(6, 1)]), (0, [(7, 1)]), (0, [(8, 1)])])], 10)])
theorem ze_e1c_l {P : zq_Ty} {h : zq_H} {g n o W b p a c q s : Int} (a1 : 0 ≤ s - 143) (a2 : 0 ≤ -s + 146) (k1 : ze_SL 1 2 g n o W b p a c q P h) (k2 : ze_CD g n q s P h) : (ze_EV 2 g n o W b p a c q P h) := by
  have k2 : s = ze_c g n q := k2
  exact k1 _ _ _ (ze_tl_end (by rw [← k2]; exact by unfold ze_mul; rw [decide_eq_false (by omega), decide_eq_false (by omega), decide_eq_false (by omega)]; rfl))
theorem ze_e1c_ok {w : zq_Wd} (x_SL : zj_is w 222 (fun q => ze_SL (q 0) (q 1) (q 2) (q 3) (q 4) (q 5) (q 6) (q 7) (q 8) (q 9) (q 10))) (x_CD : zj_is w 224 (fun q => ze_CD (q 0) (q 1) (q 2) (q 3))) (x_EV : zj_is w 220 (fun q => ze_EV (q 0) (q 1) (q 2) (q 3) (q 4) (q 5) (q 6) (q 7) (q 8) (q 9))) : zq_okG1 w ze_e1c := by
  refine ⟨rfl, rfl, zu_fac ⟨rfl, by decide⟩ zq_fan, ?_⟩
  intro r P h H hM
  have q0 : zq_ev r (-143, [(9, 1)]) = r 9 - 143 := zu_e3 _ _ _
  have q1 : zq_ev r (146, [(9, -1)]) = -r 9 + 146 := zu_e5 _ _ _
  have q2 : zq_ev r (1, []) = 1 := zu_e0 _ _
  have q3 : zq_ev r (2, []) = 2 := zu_e0 _ _
  have q4 : zq_ev r (0, [(0, 1)]) = r 0 := zu_e1 _ _
  have q5 : zq_ev r (0, [(1, 1)]) = r 1 := zu_e1 _ _
  have q6 : zq_ev r (0, [(2, 1)]) = r 2 := zu_e1 _ _
  have q7 : zq_ev r (0, [(3, 1)]) = r 3 := zu_e1 _ _
  have q8 : zq_ev r (0, [(4, 1)]) = r 4 := zu_e1 _ _
  have q9 : zq_ev r (0, [(5, 1)]) = r 5 := zu_e1 _ _
  have q10 : zq_ev r (0, [(6, 1)]) = r 6 := zu_e1 _ _
  have q11 : zq_ev r (0, [(7, 1)]) = r 7 := zu_e1 _ _
  have q12 : zq_ev r (0, [(8, 1)]) = r 8 := zu_e1 _ _
  have q13 : zq_ev r (0, [(9, 1)]) = r 9 := zu_e1 _ _
  obtain ⟨hT, hC, hF, hS, -, hK⟩ := hM
  have c := hC.1
  have a1 := zq_all_1 c
  rw [q0] at a1
  have c := zq_all_t c
  have a2 := zq_all_1 c
  rw [q1] at a2
  have k1 := zj_use x_SL (hK)
  have k1 : ze_SL (zq_ev r (1, [])) (zq_ev r (2, [])) (zq_ev r (0, [(0, 1)])) (zq_ev r (0, [(1, 1)])) (zq_ev r (0, [(2, 1)])) (zq_ev r (0, [(3, 1)])) (zq_ev r (0, [(4, 1)])) (zq_ev r (0, [(5, 1)])) (zq_ev r (0, [(6, 1)])) (zq_ev r (0, [(7, 1)])) (zq_ev r (0, [(8, 1)])) P h := k1
  simp only [q10, q11, q12, q2, q3, q4, q5, q6, q7, q8, q9] at k1
  have k2 := zj_use x_CD (zq_okX_t (hK))
  have k2 : ze_CD (zq_ev r (0, [(0, 1)])) (zq_ev r (0, [(1, 1)])) (zq_ev r (0, [(8, 1)])) (zq_ev r (0, [(9, 1)])) P h := k2
  simp only [q12, q13, q4, q5] at k2
  obtain t1 := ze_e1c_l (P := P) (h := h) (g := r 0) (n := r 1) (o := r 2) (W := r 3) (b := r 4) (p := r 5) (a := r 6) (c := r 7) (q := r 8) (s := r 9) a1 a2 k1 k2
  obtain ⟨rq, hr⟩ : ∃ rq : Nat → Int, (∀ i, i < 10 → rq i = r i) := ⟨r, fun i hi => rfl⟩
  have v0 : rq 0 = r 0 := hr 0 (by decide)
  have v1 : rq 1 = r 1 := hr 1 (by decide)
  have v2 : rq 2 = r 2 := hr 2 (by decide)
  have v3 : rq 3 = r 3 := hr 3 (by decide)
  have v4 : rq 4 = r 4 := hr 4 (by decide)
  have v5 : rq 5 = r 5 := hr 5 (by decide)
  have v6 : rq 6 = r 6 := hr 6 (by decide)
  have v7 : rq 7 = r 7 := hr 7 (by decide)
  have v8 : rq 8 = r 8 := hr 8 (by decide)
  have g0 : zq_ev rq (2, []) = 2 := zu_e0 _ _
  have g1 : zq_ev rq (0, [(0, 1)]) = r 0 := zu_f1 v0
  have g2 : zq_ev rq (0, [(1, 1)]) = r 1 := zu_f1 v1
  have g3 : zq_ev rq (0, [(2, 1)]) = r 2 := zu_f1 v2
  have g4 : zq_ev rq (0, [(3, 1)]) = r 3 := zu_f1 v3
  have g5 : zq_ev rq (0, [(4, 1)]) = r 4 := zu_f1 v4
  have g6 : zq_ev rq (0, [(5, 1)]) = r 5 := zu_f1 v5
  have g7 : zq_ev rq (0, [(6, 1)]) = r 6 := zu_f1 v6
  have g8 : zq_ev rq (0, [(7, 1)]) = r 7 := zu_f1 v7
  have g9 : zq_ev rq (0, [(8, 1)]) = r 8 := zu_f1 v8
  exact ⟨_, List.mem_cons_self .., rq, hr, zq_MeS_mk rfl hT (zq_all_nil) zq_fan (zq_fan) rfl (zu_fac ((x_EV _ _ _).mpr (by show ze_EV (zq_ev rq (2, [])) (zq_ev rq (0, [(0, 1)])) (zq_ev rq (0, [(1, 1)])) (zq_ev rq (0, [(2, 1)])) (zq_ev rq (0, [(3, 1)])) (zq_ev rq (0, [(4, 1)])) (zq_ev rq (0, [(5, 1)])) (zq_ev rq (0, [(6, 1)])) (zq_ev rq (0, [(7, 1)])) (zq_ev rq (0, [(8, 1)])) P h; simp only [g0, g1, g2, g3, g4, g5, g6, g7, g8, g9]; exact t1)) zq_fan)⟩
noncomputable def ze_f1c : zq_S × List zq_S := (([], [], [(-143, [(4, 1)]), (146, [(4, -1)])], [], [], [], [(223, [(1, []), (2, []), (0, [(0, 1)]), (0, [(1, 1)]), (0, [(2, 1)]), (0, [(3, 1)])]), (224, [(0, [(0, 1)]), (0, [(1, 1)]), (0, [(3, 1)]), (0, [(4, 1)])])], 5), [([], [], [], [], [], [], [(221, [(2, []), (0, [(0, 1)]), (0, [(1, 1)]), (0, [(2, 1)]), (0, [(3, 1)])])], 5)])
theorem ze_f1c_l {P : zq_Ty} {h : zq_H} {g n p q s : Int} (a1 : 0 ≤ s - 143) (a2 : 0 ≤ -s + 146) (k1 : ze_TL 1 2 g n p q P h) (k2 : ze_CD g n q s P h) : (ze_TT 2 g n p q P h) := by
  have k2 : s = ze_c g n q := k2
  exact k1 _ (zt_tl_end (by rw [← k2]; exact by unfold ze_mul; rw [decide_eq_false (by omega), decide_eq_false (by omega), decide_eq_false (by omega)]; rfl))
theorem ze_f1c_ok {w : zq_Wd} (x_TL : zj_is w 223 (fun q => ze_TL (q 0) (q 1) (q 2) (q 3) (q 4) (q 5))) (x_CD : zj_is w 224 (fun q => ze_CD (q 0) (q 1) (q 2) (q 3))) (x_TT : zj_is w 221 (fun q => ze_TT (q 0) (q 1) (q 2) (q 3) (q 4))) : zq_okG1 w ze_f1c := by
  refine ⟨rfl, rfl, zu_fac ⟨rfl, by decide⟩ zq_fan, ?_⟩
  intro r P h H hM
  have q0 : zq_ev r (-143, [(4, 1)]) = r 4 - 143 := zu_e3 _ _ _
  have q1 : zq_ev r (146, [(4, -1)]) = -r 4 + 146 := zu_e5 _ _ _
  have q2 : zq_ev r (1, []) = 1 := zu_e0 _ _
  have q3 : zq_ev r (2, []) = 2 := zu_e0 _ _
  have q4 : zq_ev r (0, [(0, 1)]) = r 0 := zu_e1 _ _
  have q5 : zq_ev r (0, [(1, 1)]) = r 1 := zu_e1 _ _
  have q6 : zq_ev r (0, [(2, 1)]) = r 2 := zu_e1 _ _
  have q7 : zq_ev r (0, [(3, 1)]) = r 3 := zu_e1 _ _
  have q8 : zq_ev r (0, [(4, 1)]) = r 4 := zu_e1 _ _
  obtain ⟨hT, hC, hF, hS, -, hK⟩ := hM
  have c := hC.1
  have a1 := zq_all_1 c
  rw [q0] at a1
  have c := zq_all_t c
  have a2 := zq_all_1 c
  rw [q1] at a2
  have k1 := zj_use x_TL (hK)
  have k1 : ze_TL (zq_ev r (1, [])) (zq_ev r (2, [])) (zq_ev r (0, [(0, 1)])) (zq_ev r (0, [(1, 1)])) (zq_ev r (0, [(2, 1)])) (zq_ev r (0, [(3, 1)])) P h := k1
  simp only [q2, q3, q4, q5, q6, q7] at k1
  have k2 := zj_use x_CD (zq_okX_t (hK))
  have k2 : ze_CD (zq_ev r (0, [(0, 1)])) (zq_ev r (0, [(1, 1)])) (zq_ev r (0, [(3, 1)])) (zq_ev r (0, [(4, 1)])) P h := k2
  simp only [q4, q5, q7, q8] at k2
  obtain t1 := ze_f1c_l (P := P) (h := h) (g := r 0) (n := r 1) (p := r 2) (q := r 3) (s := r 4) a1 a2 k1 k2
  obtain ⟨rq, hr⟩ : ∃ rq : Nat → Int, (∀ i, i < 5 → rq i = r i) := ⟨r, fun i hi => rfl⟩
  have v0 : rq 0 = r 0 := hr 0 (by decide)
  have v1 : rq 1 = r 1 := hr 1 (by decide)
  have v2 : rq 2 = r 2 := hr 2 (by decide)
  have v3 : rq 3 = r 3 := hr 3 (by decide)
  have g0 : zq_ev rq (2, []) = 2 := zu_e0 _ _
  have g1 : zq_ev rq (0, [(0, 1)]) = r 0 := zu_f1 v0
  have g2 : zq_ev rq (0, [(1, 1)]) = r 1 := zu_f1 v1
  have g3 : zq_ev rq (0, [(2, 1)]) = r 2 := zu_f1 v2
  have g4 : zq_ev rq (0, [(3, 1)]) = r 3 := zu_f1 v3
  exact ⟨_, List.mem_cons_self .., rq, hr, zq_MeS_mk rfl hT (zq_all_nil) zq_fan (zq_fan) rfl (zu_fac ((x_TT _ _ _).mpr (by show ze_TT (zq_ev rq (2, [])) (zq_ev rq (0, [(0, 1)])) (zq_ev rq (0, [(1, 1)])) (zq_ev rq (0, [(2, 1)])) (zq_ev rq (0, [(3, 1)])) P h; simp only [g0, g1, g2, g3, g4]; exact t1)) zq_fan)⟩
noncomputable def ze_e1d : zq_S × List zq_S := (([], [], [(-148, [(9, 1)])], [], [], [], [(222, [(1, []), (2, []), (0, [(0, 1)]), (0, [(1, 1)]), (0, [(2, 1)]), (0, [(3, 1)]), (0, [(4, 1)]), (0, [(5, 1)]), (0, [(6, 1)]), (0, [(7, 1)]), (0, [(8, 1)])]), (224, [(0, [(0, 1)]), (0, [(1, 1)]), (0, [(8, 1)]), (0, [(9, 1)])])], 10), [([], [], [], [], [], [], [(220, [(2, []), (0, [(0, 1)]), (0, [(1, 1)]), (0, [(2, 1)]), (0, [(3, 1)]), (0, [(4, 1)]), (0, [(5, 1)]), (0, [(6, 1)]), (0, [(7, 1)]), (0, [(8, 1)])])], 10)])
theorem ze_e1d_l {P : zq_Ty} {h : zq_H} {g n o W b p a c q s : Int} (a1 : 0 ≤ s - 148) (k1 : ze_SL 1 2 g n o W b p a c q P h) (k2 : ze_CD g n q s P h) : (ze_EV 2 g n o W b p a c q P h) := by
  have k2 : s = ze_c g n q := k2
  exact k1 _ _ _ (ze_tl_end (by rw [← k2]; exact by unfold ze_mul; rw [decide_eq_false (by omega), decide_eq_false (by omega), decide_eq_false (by omega)]; rfl))
theorem ze_e1d_ok {w : zq_Wd} (x_SL : zj_is w 222 (fun q => ze_SL (q 0) (q 1) (q 2) (q 3) (q 4) (q 5) (q 6) (q 7) (q 8) (q 9) (q 10))) (x_CD : zj_is w 224 (fun q => ze_CD (q 0) (q 1) (q 2) (q 3))) (x_EV : zj_is w 220 (fun q => ze_EV (q 0) (q 1) (q 2) (q 3) (q 4) (q 5) (q 6) (q 7) (q 8) (q 9))) : zq_okG1 w ze_e1d := by
  refine ⟨rfl, rfl, zu_fac ⟨rfl, by decide⟩ zq_fan, ?_⟩
  intro r P h H hM
  have q0 : zq_ev r (-148, [(9, 1)]) = r 9 - 148 := zu_e3 _ _ _
  have q1 : zq_ev r (1, []) = 1 := zu_e0 _ _
  have q2 : zq_ev r (2, []) = 2 := zu_e0 _ _
  have q3 : zq_ev r (0, [(0, 1)]) = r 0 := zu_e1 _ _
  have q4 : zq_ev r (0, [(1, 1)]) = r 1 := zu_e1 _ _
  have q5 : zq_ev r (0, [(2, 1)]) = r 2 := zu_e1 _ _
  have q6 : zq_ev r (0, [(3, 1)]) = r 3 := zu_e1 _ _
  have q7 : zq_ev r (0, [(4, 1)]) = r 4 := zu_e1 _ _
  have q8 : zq_ev r (0, [(5, 1)]) = r 5 := zu_e1 _ _
  have q9 : zq_ev r (0, [(6, 1)]) = r 6 := zu_e1 _ _
  have q10 : zq_ev r (0, [(7, 1)]) = r 7 := zu_e1 _ _
  have q11 : zq_ev r (0, [(8, 1)]) = r 8 := zu_e1 _ _
  have q12 : zq_ev r (0, [(9, 1)]) = r 9 := zu_e1 _ _
  obtain ⟨hT, hC, hF, hS, -, hK⟩ := hM
  have c := hC.1
  have a1 := zq_all_1 c
  rw [q0] at a1
  have k1 := zj_use x_SL (hK)
  have k1 : ze_SL (zq_ev r (1, [])) (zq_ev r (2, [])) (zq_ev r (0, [(0, 1)])) (zq_ev r (0, [(1, 1)])) (zq_ev r (0, [(2, 1)])) (zq_ev r (0, [(3, 1)])) (zq_ev r (0, [(4, 1)])) (zq_ev r (0, [(5, 1)])) (zq_ev r (0, [(6, 1)])) (zq_ev r (0, [(7, 1)])) (zq_ev r (0, [(8, 1)])) P h := k1
  simp only [q1, q10, q11, q2, q3, q4, q5, q6, q7, q8, q9] at k1
  have k2 := zj_use x_CD (zq_okX_t (hK))
  have k2 : ze_CD (zq_ev r (0, [(0, 1)])) (zq_ev r (0, [(1, 1)])) (zq_ev r (0, [(8, 1)])) (zq_ev r (0, [(9, 1)])) P h := k2
  simp only [q11, q12, q3, q4] at k2
  obtain t1 := ze_e1d_l (P := P) (h := h) (g := r 0) (n := r 1) (o := r 2) (W := r 3) (b := r 4) (p := r 5) (a := r 6) (c := r 7) (q := r 8) (s := r 9) a1 k1 k2
  obtain ⟨rq, hr⟩ : ∃ rq : Nat → Int, (∀ i, i < 10 → rq i = r i) := ⟨r, fun i hi => rfl⟩
  have v0 : rq 0 = r 0 := hr 0 (by decide)
  have v1 : rq 1 = r 1 := hr 1 (by decide)
  have v2 : rq 2 = r 2 := hr 2 (by decide)
  have v3 : rq 3 = r 3 := hr 3 (by decide)
  have v4 : rq 4 = r 4 := hr 4 (by decide)
  have v5 : rq 5 = r 5 := hr 5 (by decide)
  have v6 : rq 6 = r 6 := hr 6 (by decide)
  have v7 : rq 7 = r 7 := hr 7 (by decide)
  have v8 : rq 8 = r 8 := hr 8 (by decide)
  have g0 : zq_ev rq (2, []) = 2 := zu_e0 _ _
  have g1 : zq_ev rq (0, [(0, 1)]) = r 0 := zu_f1 v0
  have g2 : zq_ev rq (0, [(1, 1)]) = r 1 := zu_f1 v1
  have g3 : zq_ev rq (0, [(2, 1)]) = r 2 := zu_f1 v2
  have g4 : zq_ev rq (0, [(3, 1)]) = r 3 := zu_f1 v3
  have g5 : zq_ev rq (0, [(4, 1)]) = r 4 := zu_f1 v4
  have g6 : zq_ev rq (0, [(5, 1)]) = r 5 := zu_f1 v5
  have g7 : zq_ev rq (0, [(6, 1)]) = r 6 := zu_f1 v6
  have g8 : zq_ev rq (0, [(7, 1)]) = r 7 := zu_f1 v7
  have g9 : zq_ev rq (0, [(8, 1)]) = r 8 := zu_f1 v8
  exact ⟨_, List.mem_cons_self .., rq, hr, zq_MeS_mk rfl hT (zq_all_nil) zq_fan (zq_fan) rfl (zu_fac ((x_EV _ _ _).mpr (by show ze_EV (zq_ev rq (2, [])) (zq_ev rq (0, [(0, 1)])) (zq_ev rq (0, [(1, 1)])) (zq_ev rq (0, [(2, 1)])) (zq_ev rq (0, [(3, 1)])) (zq_ev rq (0, [(4, 1)])) (zq_ev rq (0, [(5, 1)])) (zq_ev rq (0, [(6, 1)])) (zq_ev rq (0, [(7, 1)])) (zq_ev rq (0, [(8, 1)])) P h; simp only [g0, g1, g2, g3, g4, g5, g6, g7, g8, g9]; exact t1)) zq_fan)⟩
noncomputable def ze_f1d : zq_S × List zq_S := (([], [], [(-148, [(4, 1)])], [], [], [], [(223, [(1, []), (2, []), (0, [(0, 1)]), (0, [(1, 1)]), (0, [(2, 1)]), (0, [(3, 1)])]), (224, [(0, [(0, 1)]), (0, [(1, 1)]), (0, [(3, 1)]), (0, [(4, 1)])])], 5), [([], [], [], [], [], [], [(221, [(2, []), (0, [(0, 1)]), (0, [(1, 1)]), (0, [(2, 1)]), (0, [(3, 1)])])], 5)])
theorem ze_f1d_l {P : zq_Ty} {h : zq_H} {g n p q s : Int} (a1 : 0 ≤ s - 148) (k1 : ze_TL 1 2 g n p q P h) (k2 : ze_CD g n q s P h) : (ze_TT 2 g n p q P h) := by
  have k2 : s = ze_c g n q := k2
  exact k1 _ (zt_tl_end (by rw [← k2]; exact by unfold ze_mul; rw [decide_eq_false (by omega), decide_eq_false (by omega), decide_eq_false (by omega)]; rfl))
theorem ze_f1d_ok {w : zq_Wd} (x_TL : zj_is w 223 (fun q => ze_TL (q 0) (q 1) (q 2) (q 3) (q 4) (q 5))) (x_CD : zj_is w 224 (fun q => ze_CD (q 0) (q 1) (q 2) (q 3))) (x_TT : zj_is w 221 (fun q => ze_TT (q 0) (q 1) (q 2) (q 3) (q 4))) : zq_okG1 w ze_f1d := by
  refine ⟨rfl, rfl, zu_fac ⟨rfl, by decide⟩ zq_fan, ?_⟩
  intro r P h H hM
  have q0 : zq_ev r (-148, [(4, 1)]) = r 4 - 148 := zu_e3 _ _ _
  have q1 : zq_ev r (1, []) = 1 := zu_e0 _ _
  have q2 : zq_ev r (2, []) = 2 := zu_e0 _ _
  have q3 : zq_ev r (0, [(0, 1)]) = r 0 := zu_e1 _ _
  have q4 : zq_ev r (0, [(1, 1)]) = r 1 := zu_e1 _ _
  have q5 : zq_ev r (0, [(2, 1)]) = r 2 := zu_e1 _ _
  have q6 : zq_ev r (0, [(3, 1)]) = r 3 := zu_e1 _ _
  have q7 : zq_ev r (0, [(4, 1)]) = r 4 := zu_e1 _ _
  obtain ⟨hT, hC, hF, hS, -, hK⟩ := hM
  have c := hC.1
  have a1 := zq_all_1 c
  rw [q0] at a1
  have k1 := zj_use x_TL (hK)
  have k1 : ze_TL (zq_ev r (1, [])) (zq_ev r (2, [])) (zq_ev r (0, [(0, 1)])) (zq_ev r (0, [(1, 1)])) (zq_ev r (0, [(2, 1)])) (zq_ev r (0, [(3, 1)])) P h := k1
  simp only [q1, q2, q3, q4, q5, q6] at k1
  have k2 := zj_use x_CD (zq_okX_t (hK))
  have k2 : ze_CD (zq_ev r (0, [(0, 1)])) (zq_ev r (0, [(1, 1)])) (zq_ev r (0, [(3, 1)])) (zq_ev r (0, [(4, 1)])) P h := k2
  simp only [q3, q4, q6, q7] at k2
  obtain t1 := ze_f1d_l (P := P) (h := h) (g := r 0) (n := r 1) (p := r 2) (q := r 3) (s := r 4) a1 k1 k2
  obtain ⟨rq, hr⟩ : ∃ rq : Nat → Int, (∀ i, i < 5 → rq i = r i) := ⟨r, fun i hi => rfl⟩
  have v0 : rq 0 = r 0 := hr 0 (by decide)
  have v1 : rq 1 = r 1 := hr 1 (by decide)
  have v2 : rq 2 = r 2 := hr 2 (by decide)
  have v3 : rq 3 = r 3 := hr 3 (by decide)
  have g0 : zq_ev rq (2, []) = 2 := zu_e0 _ _
  have g1 : zq_ev rq (0, [(0, 1)]) = r 0 := zu_f1 v0
  have g2 : zq_ev rq (0, [(1, 1)]) = r 1 := zu_f1 v1
  have g3 : zq_ev rq (0, [(2, 1)]) = r 2 := zu_f1 v2
  have g4 : zq_ev rq (0, [(3, 1)]) = r 3 := zu_f1 v3
  exact ⟨_, List.mem_cons_self .., rq, hr, zq_MeS_mk rfl hT (zq_all_nil) zq_fan (zq_fan) rfl (zu_fac ((x_TT _ _ _).mpr (by show ze_TT (zq_ev rq (2, [])) (zq_ev rq (0, [(0, 1)])) (zq_ev rq (0, [(1, 1)])) (zq_ev rq (0, [(2, 1)])) (zq_ev rq (0, [(3, 1)])) P h; simp only [g0, g1, g2, g3, g4]; exact t1)) zq_fan)⟩
noncomputable def ze_e3a : zq_S × List zq_S := (([], [], [(142, [(9, -1)])], [], [], [], [(222, [(3, []), (4, []), (0, [(0, 1)]), (0, [(1, 1)]), (0, [(2, 1)]), (0, [(3, 1)]), (0, [(4, 1)]), (0, [(5, 1)]), (0, [(6, 1)]), (0, [(7, 1)]), (0, [(8, 1)])]), (224, [(0, [(0, 1)]), (0, [(1, 1)]), (0, [(8, 1)]), (0, [(9, 1)])])], 10), [([], [], [], [], [], [], [(220, [(4, []), (0, [(0, 1)]), (0, [(1, 1)]), (0, [(2, 1)]), (0, [(3, 1)]), (0, [(4, 1)]), (0, [(5, 1)]), (0, [(6, 1)]), (0, [(7, 1)]), (0, [(8, 1)])])], 10)])
theorem ze_e3a_l {P : zq_Ty} {h : zq_H} {g n o W b p a c q s : Int} (a1 : 0 ≤ -s + 142) (k1 : ze_SL 3 4 g n o W b p a c q P h) (k2 : ze_CD g n q s P h) : (ze_EV 4 g n o W b p a c q P h) := by
  have k2 : s = ze_c g n q := k2
  exact k1 _ _ _ (ze_sl_end (by rw [← k2]; exact by unfold ze_add; rw [decide_eq_false (by omega), decide_eq_false (by omega)]; rfl))
theorem ze_e3a_ok {w : zq_Wd} (x_SL : zj_is w 222 (fun q => ze_SL (q 0) (q 1) (q 2) (q 3) (q 4) (q 5) (q 6) (q 7) (q 8) (q 9) (q 10))) (x_CD : zj_is w 224 (fun q => ze_CD (q 0) (q 1) (q 2) (q 3))) (x_EV : zj_is w 220 (fun q => ze_EV (q 0) (q 1) (q 2) (q 3) (q 4) (q 5) (q 6) (q 7) (q 8) (q 9))) : zq_okG1 w ze_e3a := by
  refine ⟨rfl, rfl, zu_fac ⟨rfl, by decide⟩ zq_fan, ?_⟩
  intro r P h H hM
  have q0 : zq_ev r (142, [(9, -1)]) = -r 9 + 142 := zu_e5 _ _ _
  have q1 : zq_ev r (3, []) = 3 := zu_e0 _ _
  have q2 : zq_ev r (4, []) = 4 := zu_e0 _ _
  have q3 : zq_ev r (0, [(0, 1)]) = r 0 := zu_e1 _ _
  have q4 : zq_ev r (0, [(1, 1)]) = r 1 := zu_e1 _ _
  have q5 : zq_ev r (0, [(2, 1)]) = r 2 := zu_e1 _ _
  have q6 : zq_ev r (0, [(3, 1)]) = r 3 := zu_e1 _ _
  have q7 : zq_ev r (0, [(4, 1)]) = r 4 := zu_e1 _ _
  have q8 : zq_ev r (0, [(5, 1)]) = r 5 := zu_e1 _ _
  have q9 : zq_ev r (0, [(6, 1)]) = r 6 := zu_e1 _ _
  have q10 : zq_ev r (0, [(7, 1)]) = r 7 := zu_e1 _ _
  have q11 : zq_ev r (0, [(8, 1)]) = r 8 := zu_e1 _ _
  have q12 : zq_ev r (0, [(9, 1)]) = r 9 := zu_e1 _ _
  obtain ⟨hT, hC, hF, hS, -, hK⟩ := hM
  have c := hC.1
  have a1 := zq_all_1 c
  rw [q0] at a1
  have k1 := zj_use x_SL (hK)
  have k1 : ze_SL (zq_ev r (3, [])) (zq_ev r (4, [])) (zq_ev r (0, [(0, 1)])) (zq_ev r (0, [(1, 1)])) (zq_ev r (0, [(2, 1)])) (zq_ev r (0, [(3, 1)])) (zq_ev r (0, [(4, 1)])) (zq_ev r (0, [(5, 1)])) (zq_ev r (0, [(6, 1)])) (zq_ev r (0, [(7, 1)])) (zq_ev r (0, [(8, 1)])) P h := k1
  simp only [q1, q10, q11, q2, q3, q4, q5, q6, q7, q8, q9] at k1
  have k2 := zj_use x_CD (zq_okX_t (hK))
  have k2 : ze_CD (zq_ev r (0, [(0, 1)])) (zq_ev r (0, [(1, 1)])) (zq_ev r (0, [(8, 1)])) (zq_ev r (0, [(9, 1)])) P h := k2
  simp only [q11, q12, q3, q4] at k2
  obtain t1 := ze_e3a_l (P := P) (h := h) (g := r 0) (n := r 1) (o := r 2) (W := r 3) (b := r 4) (p := r 5) (a := r 6) (c := r 7) (q := r 8) (s := r 9) a1 k1 k2
  obtain ⟨rq, hr⟩ : ∃ rq : Nat → Int, (∀ i, i < 10 → rq i = r i) := ⟨r, fun i hi => rfl⟩
  have v0 : rq 0 = r 0 := hr 0 (by decide)
  have v1 : rq 1 = r 1 := hr 1 (by decide)
  have v2 : rq 2 = r 2 := hr 2 (by decide)
  have v3 : rq 3 = r 3 := hr 3 (by decide)
  have v4 : rq 4 = r 4 := hr 4 (by decide)
  have v5 : rq 5 = r 5 := hr 5 (by decide)
  have v6 : rq 6 = r 6 := hr 6 (by decide)
  have v7 : rq 7 = r 7 := hr 7 (by decide)
  have v8 : rq 8 = r 8 := hr 8 (by decide)
  have g0 : zq_ev rq (4, []) = 4 := zu_e0 _ _
  have g1 : zq_ev rq (0, [(0, 1)]) = r 0 := zu_f1 v0
  have g2 : zq_ev rq (0, [(1, 1)]) = r 1 := zu_f1 v1
  have g3 : zq_ev rq (0, [(2, 1)]) = r 2 := zu_f1 v2
  have g4 : zq_ev rq (0, [(3, 1)]) = r 3 := zu_f1 v3
  have g5 : zq_ev rq (0, [(4, 1)]) = r 4 := zu_f1 v4
  have g6 : zq_ev rq (0, [(5, 1)]) = r 5 := zu_f1 v5
  have g7 : zq_ev rq (0, [(6, 1)]) = r 6 := zu_f1 v6
  have g8 : zq_ev rq (0, [(7, 1)]) = r 7 := zu_f1 v7
  have g9 : zq_ev rq (0, [(8, 1)]) = r 8 := zu_f1 v8
  exact ⟨_, List.mem_cons_self .., rq, hr, zq_MeS_mk rfl hT (zq_all_nil) zq_fan (zq_fan) rfl (zu_fac ((x_EV _ _ _).mpr (by show ze_EV (zq_ev rq (4, [])) (zq_ev rq (0, [(0, 1)])) (zq_ev rq (0, [(1, 1)])) (zq_ev rq (0, [(2, 1)])) (zq_ev rq (0, [(3, 1)])) (zq_ev rq (0, [(4, 1)])) (zq_ev rq (0, [(5, 1)])) (zq_ev rq (0, [(6, 1)])) (zq_ev rq (0, [(7, 1)])) (zq_ev rq (0, [(8, 1)])) P h; simp only [g0, g1, g2, g3, g4, g5, g6, g7, g8, g9]; exact t1)) zq_fan)⟩
noncomputable def ze_f3a : zq_S × List zq_S := (([], [], [(142, [(4, -1)])], [], [], [], [(223, [(3, []), (4, []), (0, [(0, 1)]), (0, [(1, 1)]), (0, [(2, 1)]), (0, [(3, 1)])]), (224, [(0, [(0, 1)]), (0, [(1, 1)]), (0, [(3, 1)]), (0, [(4, 1)])])], 5), [([], [], [], [], [], [], [(221, [(4, []), (0, [(0, 1)]), (0, [(1, 1)]), (0, [(2, 1)]), (0, [(3, 1)])])], 5)])
theorem ze_f3a_l {P : zq_Ty} {h : zq_H} {g n p q s : Int} (a1 : 0 ≤ -s + 142) (k1 : ze_TL 3 4 g n p q P h) (k2 : ze_CD g n q s P h) : (ze_TT 4 g n p q P h) := by
  have k2 : s = ze_c g n q := k2
  exact k1 _ (zt_sl_end (by rw [← k2]; exact by unfold ze_add; rw [decide_eq_false (by omega), decide_eq_false (by omega)]; rfl))
theorem ze_f3a_ok {w : zq_Wd} (x_TL : zj_is w 223 (fun q => ze_TL (q 0) (q 1) (q 2) (q 3) (q 4) (q 5))) (x_CD : zj_is w 224 (fun q => ze_CD (q 0) (q 1) (q 2) (q 3))) (x_TT : zj_is w 221 (fun q => ze_TT (q 0) (q 1) (q 2) (q 3) (q 4))) : zq_okG1 w ze_f3a := by
  refine ⟨rfl, rfl, zu_fac ⟨rfl, by decide⟩ zq_fan, ?_⟩
  intro r P h H hM
  have q0 : zq_ev r (142, [(4, -1)]) = -r 4 + 142 := zu_e5 _ _ _
  have q1 : zq_ev r (3, []) = 3 := zu_e0 _ _
  have q2 : zq_ev r (4, []) = 4 := zu_e0 _ _
  have q3 : zq_ev r (0, [(0, 1)]) = r 0 := zu_e1 _ _
  have q4 : zq_ev r (0, [(1, 1)]) = r 1 := zu_e1 _ _
  have q5 : zq_ev r (0, [(2, 1)]) = r 2 := zu_e1 _ _
  have q6 : zq_ev r (0, [(3, 1)]) = r 3 := zu_e1 _ _
  have q7 : zq_ev r (0, [(4, 1)]) = r 4 := zu_e1 _ _
  obtain ⟨hT, hC, hF, hS, -, hK⟩ := hM
  have c := hC.1
  have a1 := zq_all_1 c
  rw [q0] at a1
  have k1 := zj_use x_TL (hK)
  have k1 : ze_TL (zq_ev r (3, [])) (zq_ev r (4, [])) (zq_ev r (0, [(0, 1)])) (zq_ev r (0, [(1, 1)])) (zq_ev r (0, [(2, 1)])) (zq_ev r (0, [(3, 1)])) P h := k1
  simp only [q1, q2, q3, q4, q5, q6] at k1
  have k2 := zj_use x_CD (zq_okX_t (hK))
  have k2 : ze_CD (zq_ev r (0, [(0, 1)])) (zq_ev r (0, [(1, 1)])) (zq_ev r (0, [(3, 1)])) (zq_ev r (0, [(4, 1)])) P h := k2
  simp only [q3, q4, q6, q7] at k2
  obtain t1 := ze_f3a_l (P := P) (h := h) (g := r 0) (n := r 1) (p := r 2) (q := r 3) (s := r 4) a1 k1 k2
  obtain ⟨rq, hr⟩ : ∃ rq : Nat → Int, (∀ i, i < 5 → rq i = r i) := ⟨r, fun i hi => rfl⟩
  have v0 : rq 0 = r 0 := hr 0 (by decide)
  have v1 : rq 1 = r 1 := hr 1 (by decide)
  have v2 : rq 2 = r 2 := hr 2 (by decide)
  have v3 : rq 3 = r 3 := hr 3 (by decide)
  have g0 : zq_ev rq (4, []) = 4 := zu_e0 _ _
  have g1 : zq_ev rq (0, [(0, 1)]) = r 0 := zu_f1 v0
  have g2 : zq_ev rq (0, [(1, 1)]) = r 1 := zu_f1 v1
  have g3 : zq_ev rq (0, [(2, 1)]) = r 2 := zu_f1 v2
  have g4 : zq_ev rq (0, [(3, 1)]) = r 3 := zu_f1 v3
  exact ⟨_, List.mem_cons_self .., rq, hr, zq_MeS_mk rfl hT (zq_all_nil) zq_fan (zq_fan) rfl (zu_fac ((x_TT _ _ _).mpr (by show ze_TT (zq_ev rq (4, [])) (zq_ev rq (0, [(0, 1)])) (zq_ev rq (0, [(1, 1)])) (zq_ev rq (0, [(2, 1)])) (zq_ev rq (0, [(3, 1)])) P h; simp only [g0, g1, g2, g3, g4]; exact t1)) zq_fan)⟩
noncomputable def ze_e3b : zq_S × List zq_S := (([], [], [(-144, [(9, 1)]), (144, [(9, -1)])], [], [], [], [(222, [(3, []), (4, []), (0, [(0, 1)]), (0, [(1, 1)]), (0, [(2, 1)]), (0, [(3, 1)]), (0, [(4, 1)]), (0, [(5, 1)]), (0, [(6, 1)]), (0, [(7, 1)]), (0, [(8, 1)])]), (224, [(0, [(0, 1)]), (0, [(1, 1)]), (0, [(8, 1)]), (0, [(9, 1)])])], 10), [([], [], [], [], [], [], [(220, [(4, []), (0, [(0, 1)]), (0, [(1, 1)]), (0, [(2, 1)]), (0, [(3, 1)]), (0, [(4, 1)]), (0, [(5, 1)]), (0, [(6, 1)]), (0, [(7, 1)]), (0, [(8, 1)])])], 10)])
theorem ze_e3b_l {P : zq_Ty} {h : zq_H} {g n o W b p a c q s : Int} (a1 : 0 ≤ s - 144) (a2 : 0 ≤ -s + 144) (k1 : ze_SL 3 4 g n o W b p a c q P h) (k2 : ze_CD g n q s P h) : (ze_EV 4 g n o W b p a c q P h) := by
  have k2 : s = ze_c g n q := k2
  exact k1 _ _ _ (ze_sl_end (by rw [← k2]; exact by unfold ze_add; rw [decide_eq_false (by omega), decide_eq_false (by omega)]; rfl))
theorem ze_e3b_ok {w : zq_Wd} (x_SL : zj_is w 222 (fun q => ze_SL (q 0) (q 1) (q 2) (q 3) (q 4) (q 5) (q 6) (q 7) (q 8) (q 9) (q 10))) (x_CD : zj_is w 224 (fun q => ze_CD (q 0) (q 1) (q 2) (q 3))) (x_EV : zj_is w 220 (fun q => ze_EV (q 0) (q 1) (q 2) (q 3) (q 4) (q 5) (q 6) (q 7) (q 8) (q 9))) : zq_okG1 w ze_e3b := by
  refine ⟨rfl, rfl, zu_fac ⟨rfl, by decide⟩ zq_fan, ?_⟩
  intro r P h H hM
  have q0 : zq_ev r (-144, [(9, 1)]) = r 9 - 144 := zu_e3 _ _ _
  have q1 : zq_ev r (144, [(9, -1)]) = -r 9 + 144 := zu_e5 _ _ _
  have q2 : zq_ev r (3, []) = 3 := zu_e0 _ _
  have q3 : zq_ev r (4, []) = 4 := zu_e0 _ _
  have q4 : zq_ev r (0, [(0, 1)]) = r 0 := zu_e1 _ _
  have q5 : zq_ev r (0, [(1, 1)]) = r 1 := zu_e1 _ _
  have q6 : zq_ev r (0, [(2, 1)]) = r 2 := zu_e1 _ _
  have q7 : zq_ev r (0, [(3, 1)]) = r 3 := zu_e1 _ _
  have q8 : zq_ev r (0, [(4, 1)]) = r 4 := zu_e1 _ _
  have q9 : zq_ev r (0, [(5, 1)]) = r 5 := zu_e1 _ _
  have q10 : zq_ev r (0, [(6, 1)]) = r 6 := zu_e1 _ _
  have q11 : zq_ev r (0, [(7, 1)]) = r 7 := zu_e1 _ _
  have q12 : zq_ev r (0, [(8, 1)]) = r 8 := zu_e1 _ _
  have q13 : zq_ev r (0, [(9, 1)]) = r 9 := zu_e1 _ _
  obtain ⟨hT, hC, hF, hS, -, hK⟩ := hM
  have c := hC.1
  have a1 := zq_all_1 c
  rw [q0] at a1
  have c := zq_all_t c
  have a2 := zq_all_1 c
  rw [q1] at a2
  have k1 := zj_use x_SL (hK)
  have k1 : ze_SL (zq_ev r (3, [])) (zq_ev r (4, [])) (zq_ev r (0, [(0, 1)])) (zq_ev r (0, [(1, 1)])) (zq_ev r (0, [(2, 1)])) (zq_ev r (0, [(3, 1)])) (zq_ev r (0, [(4, 1)])) (zq_ev r (0, [(5, 1)])) (zq_ev r (0, [(6, 1)])) (zq_ev r (0, [(7, 1)])) (zq_ev r (0, [(8, 1)])) P h := k1
  simp only [q10, q11, q12, q2, q3, q4, q5, q6, q7, q8, q9] at k1
  have k2 := zj_use x_CD (zq_okX_t (hK))
  have k2 : ze_CD (zq_ev r (0, [(0, 1)])) (zq_ev r (0, [(1, 1)])) (zq_ev r (0, [(8, 1)])) (zq_ev r (0, [(9, 1)])) P h := k2
  simp only [q12, q13, q4, q5] at k2
  obtain t1 := ze_e3b_l (P := P) (h := h) (g := r 0) (n := r 1) (o := r 2) (W := r 3) (b := r 4) (p := r 5) (a := r 6) (c := r 7) (q := r 8) (s := r 9) a1 a2 k1 k2
  obtain ⟨rq, hr⟩ : ∃ rq : Nat → Int, (∀ i, i < 10 → rq i = r i) := ⟨r, fun i hi => rfl⟩
  have v0 : rq 0 = r 0 := hr 0 (by decide)
  have v1 : rq 1 = r 1 := hr 1 (by decide)
  have v2 : rq 2 = r 2 := hr 2 (by decide)
  have v3 : rq 3 = r 3 := hr 3 (by decide)
  have v4 : rq 4 = r 4 := hr 4 (by decide)
  have v5 : rq 5 = r 5 := hr 5 (by decide)
  have v6 : rq 6 = r 6 := hr 6 (by decide)
  have v7 : rq 7 = r 7 := hr 7 (by decide)
  have v8 : rq 8 = r 8 := hr 8 (by decide)
  have g0 : zq_ev rq (4, []) = 4 := zu_e0 _ _
  have g1 : zq_ev rq (0, [(0, 1)]) = r 0 := zu_f1 v0
  have g2 : zq_ev rq (0, [(1, 1)]) = r 1 := zu_f1 v1
  have g3 : zq_ev rq (0, [(2, 1)]) = r 2 := zu_f1 v2
  have g4 : zq_ev rq (0, [(3, 1)]) = r 3 := zu_f1 v3
  have g5 : zq_ev rq (0, [(4, 1)]) = r 4 := zu_f1 v4
  have g6 : zq_ev rq (0, [(5, 1)]) = r 5 := zu_f1 v5
  have g7 : zq_ev rq (0, [(6, 1)]) = r 6 := zu_f1 v6
  have g8 : zq_ev rq (0, [(7, 1)]) = r 7 := zu_f1 v7
  have g9 : zq_ev rq (0, [(8, 1)]) = r 8 := zu_f1 v8
  exact ⟨_, List.mem_cons_self .., rq, hr, zq_MeS_mk rfl hT (zq_all_nil) zq_fan (zq_fan) rfl (zu_fac ((x_EV _ _ _).mpr (by show ze_EV (zq_ev rq (4, [])) (zq_ev rq (0, [(0, 1)])) (zq_ev rq (0, [(1, 1)])) (zq_ev rq (0, [(2, 1)])) (zq_ev rq (0, [(3, 1)])) (zq_ev rq (0, [(4, 1)])) (zq_ev rq (0, [(5, 1)])) (zq_ev rq (0, [(6, 1)])) (zq_ev rq (0, [(7, 1)])) (zq_ev rq (0, [(8, 1)])) P h; simp only [g0, g1, g2, g3, g4, g5, g6, g7, g8, g9]; exact t1)) zq_fan)⟩
noncomputable def ze_f3b : zq_S × List zq_S := (([], [], [(-144, [(4, 1)]), (144, [(4, -1)])], [], [], [], [(223, [(3, []), (4, []), (0, [(0, 1)]), (0, [(1, 1)]), (0, [(2, 1)]), (0, [(3, 1)])]), (224, [(0, [(0, 1)]), (0, [(1, 1)]), (0, [(3, 1)]), (0, [(4, 1)])])], 5), [([], [], [], [], [], [], [(221, [(4, []), (0, [(0, 1)]), (0, [(1, 1)]), (0, [(2, 1)]), (0, [(3, 1)])])], 5)])
theorem ze_f3b_l {P : zq_Ty} {h : zq_H} {g n p q s : Int} (a1 : 0 ≤ s - 144) (a2 : 0 ≤ -s + 144) (k1 : ze_TL 3 4 g n p q P h) (k2 : ze_CD g n q s P h) : (ze_TT 4 g n p q P h) := by
  have k2 : s = ze_c g n q := k2
  exact k1 _ (zt_sl_end (by rw [← k2]; exact by unfold ze_add; rw [decide_eq_false (by omega), decide_eq_false (by omega)]; rfl))
theorem ze_f3b_ok {w : zq_Wd} (x_TL : zj_is w 223 (fun q => ze_TL (q 0) (q 1) (q 2) (q 3) (q 4) (q 5))) (x_CD : zj_is w 224 (fun q => ze_CD (q 0) (q 1) (q 2) (q 3))) (x_TT : zj_is w 221 (fun q => ze_TT (q 0) (q 1) (q 2) (q 3) (q 4))) : zq_okG1 w ze_f3b := by
  refine ⟨rfl, rfl, zu_fac ⟨rfl, by decide⟩ zq_fan, ?_⟩
  intro r P h H hM
  have q0 : zq_ev r (-144, [(4, 1)]) = r 4 - 144 := zu_e3 _ _ _
  have q1 : zq_ev r (144, [(4, -1)]) = -r 4 + 144 := zu_e5 _ _ _
  have q2 : zq_ev r (3, []) = 3 := zu_e0 _ _
  have q3 : zq_ev r (4, []) = 4 := zu_e0 _ _
  have q4 : zq_ev r (0, [(0, 1)]) = r 0 := zu_e1 _ _
  have q5 : zq_ev r (0, [(1, 1)]) = r 1 := zu_e1 _ _
  have q6 : zq_ev r (0, [(2, 1)]) = r 2 := zu_e1 _ _
  have q7 : zq_ev r (0, [(3, 1)]) = r 3 := zu_e1 _ _
  have q8 : zq_ev r (0, [(4, 1)]) = r 4 := zu_e1 _ _
  obtain ⟨hT, hC, hF, hS, -, hK⟩ := hM
  have c := hC.1
  have a1 := zq_all_1 c
  rw [q0] at a1
  have c := zq_all_t c
  have a2 := zq_all_1 c
  rw [q1] at a2
  have k1 := zj_use x_TL (hK)
  have k1 : ze_TL (zq_ev r (3, [])) (zq_ev r (4, [])) (zq_ev r (0, [(0, 1)])) (zq_ev r (0, [(1, 1)])) (zq_ev r (0, [(2, 1)])) (zq_ev r (0, [(3, 1)])) P h := k1
  simp only [q2, q3, q4, q5, q6, q7] at k1
  have k2 := zj_use x_CD (zq_okX_t (hK))
  have k2 : ze_CD (zq_ev r (0, [(0, 1)])) (zq_ev r (0, [(1, 1)])) (zq_ev r (0, [(3, 1)])) (zq_ev r (0, [(4, 1)])) P h := k2
  simp only [q4, q5, q7, q8] at k2
  obtain t1 := ze_f3b_l (P := P) (h := h) (g := r 0) (n := r 1) (p := r 2) (q := r 3) (s := r 4) a1 a2 k1 k2
  obtain ⟨rq, hr⟩ : ∃ rq : Nat → Int, (∀ i, i < 5 → rq i = r i) := ⟨r, fun i hi => rfl⟩
  have v0 : rq 0 = r 0 := hr 0 (by decide)
  have v1 : rq 1 = r 1 := hr 1 (by decide)
  have v2 : rq 2 = r 2 := hr 2 (by decide)
  have v3 : rq 3 = r 3 := hr 3 (by decide)
  have g0 : zq_ev rq (4, []) = 4 := zu_e0 _ _
  have g1 : zq_ev rq (0, [(0, 1)]) = r 0 := zu_f1 v0
  have g2 : zq_ev rq (0, [(1, 1)]) = r 1 := zu_f1 v1
  have g3 : zq_ev rq (0, [(2, 1)]) = r 2 := zu_f1 v2
  have g4 : zq_ev rq (0, [(3, 1)]) = r 3 := zu_f1 v3
  exact ⟨_, List.mem_cons_self .., rq, hr, zq_MeS_mk rfl hT (zq_all_nil) zq_fan (zq_fan) rfl (zu_fac ((x_TT _ _ _).mpr (by show ze_TT (zq_ev rq (4, [])) (zq_ev rq (0, [(0, 1)])) (zq_ev rq (0, [(1, 1)])) (zq_ev rq (0, [(2, 1)])) (zq_ev rq (0, [(3, 1)])) P h; simp only [g0, g1, g2, g3, g4]; exact t1)) zq_fan)⟩
noncomputable def ze_e3c : zq_S × List zq_S := (([], [], [(-146, [(9, 1)])], [], [], [], [(222, [(3, []), (4, []), (0, [(0, 1)]), (0, [(1, 1)]), (0, [(2, 1)]), (0, [(3, 1)]), (0, [(4, 1)]), (0, [(5, 1)]), (0, [(6, 1)]), (0, [(7, 1)]), (0, [(8, 1)])]), (224, [(0, [(0, 1)]), (0, [(1, 1)]), (0, [(8, 1)]), (0, [(9, 1)])])], 10), [([], [], [], [], [], [], [(220, [(4, []), (0, [(0, 1)]), (0, [(1, 1)]), (0, [(2, 1)]), (0, [(3, 1)]), (0, [(4, 1)]), (0, [(5, 1)]), (0, [(6, 1)]), (0, [(7, 1)]), (0, [(8, 1)])])], 10)])
theorem ze_e3c_l {P : zq_Ty} {h : zq_H} {g n o W b p a c q s : Int} (a1 : 0 ≤ s - 146) (k1 : ze_SL 3 4 g n o W b p a c q P h) (k2 : ze_CD g n q s P h) : (ze_EV 4 g n o W b p a c q P h) := by
  have k2 : s = ze_c g n q := k2
  exact k1 _ _ _ (ze_sl_end (by rw [← k2]; exact by unfold ze_add; rw [decide_eq_false (by omega), decide_eq_false (by omega)]; rfl))
theorem ze_e3c_ok {w : zq_Wd} (x_SL : zj_is w 222 (fun q => ze_SL (q 0) (q 1) (q 2) (q 3) (q 4) (q 5) (q 6) (q 7) (q 8) (q 9) (q 10))) (x_CD : zj_is w 224 (fun q => ze_CD (q 0) (q 1) (q 2) (q 3))) (x_EV : zj_is w 220 (fun q => ze_EV (q 0) (q 1) (q 2) (q 3) (q 4) (q 5) (q 6) (q 7) (q 8) (q 9))) : zq_okG1 w ze_e3c := by
  refine ⟨rfl, rfl, zu_fac ⟨rfl, by decide⟩ zq_fan, ?_⟩
  intro r P h H hM
  have q0 : zq_ev r (-146, [(9, 1)]) = r 9 - 146 := zu_e3 _ _ _
  have q1 : zq_ev r (3, []) = 3 := zu_e0 _ _
  have q2 : zq_ev r (4, []) = 4 := zu_e0 _ _
  have q3 : zq_ev r (0, [(0, 1)]) = r 0 := zu_e1 _ _
  have q4 : zq_ev r (0, [(1, 1)]) = r 1 := zu_e1 _ _
  have q5 : zq_ev r (0, [(2, 1)]) = r 2 := zu_e1 _ _
  have q6 : zq_ev r (0, [(3, 1)]) = r 3 := zu_e1 _ _
  have q7 : zq_ev r (0, [(4, 1)]) = r 4 := zu_e1 _ _
  have q8 : zq_ev r (0, [(5, 1)]) = r 5 := zu_e1 _ _
  have q9 : zq_ev r (0, [(6, 1)]) = r 6 := zu_e1 _ _
  have q10 : zq_ev r (0, [(7, 1)]) = r 7 := zu_e1 _ _
  have q11 : zq_ev r (0, [(8, 1)]) = r 8 := zu_e1 _ _
  have q12 : zq_ev r (0, [(9, 1)]) = r 9 := zu_e1 _ _
  obtain ⟨hT, hC, hF, hS, -, hK⟩ := hM
  have c := hC.1
  have a1 := zq_all_1 c
  rw [q0] at a1
  have k1 := zj_use x_SL (hK)
  have k1 : ze_SL (zq_ev r (3, [])) (zq_ev r (4, [])) (zq_ev r (0, [(0, 1)])) (zq_ev r (0, [(1, 1)])) (zq_ev r (0, [(2, 1)])) (zq_ev r (0, [(3, 1)])) (zq_ev r (0, [(4, 1)])) (zq_ev r (0, [(5, 1)])) (zq_ev r (0, [(6, 1)])) (zq_ev r (0, [(7, 1)])) (zq_ev r (0, [(8, 1)])) P h := k1
  simp only [q1, q10, q11, q2, q3, q4, q5, q6, q7, q8, q9] at k1
  have k2 := zj_use x_CD (zq_okX_t (hK))
  have k2 : ze_CD (zq_ev r (0, [(0, 1)])) (zq_ev r (0, [(1, 1)])) (zq_ev r (0, [(8, 1)])) (zq_ev r (0, [(9, 1)])) P h := k2
  simp only [q11, q12, q3, q4] at k2
  obtain t1 := ze_e3c_l (P := P) (h := h) (g := r 0) (n := r 1) (o := r 2) (W := r 3) (b := r 4) (p := r 5) (a := r 6) (c := r 7) (q := r 8) (s := r 9) a1 k1 k2
  obtain ⟨rq, hr⟩ : ∃ rq : Nat → Int, (∀ i, i < 10 → rq i = r i) := ⟨r, fun i hi => rfl⟩
  have v0 : rq 0 = r 0 := hr 0 (by decide)
  have v1 : rq 1 = r 1 := hr 1 (by decide)
  have v2 : rq 2 = r 2 := hr 2 (by decide)
  have v3 : rq 3 = r 3 := hr 3 (by decide)
  have v4 : rq 4 = r 4 := hr 4 (by decide)
  have v5 : rq 5 = r 5 := hr 5 (by decide)
  have v6 : rq 6 = r 6 := hr 6 (by decide)
  have v7 : rq 7 = r 7 := hr 7 (by decide)
  have v8 : rq 8 = r 8 := hr 8 (by decide)
  have g0 : zq_ev rq (4, []) = 4 := zu_e0 _ _
  have g1 : zq_ev rq (0, [(0, 1)]) = r 0 := zu_f1 v0
  have g2 : zq_ev rq (0, [(1, 1)]) = r 1 := zu_f1 v1
  have g3 : zq_ev rq (0, [(2, 1)]) = r 2 := zu_f1 v2
  have g4 : zq_ev rq (0, [(3, 1)]) = r 3 := zu_f1 v3
  have g5 : zq_ev rq (0, [(4, 1)]) = r 4 := zu_f1 v4
  have g6 : zq_ev rq (0, [(5, 1)]) = r 5 := zu_f1 v5
  have g7 : zq_ev rq (0, [(6, 1)]) = r 6 := zu_f1 v6
  have g8 : zq_ev rq (0, [(7, 1)]) = r 7 := zu_f1 v7
  have g9 : zq_ev rq (0, [(8, 1)]) = r 8 := zu_f1 v8
  exact ⟨_, List.mem_cons_self .., rq, hr, zq_MeS_mk rfl hT (zq_all_nil) zq_fan (zq_fan) rfl (zu_fac ((x_EV _ _ _).mpr (by show ze_EV (zq_ev rq (4, [])) (zq_ev rq (0, [(0, 1)])) (zq_ev rq (0, [(1, 1)])) (zq_ev rq (0, [(2, 1)])) (zq_ev rq (0, [(3, 1)])) (zq_ev rq (0, [(4, 1)])) (zq_ev rq (0, [(5, 1)])) (zq_ev rq (0, [(6, 1)])) (zq_ev rq (0, [(7, 1)])) (zq_ev rq (0, [(8, 1)])) P h; simp only [g0, g1, g2, g3, g4, g5, g6, g7, g8, g9]; exact t1)) zq_fan)⟩
noncomputable def ze_f3c : zq_S × List zq_S := (([], [], [(-146, [(4, 1)])], [], [], [], [(223, [(3, []), (4, []), (0, [(0, 1)]), (0, [(1, 1)]), (0, [(2, 1)]), (0, [(3, 1)])]), (224, [(0, [(0, 1)]), (0, [(1, 1)]), (0, [(3, 1)]), (0, [(4, 1)])])], 5), [([], [], [], [], [], [], [(221, [(4, []), (0, [(0, 1)]), (0, [(1, 1)]), (0, [(2, 1)]), (0, [(3, 1)])])], 5)])
theorem ze_f3c_l {P : zq_Ty} {h : zq_H} {g n p q s : Int} (a1 : 0 ≤ s - 146) (k1 : ze_TL 3 4 g n p q P h) (k2 : ze_CD g n q s P h) : (ze_TT 4 g n p q P h) := by
  have k2 : s = ze_c g n q := k2
  exact k1 _ (zt_sl_end (by rw [← k2]; exact by unfold ze_add; rw [decide_eq_false (by omega), decide_eq_false (by omega)]; rfl))
theorem ze_f3c_ok {w : zq_Wd} (x_TL : zj_is w 223 (fun q => ze_TL (q 0) (q 1) (q 2) (q 3) (q 4) (q 5))) (x_CD : zj_is w 224 (fun q => ze_CD (q 0) (q 1) (q 2) (q 3))) (x_TT : zj_is w 221 (fun q => ze_TT (q 0) (q 1) (q 2) (q 3) (q 4))) : zq_okG1 w ze_f3c := by
  refine ⟨rfl, rfl, zu_fac ⟨rfl, by decide⟩ zq_fan, ?_⟩
  intro r P h H hM
  have q0 : zq_ev r (-146, [(4, 1)]) = r 4 - 146 := zu_e3 _ _ _
  have q1 : zq_ev r (3, []) = 3 := zu_e0 _ _
  have q2 : zq_ev r (4, []) = 4 := zu_e0 _ _
  have q3 : zq_ev r (0, [(0, 1)]) = r 0 := zu_e1 _ _
  have q4 : zq_ev r (0, [(1, 1)]) = r 1 := zu_e1 _ _
  have q5 : zq_ev r (0, [(2, 1)]) = r 2 := zu_e1 _ _
  have q6 : zq_ev r (0, [(3, 1)]) = r 3 := zu_e1 _ _
  have q7 : zq_ev r (0, [(4, 1)]) = r 4 := zu_e1 _ _
  obtain ⟨hT, hC, hF, hS, -, hK⟩ := hM
  have c := hC.1
  have a1 := zq_all_1 c
  rw [q0] at a1
  have k1 := zj_use x_TL (hK)
  have k1 : ze_TL (zq_ev r (3, [])) (zq_ev r (4, [])) (zq_ev r (0, [(0, 1)])) (zq_ev r (0, [(1, 1)])) (zq_ev r (0, [(2, 1)])) (zq_ev r (0, [(3, 1)])) P h := k1
  simp only [q1, q2, q3, q4, q5, q6] at k1
  have k2 := zj_use x_CD (zq_okX_t (hK))
  have k2 : ze_CD (zq_ev r (0, [(0, 1)])) (zq_ev r (0, [(1, 1)])) (zq_ev r (0, [(3, 1)])) (zq_ev r (0, [(4, 1)])) P h := k2
  simp only [q3, q4, q6, q7] at k2
  obtain t1 := ze_f3c_l (P := P) (h := h) (g := r 0) (n := r 1) (p := r 2) (q := r 3) (s := r 4) a1 k1 k2
  obtain ⟨rq, hr⟩ : ∃ rq : Nat → Int, (∀ i, i < 5 → rq i = r i) := ⟨r, fun i hi => rfl⟩
  have v0 : rq 0 = r 0 := hr 0 (by decide)
  have v1 : rq 1 = r 1 := hr 1 (by decide)
  have v2 : rq 2 = r 2 := hr 2 (by decide)
  have v3 : rq 3 = r 3 := hr 3 (by decide)
  have g0 : zq_ev rq (4, []) = 4 := zu_e0 _ _
  have g1 : zq_ev rq (0, [(0, 1)]) = r 0 := zu_f1 v0
  have g2 : zq_ev rq (0, [(1, 1)]) = r 1 := zu_f1 v1
  have g3 : zq_ev rq (0, [(2, 1)]) = r 2 := zu_f1 v2
  have g4 : zq_ev rq (0, [(3, 1)]) = r 3 := zu_f1 v3
  exact ⟨_, List.mem_cons_self .., rq, hr, zq_MeS_mk rfl hT (zq_all_nil) zq_fan (zq_fan) rfl (zu_fac ((x_TT _ _ _).mpr (by show ze_TT (zq_ev rq (4, [])) (zq_ev rq (0, [(0, 1)])) (zq_ev rq (0, [(1, 1)])) (zq_ev rq (0, [(2, 1)])) (zq_ev rq (0, [(3, 1)])) P h; simp only [g0, g1, g2, g3, g4]; exact t1)) zq_fan)⟩
noncomputable def ze_e7a : zq_S × List zq_S := (([], [], [(5, [(9, -1)])], [], [], [], [(222, [(7, []), (8, []), (0, [(0, 1)]), (0, [(1, 1)]), (0, [(2, 1)]), (0, [(3, 1)]), (0, [(4, 1)]), (0, [(5, 1)]), (0, [(6, 1)]), (0, [(7, 1)]), (0, [(8, 1)])]), (224, [(0, [(0, 1)]), (0, [(1, 1)]), (0, [(8, 1)]), (0, [(9, 1)])])], 10), [([], [], [], [], [], [], [(220, [(8, []), (0, [(0, 1)]), (0, [(1, 1)]), (0, [(2, 1)]), (0, [(3, 1)]), (0, [(4, 1)]), (0, [(5, 1)]), (0, [(6, 1)]), (0, [(7, 1)]), (0, [(8, 1)])])], 10)])
theorem ze_e7a_l {P : zq_Ty} {h : zq_H} {g n o W b p a c q s : Int} (a1 : 0 ≤ -s + 5) (k1 : ze_SL 7 8 g n o W b p a c q P h) (k2 : ze_CD g n q s P h) : (ze_EV 8 g n o W b p a c q P h) := by
  have k2 : s = ze_c g n q := k2
  exact k1 _ _ _ (ze_bl_end (by rw [← k2]; exact by omega))
theorem ze_e7a_ok {w : zq_Wd} (x_SL : zj_is w 222 (fun q => ze_SL (q 0) (q 1) (q 2) (q 3) (q 4) (q 5) (q 6) (q 7) (q 8) (q 9) (q 10))) (x_CD : zj_is w 224 (fun q => ze_CD (q 0) (q 1) (q 2) (q 3))) (x_EV : zj_is w 220 (fun q => ze_EV (q 0) (q 1) (q 2) (q 3) (q 4) (q 5) (q 6) (q 7) (q 8) (q 9))) : zq_okG1 w ze_e7a := by
  refine ⟨rfl, rfl, zu_fac ⟨rfl, by decide⟩ zq_fan, ?_⟩
  intro r P h H hM
  have q0 : zq_ev r (5, [(9, -1)]) = -r 9 + 5 := zu_e5 _ _ _
  have q1 : zq_ev r (7, []) = 7 := zu_e0 _ _
  have q2 : zq_ev r (8, []) = 8 := zu_e0 _ _
  have q3 : zq_ev r (0, [(0, 1)]) = r 0 := zu_e1 _ _
  have q4 : zq_ev r (0, [(1, 1)]) = r 1 := zu_e1 _ _
  have q5 : zq_ev r (0, [(2, 1)]) = r 2 := zu_e1 _ _
  have q6 : zq_ev r (0, [(3, 1)]) = r 3 := zu_e1 _ _
  have q7 : zq_ev r (0, [(4, 1)]) = r 4 := zu_e1 _ _
  have q8 : zq_ev r (0, [(5, 1)]) = r 5 := zu_e1 _ _
  have q9 : zq_ev r (0, [(6, 1)]) = r 6 := zu_e1 _ _
  have q10 : zq_ev r (0, [(7, 1)]) = r 7 := zu_e1 _ _
  have q11 : zq_ev r (0, [(8, 1)]) = r 8 := zu_e1 _ _
  have q12 : zq_ev r (0, [(9, 1)]) = r 9 := zu_e1 _ _
  obtain ⟨hT, hC, hF, hS, -, hK⟩ := hM
  have c := hC.1
  have a1 := zq_all_1 c
  rw [q0] at a1
  have k1 := zj_use x_SL (hK)
  have k1 : ze_SL (zq_ev r (7, [])) (zq_ev r (8, [])) (zq_ev r (0, [(0, 1)])) (zq_ev r (0, [(1, 1)])) (zq_ev r (0, [(2, 1)])) (zq_ev r (0, [(3, 1)])) (zq_ev r (0, [(4, 1)])) (zq_ev r (0, [(5, 1)])) (zq_ev r (0, [(6, 1)])) (zq_ev r (0, [(7, 1)])) (zq_ev r (0, [(8, 1)])) P h := k1
  simp only [q1, q10, q11, q2, q3, q4, q5, q6, q7, q8, q9] at k1
  have k2 := zj_use x_CD (zq_okX_t (hK))
  have k2 : ze_CD (zq_ev r (0, [(0, 1)])) (zq_ev r (0, [(1, 1)])) (zq_ev r (0, [(8, 1)])) (zq_ev r (0, [(9, 1)])) P h := k2
  simp only [q11, q12, q3, q4] at k2
  obtain t1 := ze_e7a_l (P := P) (h := h) (g := r 0) (n := r 1) (o := r 2) (W := r 3) (b := r 4) (p := r 5) (a := r 6) (c := r 7) (q := r 8) (s := r 9) a1 k1 k2
  obtain ⟨rq, hr⟩ : ∃ rq : Nat → Int, (∀ i, i < 10 → rq i = r i) := ⟨r, fun i hi => rfl⟩
  have v0 : rq 0 = r 0 := hr 0 (by decide)
  have v1 : rq 1 = r 1 := hr 1 (by decide)
  have v2 : rq 2 = r 2 := hr 2 (by decide)
  have v3 : rq 3 = r 3 := hr 3 (by decide)
  have v4 : rq 4 = r 4 := hr 4 (by decide)
  have v5 : rq 5 = r 5 := hr 5 (by decide)
  have v6 : rq 6 = r 6 := hr 6 (by decide)
  have v7 : rq 7 = r 7 := hr 7 (by decide)
  have v8 : rq 8 = r 8 := hr 8 (by decide)
  have g0 : zq_ev rq (8, []) = 8 := zu_e0 _ _
  have g1 : zq_ev rq (0, [(0, 1)]) = r 0 := zu_f1 v0
  have g2 : zq_ev rq (0, [(1, 1)]) = r 1 := zu_f1 v1
  have g3 : zq_ev rq (0, [(2, 1)]) = r 2 := zu_f1 v2
  have g4 : zq_ev rq (0, [(3, 1)]) = r 3 := zu_f1 v3
  have g5 : zq_ev rq (0, [(4, 1)]) = r 4 := zu_f1 v4
  have g6 : zq_ev rq (0, [(5, 1)]) = r 5 := zu_f1 v5
  have g7 : zq_ev rq (0, [(6, 1)]) = r 6 := zu_f1 v6
  have g8 : zq_ev rq (0, [(7, 1)]) = r 7 := zu_f1 v7
  have g9 : zq_ev rq (0, [(8, 1)]) = r 8 := zu_f1 v8
  exact ⟨_, List.mem_cons_self .., rq, hr, zq_MeS_mk rfl hT (zq_all_nil) zq_fan (zq_fan) rfl (zu_fac ((x_EV _ _ _).mpr (by show ze_EV (zq_ev rq (8, [])) (zq_ev rq (0, [(0, 1)])) (zq_ev rq (0, [(1, 1)])) (zq_ev rq (0, [(2, 1)])) (zq_ev rq (0, [(3, 1)])) (zq_ev rq (0, [(4, 1)])) (zq_ev rq (0, [(5, 1)])) (zq_ev rq (0, [(6, 1)])) (zq_ev rq (0, [(7, 1)])) (zq_ev rq (0, [(8, 1)])) P h; simp only [g0, g1, g2, g3, g4, g5, g6, g7, g8, g9]; exact t1)) zq_fan)⟩
noncomputable def ze_f7a : zq_S × List zq_S := (([], [], [(5, [(4, -1)])], [], [], [], [(223, [(7, []), (8, []), (0, [(0, 1)]), (0, [(1, 1)]), (0, [(2, 1)]), (0, [(3, 1)])]), (224, [(0, [(0, 1)]), (0, [(1, 1)]), (0, [(3, 1)]), (0, [(4, 1)])])], 5), [([], [], [], [], [], [], [(221, [(8, []), (0, [(0, 1)]), (0, [(1, 1)]), (0, [(2, 1)]), (0, [(3, 1)])])], 5)])
theorem ze_f7a_l {P : zq_Ty} {h : zq_H} {g n p q s : Int} (a1 : 0 ≤ -s + 5) (k1 : ze_TL 7 8 g n p q P h) (k2 : ze_CD g n q s P h) : (ze_TT 8 g n p q P h) := by
  have k2 : s = ze_c g n q := k2
  exact k1 _ (zt_bl_end (by rw [← k2]; exact by omega))
theorem ze_f7a_ok {w : zq_Wd} (x_TL : zj_is w 223 (fun q => ze_TL (q 0) (q 1) (q 2) (q 3) (q 4) (q 5))) (x_CD : zj_is w 224 (fun q => ze_CD (q 0) (q 1) (q 2) (q 3))) (x_TT : zj_is w 221 (fun q => ze_TT (q 0) (q 1) (q 2) (q 3) (q 4))) : zq_okG1 w ze_f7a := by
  refine ⟨rfl, rfl, zu_fac ⟨rfl, by decide⟩ zq_fan, ?_⟩
  intro r P h H hM
  have q0 : zq_ev r (5, [(4, -1)]) = -r 4 + 5 := zu_e5 _ _ _
  have q1 : zq_ev r (7, []) = 7 := zu_e0 _ _
  have q2 : zq_ev r (8, []) = 8 := zu_e0 _ _
  have q3 : zq_ev r (0, [(0, 1)]) = r 0 := zu_e1 _ _
  have q4 : zq_ev r (0, [(1, 1)]) = r 1 := zu_e1 _ _
  have q5 : zq_ev r (0, [(2, 1)]) = r 2 := zu_e1 _ _
  have q6 : zq_ev r (0, [(3, 1)]) = r 3 := zu_e1 _ _
  have q7 : zq_ev r (0, [(4, 1)]) = r 4 := zu_e1 _ _
  obtain ⟨hT, hC, hF, hS, -, hK⟩ := hM
  have c := hC.1
  have a1 := zq_all_1 c
  rw [q0] at a1
  have k1 := zj_use x_TL (hK)
  have k1 : ze_TL (zq_ev r (7, [])) (zq_ev r (8, [])) (zq_ev r (0, [(0, 1)])) (zq_ev r (0, [(1, 1)])) (zq_ev r (0, [(2, 1)])) (zq_ev r (0, [(3, 1)])) P h := k1
  simp only [q1, q2, q3, q4, q5, q6] at k1
  have k2 := zj_use x_CD (zq_okX_t (hK))
  have k2 : ze_CD (zq_ev r (0, [(0, 1)])) (zq_ev r (0, [(1, 1)])) (zq_ev r (0, [(3, 1)])) (zq_ev r (0, [(4, 1)])) P h := k2
  simp only [q3, q4, q6, q7] at k2
  obtain t1 := ze_f7a_l (P := P) (h := h) (g := r 0) (n := r 1) (p := r 2) (q := r 3) (s := r 4) a1 k1 k2
  obtain ⟨rq, hr⟩ : ∃ rq : Nat → Int, (∀ i, i < 5 → rq i = r i) := ⟨r, fun i hi => rfl⟩
  have v0 : rq 0 = r 0 := hr 0 (by decide)
  have v1 : rq 1 = r 1 := hr 1 (by decide)
  have v2 : rq 2 = r 2 := hr 2 (by decide)
  have v3 : rq 3 = r 3 := hr 3 (by decide)
  have g0 : zq_ev rq (8, []) = 8 := zu_e0 _ _
  have g1 : zq_ev rq (0, [(0, 1)]) = r 0 := zu_f1 v0
  have g2 : zq_ev rq (0, [(1, 1)]) = r 1 := zu_f1 v1
  have g3 : zq_ev rq (0, [(2, 1)]) = r 2 := zu_f1 v2
  have g4 : zq_ev rq (0, [(3, 1)]) = r 3 := zu_f1 v3
  exact ⟨_, List.mem_cons_self .., rq, hr, zq_MeS_mk rfl hT (zq_all_nil) zq_fan (zq_fan) rfl (zu_fac ((x_TT _ _ _).mpr (by show ze_TT (zq_ev rq (8, [])) (zq_ev rq (0, [(0, 1)])) (zq_ev rq (0, [(1, 1)])) (zq_ev rq (0, [(2, 1)])) (zq_ev rq (0, [(3, 1)])) P h; simp only [g0, g1, g2, g3, g4]; exact t1)) zq_fan)⟩
noncomputable def ze_e7b : zq_S × List zq_S := (([], [], [(-7, [(9, 1)])], [], [], [], [(222, [(7, []), (8, []), (0, [(0, 1)]), (0, [(1, 1)]), (0, [(2, 1)]), (0, [(3, 1)]), (0, [(4, 1)]), (0, [(5, 1)]), (0, [(6, 1)]), (0, [(7, 1)]), (0, [(8, 1)])]), (224, [(0, [(0, 1)]), (0, [(1, 1)]), (0, [(8, 1)]), (0, [(9, 1)])])], 10), [([], [], [], [], [], [], [(220, [(8, []), (0, [(0, 1)]), (0, [(1, 1)]), (0, [(2, 1)]), (0, [(3, 1)]), (0, [(4, 1)]), (0, [(5, 1)]), (0, [(6, 1)]), (0, [(7, 1)]), (0, [(8, 1)])])], 10)])
theorem ze_e7b_l {P : zq_Ty} {h : zq_H} {g n o W b p a c q s : Int} (a1 : 0 ≤ s - 7) (k1 : ze_SL 7 8 g n o W b p a c q P h) (k2 : ze_CD g n q s P h) : (ze_EV 8 g n o W b p a c q P h) := by
  have k2 : s = ze_c g n q := k2
  exact k1 _ _ _ (ze_bl_end (by rw [← k2]; exact by omega))
theorem ze_e7b_ok {w : zq_Wd} (x_SL : zj_is w 222 (fun q => ze_SL (q 0) (q 1) (q 2) (q 3) (q 4) (q 5) (q 6) (q 7) (q 8) (q 9) (q 10))) (x_CD : zj_is w 224 (fun q => ze_CD (q 0) (q 1) (q 2) (q 3))) (x_EV : zj_is w 220 (fun q => ze_EV (q 0) (q 1) (q 2) (q 3) (q 4) (q 5) (q 6) (q 7) (q 8) (q 9))) : zq_okG1 w ze_e7b := by
  refine ⟨rfl, rfl, zu_fac ⟨rfl, by decide⟩ zq_fan, ?_⟩
  intro r P h H hM
  have q0 : zq_ev r (-7, [(9, 1)]) = r 9 - 7 := zu_e3 _ _ _
  have q1 : zq_ev r (7, []) = 7 := zu_e0 _ _
  have q2 : zq_ev r (8, []) = 8 := zu_e0 _ _
  have q3 : zq_ev r (0, [(0, 1)]) = r 0 := zu_e1 _ _
  have q4 : zq_ev r (0, [(1, 1)]) = r 1 := zu_e1 _ _
  have q5 : zq_ev r (0, [(2, 1)]) = r 2 := zu_e1 _ _
  have q6 : zq_ev r (0, [(3, 1)]) = r 3 := zu_e1 _ _
  have q7 : zq_ev r (0, [(4, 1)]) = r 4 := zu_e1 _ _
  have q8 : zq_ev r (0, [(5, 1)]) = r 5 := zu_e1 _ _
  have q9 : zq_ev r (0, [(6, 1)]) = r 6 := zu_e1 _ _
  have q10 : zq_ev r (0, [(7, 1)]) = r 7 := zu_e1 _ _
  have q11 : zq_ev r (0, [(8, 1)]) = r 8 := zu_e1 _ _
  have q12 : zq_ev r (0, [(9, 1)]) = r 9 := zu_e1 _ _
  obtain ⟨hT, hC, hF, hS, -, hK⟩ := hM
  have c := hC.1
  have a1 := zq_all_1 c
  rw [q0] at a1
  have k1 := zj_use x_SL (hK)
  have k1 : ze_SL (zq_ev r (7, [])) (zq_ev r (8, [])) (zq_ev r (0, [(0, 1)])) (zq_ev r (0, [(1, 1)])) (zq_ev r (0, [(2, 1)])) (zq_ev r (0, [(3, 1)])) (zq_ev r (0, [(4, 1)])) (zq_ev r (0, [(5, 1)])) (zq_ev r (0, [(6, 1)])) (zq_ev r (0, [(7, 1)])) (zq_ev r (0, [(8, 1)])) P h := k1
  simp only [q1, q10, q11, q2, q3, q4, q5, q6, q7, q8, q9] at k1
  have k2 := zj_use x_CD (zq_okX_t (hK))
  have k2 : ze_CD (zq_ev r (0, [(0, 1)])) (zq_ev r (0, [(1, 1)])) (zq_ev r (0, [(8, 1)])) (zq_ev r (0, [(9, 1)])) P h := k2
  simp only [q11, q12, q3, q4] at k2
  obtain t1 := ze_e7b_l (P := P) (h := h) (g := r 0) (n := r 1) (o := r 2) (W := r 3) (b := r 4) (p := r 5) (a := r 6) (c := r 7) (q := r 8) (s := r 9) a1 k1 k2
  obtain ⟨rq, hr⟩ : ∃ rq : Nat → Int, (∀ i, i < 10 → rq i = r i) := ⟨r, fun i hi => rfl⟩
  have v0 : rq 0 = r 0 := hr 0 (by decide)
  have v1 : rq 1 = r 1 := hr 1 (by decide)
  have v2 : rq 2 = r 2 := hr 2 (by decide)
  have v3 : rq 3 = r 3 := hr 3 (by decide)
  have v4 : rq 4 = r 4 := hr 4 (by decide)
  have v5 : rq 5 = r 5 := hr 5 (by decide)
  have v6 : rq 6 = r 6 := hr 6 (by decide)
  have v7 : rq 7 = r 7 := hr 7 (by decide)
  have v8 : rq 8 = r 8 := hr 8 (by decide)
  have g0 : zq_ev rq (8, []) = 8 := zu_e0 _ _
  have g1 : zq_ev rq (0, [(0, 1)]) = r 0 := zu_f1 v0
  have g2 : zq_ev rq (0, [(1, 1)]) = r 1 := zu_f1 v1
  have g3 : zq_ev rq (0, [(2, 1)]) = r 2 := zu_f1 v2
  have g4 : zq_ev rq (0, [(3, 1)]) = r 3 := zu_f1 v3
  have g5 : zq_ev rq (0, [(4, 1)]) = r 4 := zu_f1 v4
  have g6 : zq_ev rq (0, [(5, 1)]) = r 5 := zu_f1 v5
  have g7 : zq_ev rq (0, [(6, 1)]) = r 6 := zu_f1 v6
  have g8 : zq_ev rq (0, [(7, 1)]) = r 7 := zu_f1 v7
  have g9 : zq_ev rq (0, [(8, 1)]) = r 8 := zu_f1 v8
  exact ⟨_, List.mem_cons_self .., rq, hr, zq_MeS_mk rfl hT (zq_all_nil) zq_fan (zq_fan) rfl (zu_fac ((x_EV _ _ _).mpr (by show ze_EV (zq_ev rq (8, [])) (zq_ev rq (0, [(0, 1)])) (zq_ev rq (0, [(1, 1)])) (zq_ev rq (0, [(2, 1)])) (zq_ev rq (0, [(3, 1)])) (zq_ev rq (0, [(4, 1)])) (zq_ev rq (0, [(5, 1)])) (zq_ev rq (0, [(6, 1)])) (zq_ev rq (0, [(7, 1)])) (zq_ev rq (0, [(8, 1)])) P h; simp only [g0, g1, g2, g3, g4, g5, g6, g7, g8, g9]; exact t1)) zq_fan)⟩
noncomputable def ze_f7b : zq_S × List zq_S := (([], [], [(-7, [(4, 1)])], [], [], [], [(223, [(7, []), (8, []), (0, [(0, 1)]), (0, [(1, 1)]), (0, [(2, 1)]), (0, [(3, 1)])]), (224, [(0, [(0, 1)]), (0, [(1, 1)]), (0, [(3, 1)]), (0, [(4, 1)])])], 5), [([], [], [], [], [], [], [(221, [(8, []), (0, [(0, 1)]), (0, [(1, 1)]), (0, [(2, 1)]), (0, [(3, 1)])])], 5)])
theorem ze_f7b_l {P : zq_Ty} {h : zq_H} {g n p q s : Int} (a1 : 0 ≤ s - 7) (k1 : ze_TL 7 8 g n p q P h) (k2 : ze_CD g n q s P h) : (ze_TT 8 g n p q P h) := by
  have k2 : s = ze_c g n q := k2
  exact k1 _ (zt_bl_end (by rw [← k2]; exact by omega))
theorem ze_f7b_ok {w : zq_Wd} (x_TL : zj_is w 223 (fun q => ze_TL (q 0) (q 1) (q 2) (q 3) (q 4) (q 5))) (x_CD : zj_is w 224 (fun q => ze_CD (q 0) (q 1) (q 2) (q 3))) (x_TT : zj_is w 221 (fun q => ze_TT (q 0) (q 1) (q 2) (q 3) (q 4))) : zq_okG1 w ze_f7b := by
  refine ⟨rfl, rfl, zu_fac ⟨rfl, by decide⟩ zq_fan, ?_⟩
  intro r P h H hM
  have q0 : zq_ev r (-7, [(4, 1)]) = r 4 - 7 := zu_e3 _ _ _
  have q1 : zq_ev r (7, []) = 7 := zu_e0 _ _
  have q2 : zq_ev r (8, []) = 8 := zu_e0 _ _
  have q3 : zq_ev r (0, [(0, 1)]) = r 0 := zu_e1 _ _
  have q4 : zq_ev r (0, [(1, 1)]) = r 1 := zu_e1 _ _
  have q5 : zq_ev r (0, [(2, 1)]) = r 2 := zu_e1 _ _
  have q6 : zq_ev r (0, [(3, 1)]) = r 3 := zu_e1 _ _
  have q7 : zq_ev r (0, [(4, 1)]) = r 4 := zu_e1 _ _
  obtain ⟨hT, hC, hF, hS, -, hK⟩ := hM
  have c := hC.1
  have a1 := zq_all_1 c
  rw [q0] at a1
  have k1 := zj_use x_TL (hK)
  have k1 : ze_TL (zq_ev r (7, [])) (zq_ev r (8, [])) (zq_ev r (0, [(0, 1)])) (zq_ev r (0, [(1, 1)])) (zq_ev r (0, [(2, 1)])) (zq_ev r (0, [(3, 1)])) P h := k1
  simp only [q1, q2, q3, q4, q5, q6] at k1
  have k2 := zj_use x_CD (zq_okX_t (hK))
  have k2 : ze_CD (zq_ev r (0, [(0, 1)])) (zq_ev r (0, [(1, 1)])) (zq_ev r (0, [(3, 1)])) (zq_ev r (0, [(4, 1)])) P h := k2
  simp only [q3, q4, q6, q7] at k2
  obtain t1 := ze_f7b_l (P := P) (h := h) (g := r 0) (n := r 1) (p := r 2) (q := r 3) (s := r 4) a1 k1 k2
  obtain ⟨rq, hr⟩ : ∃ rq : Nat → Int, (∀ i, i < 5 → rq i = r i) := ⟨r, fun i hi => rfl⟩
  have v0 : rq 0 = r 0 := hr 0 (by decide)
  have v1 : rq 1 = r 1 := hr 1 (by decide)
  have v2 : rq 2 = r 2 := hr 2 (by decide)
  have v3 : rq 3 = r 3 := hr 3 (by decide)
  have g0 : zq_ev rq (8, []) = 8 := zu_e0 _ _
  have g1 : zq_ev rq (0, [(0, 1)]) = r 0 := zu_f1 v0
  have g2 : zq_ev rq (0, [(1, 1)]) = r 1 := zu_f1 v1
  have g3 : zq_ev rq (0, [(2, 1)]) = r 2 := zu_f1 v2
  have g4 : zq_ev rq (0, [(3, 1)]) = r 3 := zu_f1 v3
  exact ⟨_, List.mem_cons_self .., rq, hr, zq_MeS_mk rfl hT (zq_all_nil) zq_fan (zq_fan) rfl (zu_fac ((x_TT _ _ _).mpr (by show ze_TT (zq_ev rq (8, [])) (zq_ev rq (0, [(0, 1)])) (zq_ev rq (0, [(1, 1)])) (zq_ev rq (0, [(2, 1)])) (zq_ev rq (0, [(3, 1)])) P h; simp only [g0, g1, g2, g3, g4]; exact t1)) zq_fan)⟩
noncomputable def ze_e9a : zq_S × List zq_S := (([], [], [(4, [(9, -1)])], [], [], [], [(222, [(9, []), (10, []), (0, [(0, 1)]), (0, [(1, 1)]), (0, [(2, 1)]), (0, [(3, 1)]), (0, [(4, 1)]), (0, [(5, 1)]), (0, [(6, 1)]), (0, [(7, 1)]), (0, [(8, 1)])]), (224, [(0, [(0, 1)]), (0, [(1, 1)]), (0, [(8, 1)]), (0, [(9, 1)])])], 10), [([], [], [], [], [], [], [(220, [(10, []), (0, [(0, 1)]), (0, [(1, 1)]), (0, [(2, 1)]), (0, [(3, 1)]), (0, [(4, 1)]), (0, [(5, 1)]), (0, [(6, 1)]), (0, [(7, 1)]), (0, [(8, 1)])])], 10)])
theorem ze_e9a_l {P : zq_Ty} {h : zq_H} {g n o W b p a c q s : Int} (a1 : 0 ≤ -s + 4) (k1 : ze_SL 9 10 g n o W b p a c q P h) (k2 : ze_CD g n q s P h) : (ze_EV 10 g n o W b p a c q P h) := by
  have k2 : s = ze_c g n q := k2
  exact k1 _ _ _ (ze_ol_end (by rw [← k2]; exact by omega))
theorem ze_e9a_ok {w : zq_Wd} (x_SL : zj_is w 222 (fun q => ze_SL (q 0) (q 1) (q 2) (q 3) (q 4) (q 5) (q 6) (q 7) (q 8) (q 9) (q 10))) (x_CD : zj_is w 224 (fun q => ze_CD (q 0) (q 1) (q 2) (q 3))) (x_EV : zj_is w 220 (fun q => ze_EV (q 0) (q 1) (q 2) (q 3) (q 4) (q 5) (q 6) (q 7) (q 8) (q 9))) : zq_okG1 w ze_e9a := by
  refine ⟨rfl, rfl, zu_fac ⟨rfl, by decide⟩ zq_fan, ?_⟩
  intro r P h H hM
  have q0 : zq_ev r (4, [(9, -1)]) = -r 9 + 4 := zu_e5 _ _ _
  have q1 : zq_ev r (9, []) = 9 := zu_e0 _ _
  have q2 : zq_ev r (10, []) = 10 := zu_e0 _ _
  have q3 : zq_ev r (0, [(0, 1)]) = r 0 := zu_e1 _ _
  have q4 : zq_ev r (0, [(1, 1)]) = r 1 := zu_e1 _ _
  have q5 : zq_ev r (0, [(2, 1)]) = r 2 := zu_e1 _ _
  have q6 : zq_ev r (0, [(3, 1)]) = r 3 := zu_e1 _ _
  have q7 : zq_ev r (0, [(4, 1)]) = r 4 := zu_e1 _ _
  have q8 : zq_ev r (0, [(5, 1)]) = r 5 := zu_e1 _ _
  have q9 : zq_ev r (0, [(6, 1)]) = r 6 := zu_e1 _ _
  have q10 : zq_ev r (0, [(7, 1)]) = r 7 := zu_e1 _ _
  have q11 : zq_ev r (0, [(8, 1)]) = r 8 := zu_e1 _ _
  have q12 : zq_ev r (0, [(9, 1)]) = r 9 := zu_e1 _ _
  obtain ⟨hT, hC, hF, hS, -, hK⟩ := hM
  have c := hC.1
  have a1 := zq_all_1 c
  rw [q0] at a1
  have k1 := zj_use x_SL (hK)
  have k1 : ze_SL (zq_ev r (9, [])) (zq_ev r (10, [])) (zq_ev r (0, [(0, 1)])) (zq_ev r (0, [(1, 1)])) (zq_ev r (0, [(2, 1)])) (zq_ev r (0, [(3, 1)])) (zq_ev r (0, [(4, 1)])) (zq_ev r (0, [(5, 1)])) (zq_ev r (0, [(6, 1)])) (zq_ev r (0, [(7, 1)])) (zq_ev r (0, [(8, 1)])) P h := k1
  simp only [q1, q10, q11, q2, q3, q4, q5, q6, q7, q8, q9] at k1
  have k2 := zj_use x_CD (zq_okX_t (hK))
  have k2 : ze_CD (zq_ev r (0, [(0, 1)])) (zq_ev r (0, [(1, 1)])) (zq_ev r (0, [(8, 1)])) (zq_ev r (0, [(9, 1)])) P h := k2
  simp only [q11, q12, q3, q4] at k2
  obtain t1 := ze_e9a_l (P := P) (h := h) (g := r 0) (n := r 1) (o := r 2) (W := r 3) (b := r 4) (p := r 5) (a := r 6) (c := r 7) (q := r 8) (s := r 9) a1 k1 k2
  obtain ⟨rq, hr⟩ : ∃ rq : Nat → Int, (∀ i, i < 10 → rq i = r i) := ⟨r, fun i hi => rfl⟩
  have v0 : rq 0 = r 0 := hr 0 (by decide)
  have v1 : rq 1 = r 1 := hr 1 (by decide)
  have v2 : rq 2 = r 2 := hr 2 (by decide)
  have v3 : rq 3 = r 3 := hr 3 (by decide)
  have v4 : rq 4 = r 4 := hr 4 (by decide)
  have v5 : rq 5 = r 5 := hr 5 (by decide)
  have v6 : rq 6 = r 6 := hr 6 (by decide)
  have v7 : rq 7 = r 7 := hr 7 (by decide)
  have v8 : rq 8 = r 8 := hr 8 (by decide)
  have g0 : zq_ev rq (10, []) = 10 := zu_e0 _ _
  have g1 : zq_ev rq (0, [(0, 1)]) = r 0 := zu_f1 v0
  have g2 : zq_ev rq (0, [(1, 1)]) = r 1 := zu_f1 v1
  have g3 : zq_ev rq (0, [(2, 1)]) = r 2 := zu_f1 v2
  have g4 : zq_ev rq (0, [(3, 1)]) = r 3 := zu_f1 v3
  have g5 : zq_ev rq (0, [(4, 1)]) = r 4 := zu_f1 v4
  have g6 : zq_ev rq (0, [(5, 1)]) = r 5 := zu_f1 v5
  have g7 : zq_ev rq (0, [(6, 1)]) = r 6 := zu_f1 v6
  have g8 : zq_ev rq (0, [(7, 1)]) = r 7 := zu_f1 v7
  have g9 : zq_ev rq (0, [(8, 1)]) = r 8 := zu_f1 v8
  exact ⟨_, List.mem_cons_self .., rq, hr, zq_MeS_mk rfl hT (zq_all_nil) zq_fan (zq_fan) rfl (zu_fac ((x_EV _ _ _).mpr (by show ze_EV (zq_ev rq (10, [])) (zq_ev rq (0, [(0, 1)])) (zq_ev rq (0, [(1, 1)])) (zq_ev rq (0, [(2, 1)])) (zq_ev rq (0, [(3, 1)])) (zq_ev rq (0, [(4, 1)])) (zq_ev rq (0, [(5, 1)])) (zq_ev rq (0, [(6, 1)])) (zq_ev rq (0, [(7, 1)])) (zq_ev rq (0, [(8, 1)])) P h; simp only [g0, g1, g2, g3, g4, g5, g6, g7, g8, g9]; exact t1)) zq_fan)⟩
noncomputable def ze_f9a : zq_S × List zq_S := (([], [], [(4, [(4, -1)])], [], [], [], [(223, [(9, []), (10, []), (0, [(0, 1)]), (0, [(1, 1)]), (0, [(2, 1)]), (0, [(3, 1)])]), (224, [(0, [(0, 1)]), (0, [(1, 1)]), (0, [(3, 1)]), (0, [(4, 1)])])], 5), [([], [], [], [], [], [], [(221, [(10, []), (0, [(0, 1)]), (0, [(1, 1)]), (0, [(2, 1)]), (0, [(3, 1)])])], 5)])
theorem ze_f9a_l {P : zq_Ty} {h : zq_H} {g n p q s : Int} (a1 : 0 ≤ -s + 4) (k1 : ze_TL 9 10 g n p q P h) (k2 : ze_CD g n q s P h) : (ze_TT 10 g n p q P h) := by
  have k2 : s = ze_c g n q := k2
  exact k1 _ (zt_ol_end (by rw [← k2]; exact by omega))
theorem ze_f9a_ok {w : zq_Wd} (x_TL : zj_is w 223 (fun q => ze_TL (q 0) (q 1) (q 2) (q 3) (q 4) (q 5))) (x_CD : zj_is w 224 (fun q => ze_CD (q 0) (q 1) (q 2) (q 3))) (x_TT : zj_is w 221 (fun q => ze_TT (q 0) (q 1) (q 2) (q 3) (q 4))) : zq_okG1 w ze_f9a := by
  refine ⟨rfl, rfl, zu_fac ⟨rfl, by decide⟩ zq_fan, ?_⟩
  intro r P h H hM
  have q0 : zq_ev r (4, [(4, -1)]) = -r 4 + 4 := zu_e5 _ _ _
  have q1 : zq_ev r (9, []) = 9 := zu_e0 _ _
  have q2 : zq_ev r (10, []) = 10 := zu_e0 _ _
  have q3 : zq_ev r (0, [(0, 1)]) = r 0 := zu_e1 _ _
  have q4 : zq_ev r (0, [(1, 1)]) = r 1 := zu_e1 _ _
  have q5 : zq_ev r (0, [(2, 1)]) = r 2 := zu_e1 _ _
  have q6 : zq_ev r (0, [(3, 1)]) = r 3 := zu_e1 _ _
  have q7 : zq_ev r (0, [(4, 1)]) = r 4 := zu_e1 _ _
  obtain ⟨hT, hC, hF, hS, -, hK⟩ := hM
  have c := hC.1
  have a1 := zq_all_1 c
  rw [q0] at a1
  have k1 := zj_use x_TL (hK)
  have k1 : ze_TL (zq_ev r (9, [])) (zq_ev r (10, [])) (zq_ev r (0, [(0, 1)])) (zq_ev r (0, [(1, 1)])) (zq_ev r (0, [(2, 1)])) (zq_ev r (0, [(3, 1)])) P h := k1
  simp only [q1, q2, q3, q4, q5, q6] at k1
  have k2 := zj_use x_CD (zq_okX_t (hK))
  have k2 : ze_CD (zq_ev r (0, [(0, 1)])) (zq_ev r (0, [(1, 1)])) (zq_ev r (0, [(3, 1)])) (zq_ev r (0, [(4, 1)])) P h := k2
  simp only [q3, q4, q6, q7] at k2
  obtain t1 := ze_f9a_l (P := P) (h := h) (g := r 0) (n := r 1) (p := r 2) (q := r 3) (s := r 4) a1 k1 k2
  obtain ⟨rq, hr⟩ : ∃ rq : Nat → Int, (∀ i, i < 5 → rq i = r i) := ⟨r, fun i hi => rfl⟩
  have v0 : rq 0 = r 0 := hr 0 (by decide)
  have v1 : rq 1 = r 1 := hr 1 (by decide)
  have v2 : rq 2 = r 2 := hr 2 (by decide)
  have v3 : rq 3 = r 3 := hr 3 (by decide)
  have g0 : zq_ev rq (10, []) = 10 := zu_e0 _ _
  have g1 : zq_ev rq (0, [(0, 1)]) = r 0 := zu_f1 v0
  have g2 : zq_ev rq (0, [(1, 1)]) = r 1 := zu_f1 v1
  have g3 : zq_ev rq (0, [(2, 1)]) = r 2 := zu_f1 v2
  have g4 : zq_ev rq (0, [(3, 1)]) = r 3 := zu_f1 v3
  exact ⟨_, List.mem_cons_self .., rq, hr, zq_MeS_mk rfl hT (zq_all_nil) zq_fan (zq_fan) rfl (zu_fac ((x_TT _ _ _).mpr (by show ze_TT (zq_ev rq (10, [])) (zq_ev rq (0, [(0, 1)])) (zq_ev rq (0, [(1, 1)])) (zq_ev rq (0, [(2, 1)])) (zq_ev rq (0, [(3, 1)])) P h; simp only [g0, g1, g2, g3, g4]; exact t1)) zq_fan)⟩
noncomputable def ze_e9b : zq_S × List zq_S := (([], [], [(-6, [(9, 1)])], [], [], [], [(222, [(9, []), (10, []), (0, [(0, 1)]), (0, [(1, 1)]), (0, [(2, 1)]), (0, [(3, 1)]), (0, [(4, 1)]), (0, [(5, 1)]), (0, [(6, 1)]), (0, [(7, 1)]), (0, [(8, 1)])]), (224, [(0, [(0, 1)]), (0, [(1, 1)]), (0, [(8, 1)]), (0, [(9, 1)])])], 10), [([], [], [], [], [], [], [(220, [(10, []), (0, [(0, 1)]), (0, [(1, 1)]), (0, [(2, 1)]), (0, [(3, 1)]), (0, [(4, 1)]), (0, [(5, 1)]), (0, [(6, 1)]), (0, [(7, 1)]), (0, [(8, 1)])])], 10)])
theorem ze_e9b_l {P : zq_Ty} {h : zq_H} {g n o W b p a c q s : Int} (a1 : 0 ≤ s - 6) (k1 : ze_SL 9 10 g n o W b p a c q P h) (k2 : ze_CD g n q s P h) : (ze_EV 10 g n o W b p a c q P h) := by
  have k2 : s = ze_c g n q := k2
  exact k1 _ _ _ (ze_ol_end (by rw [← k2]; exact by omega))
theorem ze_e9b_ok {w : zq_Wd} (x_SL : zj_is w 222 (fun q => ze_SL (q 0) (q 1) (q 2) (q 3) (q 4) (q 5) (q 6) (q 7) (q 8) (q 9) (q 10))) (x_CD : zj_is w 224 (fun q => ze_CD (q 0) (q 1) (q 2) (q 3))) (x_EV : zj_is w 220 (fun q => ze_EV (q 0) (q 1) (q 2) (q 3) (q 4) (q 5) (q 6) (q 7) (q 8) (q 9))) : zq_okG1 w ze_e9b := by
  refine ⟨rfl, rfl, zu_fac ⟨rfl, by decide⟩ zq_fan, ?_⟩
  intro r P h H hM
  have q0 : zq_ev r (-6, [(9, 1)]) = r 9 - 6 := zu_e3 _ _ _
  have q1 : zq_ev r (9, []) = 9 := zu_e0 _ _
  have q2 : zq_ev r (10, []) = 10 := zu_e0 _ _
  have q3 : zq_ev r (0, [(0, 1)]) = r 0 := zu_e1 _ _
  have q4 : zq_ev r (0, [(1, 1)]) = r 1 := zu_e1 _ _
  have q5 : zq_ev r (0, [(2, 1)]) = r 2 := zu_e1 _ _
  have q6 : zq_ev r (0, [(3, 1)]) = r 3 := zu_e1 _ _
  have q7 : zq_ev r (0, [(4, 1)]) = r 4 := zu_e1 _ _
  have q8 : zq_ev r (0, [(5, 1)]) = r 5 := zu_e1 _ _
  have q9 : zq_ev r (0, [(6, 1)]) = r 6 := zu_e1 _ _
  have q10 : zq_ev r (0, [(7, 1)]) = r 7 := zu_e1 _ _
  have q11 : zq_ev r (0, [(8, 1)]) = r 8 := zu_e1 _ _
  have q12 : zq_ev r (0, [(9, 1)]) = r 9 := zu_e1 _ _
  obtain ⟨hT, hC, hF, hS, -, hK⟩ := hM
  have c := hC.1
  have a1 := zq_all_1 c
  rw [q0] at a1
  have k1 := zj_use x_SL (hK)
  have k1 : ze_SL (zq_ev r (9, [])) (zq_ev r (10, [])) (zq_ev r (0, [(0, 1)])) (zq_ev r (0, [(1, 1)])) (zq_ev r (0, [(2, 1)])) (zq_ev r (0, [(3, 1)])) (zq_ev r (0, [(4, 1)])) (zq_ev r (0, [(5, 1)])) (zq_ev r (0, [(6, 1)])) (zq_ev r (0, [(7, 1)])) (zq_ev r (0, [(8, 1)])) P h := k1
  simp only [q1, q10, q11, q2, q3, q4, q5, q6, q7, q8, q9] at k1
  have k2 := zj_use x_CD (zq_okX_t (hK))
  have k2 : ze_CD (zq_ev r (0, [(0, 1)])) (zq_ev r (0, [(1, 1)])) (zq_ev r (0, [(8, 1)])) (zq_ev r (0, [(9, 1)])) P h := k2
  simp only [q11, q12, q3, q4] at k2
  obtain t1 := ze_e9b_l (P := P) (h := h) (g := r 0) (n := r 1) (o := r 2) (W := r 3) (b := r 4) (p := r 5) (a := r 6) (c := r 7) (q := r 8) (s := r 9) a1 k1 k2
  obtain ⟨rq, hr⟩ : ∃ rq : Nat → Int, (∀ i, i < 10 → rq i = r i) := ⟨r, fun i hi => rfl⟩
  have v0 : rq 0 = r 0 := hr 0 (by decide)
  have v1 : rq 1 = r 1 := hr 1 (by decide)
  have v2 : rq 2 = r 2 := hr 2 (by decide)
  have v3 : rq 3 = r 3 := hr 3 (by decide)
  have v4 : rq 4 = r 4 := hr 4 (by decide)
  have v5 : rq 5 = r 5 := hr 5 (by decide)
  have v6 : rq 6 = r 6 := hr 6 (by decide)
  have v7 : rq 7 = r 7 := hr 7 (by decide)
  have v8 : rq 8 = r 8 := hr 8 (by decide)
  have g0 : zq_ev rq (10, []) = 10 := zu_e0 _ _
  have g1 : zq_ev rq (0, [(0, 1)]) = r 0 := zu_f1 v0
  have g2 : zq_ev rq (0, [(1, 1)]) = r 1 := zu_f1 v1
  have g3 : zq_ev rq (0, [(2, 1)]) = r 2 := zu_f1 v2
  have g4 : zq_ev rq (0, [(3, 1)]) = r 3 := zu_f1 v3
  have g5 : zq_ev rq (0, [(4, 1)]) = r 4 := zu_f1 v4
  have g6 : zq_ev rq (0, [(5, 1)]) = r 5 := zu_f1 v5
  have g7 : zq_ev rq (0, [(6, 1)]) = r 6 := zu_f1 v6
  have g8 : zq_ev rq (0, [(7, 1)]) = r 7 := zu_f1 v7
  have g9 : zq_ev rq (0, [(8, 1)]) = r 8 := zu_f1 v8
  exact ⟨_, List.mem_cons_self .., rq, hr, zq_MeS_mk rfl hT (zq_all_nil) zq_fan (zq_fan) rfl (zu_fac ((x_EV _ _ _).mpr (by show ze_EV (zq_ev rq (10, [])) (zq_ev rq (0, [(0, 1)])) (zq_ev rq (0, [(1, 1)])) (zq_ev rq (0, [(2, 1)])) (zq_ev rq (0, [(3, 1)])) (zq_ev rq (0, [(4, 1)])) (zq_ev rq (0, [(5, 1)])) (zq_ev rq (0, [(6, 1)])) (zq_ev rq (0, [(7, 1)])) (zq_ev rq (0, [(8, 1)])) P h; simp only [g0, g1, g2, g3, g4, g5, g6, g7, g8, g9]; exact t1)) zq_fan)⟩
noncomputable def ze_f9b : zq_S × List zq_S := (([], [], [(-6, [(4, 1)])], [], [], [], [(223, [(9, []), (10, []), (0, [(0, 1)]), (0, [(1, 1)]), (0, [(2, 1)]), (0, [(3, 1)])]), (224, [(0, [(0, 1)]), (0, [(1, 1)]), (0, [(3, 1)]), (0, [(4, 1)])])], 5), [([], [], [], [], [], [], [(221, [(10, []), (0, [(0, 1)]), (0, [(1, 1)]), (0, [(2, 1)]), (0, [(3, 1)])])], 5)])
theorem ze_f9b_l {P : zq_Ty} {h : zq_H} {g n p q s : Int} (a1 : 0 ≤ s - 6) (k1 : ze_TL 9 10 g n p q P h) (k2 : ze_CD g n q s P h) : (ze_TT 10 g n p q P h) := by
  have k2 : s = ze_c g n q := k2
  exact k1 _ (zt_ol_end (by rw [← k2]; exact by omega))
theorem ze_f9b_ok {w : zq_Wd} (x_TL : zj_is w 223 (fun q => ze_TL (q 0) (q 1) (q 2) (q 3) (q 4) (q 5))) (x_CD : zj_is w 224 (fun q => ze_CD (q 0) (q 1) (q 2) (q 3))) (x_TT : zj_is w 221 (fun q => ze_TT (q 0) (q 1) (q 2) (q 3) (q 4))) : zq_okG1 w ze_f9b := by
  refine ⟨rfl, rfl, zu_fac ⟨rfl, by decide⟩ zq_fan, ?_⟩
  intro r P h H hM
  have q0 : zq_ev r (-6, [(4, 1)]) = r 4 - 6 := zu_e3 _ _ _
  have q1 : zq_ev r (9, []) = 9 := zu_e0 _ _
  have q2 : zq_ev r (10, []) = 10 := zu_e0 _ _
  have q3 : zq_ev r (0, [(0, 1)]) = r 0 := zu_e1 _ _
  have q4 : zq_ev r (0, [(1, 1)]) = r 1 := zu_e1 _ _
  have q5 : zq_ev r (0, [(2, 1)]) = r 2 := zu_e1 _ _
  have q6 : zq_ev r (0, [(3, 1)]) = r 3 := zu_e1 _ _
  have q7 : zq_ev r (0, [(4, 1)]) = r 4 := zu_e1 _ _
  obtain ⟨hT, hC, hF, hS, -, hK⟩ := hM
  have c := hC.1
  have a1 := zq_all_1 c
  rw [q0] at a1
  have k1 := zj_use x_TL (hK)
  have k1 : ze_TL (zq_ev r (9, [])) (zq_ev r (10, [])) (zq_ev r (0, [(0, 1)])) (zq_ev r (0, [(1, 1)])) (zq_ev r (0, [(2, 1)])) (zq_ev r (0, [(3, 1)])) P h := k1
  simp only [q1, q2, q3, q4, q5, q6] at k1
  have k2 := zj_use x_CD (zq_okX_t (hK))
  have k2 : ze_CD (zq_ev r (0, [(0, 1)])) (zq_ev r (0, [(1, 1)])) (zq_ev r (0, [(3, 1)])) (zq_ev r (0, [(4, 1)])) P h := k2
  simp only [q3, q4, q6, q7] at k2
  obtain t1 := ze_f9b_l (P := P) (h := h) (g := r 0) (n := r 1) (p := r 2) (q := r 3) (s := r 4) a1 k1 k2
  obtain ⟨rq, hr⟩ : ∃ rq : Nat → Int, (∀ i, i < 5 → rq i = r i) := ⟨r, fun i hi => rfl⟩
  have v0 : rq 0 = r 0 := hr 0 (by decide)
  have v1 : rq 1 = r 1 := hr 1 (by decide)
  have v2 : rq 2 = r 2 := hr 2 (by decide)
  have v3 : rq 3 = r 3 := hr 3 (by decide)
  have g0 : zq_ev rq (10, []) = 10 := zu_e0 _ _
  have g1 : zq_ev rq (0, [(0, 1)]) = r 0 := zu_f1 v0
  have g2 : zq_ev rq (0, [(1, 1)]) = r 1 := zu_f1 v1
  have g3 : zq_ev rq (0, [(2, 1)]) = r 2 := zu_f1 v2
  have g4 : zq_ev rq (0, [(3, 1)]) = r 3 := zu_f1 v3
  exact ⟨_, List.mem_cons_self .., rq, hr, zq_MeS_mk rfl hT (zq_all_nil) zq_fan (zq_fan) rfl (zu_fac ((x_TT _ _ _).mpr (by show ze_TT (zq_ev rq (10, [])) (zq_ev rq (0, [(0, 1)])) (zq_ev rq (0, [(1, 1)])) (zq_ev rq (0, [(2, 1)])) (zq_ev rq (0, [(3, 1)])) P h; simp only [g0, g1, g2, g3, g4]; exact t1)) zq_fan)⟩
noncomputable def ze_s143x : zq_S × List zq_S := (([], [], [], [], [], [], [(222, [(3, []), (4, []), (0, [(0, 1)]), (0, [(1, 1)]), (0, [(2, 1)]), (0, [(3, 1)]), (0, [(4, 1)]), (0, [(5, 1)]), (0, [(6, 1)]), (0, [(7, 1)]), (0, [(8, 1)])]), (224, [(0, [(0, 1)]), (0, [(1, 1)]), (0, [(8, 1)]), (143, [])]), (220, [(2, []), (0, [(0, 1)]), (0, [(1, 1)]), (0, [(2, 1)]), (0, [(3, 1)]), (0, [(7, 1)]), (1, [(8, 1)]), (0, [(9, 1)]), (1, []), (0, [(10, 1)])])], 11), [([], [], [], [], [], [], [(222, [(3, []), (4, []), (0, [(0, 1)]), (0, [(1, 1)]), (0, [(2, 1)]), (0, [(3, 1)]), (0, [(4, 1)]), (0, [(5, 1)]), (0, []), (1, []), (0, [(10, 1)])])], 11)])
theorem ze_s143x_l {P : zq_Ty} {h : zq_H} {g n o W b p a c q w x : Int} (k1 : ze_SL 3 4 g n o W b p a c q P h) (k2 : ze_CD g n q 143 P h) (k3 : ze_EV 2 g n o W c (q + 1) w 1 x P h) : (ze_SL 3 4 g n o W b p 0 1 x P h) := by
  intro r d e h2
  have k2 : 143 = ze_c g n q := k2
  refine k1 r d e (ze_sl_go (by rw [← k2]; decide) k3 ?_)
  rw [← k2]
  have za : (if (143 : Int) = 143 then a + w else a - w) = a + w := if_pos rfl
  unfold ze_a
  rw [za]
  rw [ze_on1, ze_bd_1]
  exact h2
theorem ze_s143x_ok {w : zq_Wd} (x_SL : zj_is w 222 (fun q => ze_SL (q 0) (q 1) (q 2) (q 3) (q 4) (q 5) (q 6) (q 7) (q 8) (q 9) (q 10))) (x_CD : zj_is w 224 (fun q => ze_CD (q 0) (q 1) (q 2) (q 3))) (x_EV : zj_is w 220 (fun q => ze_EV (q 0) (q 1) (q 2) (q 3) (q 4) (q 5) (q 6) (q 7) (q 8) (q 9))) : zq_okG1 w ze_s143x := by
  refine ⟨rfl, rfl, zu_fac ⟨rfl, by decide⟩ zq_fan, ?_⟩
  intro r P h H hM
  have q0 : zq_ev r (3, []) = 3 := zu_e0 _ _
  have q1 : zq_ev r (4, []) = 4 := zu_e0 _ _
  have q2 : zq_ev r (0, [(0, 1)]) = r 0 := zu_e1 _ _
  have q3 : zq_ev r (0, [(1, 1)]) = r 1 := zu_e1 _ _
  have q4 : zq_ev r (0, [(2, 1)]) = r 2 := zu_e1 _ _
  have q5 : zq_ev r (0, [(3, 1)]) = r 3 := zu_e1 _ _
  have q6 : zq_ev r (0, [(4, 1)]) = r 4 := zu_e1 _ _
  have q7 : zq_ev r (0, [(5, 1)]) = r 5 := zu_e1 _ _
  have q8 : zq_ev r (0, [(6, 1)]) = r 6 := zu_e1 _ _
  have q9 : zq_ev r (0, [(7, 1)]) = r 7 := zu_e1 _ _
  have q10 : zq_ev r (0, [(8, 1)]) = r 8 := zu_e1 _ _
  have q11 : zq_ev r (143, []) = 143 := zu_e0 _ _
  have q12 : zq_ev r (2, []) = 2 := zu_e0 _ _
  have q13 : zq_ev r (1, [(8, 1)]) = r 8 + 1 := zu_e2 _ _ _
  have q14 : zq_ev r (0, [(9, 1)]) = r 9 := zu_e1 _ _
  have q15 : zq_ev r (1, []) = 1 := zu_e0 _ _
  have q16 : zq_ev r (0, [(10, 1)]) = r 10 := zu_e1 _ _
  obtain ⟨hT, hC, hF, hS, -, hK⟩ := hM
  have c := hC.1
  have k1 := zj_use x_SL (hK)
  have k1 : ze_SL (zq_ev r (3, [])) (zq_ev r (4, [])) (zq_ev r (0, [(0, 1)])) (zq_ev r (0, [(1, 1)])) (zq_ev r (0, [(2, 1)])) (zq_ev r (0, [(3, 1)])) (zq_ev r (0, [(4, 1)])) (zq_ev r (0, [(5, 1)])) (zq_ev r (0, [(6, 1)])) (zq_ev r (0, [(7, 1)])) (zq_ev r (0, [(8, 1)])) P h := k1
  simp only [q0, q1, q10, q2, q3, q4, q5, q6, q7, q8, q9] at k1
  have k2 := zj_use x_CD (zq_okX_t (hK))
  have k2 : ze_CD (zq_ev r (0, [(0, 1)])) (zq_ev r (0, [(1, 1)])) (zq_ev r (0, [(8, 1)])) (zq_ev r (143, [])) P h := k2
  simp only [q10, q11, q2, q3] at k2
  have k3 := zj_use x_EV (zq_okX_t (zq_okX_t (hK)))
  have k3 : ze_EV (zq_ev r (2, [])) (zq_ev r (0, [(0, 1)])) (zq_ev r (0, [(1, 1)])) (zq_ev r (0, [(2, 1)])) (zq_ev r (0, [(3, 1)])) (zq_ev r (0, [(7, 1)])) (zq_ev r (1, [(8, 1)])) (zq_ev r (0, [(9, 1)])) (zq_ev r (1, [])) (zq_ev r (0, [(10, 1)])) P h := k3
  simp only [q12, q13, q14, q15, q16, q2, q3, q4, q5, q9] at k3
  obtain t1 := ze_s143x_l (P := P) (h := h) (g := r 0) (n := r 1) (o := r 2) (W := r 3) (b := r 4) (p := r 5) (a := r 6) (c := r 7) (q := r 8) (w := r 9) (x := r 10) k1 k2 k3
  obtain ⟨rq, hr⟩ : ∃ rq : Nat → Int, (∀ i, i < 11 → rq i = r i) := ⟨r, fun i hi => rfl⟩
  have v0 : rq 0 = r 0 := hr 0 (by decide)
  have v1 : rq 1 = r 1 := hr 1 (by decide)
  have v2 : rq 2 = r 2 := hr 2 (by decide)
  have v3 : rq 3 = r 3 := hr 3 (by decide)
  have v4 : rq 4 = r 4 := hr 4 (by decide)
  have v5 : rq 5 = r 5 := hr 5 (by decide)
  have v10 : rq 10 = r 10 := hr 10 (by decide)
  have g0 : zq_ev rq (3, []) = 3 := zu_e0 _ _
  have g1 : zq_ev rq (4, []) = 4 := zu_e0 _ _
  have g2 : zq_ev rq (0, [(0, 1)]) = r 0 := zu_f1 v0
  have g3 : zq_ev rq (0, [(1, 1)]) = r 1 := zu_f1 v1
  have g4 : zq_ev rq (0, [(2, 1)]) = r 2 := zu_f1 v2
  have g5 : zq_ev rq (0, [(3, 1)]) = r 3 := zu_f1 v3
  have g6 : zq_ev rq (0, [(4, 1)]) = r 4 := zu_f1 v4
  have g7 : zq_ev rq (0, [(5, 1)]) = r 5 := zu_f1 v5
  have g8 : zq_ev rq (0, []) = 0 := zu_e0 _ _
  have g9 : zq_ev rq (1, []) = 1 := zu_e0 _ _
  have g10 : zq_ev rq (0, [(10, 1)]) = r 10 := zu_f1 v10
  exact ⟨_, List.mem_cons_self .., rq, hr, zq_MeS_mk rfl hT (zq_all_nil) zq_fan (zq_fan) rfl (zu_fac ((x_SL _ _ _).mpr (by show ze_SL (zq_ev rq (3, [])) (zq_ev rq (4, [])) (zq_ev rq (0, [(0, 1)])) (zq_ev rq (0, [(1, 1)])) (zq_ev rq (0, [(2, 1)])) (zq_ev rq (0, [(3, 1)])) (zq_ev rq (0, [(4, 1)])) (zq_ev rq (0, [(5, 1)])) (zq_ev rq (0, [])) (zq_ev rq (1, [])) (zq_ev rq (0, [(10, 1)])) P h; simp only [g0, g1, g10, g2, g3, g4, g5, g6, g7, g8, g9]; exact t1)) zq_fan)⟩
noncomputable def ze_s143t : zq_S × List zq_S := (([], [], [(-1000000001, [(6, 1), (9, 1)])], [], [], [], [(222, [(3, []), (4, []), (0, [(0, 1)]), (0, [(1, 1)]), (0, [(2, 1)]), (0, [(3, 1)]), (0, [(4, 1)]), (0, [(5, 1)]), (0, [(6, 1)]), (0, [(7, 1)]), (0, [(8, 1)])]), (224, [(0, [(0, 1)]), (0, [(1, 1)]), (0, [(8, 1)]), (143, [])]), (220, [(2, []), (0, [(0, 1)]), (0, [(1, 1)]), (0, [(2, 1)]), (0, [(3, 1)]), (0, [(7, 1)]), (1, [(8, 1)]), (0, [(9, 1)]), (0, []), (0, [(10, 1)])])], 11), [([], [], [], [], [], [], [(222, [(3, []), (4, []), (0, [(0, 1)]), (0, [(1, 1)]), (0, [(2, 1)]), (0, [(3, 1)]), (0, [(4, 1)]), (0, [(5, 1)]), (0, []), (1, []), (0, [(10, 1)])])], 11)])
theorem ze_s143t_l {P : zq_Ty} {h : zq_H} {g n o W b p a c q w x : Int} (a1 : 0 ≤ a + w - 1000000001) (k1 : ze_SL 3 4 g n o W b p a c q P h) (k2 : ze_CD g n q 143 P h) (k3 : ze_EV 2 g n o W c (q + 1) w 0 x P h) : (ze_SL 3 4 g n o W b p 0 1 x P h) := by
  intro r d e h2
  have k2 : 143 = ze_c g n q := k2
  refine k1 r d e (ze_sl_go (by rw [← k2]; decide) k3 ?_)
  rw [← k2]
  have za : (if (143 : Int) = 143 then a + w else a - w) = a + w := if_pos rfl
  unfold ze_a
  rw [za]
  rw [ze_bd_t (ze_out_t (Or.inl (by omega)))]
  exact h2
theorem ze_s143t_ok {w : zq_Wd} (x_SL : zj_is w 222 (fun q => ze_SL (q 0) (q 1) (q 2) (q 3) (q 4) (q 5) (q 6) (q 7) (q 8) (q 9) (q 10))) (x_CD : zj_is w 224 (fun q => ze_CD (q 0) (q 1) (q 2) (q 3))) (x_EV : zj_is w 220 (fun q => ze_EV (q 0) (q 1) (q 2) (q 3) (q 4) (q 5) (q 6) (q 7) (q 8) (q 9))) : zq_okG1 w ze_s143t := by
  refine ⟨rfl, rfl, zu_fac ⟨rfl, by decide⟩ zq_fan, ?_⟩
  intro r P h H hM
  have q0 : zq_ev r (-1000000001, [(6, 1), (9, 1)]) = r 6 + r 9 - 1000000001 := by simp only [zq_ev, zq_ts] <;> omega
  have q1 : zq_ev r (3, []) = 3 := zu_e0 _ _
  have q2 : zq_ev r (4, []) = 4 := zu_e0 _ _
  have q3 : zq_ev r (0, [(0, 1)]) = r 0 := zu_e1 _ _
  have q4 : zq_ev r (0, [(1, 1)]) = r 1 := zu_e1 _ _
  have q5 : zq_ev r (0, [(2, 1)]) = r 2 := zu_e1 _ _
  have q6 : zq_ev r (0, [(3, 1)]) = r 3 := zu_e1 _ _
  have q7 : zq_ev r (0, [(4, 1)]) = r 4 := zu_e1 _ _
  have q8 : zq_ev r (0, [(5, 1)]) = r 5 := zu_e1 _ _
  have q9 : zq_ev r (0, [(6, 1)]) = r 6 := zu_e1 _ _
  have q10 : zq_ev r (0, [(7, 1)]) = r 7 := zu_e1 _ _
  have q11 : zq_ev r (0, [(8, 1)]) = r 8 := zu_e1 _ _
  have q12 : zq_ev r (143, []) = 143 := zu_e0 _ _
  have q13 : zq_ev r (2, []) = 2 := zu_e0 _ _
  have q14 : zq_ev r (1, [(8, 1)]) = r 8 + 1 := zu_e2 _ _ _
  have q15 : zq_ev r (0, [(9, 1)]) = r 9 := zu_e1 _ _
  have q16 : zq_ev r (0, []) = 0 := zu_e0 _ _
  have q17 : zq_ev r (0, [(10, 1)]) = r 10 := zu_e1 _ _
  obtain ⟨hT, hC, hF, hS, -, hK⟩ := hM
  have c := hC.1
  have a1 := zq_all_1 c
  rw [q0] at a1
  have k1 := zj_use x_SL (hK)
  have k1 : ze_SL (zq_ev r (3, [])) (zq_ev r (4, [])) (zq_ev r (0, [(0, 1)])) (zq_ev r (0, [(1, 1)])) (zq_ev r (0, [(2, 1)])) (zq_ev r (0, [(3, 1)])) (zq_ev r (0, [(4, 1)])) (zq_ev r (0, [(5, 1)])) (zq_ev r (0, [(6, 1)])) (zq_ev r (0, [(7, 1)])) (zq_ev r (0, [(8, 1)])) P h := k1
  simp only [q1, q10, q11, q2, q3, q4, q5, q6, q7, q8, q9] at k1
  have k2 := zj_use x_CD (zq_okX_t (hK))
  have k2 : ze_CD (zq_ev r (0, [(0, 1)])) (zq_ev r (0, [(1, 1)])) (zq_ev r (0, [(8, 1)])) (zq_ev r (143, [])) P h := k2
  simp only [q11, q12, q3, q4] at k2
  have k3 := zj_use x_EV (zq_okX_t (zq_okX_t (hK)))
  have k3 : ze_EV (zq_ev r (2, [])) (zq_ev r (0, [(0, 1)])) (zq_ev r (0, [(1, 1)])) (zq_ev r (0, [(2, 1)])) (zq_ev r (0, [(3, 1)])) (zq_ev r (0, [(7, 1)])) (zq_ev r (1, [(8, 1)])) (zq_ev r (0, [(9, 1)])) (zq_ev r (0, [])) (zq_ev r (0, [(10, 1)])) P h := k3
  simp only [q10, q13, q14, q15, q16, q17, q3, q4, q5, q6] at k3
  obtain t1 := ze_s143t_l (P := P) (h := h) (g := r 0) (n := r 1) (o := r 2) (W := r 3) (b := r 4) (p := r 5) (a := r 6) (c := r 7) (q := r 8) (w := r 9) (x := r 10) a1 k1 k2 k3
  obtain ⟨rq, hr⟩ : ∃ rq : Nat → Int, (∀ i, i < 11 → rq i = r i) := ⟨r, fun i hi => rfl⟩
  have v0 : rq 0 = r 0 := hr 0 (by decide)
  have v1 : rq 1 = r 1 := hr 1 (by decide)
  have v2 : rq 2 = r 2 := hr 2 (by decide)
  have v3 : rq 3 = r 3 := hr 3 (by decide)
  have v4 : rq 4 = r 4 := hr 4 (by decide)
  have v5 : rq 5 = r 5 := hr 5 (by decide)
  have v10 : rq 10 = r 10 := hr 10 (by decide)
  have g0 : zq_ev rq (3, []) = 3 := zu_e0 _ _
  have g1 : zq_ev rq (4, []) = 4 := zu_e0 _ _
  have g2 : zq_ev rq (0, [(0, 1)]) = r 0 := zu_f1 v0
  have g3 : zq_ev rq (0, [(1, 1)]) = r 1 := zu_f1 v1
  have g4 : zq_ev rq (0, [(2, 1)]) = r 2 := zu_f1 v2
  have g5 : zq_ev rq (0, [(3, 1)]) = r 3 := zu_f1 v3
  have g6 : zq_ev rq (0, [(4, 1)]) = r 4 := zu_f1 v4
  have g7 : zq_ev rq (0, [(5, 1)]) = r 5 := zu_f1 v5
  have g8 : zq_ev rq (0, []) = 0 := zu_e0 _ _
  have g9 : zq_ev rq (1, []) = 1 := zu_e0 _ _
  have g10 : zq_ev rq (0, [(10, 1)]) = r 10 := zu_f1 v10
  exact ⟨_, List.mem_cons_self .., rq, hr, zq_MeS_mk rfl hT (zq_all_nil) zq_fan (zq_fan) rfl (zu_fac ((x_SL _ _ _).mpr (by show ze_SL (zq_ev rq (3, [])) (zq_ev rq (4, [])) (zq_ev rq (0, [(0, 1)])) (zq_ev rq (0, [(1, 1)])) (zq_ev rq (0, [(2, 1)])) (zq_ev rq (0, [(3, 1)])) (zq_ev rq (0, [(4, 1)])) (zq_ev rq (0, [(5, 1)])) (zq_ev rq (0, [])) (zq_ev rq (1, [])) (zq_ev rq (0, [(10, 1)])) P h; simp only [g0, g1, g10, g2, g3, g4, g5, g6, g7, g8, g9]; exact t1)) zq_fan)⟩
noncomputable def ze_s143u : zq_S × List zq_S := (([], [], [(-1000000001, [(6, -1), (9, -1)])], [], [], [], [(222, [(3, []), (4, []), (0, [(0, 1)]), (0, [(1, 1)]), (0, [(2, 1)]), (0, [(3, 1)]), (0, [(4, 1)]), (0, [(5, 1)]), (0, [(6, 1)]), (0, [(7, 1)]), (0, [(8, 1)])]), (224, [(0, [(0, 1)]), (0, [(1, 1)]), (0, [(8, 1)]), (143, [])]), (220, [(2, []), (0, [(0, 1)]), (0, [(1, 1)]), (0, [(2, 1)]), (0, [(3, 1)]), (0, [(7, 1)]), (1, [(8, 1)]), (0, [(9, 1)]), (0, []), (0, [(10, 1)])])], 11), [([], [], [], [], [], [], [(222, [(3, []), (4, []), (0, [(0, 1)]), (0, [(1, 1)]), (0, [(2, 1)]), (0, [(3, 1)]), (0, [(4, 1)]), (0, [(5, 1)]), (0, []), (1, []), (0, [(10, 1)])])], 11)])
theorem ze_s143u_l {P : zq_Ty} {h : zq_H} {g n o W b p a c q w x : Int} (a1 : 0 ≤ -a - w - 1000000001) (k1 : ze_SL 3 4 g n o W b p a c q P h) (k2 : ze_CD g n q 143 P h) (k3 : ze_EV 2 g n o W c (q + 1) w 0 x P h) : (ze_SL 3 4 g n o W b p 0 1 x P h) := by
  intro r d e h2
  have k2 : 143 = ze_c g n q := k2
  refine k1 r d e (ze_sl_go (by rw [← k2]; decide) k3 ?_)
  rw [← k2]
  have za : (if (143 : Int) = 143 then a + w else a - w) = a + w := if_pos rfl
  unfold ze_a
  rw [za]
  rw [ze_bd_t (ze_out_t (Or.inr (by omega)))]
  exact h2
theorem ze_s143u_ok {w : zq_Wd} (x_SL : zj_is w 222 (fun q => ze_SL (q 0) (q 1) (q 2) (q 3) (q 4) (q 5) (q 6) (q 7) (q 8) (q 9) (q 10))) (x_CD : zj_is w 224 (fun q => ze_CD (q 0) (q 1) (q 2) (q 3))) (x_EV : zj_is w 220 (fun q => ze_EV (q 0) (q 1) (q 2) (q 3) (q 4) (q 5) (q 6) (q 7) (q 8) (q 9))) : zq_okG1 w ze_s143u := by
  refine ⟨rfl, rfl, zu_fac ⟨rfl, by decide⟩ zq_fan, ?_⟩
  intro r P h H hM
  have q0 : zq_ev r (-1000000001, [(6, -1), (9, -1)]) = -r 6 - r 9 - 1000000001 := by simp only [zq_ev, zq_ts] <;> omega
  have q1 : zq_ev r (3, []) = 3 := zu_e0 _ _
  have q2 : zq_ev r (4, []) = 4 := zu_e0 _ _
  have q3 : zq_ev r (0, [(0, 1)]) = r 0 := zu_e1 _ _
  have q4 : zq_ev r (0, [(1, 1)]) = r 1 := zu_e1 _ _
  have q5 : zq_ev r (0, [(2, 1)]) = r 2 := zu_e1 _ _
  have q6 : zq_ev r (0, [(3, 1)]) = r 3 := zu_e1 _ _
  have q7 : zq_ev r (0, [(4, 1)]) = r 4 := zu_e1 _ _
  have q8 : zq_ev r (0, [(5, 1)]) = r 5 := zu_e1 _ _
  have q9 : zq_ev r (0, [(6, 1)]) = r 6 := zu_e1 _ _
  have q10 : zq_ev r (0, [(7, 1)]) = r 7 := zu_e1 _ _
  have q11 : zq_ev r (0, [(8, 1)]) = r 8 := zu_e1 _ _
  have q12 : zq_ev r (143, []) = 143 := zu_e0 _ _
  have q13 : zq_ev r (2, []) = 2 := zu_e0 _ _
  have q14 : zq_ev r (1, [(8, 1)]) = r 8 + 1 := zu_e2 _ _ _
  have q15 : zq_ev r (0, [(9, 1)]) = r 9 := zu_e1 _ _
  have q16 : zq_ev r (0, []) = 0 := zu_e0 _ _
  have q17 : zq_ev r (0, [(10, 1)]) = r 10 := zu_e1 _ _
  obtain ⟨hT, hC, hF, hS, -, hK⟩ := hM
  have c := hC.1
  have a1 := zq_all_1 c
  rw [q0] at a1
  have k1 := zj_use x_SL (hK)
  have k1 : ze_SL (zq_ev r (3, [])) (zq_ev r (4, [])) (zq_ev r (0, [(0, 1)])) (zq_ev r (0, [(1, 1)])) (zq_ev r (0, [(2, 1)])) (zq_ev r (0, [(3, 1)])) (zq_ev r (0, [(4, 1)])) (zq_ev r (0, [(5, 1)])) (zq_ev r (0, [(6, 1)])) (zq_ev r (0, [(7, 1)])) (zq_ev r (0, [(8, 1)])) P h := k1
  simp only [q1, q10, q11, q2, q3, q4, q5, q6, q7, q8, q9] at k1
  have k2 := zj_use x_CD (zq_okX_t (hK))
  have k2 : ze_CD (zq_ev r (0, [(0, 1)])) (zq_ev r (0, [(1, 1)])) (zq_ev r (0, [(8, 1)])) (zq_ev r (143, [])) P h := k2
  simp only [q11, q12, q3, q4] at k2
  have k3 := zj_use x_EV (zq_okX_t (zq_okX_t (hK)))
  have k3 : ze_EV (zq_ev r (2, [])) (zq_ev r (0, [(0, 1)])) (zq_ev r (0, [(1, 1)])) (zq_ev r (0, [(2, 1)])) (zq_ev r (0, [(3, 1)])) (zq_ev r (0, [(7, 1)])) (zq_ev r (1, [(8, 1)])) (zq_ev r (0, [(9, 1)])) (zq_ev r (0, [])) (zq_ev r (0, [(10, 1)])) P h := k3
  simp only [q10, q13, q14, q15, q16, q17, q3, q4, q5, q6] at k3
  obtain t1 := ze_s143u_l (P := P) (h := h) (g := r 0) (n := r 1) (o := r 2) (W := r 3) (b := r 4) (p := r 5) (a := r 6) (c := r 7) (q := r 8) (w := r 9) (x := r 10) a1 k1 k2 k3
  obtain ⟨rq, hr⟩ : ∃ rq : Nat → Int, (∀ i, i < 11 → rq i = r i) := ⟨r, fun i hi => rfl⟩
  have v0 : rq 0 = r 0 := hr 0 (by decide)
  have v1 : rq 1 = r 1 := hr 1 (by decide)
  have v2 : rq 2 = r 2 := hr 2 (by decide)
  have v3 : rq 3 = r 3 := hr 3 (by decide)
  have v4 : rq 4 = r 4 := hr 4 (by decide)
  have v5 : rq 5 = r 5 := hr 5 (by decide)
  have v10 : rq 10 = r 10 := hr 10 (by decide)
  have g0 : zq_ev rq (3, []) = 3 := zu_e0 _ _
  have g1 : zq_ev rq (4, []) = 4 := zu_e0 _ _
  have g2 : zq_ev rq (0, [(0, 1)]) = r 0 := zu_f1 v0
  have g3 : zq_ev rq (0, [(1, 1)]) = r 1 := zu_f1 v1
  have g4 : zq_ev rq (0, [(2, 1)]) = r 2 := zu_f1 v2
  have g5 : zq_ev rq (0, [(3, 1)]) = r 3 := zu_f1 v3
  have g6 : zq_ev rq (0, [(4, 1)]) = r 4 := zu_f1 v4
  have g7 : zq_ev rq (0, [(5, 1)]) = r 5 := zu_f1 v5
  have g8 : zq_ev rq (0, []) = 0 := zu_e0 _ _
  have g9 : zq_ev rq (1, []) = 1 := zu_e0 _ _
  have g10 : zq_ev rq (0, [(10, 1)]) = r 10 := zu_f1 v10
  exact ⟨_, List.mem_cons_self .., rq, hr, zq_MeS_mk rfl hT (zq_all_nil) zq_fan (zq_fan) rfl (zu_fac ((x_SL _ _ _).mpr (by show ze_SL (zq_ev rq (3, [])) (zq_ev rq (4, [])) (zq_ev rq (0, [(0, 1)])) (zq_ev rq (0, [(1, 1)])) (zq_ev rq (0, [(2, 1)])) (zq_ev rq (0, [(3, 1)])) (zq_ev rq (0, [(4, 1)])) (zq_ev rq (0, [(5, 1)])) (zq_ev rq (0, [])) (zq_ev rq (1, [])) (zq_ev rq (0, [(10, 1)])) P h; simp only [g0, g1, g10, g2, g3, g4, g5, g6, g7, g8, g9]; exact t1)) zq_fan)⟩
noncomputable def ze_s143r : zq_S × List zq_S := (([], [], [(1000000000, [(6, 1), (9, 1)]), (1000000000, [(6, -1), (9, -1)])], [], [], [], [(222, [(3, []), (4, []), (0, [(0, 1)]), (0, [(1, 1)]), (0, [(2, 1)]), (0, [(3, 1)]), (0, [(4, 1)]), (0, [(5, 1)]), (0, [(6, 1)]), (0, [(7, 1)]), (0, [(8, 1)])]), (224, [(0, [(0, 1)]), (0, [(1, 1)]), (0, [(8, 1)]), (143, [])]), (220, [(2, []), (0, [(0, 1)]), (0, [(1, 1)]), (0, [(2, 1)]), (0, [(3, 1)]), (0, [(7, 1)]), (1, [(8, 1)]), (0, [(9, 1)]), (0, []), (0, [(10, 1)])])], 11), [([], [], [], [], [], [], [(222, [(3, []), (4, []), (0, [(0, 1)]), (0, [(1, 1)]), (0, [(2, 1)]), (0, [(3, 1)]), (0, [(4, 1)]), (0, [(5, 1)]), (0, [(6, 1), (9, 1)]), (0, []), (0, [(10, 1)])])], 11)])
theorem ze_s143r_l {P : zq_Ty} {h : zq_H} {g n o W b p a c q w x : Int} (a1 : 0 ≤ a + w + 1000000000) (a2 : 0 ≤ -a - w + 1000000000) (k1 : ze_SL 3 4 g n o W b p a c q P h) (k2 : ze_CD g n q 143 P h) (k3 : ze_EV 2 g n o W c (q + 1) w 0 x P h) : (ze_SL 3 4 g n o W b p (a + w) 0 x P h) := by
  intro r d e h2
  have k2 : 143 = ze_c g n q := k2
  refine k1 r d e (ze_sl_go (by rw [← k2]; decide) k3 ?_)
  rw [← k2]
  have za : (if (143 : Int) = 143 then a + w else a - w) = a + w := if_pos rfl
  unfold ze_a
  rw [za]
  rw [ze_on0, ze_bd_f (ze_out_f (by omega) (by omega))]
  have h2 : ze_V (ze_c g n) (ze_v g n) (ze_w o W) 3 (a + w) true false x r d e := h2
  exact h2
theorem ze_s143r_ok {w : zq_Wd} (x_SL : zj_is w 222 (fun q => ze_SL (q 0) (q 1) (q 2) (q 3) (q 4) (q 5) (q 6) (q 7) (q 8) (q 9) (q 10))) (x_CD : zj_is w 224 (fun q => ze_CD (q 0) (q 1) (q 2) (q 3))) (x_EV : zj_is w 220 (fun q => ze_EV (q 0) (q 1) (q 2) (q 3) (q 4) (q 5) (q 6) (q 7) (q 8) (q 9))) : zq_okG1 w ze_s143r := by
  refine ⟨rfl, rfl, zu_fac ⟨rfl, by decide⟩ zq_fan, ?_⟩
  intro r P h H hM
  have q0 : zq_ev r (1000000000, [(6, 1), (9, 1)]) = r 6 + r 9 + 1000000000 := by simp only [zq_ev, zq_ts] <;> omega
  have q1 : zq_ev r (1000000000, [(6, -1), (9, -1)]) = -r 6 - r 9 + 1000000000 := by simp only [zq_ev, zq_ts] <;> omega
  have q2 : zq_ev r (3, []) = 3 := zu_e0 _ _
  have q3 : zq_ev r (4, []) = 4 := zu_e0 _ _
  have q4 : zq_ev r (0, [(0, 1)]) = r 0 := zu_e1 _ _
  have q5 : zq_ev r (0, [(1, 1)]) = r 1 := zu_e1 _ _
  have q6 : zq_ev r (0, [(2, 1)]) = r 2 := zu_e1 _ _
  have q7 : zq_ev r (0, [(3, 1)]) = r 3 := zu_e1 _ _
  have q8 : zq_ev r (0, [(4, 1)]) = r 4 := zu_e1 _ _
  have q9 : zq_ev r (0, [(5, 1)]) = r 5 := zu_e1 _ _
  have q10 : zq_ev r (0, [(6, 1)]) = r 6 := zu_e1 _ _
  have q11 : zq_ev r (0, [(7, 1)]) = r 7 := zu_e1 _ _
  have q12 : zq_ev r (0, [(8, 1)]) = r 8 := zu_e1 _ _
  have q13 : zq_ev r (143, []) = 143 := zu_e0 _ _
  have q14 : zq_ev r (2, []) = 2 := zu_e0 _ _
  have q15 : zq_ev r (1, [(8, 1)]) = r 8 + 1 := zu_e2 _ _ _
  have q16 : zq_ev r (0, [(9, 1)]) = r 9 := zu_e1 _ _
  have q17 : zq_ev r (0, []) = 0 := zu_e0 _ _
  have q18 : zq_ev r (0, [(10, 1)]) = r 10 := zu_e1 _ _
  obtain ⟨hT, hC, hF, hS, -, hK⟩ := hM
  have c := hC.1
  have a1 := zq_all_1 c
  rw [q0] at a1
  have c := zq_all_t c
  have a2 := zq_all_1 c
  rw [q1] at a2
  have k1 := zj_use x_SL (hK)
  have k1 : ze_SL (zq_ev r (3, [])) (zq_ev r (4, [])) (zq_ev r (0, [(0, 1)])) (zq_ev r (0, [(1, 1)])) (zq_ev r (0, [(2, 1)])) (zq_ev r (0, [(3, 1)])) (zq_ev r (0, [(4, 1)])) (zq_ev r (0, [(5, 1)])) (zq_ev r (0, [(6, 1)])) (zq_ev r (0, [(7, 1)])) (zq_ev r (0, [(8, 1)])) P h := k1
  simp only [q10, q11, q12, q2, q3, q4, q5, q6, q7, q8, q9] at k1
  have k2 := zj_use x_CD (zq_okX_t (hK))
  have k2 : ze_CD (zq_ev r (0, [(0, 1)])) (zq_ev r (0, [(1, 1)])) (zq_ev r (0, [(8, 1)])) (zq_ev r (143, [])) P h := k2
  simp only [q12, q13, q4, q5] at k2
  have k3 := zj_use x_EV (zq_okX_t (zq_okX_t (hK)))
  have k3 : ze_EV (zq_ev r (2, [])) (zq_ev r (0, [(0, 1)])) (zq_ev r (0, [(1, 1)])) (zq_ev r (0, [(2, 1)])) (zq_ev r (0, [(3, 1)])) (zq_ev r (0, [(7, 1)])) (zq_ev r (1, [(8, 1)])) (zq_ev r (0, [(9, 1)])) (zq_ev r (0, [])) (zq_ev r (0, [(10, 1)])) P h := k3
  simp only [q11, q14, q15, q16, q17, q18, q4, q5, q6, q7] at k3
  obtain t1 := ze_s143r_l (P := P) (h := h) (g := r 0) (n := r 1) (o := r 2) (W := r 3) (b := r 4) (p := r 5) (a := r 6) (c := r 7) (q := r 8) (w := r 9) (x := r 10) a1 a2 k1 k2 k3
  obtain ⟨rq, hr⟩ : ∃ rq : Nat → Int, (∀ i, i < 11 → rq i = r i) := ⟨r, fun i hi => rfl⟩
  have v0 : rq 0 = r 0 := hr 0 (by decide)
  have v1 : rq 1 = r 1 := hr 1 (by decide)
  have v2 : rq 2 = r 2 := hr 2 (by decide)
  have v3 : rq 3 = r 3 := hr 3 (by decide)
  have v4 : rq 4 = r 4 := hr 4 (by decide)
  have v5 : rq 5 = r 5 := hr 5 (by decide)
  have v6 : rq 6 = r 6 := hr 6 (by decide)
  have v9 : rq 9 = r 9 := hr 9 (by decide)
  have v10 : rq 10 = r 10 := hr 10 (by decide)
  have g0 : zq_ev rq (3, []) = 3 := zu_e0 _ _
  have g1 : zq_ev rq (4, []) = 4 := zu_e0 _ _
  have g2 : zq_ev rq (0, [(0, 1)]) = r 0 := zu_f1 v0
  have g3 : zq_ev rq (0, [(1, 1)]) = r 1 := zu_f1 v1
  have g4 : zq_ev rq (0, [(2, 1)]) = r 2 := zu_f1 v2
  have g5 : zq_ev rq (0, [(3, 1)]) = r 3 := zu_f1 v3
  have g6 : zq_ev rq (0, [(4, 1)]) = r 4 := zu_f1 v4
  have g7 : zq_ev rq (0, [(5, 1)]) = r 5 := zu_f1 v5
  have g8 : zq_ev rq (0, [(6, 1), (9, 1)]) = r 6 + r 9 := by simp only [zq_ev, zq_ts, v0, v1, v2, v3, v4, v5, v6, v9, v10] <;> omega
  have g9 : zq_ev rq (0, []) = 0 := zu_e0 _ _
  have g10 : zq_ev rq (0, [(10, 1)]) = r 10 := zu_f1 v10
  exact ⟨_, List.mem_cons_self .., rq, hr, zq_MeS_mk rfl hT (zq_all_nil) zq_fan (zq_fan) rfl (zu_fac ((x_SL _ _ _).mpr (by show ze_SL (zq_ev rq (3, [])) (zq_ev rq (4, [])) (zq_ev rq (0, [(0, 1)])) (zq_ev rq (0, [(1, 1)])) (zq_ev rq (0, [(2, 1)])) (zq_ev rq (0, [(3, 1)])) (zq_ev rq (0, [(4, 1)])) (zq_ev rq (0, [(5, 1)])) (zq_ev rq (0, [(6, 1), (9, 1)])) (zq_ev rq (0, [])) (zq_ev rq (0, [(10, 1)])) P h; simp only [g0, g1, g10, g2, g3, g4, g5, g6, g7, g8, g9]; exact t1)) zq_fan)⟩
noncomputable def ze_s145x : zq_S × List zq_S := (([], [], [], [], [], [], [(222, [(3, []), (4, []), (0, [(0, 1)]), (0, [(1, 1)]), (0, [(2, 1)]), (0, [(3, 1)]), (0, [(4, 1)]), (0, [(5, 1)]), (0, [(6, 1)]), (0, [(7, 1)]), (0, [(8, 1)])]), (224, [(0, [(0, 1)]), (0, [(1, 1)]), (0, [(8, 1)]), (145, [])]), (220, [(2, []), (0, [(0, 1)]), (0, [(1, 1)]), (0, [(2, 1)]), (0, [(3, 1)]), (0, [(7, 1)]), (1, [(8, 1)]), (0, [(9, 1)]), (1, []), (0, [(10, 1)])])], 11), [([], [], [], [], [], [], [(222, [(3, []), (4, []), (0, [(0, 1)]), (0, [(1, 1)]), (0, [(2, 1)]), (0, [(3, 1)]), (0, [(4, 1)]), (0, [(5, 1)]), (0, []), (1, []), (0, [(10, 1)])])], 11)])
theorem ze_s145x_l {P : zq_Ty} {h : zq_H} {g n o W b p a c q w x : Int} (k1 : ze_SL 3 4 g n o W b p a c q P h) (k2 : ze_CD g n q 145 P h) (k3 : ze_EV 2 g n o W c (q + 1) w 1 x P h) : (ze_SL 3 4 g n o W b p 0 1 x P h) := by
  intro r d e h2
  have k2 : 145 = ze_c g n q := k2
  refine k1 r d e (ze_sl_go (by rw [← k2]; decide) k3 ?_)
  rw [← k2]
  have za : (if (145 : Int) = 143 then a + w else a - w) = a - w := if_neg (by decide)
  unfold ze_a
  rw [za]
  rw [ze_on1, ze_bd_1]
  exact h2
theorem ze_s145x_ok {w : zq_Wd} (x_SL : zj_is w 222 (fun q => ze_SL (q 0) (q 1) (q 2) (q 3) (q 4) (q 5) (q 6) (q 7) (q 8) (q 9) (q 10))) (x_CD : zj_is w 224 (fun q => ze_CD (q 0) (q 1) (q 2) (q 3))) (x_EV : zj_is w 220 (fun q => ze_EV (q 0) (q 1) (q 2) (q 3) (q 4) (q 5) (q 6) (q 7) (q 8) (q 9))) : zq_okG1 w ze_s145x := by
  refine ⟨rfl, rfl, zu_fac ⟨rfl, by decide⟩ zq_fan, ?_⟩
  intro r P h H hM
  have q0 : zq_ev r (3, []) = 3 := zu_e0 _ _
  have q1 : zq_ev r (4, []) = 4 := zu_e0 _ _
  have q2 : zq_ev r (0, [(0, 1)]) = r 0 := zu_e1 _ _
  have q3 : zq_ev r (0, [(1, 1)]) = r 1 := zu_e1 _ _
  have q4 : zq_ev r (0, [(2, 1)]) = r 2 := zu_e1 _ _
  have q5 : zq_ev r (0, [(3, 1)]) = r 3 := zu_e1 _ _
  have q6 : zq_ev r (0, [(4, 1)]) = r 4 := zu_e1 _ _
  have q7 : zq_ev r (0, [(5, 1)]) = r 5 := zu_e1 _ _
  have q8 : zq_ev r (0, [(6, 1)]) = r 6 := zu_e1 _ _
  have q9 : zq_ev r (0, [(7, 1)]) = r 7 := zu_e1 _ _
  have q10 : zq_ev r (0, [(8, 1)]) = r 8 := zu_e1 _ _
  have q11 : zq_ev r (145, []) = 145 := zu_e0 _ _
  have q12 : zq_ev r (2, []) = 2 := zu_e0 _ _
  have q13 : zq_ev r (1, [(8, 1)]) = r 8 + 1 := zu_e2 _ _ _
  have q14 : zq_ev r (0, [(9, 1)]) = r 9 := zu_e1 _ _
  have q15 : zq_ev r (1, []) = 1 := zu_e0 _ _
  have q16 : zq_ev r (0, [(10, 1)]) = r 10 := zu_e1 _ _
  obtain ⟨hT, hC, hF, hS, -, hK⟩ := hM
  have c := hC.1
  have k1 := zj_use x_SL (hK)
  have k1 : ze_SL (zq_ev r (3, [])) (zq_ev r (4, [])) (zq_ev r (0, [(0, 1)])) (zq_ev r (0, [(1, 1)])) (zq_ev r (0, [(2, 1)])) (zq_ev r (0, [(3, 1)])) (zq_ev r (0, [(4, 1)])) (zq_ev r (0, [(5, 1)])) (zq_ev r (0, [(6, 1)])) (zq_ev r (0, [(7, 1)])) (zq_ev r (0, [(8, 1)])) P h := k1
  simp only [q0, q1, q10, q2, q3, q4, q5, q6, q7, q8, q9] at k1
  have k2 := zj_use x_CD (zq_okX_t (hK))
  have k2 : ze_CD (zq_ev r (0, [(0, 1)])) (zq_ev r (0, [(1, 1)])) (zq_ev r (0, [(8, 1)])) (zq_ev r (145, [])) P h := k2
  simp only [q10, q11, q2, q3] at k2
  have k3 := zj_use x_EV (zq_okX_t (zq_okX_t (hK)))
  have k3 : ze_EV (zq_ev r (2, [])) (zq_ev r (0, [(0, 1)])) (zq_ev r (0, [(1, 1)])) (zq_ev r (0, [(2, 1)])) (zq_ev r (0, [(3, 1)])) (zq_ev r (0, [(7, 1)])) (zq_ev r (1, [(8, 1)])) (zq_ev r (0, [(9, 1)])) (zq_ev r (1, [])) (zq_ev r (0, [(10, 1)])) P h := k3
  simp only [q12, q13, q14, q15, q16, q2, q3, q4, q5, q9] at k3
  obtain t1 := ze_s145x_l (P := P) (h := h) (g := r 0) (n := r 1) (o := r 2) (W := r 3) (b := r 4) (p := r 5) (a := r 6) (c := r 7) (q := r 8) (w := r 9) (x := r 10) k1 k2 k3
  obtain ⟨rq, hr⟩ : ∃ rq : Nat → Int, (∀ i, i < 11 → rq i = r i) := ⟨r, fun i hi => rfl⟩
  have v0 : rq 0 = r 0 := hr 0 (by decide)
  have v1 : rq 1 = r 1 := hr 1 (by decide)
  have v2 : rq 2 = r 2 := hr 2 (by decide)
  have v3 : rq 3 = r 3 := hr 3 (by decide)
  have v4 : rq 4 = r 4 := hr 4 (by decide)
  have v5 : rq 5 = r 5 := hr 5 (by decide)
  have v10 : rq 10 = r 10 := hr 10 (by decide)
  have g0 : zq_ev rq (3, []) = 3 := zu_e0 _ _
  have g1 : zq_ev rq (4, []) = 4 := zu_e0 _ _
  have g2 : zq_ev rq (0, [(0, 1)]) = r 0 := zu_f1 v0
  have g3 : zq_ev rq (0, [(1, 1)]) = r 1 := zu_f1 v1
  have g4 : zq_ev rq (0, [(2, 1)]) = r 2 := zu_f1 v2
  have g5 : zq_ev rq (0, [(3, 1)]) = r 3 := zu_f1 v3
  have g6 : zq_ev rq (0, [(4, 1)]) = r 4 := zu_f1 v4
  have g7 : zq_ev rq (0, [(5, 1)]) = r 5 := zu_f1 v5
  have g8 : zq_ev rq (0, []) = 0 := zu_e0 _ _
  have g9 : zq_ev rq (1, []) = 1 := zu_e0 _ _
  have g10 : zq_ev rq (0, [(10, 1)]) = r 10 := zu_f1 v10
  exact ⟨_, List.mem_cons_self .., rq, hr, zq_MeS_mk rfl hT (zq_all_nil) zq_fan (zq_fan) rfl (zu_fac ((x_SL _ _ _).mpr (by show ze_SL (zq_ev rq (3, [])) (zq_ev rq (4, [])) (zq_ev rq (0, [(0, 1)])) (zq_ev rq (0, [(1, 1)])) (zq_ev rq (0, [(2, 1)])) (zq_ev rq (0, [(3, 1)])) (zq_ev rq (0, [(4, 1)])) (zq_ev rq (0, [(5, 1)])) (zq_ev rq (0, [])) (zq_ev rq (1, [])) (zq_ev rq (0, [(10, 1)])) P h; simp only [g0, g1, g10, g2, g3, g4, g5, g6, g7, g8, g9]; exact t1)) zq_fan)⟩
noncomputable def ze_s145t : zq_S × List zq_S := (([], [], [(-1000000001, [(6, 1), (9, -1)])], [], [], [], [(222, [(3, []), (4, []), (0, [(0, 1)]), (0, [(1, 1)]), (0, [(2, 1)]), (0, [(3, 1)]), (0, [(4, 1)]), (0, [(5, 1)]), (0, [(6, 1)]), (0, [(7, 1)]), (0, [(8, 1)])]), (224, [(0, [(0, 1)]), (0, [(1, 1)]), (0, [(8, 1)]), (145, [])]), (220, [(2, []), (0, [(0, 1)]), (0, [(1, 1)]), (0, [(2, 1)]), (0, [(3, 1)]), (0, [(7, 1)]), (1, [(8, 1)]), (0, [(9, 1)]), (0, []), (0, [(10, 1)])])], 11), [([], [], [], [], [], [], [(222, [(3, []), (4, []), (0, [(0, 1)]), (0, [(1, 1)]), (0, [(2, 1)]), (0, [(3, 1)]), (0, [(4, 1)]), (0, [(5, 1)]), (0, []), (1, []), (0, [(10, 1)])])], 11)])
theorem ze_s145t_l {P : zq_Ty} {h : zq_H} {g n o W b p a c q w x : Int} (a1 : 0 ≤ a - w - 1000000001) (k1 : ze_SL 3 4 g n o W b p a c q P h) (k2 : ze_CD g n q 145 P h) (k3 : ze_EV 2 g n o W c (q + 1) w 0 x P h) : (ze_SL 3 4 g n o W b p 0 1 x P h) := by
  intro r d e h2
  have k2 : 145 = ze_c g n q := k2
  refine k1 r d e (ze_sl_go (by rw [← k2]; decide) k3 ?_)
  rw [← k2]
  have za : (if (145 : Int) = 143 then a + w else a - w) = a - w := if_neg (by decide)
  unfold ze_a
  rw [za]
  rw [ze_bd_t (ze_out_t (Or.inl (by omega)))]
  exact h2
theorem ze_s145t_ok {w : zq_Wd} (x_SL : zj_is w 222 (fun q => ze_SL (q 0) (q 1) (q 2) (q 3) (q 4) (q 5) (q 6) (q 7) (q 8) (q 9) (q 10))) (x_CD : zj_is w 224 (fun q => ze_CD (q 0) (q 1) (q 2) (q 3))) (x_EV : zj_is w 220 (fun q => ze_EV (q 0) (q 1) (q 2) (q 3) (q 4) (q 5) (q 6) (q 7) (q 8) (q 9))) : zq_okG1 w ze_s145t := by
  refine ⟨rfl, rfl, zu_fac ⟨rfl, by decide⟩ zq_fan, ?_⟩
  intro r P h H hM
  have q0 : zq_ev r (-1000000001, [(6, 1), (9, -1)]) = r 6 - r 9 - 1000000001 := by simp only [zq_ev, zq_ts] <;> omega
  have q1 : zq_ev r (3, []) = 3 := zu_e0 _ _
  have q2 : zq_ev r (4, []) = 4 := zu_e0 _ _
  have q3 : zq_ev r (0, [(0, 1)]) = r 0 := zu_e1 _ _
  have q4 : zq_ev r (0, [(1, 1)]) = r 1 := zu_e1 _ _
  have q5 : zq_ev r (0, [(2, 1)]) = r 2 := zu_e1 _ _
  have q6 : zq_ev r (0, [(3, 1)]) = r 3 := zu_e1 _ _
  have q7 : zq_ev r (0, [(4, 1)]) = r 4 := zu_e1 _ _
  have q8 : zq_ev r (0, [(5, 1)]) = r 5 := zu_e1 _ _
  have q9 : zq_ev r (0, [(6, 1)]) = r 6 := zu_e1 _ _
  have q10 : zq_ev r (0, [(7, 1)]) = r 7 := zu_e1 _ _
  have q11 : zq_ev r (0, [(8, 1)]) = r 8 := zu_e1 _ _
  have q12 : zq_ev r (145, []) = 145 := zu_e0 _ _
  have q13 : zq_ev r (2, []) = 2 := zu_e0 _ _
  have q14 : zq_ev r (1, [(8, 1)]) = r 8 + 1 := zu_e2 _ _ _
  have q15 : zq_ev r (0, [(9, 1)]) = r 9 := zu_e1 _ _
  have q16 : zq_ev r (0, []) = 0 := zu_e0 _ _
  have q17 : zq_ev r (0, [(10, 1)]) = r 10 := zu_e1 _ _
  obtain ⟨hT, hC, hF, hS, -, hK⟩ := hM
  have c := hC.1
  have a1 := zq_all_1 c
  rw [q0] at a1
  have k1 := zj_use x_SL (hK)
  have k1 : ze_SL (zq_ev r (3, [])) (zq_ev r (4, [])) (zq_ev r (0, [(0, 1)])) (zq_ev r (0, [(1, 1)])) (zq_ev r (0, [(2, 1)])) (zq_ev r (0, [(3, 1)])) (zq_ev r (0, [(4, 1)])) (zq_ev r (0, [(5, 1)])) (zq_ev r (0, [(6, 1)])) (zq_ev r (0, [(7, 1)])) (zq_ev r (0, [(8, 1)])) P h := k1
  simp only [q1, q10, q11, q2, q3, q4, q5, q6, q7, q8, q9] at k1
  have k2 := zj_use x_CD (zq_okX_t (hK))
  have k2 : ze_CD (zq_ev r (0, [(0, 1)])) (zq_ev r (0, [(1, 1)])) (zq_ev r (0, [(8, 1)])) (zq_ev r (145, [])) P h := k2
  simp only [q11, q12, q3, q4] at k2
  have k3 := zj_use x_EV (zq_okX_t (zq_okX_t (hK)))
  have k3 : ze_EV (zq_ev r (2, [])) (zq_ev r (0, [(0, 1)])) (zq_ev r (0, [(1, 1)])) (zq_ev r (0, [(2, 1)])) (zq_ev r (0, [(3, 1)])) (zq_ev r (0, [(7, 1)])) (zq_ev r (1, [(8, 1)])) (zq_ev r (0, [(9, 1)])) (zq_ev r (0, [])) (zq_ev r (0, [(10, 1)])) P h := k3
  simp only [q10, q13, q14, q15, q16, q17, q3, q4, q5, q6] at k3
  obtain t1 := ze_s145t_l (P := P) (h := h) (g := r 0) (n := r 1) (o := r 2) (W := r 3) (b := r 4) (p := r 5) (a := r 6) (c := r 7) (q := r 8) (w := r 9) (x := r 10) a1 k1 k2 k3
  obtain ⟨rq, hr⟩ : ∃ rq : Nat → Int, (∀ i, i < 11 → rq i = r i) := ⟨r, fun i hi => rfl⟩
  have v0 : rq 0 = r 0 := hr 0 (by decide)
  have v1 : rq 1 = r 1 := hr 1 (by decide)
  have v2 : rq 2 = r 2 := hr 2 (by decide)
  have v3 : rq 3 = r 3 := hr 3 (by decide)
  have v4 : rq 4 = r 4 := hr 4 (by decide)
  have v5 : rq 5 = r 5 := hr 5 (by decide)
  have v10 : rq 10 = r 10 := hr 10 (by decide)
  have g0 : zq_ev rq (3, []) = 3 := zu_e0 _ _
  have g1 : zq_ev rq (4, []) = 4 := zu_e0 _ _
  have g2 : zq_ev rq (0, [(0, 1)]) = r 0 := zu_f1 v0
  have g3 : zq_ev rq (0, [(1, 1)]) = r 1 := zu_f1 v1
  have g4 : zq_ev rq (0, [(2, 1)]) = r 2 := zu_f1 v2
  have g5 : zq_ev rq (0, [(3, 1)]) = r 3 := zu_f1 v3
  have g6 : zq_ev rq (0, [(4, 1)]) = r 4 := zu_f1 v4
  have g7 : zq_ev rq (0, [(5, 1)]) = r 5 := zu_f1 v5
  have g8 : zq_ev rq (0, []) = 0 := zu_e0 _ _
  have g9 : zq_ev rq (1, []) = 1 := zu_e0 _ _
  have g10 : zq_ev rq (0, [(10, 1)]) = r 10 := zu_f1 v10
  exact ⟨_, List.mem_cons_self .., rq, hr, zq_MeS_mk rfl hT (zq_all_nil) zq_fan (zq_fan) rfl (zu_fac ((x_SL _ _ _).mpr (by show ze_SL (zq_ev rq (3, [])) (zq_ev rq (4, [])) (zq_ev rq (0, [(0, 1)])) (zq_ev rq (0, [(1, 1)])) (zq_ev rq (0, [(2, 1)])) (zq_ev rq (0, [(3, 1)])) (zq_ev rq (0, [(4, 1)])) (zq_ev rq (0, [(5, 1)])) (zq_ev rq (0, [])) (zq_ev rq (1, [])) (zq_ev rq (0, [(10, 1)])) P h; simp only [g0, g1, g10, g2, g3, g4, g5, g6, g7, g8, g9]; exact t1)) zq_fan)⟩
noncomputable def ze_s145u : zq_S × List zq_S := (([], [], [(-1000000001, [(6, -1), (9, 1)])], [], [], [], [(222, [(3, []), (4, []), (0, [(0, 1)]), (0, [(1, 1)]), (0, [(2, 1)]), (0, [(3, 1)]), (0, [(4, 1)]), (0, [(5, 1)]), (0, [(6, 1)]), (0, [(7, 1)]), (0, [(8, 1)])]), (224, [(0, [(0, 1)]), (0, [(1, 1)]), (0, [(8, 1)]), (145, [])]), (220, [(2, []), (0, [(0, 1)]), (0, [(1, 1)]), (0, [(2, 1)]), (0, [(3, 1)]), (0, [(7, 1)]), (1, [(8, 1)]), (0, [(9, 1)]), (0, []), (0, [(10, 1)])])], 11), [([], [], [], [], [], [], [(222, [(3, []), (4, []), (0, [(0, 1)]), (0, [(1, 1)]), (0, [(2, 1)]), (0, [(3, 1)]), (0, [(4, 1)]), (0, [(5, 1)]), (0, []), (1, []), (0, [(10, 1)])])], 11)])
theorem ze_s145u_l {P : zq_Ty} {h : zq_H} {g n o W b p a c q w x : Int} (a1 : 0 ≤ -a + w - 1000000001) (k1 : ze_SL 3 4 g n o W b p a c q P h) (k2 : ze_CD g n q 145 P h) (k3 : ze_EV 2 g n o W c (q + 1) w 0 x P h) : (ze_SL 3 4 g n o W b p 0 1 x P h) := by
  intro r d e h2
  have k2 : 145 = ze_c g n q := k2
  refine k1 r d e (ze_sl_go (by rw [← k2]; decide) k3 ?_)
  rw [← k2]
  have za : (if (145 : Int) = 143 then a + w else a - w) = a - w := if_neg (by decide)
  unfold ze_a
  rw [za]
  rw [ze_bd_t (ze_out_t (Or.inr (by omega)))]
  exact h2
theorem ze_s145u_ok {w : zq_Wd} (x_SL : zj_is w 222 (fun q => ze_SL (q 0) (q 1) (q 2) (q 3) (q 4) (q 5) (q 6) (q 7) (q 8) (q 9) (q 10))) (x_CD : zj_is w 224 (fun q => ze_CD (q 0) (q 1) (q 2) (q 3))) (x_EV : zj_is w 220 (fun q => ze_EV (q 0) (q 1) (q 2) (q 3) (q 4) (q 5) (q 6) (q 7) (q 8) (q 9))) : zq_okG1 w ze_s145u := by
  refine ⟨rfl, rfl, zu_fac ⟨rfl, by decide⟩ zq_fan, ?_⟩
  intro r P h H hM
  have q0 : zq_ev r (-1000000001, [(6, -1), (9, 1)]) = -r 6 + r 9 - 1000000001 := by simp only [zq_ev, zq_ts] <;> omega
  have q1 : zq_ev r (3, []) = 3 := zu_e0 _ _
  have q2 : zq_ev r (4, []) = 4 := zu_e0 _ _
  have q3 : zq_ev r (0, [(0, 1)]) = r 0 := zu_e1 _ _
  have q4 : zq_ev r (0, [(1, 1)]) = r 1 := zu_e1 _ _
  have q5 : zq_ev r (0, [(2, 1)]) = r 2 := zu_e1 _ _
  have q6 : zq_ev r (0, [(3, 1)]) = r 3 := zu_e1 _ _
  have q7 : zq_ev r (0, [(4, 1)]) = r 4 := zu_e1 _ _
  have q8 : zq_ev r (0, [(5, 1)]) = r 5 := zu_e1 _ _
  have q9 : zq_ev r (0, [(6, 1)]) = r 6 := zu_e1 _ _
  have q10 : zq_ev r (0, [(7, 1)]) = r 7 := zu_e1 _ _
  have q11 : zq_ev r (0, [(8, 1)]) = r 8 := zu_e1 _ _
  have q12 : zq_ev r (145, []) = 145 := zu_e0 _ _
  have q13 : zq_ev r (2, []) = 2 := zu_e0 _ _
  have q14 : zq_ev r (1, [(8, 1)]) = r 8 + 1 := zu_e2 _ _ _
  have q15 : zq_ev r (0, [(9, 1)]) = r 9 := zu_e1 _ _
  have q16 : zq_ev r (0, []) = 0 := zu_e0 _ _
  have q17 : zq_ev r (0, [(10, 1)]) = r 10 := zu_e1 _ _
  obtain ⟨hT, hC, hF, hS, -, hK⟩ := hM
  have c := hC.1
  have a1 := zq_all_1 c
  rw [q0] at a1
  have k1 := zj_use x_SL (hK)
  have k1 : ze_SL (zq_ev r (3, [])) (zq_ev r (4, [])) (zq_ev r (0, [(0, 1)])) (zq_ev r (0, [(1, 1)])) (zq_ev r (0, [(2, 1)])) (zq_ev r (0, [(3, 1)])) (zq_ev r (0, [(4, 1)])) (zq_ev r (0, [(5, 1)])) (zq_ev r (0, [(6, 1)])) (zq_ev r (0, [(7, 1)])) (zq_ev r (0, [(8, 1)])) P h := k1
  simp only [q1, q10, q11, q2, q3, q4, q5, q6, q7, q8, q9] at k1
  have k2 := zj_use x_CD (zq_okX_t (hK))
  have k2 : ze_CD (zq_ev r (0, [(0, 1)])) (zq_ev r (0, [(1, 1)])) (zq_ev r (0, [(8, 1)])) (zq_ev r (145, [])) P h := k2
  simp only [q11, q12, q3, q4] at k2
  have k3 := zj_use x_EV (zq_okX_t (zq_okX_t (hK)))
  have k3 : ze_EV (zq_ev r (2, [])) (zq_ev r (0, [(0, 1)])) (zq_ev r (0, [(1, 1)])) (zq_ev r (0, [(2, 1)])) (zq_ev r (0, [(3, 1)])) (zq_ev r (0, [(7, 1)])) (zq_ev r (1, [(8, 1)])) (zq_ev r (0, [(9, 1)])) (zq_ev r (0, [])) (zq_ev r (0, [(10, 1)])) P h := k3
  simp only [q10, q13, q14, q15, q16, q17, q3, q4, q5, q6] at k3
  obtain t1 := ze_s145u_l (P := P) (h := h) (g := r 0) (n := r 1) (o := r 2) (W := r 3) (b := r 4) (p := r 5) (a := r 6) (c := r 7) (q := r 8) (w := r 9) (x := r 10) a1 k1 k2 k3
  obtain ⟨rq, hr⟩ : ∃ rq : Nat → Int, (∀ i, i < 11 → rq i = r i) := ⟨r, fun i hi => rfl⟩
  have v0 : rq 0 = r 0 := hr 0 (by decide)
  have v1 : rq 1 = r 1 := hr 1 (by decide)
  have v2 : rq 2 = r 2 := hr 2 (by decide)
  have v3 : rq 3 = r 3 := hr 3 (by decide)
  have v4 : rq 4 = r 4 := hr 4 (by decide)
  have v5 : rq 5 = r 5 := hr 5 (by decide)
  have v10 : rq 10 = r 10 := hr 10 (by decide)
  have g0 : zq_ev rq (3, []) = 3 := zu_e0 _ _
  have g1 : zq_ev rq (4, []) = 4 := zu_e0 _ _
  have g2 : zq_ev rq (0, [(0, 1)]) = r 0 := zu_f1 v0
  have g3 : zq_ev rq (0, [(1, 1)]) = r 1 := zu_f1 v1
  have g4 : zq_ev rq (0, [(2, 1)]) = r 2 := zu_f1 v2
  have g5 : zq_ev rq (0, [(3, 1)]) = r 3 := zu_f1 v3
  have g6 : zq_ev rq (0, [(4, 1)]) = r 4 := zu_f1 v4
  have g7 : zq_ev rq (0, [(5, 1)]) = r 5 := zu_f1 v5
  have g8 : zq_ev rq (0, []) = 0 := zu_e0 _ _
  have g9 : zq_ev rq (1, []) = 1 := zu_e0 _ _
  have g10 : zq_ev rq (0, [(10, 1)]) = r 10 := zu_f1 v10
  exact ⟨_, List.mem_cons_self .., rq, hr, zq_MeS_mk rfl hT (zq_all_nil) zq_fan (zq_fan) rfl (zu_fac ((x_SL _ _ _).mpr (by show ze_SL (zq_ev rq (3, [])) (zq_ev rq (4, [])) (zq_ev rq (0, [(0, 1)])) (zq_ev rq (0, [(1, 1)])) (zq_ev rq (0, [(2, 1)])) (zq_ev rq (0, [(3, 1)])) (zq_ev rq (0, [(4, 1)])) (zq_ev rq (0, [(5, 1)])) (zq_ev rq (0, [])) (zq_ev rq (1, [])) (zq_ev rq (0, [(10, 1)])) P h; simp only [g0, g1, g10, g2, g3, g4, g5, g6, g7, g8, g9]; exact t1)) zq_fan)⟩
noncomputable def ze_s145r : zq_S × List zq_S := (([], [], [(1000000000, [(6, 1), (9, -1)]), (1000000000, [(6, -1), (9, 1)])], [], [], [], [(222, [(3, []), (4, []), (0, [(0, 1)]), (0, [(1, 1)]), (0, [(2, 1)]), (0, [(3, 1)]), (0, [(4, 1)]), (0, [(5, 1)]), (0, [(6, 1)]), (0, [(7, 1)]), (0, [(8, 1)])]), (224, [(0, [(0, 1)]), (0, [(1, 1)]), (0, [(8, 1)]), (145, [])]), (220, [(2, []), (0, [(0, 1)]), (0, [(1, 1)]), (0, [(2, 1)]), (0, [(3, 1)]), (0, [(7, 1)]), (1, [(8, 1)]), (0, [(9, 1)]), (0, []), (0, [(10, 1)])])], 11), [([], [], [], [], [], [], [(222, [(3, []), (4, []), (0, [(0, 1)]), (0, [(1, 1)]), (0, [(2, 1)]), (0, [(3, 1)]), (0, [(4, 1)]), (0, [(5, 1)]), (0, [(6, 1), (9, -1)]), (0, []), (0, [(10, 1)])])], 11)])
theorem ze_s145r_l {P : zq_Ty} {h : zq_H} {g n o W b p a c q w x : Int} (a1 : 0 ≤ a - w + 1000000000) (a2 : 0 ≤ -a + w + 1000000000) (k1 : ze_SL 3 4 g n o W b p a c q P h) (k2 : ze_CD g n q 145 P h) (k3 : ze_EV 2 g n o W c (q + 1) w 0 x P h) : (ze_SL 3 4 g n o W b p (a - w) 0 x P h) := by
  intro r d e h2
  have k2 : 145 = ze_c g n q := k2
  refine k1 r d e (ze_sl_go (by rw [← k2]; decide) k3 ?_)
  rw [← k2]
  have za : (if (145 : Int) = 143 then a + w else a - w) = a - w := if_neg (by decide)
  unfold ze_a
  rw [za]
  rw [ze_on0, ze_bd_f (ze_out_f (by omega) (by omega))]
  have h2 : ze_V (ze_c g n) (ze_v g n) (ze_w o W) 3 (a - w) true false x r d e := h2
  exact h2
theorem ze_s145r_ok {w : zq_Wd} (x_SL : zj_is w 222 (fun q => ze_SL (q 0) (q 1) (q 2) (q 3) (q 4) (q 5) (q 6) (q 7) (q 8) (q 9) (q 10))) (x_CD : zj_is w 224 (fun q => ze_CD (q 0) (q 1) (q 2) (q 3))) (x_EV : zj_is w 220 (fun q => ze_EV (q 0) (q 1) (q 2) (q 3) (q 4) (q 5) (q 6) (q 7) (q 8) (q 9))) : zq_okG1 w ze_s145r := by
  refine ⟨rfl, rfl, zu_fac ⟨rfl, by decide⟩ zq_fan, ?_⟩
  intro r P h H hM
  have q0 : zq_ev r (1000000000, [(6, 1), (9, -1)]) = r 6 - r 9 + 1000000000 := by simp only [zq_ev, zq_ts] <;> omega
  have q1 : zq_ev r (1000000000, [(6, -1), (9, 1)]) = -r 6 + r 9 + 1000000000 := by simp only [zq_ev, zq_ts] <;> omega
  have q2 : zq_ev r (3, []) = 3 := zu_e0 _ _
  have q3 : zq_ev r (4, []) = 4 := zu_e0 _ _
  have q4 : zq_ev r (0, [(0, 1)]) = r 0 := zu_e1 _ _
  have q5 : zq_ev r (0, [(1, 1)]) = r 1 := zu_e1 _ _
  have q6 : zq_ev r (0, [(2, 1)]) = r 2 := zu_e1 _ _
  have q7 : zq_ev r (0, [(3, 1)]) = r 3 := zu_e1 _ _
  have q8 : zq_ev r (0, [(4, 1)]) = r 4 := zu_e1 _ _
  have q9 : zq_ev r (0, [(5, 1)]) = r 5 := zu_e1 _ _
  have q10 : zq_ev r (0, [(6, 1)]) = r 6 := zu_e1 _ _
  have q11 : zq_ev r (0, [(7, 1)]) = r 7 := zu_e1 _ _
  have q12 : zq_ev r (0, [(8, 1)]) = r 8 := zu_e1 _ _
  have q13 : zq_ev r (145, []) = 145 := zu_e0 _ _
  have q14 : zq_ev r (2, []) = 2 := zu_e0 _ _
  have q15 : zq_ev r (1, [(8, 1)]) = r 8 + 1 := zu_e2 _ _ _
  have q16 : zq_ev r (0, [(9, 1)]) = r 9 := zu_e1 _ _
  have q17 : zq_ev r (0, []) = 0 := zu_e0 _ _
  have q18 : zq_ev r (0, [(10, 1)]) = r 10 := zu_e1 _ _
  obtain ⟨hT, hC, hF, hS, -, hK⟩ := hM
  have c := hC.1
  have a1 := zq_all_1 c
  rw [q0] at a1
  have c := zq_all_t c
  have a2 := zq_all_1 c
  rw [q1] at a2
  have k1 := zj_use x_SL (hK)
  have k1 : ze_SL (zq_ev r (3, [])) (zq_ev r (4, [])) (zq_ev r (0, [(0, 1)])) (zq_ev r (0, [(1, 1)])) (zq_ev r (0, [(2, 1)])) (zq_ev r (0, [(3, 1)])) (zq_ev r (0, [(4, 1)])) (zq_ev r (0, [(5, 1)])) (zq_ev r (0, [(6, 1)])) (zq_ev r (0, [(7, 1)])) (zq_ev r (0, [(8, 1)])) P h := k1
  simp only [q10, q11, q12, q2, q3, q4, q5, q6, q7, q8, q9] at k1
  have k2 := zj_use x_CD (zq_okX_t (hK))
  have k2 : ze_CD (zq_ev r (0, [(0, 1)])) (zq_ev r (0, [(1, 1)])) (zq_ev r (0, [(8, 1)])) (zq_ev r (145, [])) P h := k2
  simp only [q12, q13, q4, q5] at k2
  have k3 := zj_use x_EV (zq_okX_t (zq_okX_t (hK)))
  have k3 : ze_EV (zq_ev r (2, [])) (zq_ev r (0, [(0, 1)])) (zq_ev r (0, [(1, 1)])) (zq_ev r (0, [(2, 1)])) (zq_ev r (0, [(3, 1)])) (zq_ev r (0, [(7, 1)])) (zq_ev r (1, [(8, 1)])) (zq_ev r (0, [(9, 1)])) (zq_ev r (0, [])) (zq_ev r (0, [(10, 1)])) P h := k3
  simp only [q11, q14, q15, q16, q17, q18, q4, q5, q6, q7] at k3
  obtain t1 := ze_s145r_l (P := P) (h := h) (g := r 0) (n := r 1) (o := r 2) (W := r 3) (b := r 4) (p := r 5) (a := r 6) (c := r 7) (q := r 8) (w := r 9) (x := r 10) a1 a2 k1 k2 k3
  obtain ⟨rq, hr⟩ : ∃ rq : Nat → Int, (∀ i, i < 11 → rq i = r i) := ⟨r, fun i hi => rfl⟩
  have v0 : rq 0 = r 0 := hr 0 (by decide)
  have v1 : rq 1 = r 1 := hr 1 (by decide)
  have v2 : rq 2 = r 2 := hr 2 (by decide)
  have v3 : rq 3 = r 3 := hr 3 (by decide)
  have v4 : rq 4 = r 4 := hr 4 (by decide)
  have v5 : rq 5 = r 5 := hr 5 (by decide)
  have v6 : rq 6 = r 6 := hr 6 (by decide)
  have v9 : rq 9 = r 9 := hr 9 (by decide)
  have v10 : rq 10 = r 10 := hr 10 (by decide)
  have g0 : zq_ev rq (3, []) = 3 := zu_e0 _ _
  have g1 : zq_ev rq (4, []) = 4 := zu_e0 _ _
  have g2 : zq_ev rq (0, [(0, 1)]) = r 0 := zu_f1 v0
  have g3 : zq_ev rq (0, [(1, 1)]) = r 1 := zu_f1 v1
  have g4 : zq_ev rq (0, [(2, 1)]) = r 2 := zu_f1 v2
  have g5 : zq_ev rq (0, [(3, 1)]) = r 3 := zu_f1 v3
  have g6 : zq_ev rq (0, [(4, 1)]) = r 4 := zu_f1 v4
  have g7 : zq_ev rq (0, [(5, 1)]) = r 5 := zu_f1 v5
  have g8 : zq_ev rq (0, [(6, 1), (9, -1)]) = r 6 - r 9 := by simp only [zq_ev, zq_ts, v0, v1, v2, v3, v4, v5, v6, v9, v10] <;> omega
  have g9 : zq_ev rq (0, []) = 0 := zu_e0 _ _
  have g10 : zq_ev rq (0, [(10, 1)]) = r 10 := zu_f1 v10
  exact ⟨_, List.mem_cons_self .., rq, hr, zq_MeS_mk rfl hT (zq_all_nil) zq_fan (zq_fan) rfl (zu_fac ((x_SL _ _ _).mpr (by show ze_SL (zq_ev rq (3, [])) (zq_ev rq (4, [])) (zq_ev rq (0, [(0, 1)])) (zq_ev rq (0, [(1, 1)])) (zq_ev rq (0, [(2, 1)])) (zq_ev rq (0, [(3, 1)])) (zq_ev rq (0, [(4, 1)])) (zq_ev rq (0, [(5, 1)])) (zq_ev rq (0, [(6, 1), (9, -1)])) (zq_ev rq (0, [])) (zq_ev rq (0, [(10, 1)])) P h; simp only [g0, g1, g10, g2, g3, g4, g5, g6, g7, g8, g9]; exact t1)) zq_fan)⟩
noncomputable def ze_m142x : zq_S × List zq_S := (([], [], [], [], [], [], [(222, [(1, []), (2, []), (0, [(0, 1)]), (0, [(1, 1)]), (0, [(2, 1)]), (0, [(3, 1)]), (0, [(4, 1)]), (0, [(5, 1)]), (0, [(6, 1)]), (0, [(7, 1)]), (0, [(8, 1)])]), (224, [(0, [(0, 1)]), (0, [(1, 1)]), (0, [(8, 1)]), (142, [])]), (220, [(0, []), (0, [(0, 1)]), (0, [(1, 1)]), (0, [(2, 1)]), (0, [(3, 1)]), (0, [(7, 1)]), (1, [(8, 1)]), (0, [(9, 1)]), (1, []), (0, [(10, 1)])])], 11), [([], [], [], [], [], [], [(222, [(1, []), (2, []), (0, [(0, 1)]), (0, [(1, 1)]), (0, [(2, 1)]), (0, [(3, 1)]), (0, [(4, 1)]), (0, [(5, 1)]), (0, []), (1, []), (0, [(10, 1)])])], 11)])
theorem ze_m142x_l {P : zq_Ty} {h : zq_H} {g n o W b p a c q w x : Int} (k1 : ze_SL 1 2 g n o W b p a c q P h) (k2 : ze_CD g n q 142 P h) (k3 : ze_EV 0 g n o W c (q + 1) w 1 x P h) : (ze_SL 1 2 g n o W b p 0 1 x P h) := by
  intro r d e h2
  have k2 : 142 = ze_c g n q := k2
  refine k1 r d e (ze_tl_go (by rw [← k2]; decide) k3 ?_)
  rw [← k2]
  unfold ze_m
  rw [show (!decide ((142 : Int) = 142) && decide (w = 0)) = false from rfl]
  simp only [cond_false]
  rw [ze_on1, ze_bd_1]
  exact h2
theorem ze_m142x_ok {w : zq_Wd} (x_SL : zj_is w 222 (fun q => ze_SL (q 0) (q 1) (q 2) (q 3) (q 4) (q 5) (q 6) (q 7) (q 8) (q 9) (q 10))) (x_CD : zj_is w 224 (fun q => ze_CD (q 0) (q 1) (q 2) (q 3))) (x_EV : zj_is w 220 (fun q => ze_EV (q 0) (q 1) (q 2) (q 3) (q 4) (q 5) (q 6) (q 7) (q 8) (q 9))) : zq_okG1 w ze_m142x := by
  refine ⟨rfl, rfl, zu_fac ⟨rfl, by decide⟩ zq_fan, ?_⟩
  intro r P h H hM
  have q0 : zq_ev r (1, []) = 1 := zu_e0 _ _
  have q1 : zq_ev r (2, []) = 2 := zu_e0 _ _
  have q2 : zq_ev r (0, [(0, 1)]) = r 0 := zu_e1 _ _
  have q3 : zq_ev r (0, [(1, 1)]) = r 1 := zu_e1 _ _
  have q4 : zq_ev r (0, [(2, 1)]) = r 2 := zu_e1 _ _
  have q5 : zq_ev r (0, [(3, 1)]) = r 3 := zu_e1 _ _
  have q6 : zq_ev r (0, [(4, 1)]) = r 4 := zu_e1 _ _
  have q7 : zq_ev r (0, [(5, 1)]) = r 5 := zu_e1 _ _
  have q8 : zq_ev r (0, [(6, 1)]) = r 6 := zu_e1 _ _
  have q9 : zq_ev r (0, [(7, 1)]) = r 7 := zu_e1 _ _
  have q10 : zq_ev r (0, [(8, 1)]) = r 8 := zu_e1 _ _
  have q11 : zq_ev r (142, []) = 142 := zu_e0 _ _
  have q12 : zq_ev r (0, []) = 0 := zu_e0 _ _
  have q13 : zq_ev r (1, [(8, 1)]) = r 8 + 1 := zu_e2 _ _ _
  have q14 : zq_ev r (0, [(9, 1)]) = r 9 := zu_e1 _ _
  have q15 : zq_ev r (0, [(10, 1)]) = r 10 := zu_e1 _ _
  obtain ⟨hT, hC, hF, hS, -, hK⟩ := hM
  have c := hC.1
  have k1 := zj_use x_SL (hK)
  have k1 : ze_SL (zq_ev r (1, [])) (zq_ev r (2, [])) (zq_ev r (0, [(0, 1)])) (zq_ev r (0, [(1, 1)])) (zq_ev r (0, [(2, 1)])) (zq_ev r (0, [(3, 1)])) (zq_ev r (0, [(4, 1)])) (zq_ev r (0, [(5, 1)])) (zq_ev r (0, [(6, 1)])) (zq_ev r (0, [(7, 1)])) (zq_ev r (0, [(8, 1)])) P h := k1
  simp only [q0, q1, q10, q2, q3, q4, q5, q6, q7, q8, q9] at k1
  have k2 := zj_use x_CD (zq_okX_t (hK))
  have k2 : ze_CD (zq_ev r (0, [(0, 1)])) (zq_ev r (0, [(1, 1)])) (zq_ev r (0, [(8, 1)])) (zq_ev r (142, [])) P h := k2
  simp only [q10, q11, q2, q3] at k2
  have k3 := zj_use x_EV (zq_okX_t (zq_okX_t (hK)))
  have k3 : ze_EV (zq_ev r (0, [])) (zq_ev r (0, [(0, 1)])) (zq_ev r (0, [(1, 1)])) (zq_ev r (0, [(2, 1)])) (zq_ev r (0, [(3, 1)])) (zq_ev r (0, [(7, 1)])) (zq_ev r (1, [(8, 1)])) (zq_ev r (0, [(9, 1)])) (zq_ev r (1, [])) (zq_ev r (0, [(10, 1)])) P h := k3
  simp only [q0, q12, q13, q14, q15, q2, q3, q4, q5, q9] at k3
  obtain t1 := ze_m142x_l (P := P) (h := h) (g := r 0) (n := r 1) (o := r 2) (W := r 3) (b := r 4) (p := r 5) (a := r 6) (c := r 7) (q := r 8) (w := r 9) (x := r 10) k1 k2 k3
  obtain ⟨rq, hr⟩ : ∃ rq : Nat → Int, (∀ i, i < 11 → rq i = r i) := ⟨r, fun i hi => rfl⟩
  have v0 : rq 0 = r 0 := hr 0 (by decide)
  have v1 : rq 1 = r 1 := hr 1 (by decide)
  have v2 : rq 2 = r 2 := hr 2 (by decide)
  have v3 : rq 3 = r 3 := hr 3 (by decide)
  have v4 : rq 4 = r 4 := hr 4 (by decide)
  have v5 : rq 5 = r 5 := hr 5 (by decide)
  have v10 : rq 10 = r 10 := hr 10 (by decide)
  have g0 : zq_ev rq (1, []) = 1 := zu_e0 _ _
  have g1 : zq_ev rq (2, []) = 2 := zu_e0 _ _
  have g2 : zq_ev rq (0, [(0, 1)]) = r 0 := zu_f1 v0
  have g3 : zq_ev rq (0, [(1, 1)]) = r 1 := zu_f1 v1
  have g4 : zq_ev rq (0, [(2, 1)]) = r 2 := zu_f1 v2
  have g5 : zq_ev rq (0, [(3, 1)]) = r 3 := zu_f1 v3
  have g6 : zq_ev rq (0, [(4, 1)]) = r 4 := zu_f1 v4
  have g7 : zq_ev rq (0, [(5, 1)]) = r 5 := zu_f1 v5
  have g8 : zq_ev rq (0, []) = 0 := zu_e0 _ _
  have g9 : zq_ev rq (0, [(10, 1)]) = r 10 := zu_f1 v10
  exact ⟨_, List.mem_cons_self .., rq, hr, zq_MeS_mk rfl hT (zq_all_nil) zq_fan (zq_fan) rfl (zu_fac ((x_SL _ _ _).mpr (by show ze_SL (zq_ev rq (1, [])) (zq_ev rq (2, [])) (zq_ev rq (0, [(0, 1)])) (zq_ev rq (0, [(1, 1)])) (zq_ev rq (0, [(2, 1)])) (zq_ev rq (0, [(3, 1)])) (zq_ev rq (0, [(4, 1)])) (zq_ev rq (0, [(5, 1)])) (zq_ev rq (0, [])) (zq_ev rq (1, [])) (zq_ev rq (0, [(10, 1)])) P h; simp only [g0, g1, g2, g3, g4, g5, g6, g7, g8, g9]; exact t1)) zq_fan)⟩
noncomputable def ze_m142t : zq_S × List zq_S := (([], [], [(2147483648, [(6, 1)]), (2147483648, [(6, -1)]), (2147483648, [(9, 1)]), (2147483648, [(9, -1)]), (-1000000001, [(11, 1)])], [], [], [], [(222, [(1, []), (2, []), (0, [(0, 1)]), (0, [(1, 1)]), (0, [(2, 1)]), (0, [(3, 1)]), (0, [(4, 1)]), (0, [(5, 1)]), (0, [(6, 1)]), (0, [(7, 1)]), (0, [(8, 1)])]), (224, [(0, [(0, 1)]), (0, [(1, 1)]), (0, [(8, 1)]), (142, [])]), (220, [(0, []), (0, [(0, 1)]), (0, [(1, 1)]), (0, [(2, 1)]), (0, [(3, 1)]), (0, [(7, 1)]), (1, [(8, 1)]), (0, [(9, 1)]), (0, []), (0, [(10, 1)])]), (86, [(2, []), (0, [(6, 1)]), (0, [(9, 1)]), (0, [(11, 1)])])], 12), [([], [], [], [], [], [], [(222, [(1, []), (2, []), (0, [(0, 1)]), (0, [(1, 1)]), (0, [(2, 1)]), (0, [(3, 1)]), (0, [(4, 1)]), (0, [(5, 1)]), (0, []), (1, []), (0, [(10, 1)])])], 12)])
theorem ze_m142t_l {P : zq_Ty} {h : zq_H} {g n o W b p a c q w x u : Int} (a1 : 0 ≤ a + 2147483648) (a2 : 0 ≤ -a + 2147483648) (a3 : 0 ≤ w + 2147483648) (a4 : 0 ≤ -w + 2147483648) (a5 : 0 ≤ u - 1000000001) (k1 : ze_SL 1 2 g n o W b p a c q P h) (k2 : ze_CD g n q 142 P h) (k3 : ze_EV 0 g n o W c (q + 1) w 0 x P h) (k4 : zo_ol 2 a w u P h) : (ze_SL 1 2 g n o W b p 0 1 x P h) := by
  have k4 : u = zq_fun 1 2 a w := k4
  have hu : u = a * w := ze_op64 k4 (by omega) (by omega) (by omega) (by omega)
  intro r d e h2
  have k2 : 142 = ze_c g n q := k2
  refine k1 r d e (ze_tl_go (by rw [← k2]; decide) k3 ?_)
  rw [← k2]
  unfold ze_m
  rw [show (!decide ((142 : Int) = 142) && decide (w = 0)) = false from rfl]
  simp only [cond_false]
  have z2 : ze_op 142 a w = u := by rw [hu]; rfl
  rw [z2, ze_bd_t (ze_out_t (Or.inl (by omega)))]
  exact h2
theorem ze_m142t_ok {w : zq_Wd} (x_SL : zj_is w 222 (fun q => ze_SL (q 0) (q 1) (q 2) (q 3) (q 4) (q 5) (q 6) (q 7) (q 8) (q 9) (q 10))) (x_CD : zj_is w 224 (fun q => ze_CD (q 0) (q 1) (q 2) (q 3))) (x_EV : zj_is w 220 (fun q => ze_EV (q 0) (q 1) (q 2) (q 3) (q 4) (q 5) (q 6) (q 7) (q 8) (q 9))) (x_OL : zj_is w 86 (fun q => zo_ol (q 0) (q 1) (q 2) (q 3))) : zq_okG1 w ze_m142t := by
  refine ⟨rfl, rfl, zu_fac ⟨rfl, by decide⟩ zq_fan, ?_⟩
  intro r P h H hM
  have q0 : zq_ev r (2147483648, [(6, 1)]) = r 6 + 2147483648 := zu_e2 _ _ _
  have q1 : zq_ev r (2147483648, [(6, -1)]) = -r 6 + 2147483648 := zu_e5 _ _ _
  have q2 : zq_ev r (2147483648, [(9, 1)]) = r 9 + 2147483648 := zu_e2 _ _ _
  have q3 : zq_ev r (2147483648, [(9, -1)]) = -r 9 + 2147483648 := zu_e5 _ _ _
  have q4 : zq_ev r (-1000000001, [(11, 1)]) = r 11 - 1000000001 := zu_e3 _ _ _
  have q5 : zq_ev r (1, []) = 1 := zu_e0 _ _
  have q6 : zq_ev r (2, []) = 2 := zu_e0 _ _
  have q7 : zq_ev r (0, [(0, 1)]) = r 0 := zu_e1 _ _
  have q8 : zq_ev r (0, [(1, 1)]) = r 1 := zu_e1 _ _
  have q9 : zq_ev r (0, [(2, 1)]) = r 2 := zu_e1 _ _
  have q10 : zq_ev r (0, [(3, 1)]) = r 3 := zu_e1 _ _
  have q11 : zq_ev r (0, [(4, 1)]) = r 4 := zu_e1 _ _
  have q12 : zq_ev r (0, [(5, 1)]) = r 5 := zu_e1 _ _
  have q13 : zq_ev r (0, [(6, 1)]) = r 6 := zu_e1 _ _
  have q14 : zq_ev r (0, [(7, 1)]) = r 7 := zu_e1 _ _
  have q15 : zq_ev r (0, [(8, 1)]) = r 8 := zu_e1 _ _
  have q16 : zq_ev r (142, []) = 142 := zu_e0 _ _
  have q17 : zq_ev r (0, []) = 0 := zu_e0 _ _
  have q18 : zq_ev r (1, [(8, 1)]) = r 8 + 1 := zu_e2 _ _ _
  have q19 : zq_ev r (0, [(9, 1)]) = r 9 := zu_e1 _ _
  have q20 : zq_ev r (0, [(10, 1)]) = r 10 := zu_e1 _ _
  have q21 : zq_ev r (0, [(11, 1)]) = r 11 := zu_e1 _ _
  obtain ⟨hT, hC, hF, hS, -, hK⟩ := hM
  have c := hC.1
  have a1 := zq_all_1 c
  rw [q0] at a1
  have c := zq_all_t c
  have a2 := zq_all_1 c
  rw [q1] at a2
  have c := zq_all_t c
  have a3 := zq_all_1 c
  rw [q2] at a3
  have c := zq_all_t c
  have a4 := zq_all_1 c
  rw [q3] at a4
  have c := zq_all_t c
  have a5 := zq_all_1 c
  rw [q4] at a5
  have k1 := zj_use x_SL (hK)
  have k1 : ze_SL (zq_ev r (1, [])) (zq_ev r (2, [])) (zq_ev r (0, [(0, 1)])) (zq_ev r (0, [(1, 1)])) (zq_ev r (0, [(2, 1)])) (zq_ev r (0, [(3, 1)])) (zq_ev r (0, [(4, 1)])) (zq_ev r (0, [(5, 1)])) (zq_ev r (0, [(6, 1)])) (zq_ev r (0, [(7, 1)])) (zq_ev r (0, [(8, 1)])) P h := k1
  simp only [q10, q11, q12, q13, q14, q15, q5, q6, q7, q8, q9] at k1
  have k2 := zj_use x_CD (zq_okX_t (hK))
  have k2 : ze_CD (zq_ev r (0, [(0, 1)])) (zq_ev r (0, [(1, 1)])) (zq_ev r (0, [(8, 1)])) (zq_ev r (142, [])) P h := k2
  simp only [q15, q16, q7, q8] at k2
  have k3 := zj_use x_EV (zq_okX_t (zq_okX_t (hK)))
  have k3 : ze_EV (zq_ev r (0, [])) (zq_ev r (0, [(0, 1)])) (zq_ev r (0, [(1, 1)])) (zq_ev r (0, [(2, 1)])) (zq_ev r (0, [(3, 1)])) (zq_ev r (0, [(7, 1)])) (zq_ev r (1, [(8, 1)])) (zq_ev r (0, [(9, 1)])) (zq_ev r (0, [])) (zq_ev r (0, [(10, 1)])) P h := k3
  simp only [q10, q14, q17, q18, q19, q20, q7, q8, q9] at k3
  have k4 := zj_use x_OL (zq_okX_t (zq_okX_t (zq_okX_t (hK))))
  have k4 : zo_ol (zq_ev r (2, [])) (zq_ev r (0, [(6, 1)])) (zq_ev r (0, [(9, 1)])) (zq_ev r (0, [(11, 1)])) P h := k4
  simp only [q13, q19, q21, q6] at k4
  obtain t1 := ze_m142t_l (P := P) (h := h) (g := r 0) (n := r 1) (o := r 2) (W := r 3) (b := r 4) (p := r 5) (a := r 6) (c := r 7) (q := r 8) (w := r 9) (x := r 10) (u := r 11) a1 a2 a3 a4 a5 k1 k2 k3 k4
  obtain ⟨rq, hr⟩ : ∃ rq : Nat → Int, (∀ i, i < 12 → rq i = r i) := ⟨r, fun i hi => rfl⟩
  have v0 : rq 0 = r 0 := hr 0 (by decide)
  have v1 : rq 1 = r 1 := hr 1 (by decide)
  have v2 : rq 2 = r 2 := hr 2 (by decide)
  have v3 : rq 3 = r 3 := hr 3 (by decide)
  have v4 : rq 4 = r 4 := hr 4 (by decide)
  have v5 : rq 5 = r 5 := hr 5 (by decide)
  have v10 : rq 10 = r 10 := hr 10 (by decide)
  have g0 : zq_ev rq (1, []) = 1 := zu_e0 _ _
  have g1 : zq_ev rq (2, []) = 2 := zu_e0 _ _
  have g2 : zq_ev rq (0, [(0, 1)]) = r 0 := zu_f1 v0
  have g3 : zq_ev rq (0, [(1, 1)]) = r 1 := zu_f1 v1
  have g4 : zq_ev rq (0, [(2, 1)]) = r 2 := zu_f1 v2
  have g5 : zq_ev rq (0, [(3, 1)]) = r 3 := zu_f1 v3
  have g6 : zq_ev rq (0, [(4, 1)]) = r 4 := zu_f1 v4
  have g7 : zq_ev rq (0, [(5, 1)]) = r 5 := zu_f1 v5
  have g8 : zq_ev rq (0, []) = 0 := zu_e0 _ _
  have g9 : zq_ev rq (0, [(10, 1)]) = r 10 := zu_f1 v10
  exact ⟨_, List.mem_cons_self .., rq, hr, zq_MeS_mk rfl hT (zq_all_nil) zq_fan (zq_fan) rfl (zu_fac ((x_SL _ _ _).mpr (by show ze_SL (zq_ev rq (1, [])) (zq_ev rq (2, [])) (zq_ev rq (0, [(0, 1)])) (zq_ev rq (0, [(1, 1)])) (zq_ev rq (0, [(2, 1)])) (zq_ev rq (0, [(3, 1)])) (zq_ev rq (0, [(4, 1)])) (zq_ev rq (0, [(5, 1)])) (zq_ev rq (0, [])) (zq_ev rq (1, [])) (zq_ev rq (0, [(10, 1)])) P h; simp only [g0, g1, g2, g3, g4, g5, g6, g7, g8, g9]; exact t1)) zq_fan)⟩
noncomputable def ze_m142u : zq_S × List zq_S := (([], [], [(2147483648, [(6, 1)]), (2147483648, [(6, -1)]), (2147483648, [(9, 1)]), (2147483648, [(9, -1)]), (-1000000001, [(11, -1)])], [], [], [], [(222, [(1, []), (2, []), (0, [(0, 1)]), (0, [(1, 1)]), (0, [(2, 1)]), (0, [(3, 1)]), (0, [(4, 1)]), (0, [(5, 1)]), (0, [(6, 1)]), (0, [(7, 1)]), (0, [(8, 1)])]), (224, [(0, [(0, 1)]), (0, [(1, 1)]), (0, [(8, 1)]), (142, [])]), (220, [(0, []), (0, [(0, 1)]), (0, [(1, 1)]), (0, [(2, 1)]), (0, [(3, 1)]), (0, [(7, 1)]), (1, [(8, 1)]), (0, [(9, 1)]), (0, []), (0, [(10, 1)])]), (86, [(2, []), (0, [(6, 1)]), (0, [(9, 1)]), (0, [(11, 1)])])], 12), [([], [], [], [], [], [], [(222, [(1, []), (2, []), (0, [(0, 1)]), (0, [(1, 1)]), (0, [(2, 1)]), (0, [(3, 1)]), (0, [(4, 1)]), (0, [(5, 1)]), (0, []), (1, []), (0, [(10, 1)])])], 12)])
theorem ze_m142u_l {P : zq_Ty} {h : zq_H} {g n o W b p a c q w x u : Int} (a1 : 0 ≤ a + 2147483648) (a2 : 0 ≤ -a + 2147483648) (a3 : 0 ≤ w + 2147483648) (a4 : 0 ≤ -w + 2147483648) (a5 : 0 ≤ -u - 1000000001) (k1 : ze_SL 1 2 g n o W b p a c q P h) (k2 : ze_CD g n q 142 P h) (k3 : ze_EV 0 g n o W c (q + 1) w 0 x P h) (k4 : zo_ol 2 a w u P h) : (ze_SL 1 2 g n o W b p 0 1 x P h) := by
  have k4 : u = zq_fun 1 2 a w := k4
  have hu : u = a * w := ze_op64 k4 (by omega) (by omega) (by omega) (by omega)
  intro r d e h2
  have k2 : 142 = ze_c g n q := k2
  refine k1 r d e (ze_tl_go (by rw [← k2]; decide) k3 ?_)
  rw [← k2]
  unfold ze_m
  rw [show (!decide ((142 : Int) = 142) && decide (w = 0)) = false from rfl]
  simp only [cond_false]
  have z2 : ze_op 142 a w = u := by rw [hu]; rfl
  rw [z2, ze_bd_t (ze_out_t (Or.inr (by omega)))]
  exact h2
theorem ze_m142u_ok {w : zq_Wd} (x_SL : zj_is w 222 (fun q => ze_SL (q 0) (q 1) (q 2) (q 3) (q 4) (q 5) (q 6) (q 7) (q 8) (q 9) (q 10))) (x_CD : zj_is w 224 (fun q => ze_CD (q 0) (q 1) (q 2) (q 3))) (x_EV : zj_is w 220 (fun q => ze_EV (q 0) (q 1) (q 2) (q 3) (q 4) (q 5) (q 6) (q 7) (q 8) (q 9))) (x_OL : zj_is w 86 (fun q => zo_ol (q 0) (q 1) (q 2) (q 3))) : zq_okG1 w ze_m142u := by
  refine ⟨rfl, rfl, zu_fac ⟨rfl, by decide⟩ zq_fan, ?_⟩
  intro r P h H hM
  have q0 : zq_ev r (2147483648, [(6, 1)]) = r 6 + 2147483648 := zu_e2 _ _ _
  have q1 : zq_ev r (2147483648, [(6, -1)]) = -r 6 + 2147483648 := zu_e5 _ _ _
  have q2 : zq_ev r (2147483648, [(9, 1)]) = r 9 + 2147483648 := zu_e2 _ _ _
  have q3 : zq_ev r (2147483648, [(9, -1)]) = -r 9 + 2147483648 := zu_e5 _ _ _
  have q4 : zq_ev r (-1000000001, [(11, -1)]) = -r 11 - 1000000001 := zu_e6 _ _ _
  have q5 : zq_ev r (1, []) = 1 := zu_e0 _ _
  have q6 : zq_ev r (2, []) = 2 := zu_e0 _ _
  have q7 : zq_ev r (0, [(0, 1)]) = r 0 := zu_e1 _ _
  have q8 : zq_ev r (0, [(1, 1)]) = r 1 := zu_e1 _ _
  have q9 : zq_ev r (0, [(2, 1)]) = r 2 := zu_e1 _ _
  have q10 : zq_ev r (0, [(3, 1)]) = r 3 := zu_e1 _ _
  have q11 : zq_ev r (0, [(4, 1)]) = r 4 := zu_e1 _ _
  have q12 : zq_ev r (0, [(5, 1)]) = r 5 := zu_e1 _ _
  have q13 : zq_ev r (0, [(6, 1)]) = r 6 := zu_e1 _ _
  have q14 : zq_ev r (0, [(7, 1)]) = r 7 := zu_e1 _ _
  have q15 : zq_ev r (0, [(8, 1)]) = r 8 := zu_e1 _ _
  have q16 : zq_ev r (142, []) = 142 := zu_e0 _ _
  have q17 : zq_ev r (0, []) = 0 := zu_e0 _ _
  have q18 : zq_ev r (1, [(8, 1)]) = r 8 + 1 := zu_e2 _ _ _
  have q19 : zq_ev r (0, [(9, 1)]) = r 9 := zu_e1 _ _
  have q20 : zq_ev r (0, [(10, 1)]) = r 10 := zu_e1 _ _
  have q21 : zq_ev r (0, [(11, 1)]) = r 11 := zu_e1 _ _
  obtain ⟨hT, hC, hF, hS, -, hK⟩ := hM
  have c := hC.1
  have a1 := zq_all_1 c
  rw [q0] at a1
  have c := zq_all_t c
  have a2 := zq_all_1 c
  rw [q1] at a2
  have c := zq_all_t c
  have a3 := zq_all_1 c
  rw [q2] at a3
  have c := zq_all_t c
  have a4 := zq_all_1 c
  rw [q3] at a4
  have c := zq_all_t c
  have a5 := zq_all_1 c
  rw [q4] at a5
  have k1 := zj_use x_SL (hK)
  have k1 : ze_SL (zq_ev r (1, [])) (zq_ev r (2, [])) (zq_ev r (0, [(0, 1)])) (zq_ev r (0, [(1, 1)])) (zq_ev r (0, [(2, 1)])) (zq_ev r (0, [(3, 1)])) (zq_ev r (0, [(4, 1)])) (zq_ev r (0, [(5, 1)])) (zq_ev r (0, [(6, 1)])) (zq_ev r (0, [(7, 1)])) (zq_ev r (0, [(8, 1)])) P h := k1
  simp only [q10, q11, q12, q13, q14, q15, q5, q6, q7, q8, q9] at k1
  have k2 := zj_use x_CD (zq_okX_t (hK))
  have k2 : ze_CD (zq_ev r (0, [(0, 1)])) (zq_ev r (0, [(1, 1)])) (zq_ev r (0, [(8, 1)])) (zq_ev r (142, [])) P h := k2
  simp only [q15, q16, q7, q8] at k2
  have k3 := zj_use x_EV (zq_okX_t (zq_okX_t (hK)))
  have k3 : ze_EV (zq_ev r (0, [])) (zq_ev r (0, [(0, 1)])) (zq_ev r (0, [(1, 1)])) (zq_ev r (0, [(2, 1)])) (zq_ev r (0, [(3, 1)])) (zq_ev r (0, [(7, 1)])) (zq_ev r (1, [(8, 1)])) (zq_ev r (0, [(9, 1)])) (zq_ev r (0, [])) (zq_ev r (0, [(10, 1)])) P h := k3
  simp only [q10, q14, q17, q18, q19, q20, q7, q8, q9] at k3
  have k4 := zj_use x_OL (zq_okX_t (zq_okX_t (zq_okX_t (hK))))
  have k4 : zo_ol (zq_ev r (2, [])) (zq_ev r (0, [(6, 1)])) (zq_ev r (0, [(9, 1)])) (zq_ev r (0, [(11, 1)])) P h := k4
  simp only [q13, q19, q21, q6] at k4
  obtain t1 := ze_m142u_l (P := P) (h := h) (g := r 0) (n := r 1) (o := r 2) (W := r 3) (b := r 4) (p := r 5) (a := r 6) (c := r 7) (q := r 8) (w := r 9) (x := r 10) (u := r 11) a1 a2 a3 a4 a5 k1 k2 k3 k4
  obtain ⟨rq, hr⟩ : ∃ rq : Nat → Int, (∀ i, i < 12 → rq i = r i) := ⟨r, fun i hi => rfl⟩
  have v0 : rq 0 = r 0 := hr 0 (by decide)
  have v1 : rq 1 = r 1 := hr 1 (by decide)
  have v2 : rq 2 = r 2 := hr 2 (by decide)
  have v3 : rq 3 = r 3 := hr 3 (by decide)
  have v4 : rq 4 = r 4 := hr 4 (by decide)
  have v5 : rq 5 = r 5 := hr 5 (by decide)
  have v10 : rq 10 = r 10 := hr 10 (by decide)
  have g0 : zq_ev rq (1, []) = 1 := zu_e0 _ _
  have g1 : zq_ev rq (2, []) = 2 := zu_e0 _ _
  have g2 : zq_ev rq (0, [(0, 1)]) = r 0 := zu_f1 v0
  have g3 : zq_ev rq (0, [(1, 1)]) = r 1 := zu_f1 v1
  have g4 : zq_ev rq (0, [(2, 1)]) = r 2 := zu_f1 v2
  have g5 : zq_ev rq (0, [(3, 1)]) = r 3 := zu_f1 v3
  have g6 : zq_ev rq (0, [(4, 1)]) = r 4 := zu_f1 v4
  have g7 : zq_ev rq (0, [(5, 1)]) = r 5 := zu_f1 v5
  have g8 : zq_ev rq (0, []) = 0 := zu_e0 _ _
  have g9 : zq_ev rq (0, [(10, 1)]) = r 10 := zu_f1 v10
  exact ⟨_, List.mem_cons_self .., rq, hr, zq_MeS_mk rfl hT (zq_all_nil) zq_fan (zq_fan) rfl (zu_fac ((x_SL _ _ _).mpr (by show ze_SL (zq_ev rq (1, [])) (zq_ev rq (2, [])) (zq_ev rq (0, [(0, 1)])) (zq_ev rq (0, [(1, 1)])) (zq_ev rq (0, [(2, 1)])) (zq_ev rq (0, [(3, 1)])) (zq_ev rq (0, [(4, 1)])) (zq_ev rq (0, [(5, 1)])) (zq_ev rq (0, [])) (zq_ev rq (1, [])) (zq_ev rq (0, [(10, 1)])) P h; simp only [g0, g1, g2, g3, g4, g5, g6, g7, g8, g9]; exact t1)) zq_fan)⟩
noncomputable def ze_m142r : zq_S × List zq_S := (([], [], [(2147483648, [(6, 1)]), (2147483648, [(6, -1)]), (2147483648, [(9, 1)]), (2147483648, [(9, -1)]), (1000000000, [(11, 1)]), (1000000000, [(11, -1)])], [], [], [], [(222, [(1, []), (2, []), (0, [(0, 1)]), (0, [(1, 1)]), (0, [(2, 1)]), (0, [(3, 1)]), (0, [(4, 1)]), (0, [(5, 1)]), (0, [(6, 1)]), (0, [(7, 1)]), (0, [(8, 1)])]), (224, [(0, [(0, 1)]), (0, [(1, 1)]), (0, [(8, 1)]), (142, [])]), (220, [(0, []), (0, [(0, 1)]), (0, [(1, 1)]), (0, [(2, 1)]), (0, [(3, 1)]), (0, [(7, 1)]), (1, [(8, 1)]), (0, [(9, 1)]), (0, []), (0, [(10, 1)])]), (86, [(2, []), (0, [(6, 1)]), (0, [(9, 1)]), (0, [(11, 1)])])], 12), [([], [], [], [], [], [], [(222, [(1, []), (2, []), (0, [(0, 1)]), (0, [(1, 1)]), (0, [(2, 1)]), (0, [(3, 1)]), (0, [(4, 1)]), (0, [(5, 1)]), (0, [(11, 1)]), (0, []), (0, [(10, 1)])])], 12)])
theorem ze_m142r_l {P : zq_Ty} {h : zq_H} {g n o W b p a c q w x u : Int} (a1 : 0 ≤ a + 2147483648) (a2 : 0 ≤ -a + 2147483648) (a3 : 0 ≤ w + 2147483648) (a4 : 0 ≤ -w + 2147483648) (a5 : 0 ≤ u + 1000000000) (a6 : 0 ≤ -u + 1000000000) (k1 : ze_SL 1 2 g n o W b p a c q P h) (k2 : ze_CD g n q 142 P h) (k3 : ze_EV 0 g n o W c (q + 1) w 0 x P h) (k4 : zo_ol 2 a w u P h) : (ze_SL 1 2 g n o W b p u 0 x P h) := by
  have k4 : u = zq_fun 1 2 a w := k4
  have hu : u = a * w := ze_op64 k4 (by omega) (by omega) (by omega) (by omega)
  intro r d e h2
  have k2 : 142 = ze_c g n q := k2
  refine k1 r d e (ze_tl_go (by rw [← k2]; decide) k3 ?_)
  rw [← k2]
  unfold ze_m
  rw [show (!decide ((142 : Int) = 142) && decide (w = 0)) = false from rfl]
  simp only [cond_false]
  have z2 : ze_op 142 a w = u := by rw [hu]; rfl
  rw [z2, ze_on0, ze_bd_f (ze_out_f (by omega) (by omega))]
  exact h2
theorem ze_m142r_ok {w : zq_Wd} (x_SL : zj_is w 222 (fun q => ze_SL (q 0) (q 1) (q 2) (q 3) (q 4) (q 5) (q 6) (q 7) (q 8) (q 9) (q 10))) (x_CD : zj_is w 224 (fun q => ze_CD (q 0) (q 1) (q 2) (q 3))) (x_EV : zj_is w 220 (fun q => ze_EV (q 0) (q 1) (q 2) (q 3) (q 4) (q 5) (q 6) (q 7) (q 8) (q 9))) (x_OL : zj_is w 86 (fun q => zo_ol (q 0) (q 1) (q 2) (q 3))) : zq_okG1 w ze_m142r := by
  refine ⟨rfl, rfl, zu_fac ⟨rfl, by decide⟩ zq_fan, ?_⟩
  intro r P h H hM
  have q0 : zq_ev r (2147483648, [(6, 1)]) = r 6 + 2147483648 := zu_e2 _ _ _
  have q1 : zq_ev r (2147483648, [(6, -1)]) = -r 6 + 2147483648 := zu_e5 _ _ _
  have q2 : zq_ev r (2147483648, [(9, 1)]) = r 9 + 2147483648 := zu_e2 _ _ _
  have q3 : zq_ev r (2147483648, [(9, -1)]) = -r 9 + 2147483648 := zu_e5 _ _ _
  have q4 : zq_ev r (1000000000, [(11, 1)]) = r 11 + 1000000000 := zu_e2 _ _ _
  have q5 : zq_ev r (1000000000, [(11, -1)]) = -r 11 + 1000000000 := zu_e5 _ _ _
  have q6 : zq_ev r (1, []) = 1 := zu_e0 _ _
  have q7 : zq_ev r (2, []) = 2 := zu_e0 _ _
  have q8 : zq_ev r (0, [(0, 1)]) = r 0 := zu_e1 _ _
  have q9 : zq_ev r (0, [(1, 1)]) = r 1 := zu_e1 _ _
  have q10 : zq_ev r (0, [(2, 1)]) = r 2 := zu_e1 _ _
  have q11 : zq_ev r (0, [(3, 1)]) = r 3 := zu_e1 _ _
  have q12 : zq_ev r (0, [(4, 1)]) = r 4 := zu_e1 _ _
  have q13 : zq_ev r (0, [(5, 1)]) = r 5 := zu_e1 _ _
  have q14 : zq_ev r (0, [(6, 1)]) = r 6 := zu_e1 _ _
  have q15 : zq_ev r (0, [(7, 1)]) = r 7 := zu_e1 _ _
  have q16 : zq_ev r (0, [(8, 1)]) = r 8 := zu_e1 _ _
  have q17 : zq_ev r (142, []) = 142 := zu_e0 _ _
  have q18 : zq_ev r (0, []) = 0 := zu_e0 _ _
  have q19 : zq_ev r (1, [(8, 1)]) = r 8 + 1 := zu_e2 _ _ _
  have q20 : zq_ev r (0, [(9, 1)]) = r 9 := zu_e1 _ _
  have q21 : zq_ev r (0, [(10, 1)]) = r 10 := zu_e1 _ _
  have q22 : zq_ev r (0, [(11, 1)]) = r 11 := zu_e1 _ _
  obtain ⟨hT, hC, hF, hS, -, hK⟩ := hM
  have c := hC.1
  have a1 := zq_all_1 c
  rw [q0] at a1
  have c := zq_all_t c
  have a2 := zq_all_1 c
  rw [q1] at a2
  have c := zq_all_t c
  have a3 := zq_all_1 c
  rw [q2] at a3
  have c := zq_all_t c
  have a4 := zq_all_1 c
  rw [q3] at a4
  have c := zq_all_t c
  have a5 := zq_all_1 c
  rw [q4] at a5
  have c := zq_all_t c
  have a6 := zq_all_1 c
  rw [q5] at a6
  have k1 := zj_use x_SL (hK)
  have k1 : ze_SL (zq_ev r (1, [])) (zq_ev r (2, [])) (zq_ev r (0, [(0, 1)])) (zq_ev r (0, [(1, 1)])) (zq_ev r (0, [(2, 1)])) (zq_ev r (0, [(3, 1)])) (zq_ev r (0, [(4, 1)])) (zq_ev r (0, [(5, 1)])) (zq_ev r (0, [(6, 1)])) (zq_ev r (0, [(7, 1)])) (zq_ev r (0, [(8, 1)])) P h := k1
  simp only [q10, q11, q12, q13, q14, q15, q16, q6, q7, q8, q9] at k1
  have k2 := zj_use x_CD (zq_okX_t (hK))
  have k2 : ze_CD (zq_ev r (0, [(0, 1)])) (zq_ev r (0, [(1, 1)])) (zq_ev r (0, [(8, 1)])) (zq_ev r (142, [])) P h := k2
  simp only [q16, q17, q8, q9] at k2
  have k3 := zj_use x_EV (zq_okX_t (zq_okX_t (hK)))
  have k3 : ze_EV (zq_ev r (0, [])) (zq_ev r (0, [(0, 1)])) (zq_ev r (0, [(1, 1)])) (zq_ev r (0, [(2, 1)])) (zq_ev r (0, [(3, 1)])) (zq_ev r (0, [(7, 1)])) (zq_ev r (1, [(8, 1)])) (zq_ev r (0, [(9, 1)])) (zq_ev r (0, [])) (zq_ev r (0, [(10, 1)])) P h := k3
  simp only [q10, q11, q15, q18, q19, q20, q21, q8, q9] at k3
  have k4 := zj_use x_OL (zq_okX_t (zq_okX_t (zq_okX_t (hK))))
  have k4 : zo_ol (zq_ev r (2, [])) (zq_ev r (0, [(6, 1)])) (zq_ev r (0, [(9, 1)])) (zq_ev r (0, [(11, 1)])) P h := k4
  simp only [q14, q20, q22, q7] at k4
  obtain t1 := ze_m142r_l (P := P) (h := h) (g := r 0) (n := r 1) (o := r 2) (W := r 3) (b := r 4) (p := r 5) (a := r 6) (c := r 7) (q := r 8) (w := r 9) (x := r 10) (u := r 11) a1 a2 a3 a4 a5 a6 k1 k2 k3 k4
  obtain ⟨rq, hr⟩ : ∃ rq : Nat → Int, (∀ i, i < 12 → rq i = r i) := ⟨r, fun i hi => rfl⟩
  have v0 : rq 0 = r 0 := hr 0 (by decide)
  have v1 : rq 1 = r 1 := hr 1 (by decide)
  have v2 : rq 2 = r 2 := hr 2 (by decide)
  have v3 : rq 3 = r 3 := hr 3 (by decide)
  have v4 : rq 4 = r 4 := hr 4 (by decide)
  have v5 : rq 5 = r 5 := hr 5 (by decide)
  have v10 : rq 10 = r 10 := hr 10 (by decide)
  have v11 : rq 11 = r 11 := hr 11 (by decide)
  have g0 : zq_ev rq (1, []) = 1 := zu_e0 _ _
  have g1 : zq_ev rq (2, []) = 2 := zu_e0 _ _
  have g2 : zq_ev rq (0, [(0, 1)]) = r 0 := zu_f1 v0
  have g3 : zq_ev rq (0, [(1, 1)]) = r 1 := zu_f1 v1
  have g4 : zq_ev rq (0, [(2, 1)]) = r 2 := zu_f1 v2
  have g5 : zq_ev rq (0, [(3, 1)]) = r 3 := zu_f1 v3
  have g6 : zq_ev rq (0, [(4, 1)]) = r 4 := zu_f1 v4
  have g7 : zq_ev rq (0, [(5, 1)]) = r 5 := zu_f1 v5
  have g8 : zq_ev rq (0, [(11, 1)]) = r 11 := zu_f1 v11
  have g9 : zq_ev rq (0, []) = 0 := zu_e0 _ _
  have g10 : zq_ev rq (0, [(10, 1)]) = r 10 := zu_f1 v10
  exact ⟨_, List.mem_cons_self .., rq, hr, zq_MeS_mk rfl hT (zq_all_nil) zq_fan (zq_fan) rfl (zu_fac ((x_SL _ _ _).mpr (by show ze_SL (zq_ev rq (1, [])) (zq_ev rq (2, [])) (zq_ev rq (0, [(0, 1)])) (zq_ev rq (0, [(1, 1)])) (zq_ev rq (0, [(2, 1)])) (zq_ev rq (0, [(3, 1)])) (zq_ev rq (0, [(4, 1)])) (zq_ev rq (0, [(5, 1)])) (zq_ev rq (0, [(11, 1)])) (zq_ev rq (0, [])) (zq_ev rq (0, [(10, 1)])) P h; simp only [g0, g1, g10, g2, g3, g4, g5, g6, g7, g8, g9]; exact t1)) zq_fan)⟩
noncomputable def ze_m147x : zq_S × List zq_S := (([], [], [], [], [], [], [(222, [(1, []), (2, []), (0, [(0, 1)]), (0, [(1, 1)]), (0, [(2, 1)]), (0, [(3, 1)]), (0, [(4, 1)]), (0, [(5, 1)]), (0, [(6, 1)]), (0, [(7, 1)]), (0, [(8, 1)])]), (224, [(0, [(0, 1)]), (0, [(1, 1)]), (0, [(8, 1)]), (147, [])]), (220, [(0, []), (0, [(0, 1)]), (0, [(1, 1)]), (0, [(2, 1)]), (0, [(3, 1)]), (0, [(7, 1)]), (1, [(8, 1)]), (0, [(9, 1)]), (1, []), (0, [(10, 1)])])], 11), [([], [], [], [], [], [], [(222, [(1, []), (2, []), (0, [(0, 1)]), (0, [(1, 1)]), (0, [(2, 1)]), (0, [(3, 1)]), (0, [(4, 1)]), (0, [(5, 1)]), (0, []), (1, []), (0, [(10, 1)])])], 11)])
theorem ze_m147x_l {P : zq_Ty} {h : zq_H} {g n o W b p a c q w x : Int} (k1 : ze_SL 1 2 g n o W b p a c q P h) (k2 : ze_CD g n q 147 P h) (k3 : ze_EV 0 g n o W c (q + 1) w 1 x P h) : (ze_SL 1 2 g n o W b p 0 1 x P h) := by
  intro r d e h2
  have k2 : 147 = ze_c g n q := k2
  refine k1 r d e (ze_tl_go (by rw [← k2]; decide) k3 ?_)
  rw [← k2]
  unfold ze_m
  by_cases hw : w = 0
  · rw [decide_eq_true hw, show (!decide ((147 : Int) = 142) && true) = true by decide]
    simp only [cond_true]
    rw [ze_on1, Bool.true_or, ze_bd_1]
    exact h2
  · rw [decide_eq_false hw, Bool.and_false]
    simp only [cond_false]
    rw [ze_on1, ze_bd_1]
    exact h2
theorem ze_m147x_ok {w : zq_Wd} (x_SL : zj_is w 222 (fun q => ze_SL (q 0) (q 1) (q 2) (q 3) (q 4) (q 5) (q 6) (q 7) (q 8) (q 9) (q 10))) (x_CD : zj_is w 224 (fun q => ze_CD (q 0) (q 1) (q 2) (q 3))) (x_EV : zj_is w 220 (fun q => ze_EV (q 0) (q 1) (q 2) (q 3) (q 4) (q 5) (q 6) (q 7) (q 8) (q 9))) : zq_okG1 w ze_m147x := by
  refine ⟨rfl, rfl, zu_fac ⟨rfl, by decide⟩ zq_fan, ?_⟩
  intro r P h H hM
  have q0 : zq_ev r (1, []) = 1 := zu_e0 _ _
  have q1 : zq_ev r (2, []) = 2 := zu_e0 _ _
  have q2 : zq_ev r (0, [(0, 1)]) = r 0 := zu_e1 _ _
  have q3 : zq_ev r (0, [(1, 1)]) = r 1 := zu_e1 _ _
  have q4 : zq_ev r (0, [(2, 1)]) = r 2 := zu_e1 _ _
  have q5 : zq_ev r (0, [(3, 1)]) = r 3 := zu_e1 _ _
  have q6 : zq_ev r (0, [(4, 1)]) = r 4 := zu_e1 _ _
  have q7 : zq_ev r (0, [(5, 1)]) = r 5 := zu_e1 _ _
  have q8 : zq_ev r (0, [(6, 1)]) = r 6 := zu_e1 _ _
  have q9 : zq_ev r (0, [(7, 1)]) = r 7 := zu_e1 _ _
  have q10 : zq_ev r (0, [(8, 1)]) = r 8 := zu_e1 _ _
  have q11 : zq_ev r (147, []) = 147 := zu_e0 _ _
  have q12 : zq_ev r (0, []) = 0 := zu_e0 _ _
  have q13 : zq_ev r (1, [(8, 1)]) = r 8 + 1 := zu_e2 _ _ _
  have q14 : zq_ev r (0, [(9, 1)]) = r 9 := zu_e1 _ _
  have q15 : zq_ev r (0, [(10, 1)]) = r 10 := zu_e1 _ _
  obtain ⟨hT, hC, hF, hS, -, hK⟩ := hM
  have c := hC.1
  have k1 := zj_use x_SL (hK)
  have k1 : ze_SL (zq_ev r (1, [])) (zq_ev r (2, [])) (zq_ev r (0, [(0, 1)])) (zq_ev r (0, [(1, 1)])) (zq_ev r (0, [(2, 1)])) (zq_ev r (0, [(3, 1)])) (zq_ev r (0, [(4, 1)])) (zq_ev r (0, [(5, 1)])) (zq_ev r (0, [(6, 1)])) (zq_ev r (0, [(7, 1)])) (zq_ev r (0, [(8, 1)])) P h := k1
  simp only [q0, q1, q10, q2, q3, q4, q5, q6, q7, q8, q9] at k1
  have k2 := zj_use x_CD (zq_okX_t (hK))
  have k2 : ze_CD (zq_ev r (0, [(0, 1)])) (zq_ev r (0, [(1, 1)])) (zq_ev r (0, [(8, 1)])) (zq_ev r (147, [])) P h := k2
  simp only [q10, q11, q2, q3] at k2
  have k3 := zj_use x_EV (zq_okX_t (zq_okX_t (hK)))
  have k3 : ze_EV (zq_ev r (0, [])) (zq_ev r (0, [(0, 1)])) (zq_ev r (0, [(1, 1)])) (zq_ev r (0, [(2, 1)])) (zq_ev r (0, [(3, 1)])) (zq_ev r (0, [(7, 1)])) (zq_ev r (1, [(8, 1)])) (zq_ev r (0, [(9, 1)])) (zq_ev r (1, [])) (zq_ev r (0, [(10, 1)])) P h := k3
  simp only [q0, q12, q13, q14, q15, q2, q3, q4, q5, q9] at k3
  obtain t1 := ze_m147x_l (P := P) (h := h) (g := r 0) (n := r 1) (o := r 2) (W := r 3) (b := r 4) (p := r 5) (a := r 6) (c := r 7) (q := r 8) (w := r 9) (x := r 10) k1 k2 k3
  obtain ⟨rq, hr⟩ : ∃ rq : Nat → Int, (∀ i, i < 11 → rq i = r i) := ⟨r, fun i hi => rfl⟩
  have v0 : rq 0 = r 0 := hr 0 (by decide)
  have v1 : rq 1 = r 1 := hr 1 (by decide)
  have v2 : rq 2 = r 2 := hr 2 (by decide)
  have v3 : rq 3 = r 3 := hr 3 (by decide)
  have v4 : rq 4 = r 4 := hr 4 (by decide)
  have v5 : rq 5 = r 5 := hr 5 (by decide)
  have v10 : rq 10 = r 10 := hr 10 (by decide)
  have g0 : zq_ev rq (1, []) = 1 := zu_e0 _ _
  have g1 : zq_ev rq (2, []) = 2 := zu_e0 _ _
  have g2 : zq_ev rq (0, [(0, 1)]) = r 0 := zu_f1 v0
  have g3 : zq_ev rq (0, [(1, 1)]) = r 1 := zu_f1 v1
  have g4 : zq_ev rq (0, [(2, 1)]) = r 2 := zu_f1 v2
  have g5 : zq_ev rq (0, [(3, 1)]) = r 3 := zu_f1 v3
  have g6 : zq_ev rq (0, [(4, 1)]) = r 4 := zu_f1 v4
  have g7 : zq_ev rq (0, [(5, 1)]) = r 5 := zu_f1 v5
  have g8 : zq_ev rq (0, []) = 0 := zu_e0 _ _
  have g9 : zq_ev rq (0, [(10, 1)]) = r 10 := zu_f1 v10
  exact ⟨_, List.mem_cons_self .., rq, hr, zq_MeS_mk rfl hT (zq_all_nil) zq_fan (zq_fan) rfl (zu_fac ((x_SL _ _ _).mpr (by show ze_SL (zq_ev rq (1, [])) (zq_ev rq (2, [])) (zq_ev rq (0, [(0, 1)])) (zq_ev rq (0, [(1, 1)])) (zq_ev rq (0, [(2, 1)])) (zq_ev rq (0, [(3, 1)])) (zq_ev rq (0, [(4, 1)])) (zq_ev rq (0, [(5, 1)])) (zq_ev rq (0, [])) (zq_ev rq (1, [])) (zq_ev rq (0, [(10, 1)])) P h; simp only [g0, g1, g2, g3, g4, g5, g6, g7, g8, g9]; exact t1)) zq_fan)⟩
noncomputable def ze_m147z : zq_S × List zq_S := (([], [], [(0, [(9, 1)]), (0, [(9, -1)])], [], [], [], [(222, [(1, []), (2, []), (0, [(0, 1)]), (0, [(1, 1)]), (0, [(2, 1)]), (0, [(3, 1)]), (0, [(4, 1)]), (0, [(5, 1)]), (0, [(6, 1)]), (0, [(7, 1)]), (0, [(8, 1)])]), (224, [(0, [(0, 1)]), (0, [(1, 1)]), (0, [(8, 1)]), (147, [])]), (220, [(0, []), (0, [(0, 1)]), (0, [(1, 1)]), (0, [(2, 1)]), (0, [(3, 1)]), (0, [(7, 1)]), (1, [(8, 1)]), (0, [(9, 1)]), (0, [(11, 1)]), (0, [(10, 1)])])], 12), [([], [], [], [], [], [], [(222, [(1, []), (2, []), (0, [(0, 1)]), (0, [(1, 1)]), (0, [(2, 1)]), (0, [(3, 1)]), (0, [(4, 1)]), (0, [(5, 1)]), (0, []), (1, []), (0, [(10, 1)])])], 12)])
theorem ze_m147z_l {P : zq_Ty} {h : zq_H} {g n o W b p a c q w x d : Int} (a1 : 0 ≤ w) (a2 : 0 ≤ -w) (k1 : ze_SL 1 2 g n o W b p a c q P h) (k2 : ze_CD g n q 147 P h) (k3 : ze_EV 0 g n o W c (q + 1) w d x P h) : (ze_SL 1 2 g n o W b p 0 1 x P h) := by
  intro r d2 e h2
  have k2 : 147 = ze_c g n q := k2
  refine k1 r d2 e (ze_tl_go (by rw [← k2]; decide) k3 ?_)
  rw [← k2]
  unfold ze_m
  rw [decide_eq_true (show w = 0 by omega), show (!decide ((147 : Int) = 142) && true) = true by decide]
  simp only [cond_true]
  rw [Bool.or_true, ze_bd_1]
  exact h2
theorem ze_m147z_ok {w : zq_Wd} (x_SL : zj_is w 222 (fun q => ze_SL (q 0) (q 1) (q 2) (q 3) (q 4) (q 5) (q 6) (q 7) (q 8) (q 9) (q 10))) (x_CD : zj_is w 224 (fun q => ze_CD (q 0) (q 1) (q 2) (q 3))) (x_EV : zj_is w 220 (fun q => ze_EV (q 0) (q 1) (q 2) (q 3) (q 4) (q 5) (q 6) (q 7) (q 8) (q 9))) : zq_okG1 w ze_m147z := by
  refine ⟨rfl, rfl, zu_fac ⟨rfl, by decide⟩ zq_fan, ?_⟩
  intro r P h H hM
  have q0 : zq_ev r (0, [(9, 1)]) = r 9 := zu_e1 _ _
  have q1 : zq_ev r (0, [(9, -1)]) = -r 9 := zu_e4 _ _
  have q2 : zq_ev r (1, []) = 1 := zu_e0 _ _
  have q3 : zq_ev r (2, []) = 2 := zu_e0 _ _
  have q4 : zq_ev r (0, [(0, 1)]) = r 0 := zu_e1 _ _
  have q5 : zq_ev r (0, [(1, 1)]) = r 1 := zu_e1 _ _
  have q6 : zq_ev r (0, [(2, 1)]) = r 2 := zu_e1 _ _
  have q7 : zq_ev r (0, [(3, 1)]) = r 3 := zu_e1 _ _
  have q8 : zq_ev r (0, [(4, 1)]) = r 4 := zu_e1 _ _
  have q9 : zq_ev r (0, [(5, 1)]) = r 5 := zu_e1 _ _
  have q10 : zq_ev r (0, [(6, 1)]) = r 6 := zu_e1 _ _
  have q11 : zq_ev r (0, [(7, 1)]) = r 7 := zu_e1 _ _
  have q12 : zq_ev r (0, [(8, 1)]) = r 8 := zu_e1 _ _
  have q13 : zq_ev r (147, []) = 147 := zu_e0 _ _
  have q14 : zq_ev r (0, []) = 0 := zu_e0 _ _
  have q15 : zq_ev r (1, [(8, 1)]) = r 8 + 1 := zu_e2 _ _ _
  have q16 : zq_ev r (0, [(11, 1)]) = r 11 := zu_e1 _ _
  have q17 : zq_ev r (0, [(10, 1)]) = r 10 := zu_e1 _ _
  obtain ⟨hT, hC, hF, hS, -, hK⟩ := hM
  have c := hC.1
  have a1 := zq_all_1 c
  rw [q0] at a1
  have c := zq_all_t c
  have a2 := zq_all_1 c
  rw [q1] at a2
  have k1 := zj_use x_SL (hK)
  have k1 : ze_SL (zq_ev r (1, [])) (zq_ev r (2, [])) (zq_ev r (0, [(0, 1)])) (zq_ev r (0, [(1, 1)])) (zq_ev r (0, [(2, 1)])) (zq_ev r (0, [(3, 1)])) (zq_ev r (0, [(4, 1)])) (zq_ev r (0, [(5, 1)])) (zq_ev r (0, [(6, 1)])) (zq_ev r (0, [(7, 1)])) (zq_ev r (0, [(8, 1)])) P h := k1
  simp only [q10, q11, q12, q2, q3, q4, q5, q6, q7, q8, q9] at k1
  have k2 := zj_use x_CD (zq_okX_t (hK))
  have k2 : ze_CD (zq_ev r (0, [(0, 1)])) (zq_ev r (0, [(1, 1)])) (zq_ev r (0, [(8, 1)])) (zq_ev r (147, [])) P h := k2
  simp only [q12, q13, q4, q5] at k2
  have k3 := zj_use x_EV (zq_okX_t (zq_okX_t (hK)))
  have k3 : ze_EV (zq_ev r (0, [])) (zq_ev r (0, [(0, 1)])) (zq_ev r (0, [(1, 1)])) (zq_ev r (0, [(2, 1)])) (zq_ev r (0, [(3, 1)])) (zq_ev r (0, [(7, 1)])) (zq_ev r (1, [(8, 1)])) (zq_ev r (0, [(9, 1)])) (zq_ev r (0, [(11, 1)])) (zq_ev r (0, [(10, 1)])) P h := k3
  simp only [q0, q11, q14, q15, q16, q17, q4, q5, q6, q7] at k3
  obtain t1 := ze_m147z_l (P := P) (h := h) (g := r 0) (n := r 1) (o := r 2) (W := r 3) (b := r 4) (p := r 5) (a := r 6) (c := r 7) (q := r 8) (w := r 9) (x := r 10) (d := r 11) a1 a2 k1 k2 k3
  obtain ⟨rq, hr⟩ : ∃ rq : Nat → Int, (∀ i, i < 12 → rq i = r i) := ⟨r, fun i hi => rfl⟩
  have v0 : rq 0 = r 0 := hr 0 (by decide)
  have v1 : rq 1 = r 1 := hr 1 (by decide)
  have v2 : rq 2 = r 2 := hr 2 (by decide)
  have v3 : rq 3 = r 3 := hr 3 (by decide)
  have v4 : rq 4 = r 4 := hr 4 (by decide)
  have v5 : rq 5 = r 5 := hr 5 (by decide)
  have v10 : rq 10 = r 10 := hr 10 (by decide)
  have g0 : zq_ev rq (1, []) = 1 := zu_e0 _ _
  have g1 : zq_ev rq (2, []) = 2 := zu_e0 _ _
  have g2 : zq_ev rq (0, [(0, 1)]) = r 0 := zu_f1 v0
  have g3 : zq_ev rq (0, [(1, 1)]) = r 1 := zu_f1 v1
  have g4 : zq_ev rq (0, [(2, 1)]) = r 2 := zu_f1 v2
  have g5 : zq_ev rq (0, [(3, 1)]) = r 3 := zu_f1 v3
  have g6 : zq_ev rq (0, [(4, 1)]) = r 4 := zu_f1 v4
  have g7 : zq_ev rq (0, [(5, 1)]) = r 5 := zu_f1 v5
  have g8 : zq_ev rq (0, []) = 0 := zu_e0 _ _
  have g9 : zq_ev rq (0, [(10, 1)]) = r 10 := zu_f1 v10
  exact ⟨_, List.mem_cons_self .., rq, hr, zq_MeS_mk rfl hT (zq_all_nil) zq_fan (zq_fan) rfl (zu_fac ((x_SL _ _ _).mpr (by show ze_SL (zq_ev rq (1, [])) (zq_ev rq (2, [])) (zq_ev rq (0, [(0, 1)])) (zq_ev rq (0, [(1, 1)])) (zq_ev rq (0, [(2, 1)])) (zq_ev rq (0, [(3, 1)])) (zq_ev rq (0, [(4, 1)])) (zq_ev rq (0, [(5, 1)])) (zq_ev rq (0, [])) (zq_ev rq (1, [])) (zq_ev rq (0, [(10, 1)])) P h; simp only [g0, g1, g2, g3, g4, g5, g6, g7, g8, g9]; exact t1)) zq_fan)⟩
noncomputable def ze_m147tp : zq_S × List zq_S := (([], [], [(2147483648, [(6, 1)]), (2147483648, [(6, -1)]), (2147483648, [(9, 1)]), (2147483648, [(9, -1)]), (-1, [(9, 1)]), (-1000000001, [(11, 1)])], [], [], [], [(222, [(1, []), (2, []), (0, [(0, 1)]), (0, [(1, 1)]), (0, [(2, 1)]), (0, [(3, 1)]), (0, [(4, 1)]), (0, [(5, 1)]), (0, [(6, 1)]), (0, [(7, 1)]), (0, [(8, 1)])]), (224, [(0, [(0, 1)]), (0, [(1, 1)]), (0, [(8, 1)]), (147, [])]), (220, [(0, []), (0, [(0, 1)]), (0, [(1, 1)]), (0, [(2, 1)]), (0, [(3, 1)]), (0, [(7, 1)]), (1, [(8, 1)]), (0, [(9, 1)]), (0, []), (0, [(10, 1)])]), (86, [(3, []), (0, [(6, 1)]), (0, [(9, 1)]), (0, [(11, 1)])])], 12), [([], [], [], [], [], [], [(222, [(1, []), (2, []), (0, [(0, 1)]), (0, [(1, 1)]), (0, [(2, 1)]), (0, [(3, 1)]), (0, [(4, 1)]), (0, [(5, 1)]), (0, []), (1, []), (0, [(10, 1)])])], 12)])
theorem ze_m147tp_l {P : zq_Ty} {h : zq_H} {g n o W b p a c q w x u : Int} (a1 : 0 ≤ a + 2147483648) (a2 : 0 ≤ -a + 2147483648) (a3 : 0 ≤ w + 2147483648) (a4 : 0 ≤ -w + 2147483648) (a5 : 0 ≤ w - 1) (a6 : 0 ≤ u - 1000000001) (k1 : ze_SL 1 2 g n o W b p a c q P h) (k2 : ze_CD g n q 147 P h) (k3 : ze_EV 0 g n o W c (q + 1) w 0 x P h) (k4 : zo_ol 3 a w u P h) : (ze_SL 1 2 g n o W b p 0 1 x P h) := by
  have k4 : u = zq_fun 1 3 a w := k4
  have hu : u = a.tdiv w := ze_tdiv64 k4 (by omega) (by omega)
  intro r d e h2
  have k2 : 147 = ze_c g n q := k2
  refine k1 r d e (ze_tl_go (by rw [← k2]; decide) k3 ?_)
  rw [← k2]
  unfold ze_m
  rw [decide_eq_false (show ¬ w = 0 by omega), Bool.and_false]
  simp only [cond_false]
  have z2 : ze_op 147 a w = u := by rw [hu]; rfl
  rw [z2, ze_bd_t (ze_out_t (Or.inl (by omega)))]
  exact h2
theorem ze_m147tp_ok {w : zq_Wd} (x_SL : zj_is w 222 (fun q => ze_SL (q 0) (q 1) (q 2) (q 3) (q 4) (q 5) (q 6) (q 7) (q 8) (q 9) (q 10))) (x_CD : zj_is w 224 (fun q => ze_CD (q 0) (q 1) (q 2) (q 3))) (x_EV : zj_is w 220 (fun q => ze_EV (q 0) (q 1) (q 2) (q 3) (q 4) (q 5) (q 6) (q 7) (q 8) (q 9))) (x_OL : zj_is w 86 (fun q => zo_ol (q 0) (q 1) (q 2) (q 3))) : zq_okG1 w ze_m147tp := by
  refine ⟨rfl, rfl, zu_fac ⟨rfl, by decide⟩ zq_fan, ?_⟩
  intro r P h H hM
  have q0 : zq_ev r (2147483648, [(6, 1)]) = r 6 + 2147483648 := zu_e2 _ _ _
  have q1 : zq_ev r (2147483648, [(6, -1)]) = -r 6 + 2147483648 := zu_e5 _ _ _
  have q2 : zq_ev r (2147483648, [(9, 1)]) = r 9 + 2147483648 := zu_e2 _ _ _
  have q3 : zq_ev r (2147483648, [(9, -1)]) = -r 9 + 2147483648 := zu_e5 _ _ _
  have q4 : zq_ev r (-1, [(9, 1)]) = r 9 - 1 := zu_e3 _ _ _
  have q5 : zq_ev r (-1000000001, [(11, 1)]) = r 11 - 1000000001 := zu_e3 _ _ _
  have q6 : zq_ev r (1, []) = 1 := zu_e0 _ _
  have q7 : zq_ev r (2, []) = 2 := zu_e0 _ _
  have q8 : zq_ev r (0, [(0, 1)]) = r 0 := zu_e1 _ _
  have q9 : zq_ev r (0, [(1, 1)]) = r 1 := zu_e1 _ _
  have q10 : zq_ev r (0, [(2, 1)]) = r 2 := zu_e1 _ _
  have q11 : zq_ev r (0, [(3, 1)]) = r 3 := zu_e1 _ _
  have q12 : zq_ev r (0, [(4, 1)]) = r 4 := zu_e1 _ _
  have q13 : zq_ev r (0, [(5, 1)]) = r 5 := zu_e1 _ _
  have q14 : zq_ev r (0, [(6, 1)]) = r 6 := zu_e1 _ _
  have q15 : zq_ev r (0, [(7, 1)]) = r 7 := zu_e1 _ _
  have q16 : zq_ev r (0, [(8, 1)]) = r 8 := zu_e1 _ _
  have q17 : zq_ev r (147, []) = 147 := zu_e0 _ _
  have q18 : zq_ev r (0, []) = 0 := zu_e0 _ _
  have q19 : zq_ev r (1, [(8, 1)]) = r 8 + 1 := zu_e2 _ _ _
  have q20 : zq_ev r (0, [(9, 1)]) = r 9 := zu_e1 _ _
  have q21 : zq_ev r (0, [(10, 1)]) = r 10 := zu_e1 _ _
  have q22 : zq_ev r (3, []) = 3 := zu_e0 _ _
  have q23 : zq_ev r (0, [(11, 1)]) = r 11 := zu_e1 _ _
  obtain ⟨hT, hC, hF, hS, -, hK⟩ := hM
  have c := hC.1
  have a1 := zq_all_1 c
  rw [q0] at a1
  have c := zq_all_t c
  have a2 := zq_all_1 c
  rw [q1] at a2
  have c := zq_all_t c
  have a3 := zq_all_1 c
  rw [q2] at a3
  have c := zq_all_t c
  have a4 := zq_all_1 c
  rw [q3] at a4
  have c := zq_all_t c
  have a5 := zq_all_1 c
  rw [q4] at a5
  have c := zq_all_t c
  have a6 := zq_all_1 c
  rw [q5] at a6
  have k1 := zj_use x_SL (hK)
  have k1 : ze_SL (zq_ev r (1, [])) (zq_ev r (2, [])) (zq_ev r (0, [(0, 1)])) (zq_ev r (0, [(1, 1)])) (zq_ev r (0, [(2, 1)])) (zq_ev r (0, [(3, 1)])) (zq_ev r (0, [(4, 1)])) (zq_ev r (0, [(5, 1)])) (zq_ev r (0, [(6, 1)])) (zq_ev r (0, [(7, 1)])) (zq_ev r (0, [(8, 1)])) P h := k1
  simp only [q10, q11, q12, q13, q14, q15, q16, q6, q7, q8, q9] at k1
  have k2 := zj_use x_CD (zq_okX_t (hK))
  have k2 : ze_CD (zq_ev r (0, [(0, 1)])) (zq_ev r (0, [(1, 1)])) (zq_ev r (0, [(8, 1)])) (zq_ev r (147, [])) P h := k2
  simp only [q16, q17, q8, q9] at k2
  have k3 := zj_use x_EV (zq_okX_t (zq_okX_t (hK)))
  have k3 : ze_EV (zq_ev r (0, [])) (zq_ev r (0, [(0, 1)])) (zq_ev r (0, [(1, 1)])) (zq_ev r (0, [(2, 1)])) (zq_ev r (0, [(3, 1)])) (zq_ev r (0, [(7, 1)])) (zq_ev r (1, [(8, 1)])) (zq_ev r (0, [(9, 1)])) (zq_ev r (0, [])) (zq_ev r (0, [(10, 1)])) P h := k3
  simp only [q10, q11, q15, q18, q19, q20, q21, q8, q9] at k3
  have k4 := zj_use x_OL (zq_okX_t (zq_okX_t (zq_okX_t (hK))))
  have k4 : zo_ol (zq_ev r (3, [])) (zq_ev r (0, [(6, 1)])) (zq_ev r (0, [(9, 1)])) (zq_ev r (0, [(11, 1)])) P h := k4
  simp only [q14, q20, q22, q23] at k4
  obtain t1 := ze_m147tp_l (P := P) (h := h) (g := r 0) (n := r 1) (o := r 2) (W := r 3) (b := r 4) (p := r 5) (a := r 6) (c := r 7) (q := r 8) (w := r 9) (x := r 10) (u := r 11) a1 a2 a3 a4 a5 a6 k1 k2 k3 k4
  obtain ⟨rq, hr⟩ : ∃ rq : Nat → Int, (∀ i, i < 12 → rq i = r i) := ⟨r, fun i hi => rfl⟩
  have v0 : rq 0 = r 0 := hr 0 (by decide)
  have v1 : rq 1 = r 1 := hr 1 (by decide)
  have v2 : rq 2 = r 2 := hr 2 (by decide)
  have v3 : rq 3 = r 3 := hr 3 (by decide)
  have v4 : rq 4 = r 4 := hr 4 (by decide)
  have v5 : rq 5 = r 5 := hr 5 (by decide)
  have v10 : rq 10 = r 10 := hr 10 (by decide)
  have g0 : zq_ev rq (1, []) = 1 := zu_e0 _ _
  have g1 : zq_ev rq (2, []) = 2 := zu_e0 _ _
  have g2 : zq_ev rq (0, [(0, 1)]) = r 0 := zu_f1 v0
  have g3 : zq_ev rq (0, [(1, 1)]) = r 1 := zu_f1 v1
  have g4 : zq_ev rq (0, [(2, 1)]) = r 2 := zu_f1 v2
  have g5 : zq_ev rq (0, [(3, 1)]) = r 3 := zu_f1 v3
  have g6 : zq_ev rq (0, [(4, 1)]) = r 4 := zu_f1 v4
  have g7 : zq_ev rq (0, [(5, 1)]) = r 5 := zu_f1 v5
  have g8 : zq_ev rq (0, []) = 0 := zu_e0 _ _
  have g9 : zq_ev rq (0, [(10, 1)]) = r 10 := zu_f1 v10
  exact ⟨_, List.mem_cons_self .., rq, hr, zq_MeS_mk rfl hT (zq_all_nil) zq_fan (zq_fan) rfl (zu_fac ((x_SL _ _ _).mpr (by show ze_SL (zq_ev rq (1, [])) (zq_ev rq (2, [])) (zq_ev rq (0, [(0, 1)])) (zq_ev rq (0, [(1, 1)])) (zq_ev rq (0, [(2, 1)])) (zq_ev rq (0, [(3, 1)])) (zq_ev rq (0, [(4, 1)])) (zq_ev rq (0, [(5, 1)])) (zq_ev rq (0, [])) (zq_ev rq (1, [])) (zq_ev rq (0, [(10, 1)])) P h; simp only [g0, g1, g2, g3, g4, g5, g6, g7, g8, g9]; exact t1)) zq_fan)⟩
noncomputable def ze_m147up : zq_S × List zq_S := (([], [], [(2147483648, [(6, 1)]), (2147483648, [(6, -1)]), (2147483648, [(9, 1)]), (2147483648, [(9, -1)]), (-1, [(9, 1)]), (-1000000001, [(11, -1)])], [], [], [], [(222, [(1, []), (2, []), (0, [(0, 1)]), (0, [(1, 1)]), (0, [(2, 1)]), (0, [(3, 1)]), (0, [(4, 1)]), (0, [(5, 1)]), (0, [(6, 1)]), (0, [(7, 1)]), (0, [(8, 1)])]), (224, [(0, [(0, 1)]), (0, [(1, 1)]), (0, [(8, 1)]), (147, [])]), (220, [(0, []), (0, [(0, 1)]), (0, [(1, 1)]), (0, [(2, 1)]), (0, [(3, 1)]), (0, [(7, 1)]), (1, [(8, 1)]), (0, [(9, 1)]), (0, []), (0, [(10, 1)])]), (86, [(3, []), (0, [(6, 1)]), (0, [(9, 1)]), (0, [(11, 1)])])], 12), [([], [], [], [], [], [], [(222, [(1, []), (2, []), (0, [(0, 1)]), (0, [(1, 1)]), (0, [(2, 1)]), (0, [(3, 1)]), (0, [(4, 1)]), (0, [(5, 1)]), (0, []), (1, []), (0, [(10, 1)])])], 12)])
theorem ze_m147up_l {P : zq_Ty} {h : zq_H} {g n o W b p a c q w x u : Int} (a1 : 0 ≤ a + 2147483648) (a2 : 0 ≤ -a + 2147483648) (a3 : 0 ≤ w + 2147483648) (a4 : 0 ≤ -w + 2147483648) (a5 : 0 ≤ w - 1) (a6 : 0 ≤ -u - 1000000001) (k1 : ze_SL 1 2 g n o W b p a c q P h) (k2 : ze_CD g n q 147 P h) (k3 : ze_EV 0 g n o W c (q + 1) w 0 x P h) (k4 : zo_ol 3 a w u P h) : (ze_SL 1 2 g n o W b p 0 1 x P h) := by
  have k4 : u = zq_fun 1 3 a w := k4
  have hu : u = a.tdiv w := ze_tdiv64 k4 (by omega) (by omega)
  intro r d e h2
  have k2 : 147 = ze_c g n q := k2
  refine k1 r d e (ze_tl_go (by rw [← k2]; decide) k3 ?_)
  rw [← k2]
  unfold ze_m
  rw [decide_eq_false (show ¬ w = 0 by omega), Bool.and_false]
  simp only [cond_false]
  have z2 : ze_op 147 a w = u := by rw [hu]; rfl
  rw [z2, ze_bd_t (ze_out_t (Or.inr (by omega)))]
  exact h2
theorem ze_m147up_ok {w : zq_Wd} (x_SL : zj_is w 222 (fun q => ze_SL (q 0) (q 1) (q 2) (q 3) (q 4) (q 5) (q 6) (q 7) (q 8) (q 9) (q 10))) (x_CD : zj_is w 224 (fun q => ze_CD (q 0) (q 1) (q 2) (q 3))) (x_EV : zj_is w 220 (fun q => ze_EV (q 0) (q 1) (q 2) (q 3) (q 4) (q 5) (q 6) (q 7) (q 8) (q 9))) (x_OL : zj_is w 86 (fun q => zo_ol (q 0) (q 1) (q 2) (q 3))) : zq_okG1 w ze_m147up := by
  refine ⟨rfl, rfl, zu_fac ⟨rfl, by decide⟩ zq_fan, ?_⟩
  intro r P h H hM
  have q0 : zq_ev r (2147483648, [(6, 1)]) = r 6 + 2147483648 := zu_e2 _ _ _
  have q1 : zq_ev r (2147483648, [(6, -1)]) = -r 6 + 2147483648 := zu_e5 _ _ _
  have q2 : zq_ev r (2147483648, [(9, 1)]) = r 9 + 2147483648 := zu_e2 _ _ _
  have q3 : zq_ev r (2147483648, [(9, -1)]) = -r 9 + 2147483648 := zu_e5 _ _ _
  have q4 : zq_ev r (-1, [(9, 1)]) = r 9 - 1 := zu_e3 _ _ _
  have q5 : zq_ev r (-1000000001, [(11, -1)]) = -r 11 - 1000000001 := zu_e6 _ _ _
  have q6 : zq_ev r (1, []) = 1 := zu_e0 _ _
  have q7 : zq_ev r (2, []) = 2 := zu_e0 _ _
  have q8 : zq_ev r (0, [(0, 1)]) = r 0 := zu_e1 _ _
  have q9 : zq_ev r (0, [(1, 1)]) = r 1 := zu_e1 _ _
  have q10 : zq_ev r (0, [(2, 1)]) = r 2 := zu_e1 _ _
  have q11 : zq_ev r (0, [(3, 1)]) = r 3 := zu_e1 _ _
  have q12 : zq_ev r (0, [(4, 1)]) = r 4 := zu_e1 _ _
  have q13 : zq_ev r (0, [(5, 1)]) = r 5 := zu_e1 _ _
  have q14 : zq_ev r (0, [(6, 1)]) = r 6 := zu_e1 _ _
  have q15 : zq_ev r (0, [(7, 1)]) = r 7 := zu_e1 _ _
  have q16 : zq_ev r (0, [(8, 1)]) = r 8 := zu_e1 _ _
  have q17 : zq_ev r (147, []) = 147 := zu_e0 _ _
  have q18 : zq_ev r (0, []) = 0 := zu_e0 _ _
  have q19 : zq_ev r (1, [(8, 1)]) = r 8 + 1 := zu_e2 _ _ _
  have q20 : zq_ev r (0, [(9, 1)]) = r 9 := zu_e1 _ _
  have q21 : zq_ev r (0, [(10, 1)]) = r 10 := zu_e1 _ _
  have q22 : zq_ev r (3, []) = 3 := zu_e0 _ _
  have q23 : zq_ev r (0, [(11, 1)]) = r 11 := zu_e1 _ _
  obtain ⟨hT, hC, hF, hS, -, hK⟩ := hM
  have c := hC.1
  have a1 := zq_all_1 c
  rw [q0] at a1
  have c := zq_all_t c
  have a2 := zq_all_1 c
  rw [q1] at a2
  have c := zq_all_t c
  have a3 := zq_all_1 c
  rw [q2] at a3
  have c := zq_all_t c
  have a4 := zq_all_1 c
  rw [q3] at a4
  have c := zq_all_t c
  have a5 := zq_all_1 c
  rw [q4] at a5
  have c := zq_all_t c
  have a6 := zq_all_1 c
  rw [q5] at a6
  have k1 := zj_use x_SL (hK)
  have k1 : ze_SL (zq_ev r (1, [])) (zq_ev r (2, [])) (zq_ev r (0, [(0, 1)])) (zq_ev r (0, [(1, 1)])) (zq_ev r (0, [(2, 1)])) (zq_ev r (0, [(3, 1)])) (zq_ev r (0, [(4, 1)])) (zq_ev r (0, [(5, 1)])) (zq_ev r (0, [(6, 1)])) (zq_ev r (0, [(7, 1)])) (zq_ev r (0, [(8, 1)])) P h := k1
  simp only [q10, q11, q12, q13, q14, q15, q16, q6, q7, q8, q9] at k1
  have k2 := zj_use x_CD (zq_okX_t (hK))
  have k2 : ze_CD (zq_ev r (0, [(0, 1)])) (zq_ev r (0, [(1, 1)])) (zq_ev r (0, [(8, 1)])) (zq_ev r (147, [])) P h := k2
  simp only [q16, q17, q8, q9] at k2
  have k3 := zj_use x_EV (zq_okX_t (zq_okX_t (hK)))
  have k3 : ze_EV (zq_ev r (0, [])) (zq_ev r (0, [(0, 1)])) (zq_ev r (0, [(1, 1)])) (zq_ev r (0, [(2, 1)])) (zq_ev r (0, [(3, 1)])) (zq_ev r (0, [(7, 1)])) (zq_ev r (1, [(8, 1)])) (zq_ev r (0, [(9, 1)])) (zq_ev r (0, [])) (zq_ev r (0, [(10, 1)])) P h := k3
  simp only [q10, q11, q15, q18, q19, q20, q21, q8, q9] at k3
  have k4 := zj_use x_OL (zq_okX_t (zq_okX_t (zq_okX_t (hK))))
  have k4 : zo_ol (zq_ev r (3, [])) (zq_ev r (0, [(6, 1)])) (zq_ev r (0, [(9, 1)])) (zq_ev r (0, [(11, 1)])) P h := k4
  simp only [q14, q20, q22, q23] at k4
  obtain t1 := ze_m147up_l (P := P) (h := h) (g := r 0) (n := r 1) (o := r 2) (W := r 3) (b := r 4) (p := r 5) (a := r 6) (c := r 7) (q := r 8) (w := r 9) (x := r 10) (u := r 11) a1 a2 a3 a4 a5 a6 k1 k2 k3 k4
  obtain ⟨rq, hr⟩ : ∃ rq : Nat → Int, (∀ i, i < 12 → rq i = r i) := ⟨r, fun i hi => rfl⟩
  have v0 : rq 0 = r 0 := hr 0 (by decide)
  have v1 : rq 1 = r 1 := hr 1 (by decide)
  have v2 : rq 2 = r 2 := hr 2 (by decide)
  have v3 : rq 3 = r 3 := hr 3 (by decide)
  have v4 : rq 4 = r 4 := hr 4 (by decide)
  have v5 : rq 5 = r 5 := hr 5 (by decide)
  have v10 : rq 10 = r 10 := hr 10 (by decide)
  have g0 : zq_ev rq (1, []) = 1 := zu_e0 _ _
  have g1 : zq_ev rq (2, []) = 2 := zu_e0 _ _
  have g2 : zq_ev rq (0, [(0, 1)]) = r 0 := zu_f1 v0
  have g3 : zq_ev rq (0, [(1, 1)]) = r 1 := zu_f1 v1
  have g4 : zq_ev rq (0, [(2, 1)]) = r 2 := zu_f1 v2
  have g5 : zq_ev rq (0, [(3, 1)]) = r 3 := zu_f1 v3
  have g6 : zq_ev rq (0, [(4, 1)]) = r 4 := zu_f1 v4
  have g7 : zq_ev rq (0, [(5, 1)]) = r 5 := zu_f1 v5
  have g8 : zq_ev rq (0, []) = 0 := zu_e0 _ _
  have g9 : zq_ev rq (0, [(10, 1)]) = r 10 := zu_f1 v10
  exact ⟨_, List.mem_cons_self .., rq, hr, zq_MeS_mk rfl hT (zq_all_nil) zq_fan (zq_fan) rfl (zu_fac ((x_SL _ _ _).mpr (by show ze_SL (zq_ev rq (1, [])) (zq_ev rq (2, [])) (zq_ev rq (0, [(0, 1)])) (zq_ev rq (0, [(1, 1)])) (zq_ev rq (0, [(2, 1)])) (zq_ev rq (0, [(3, 1)])) (zq_ev rq (0, [(4, 1)])) (zq_ev rq (0, [(5, 1)])) (zq_ev rq (0, [])) (zq_ev rq (1, [])) (zq_ev rq (0, [(10, 1)])) P h; simp only [g0, g1, g2, g3, g4, g5, g6, g7, g8, g9]; exact t1)) zq_fan)⟩
noncomputable def ze_m147rp : zq_S × List zq_S := (([], [], [(2147483648, [(6, 1)]), (2147483648, [(6, -1)]), (2147483648, [(9, 1)]), (2147483648, [(9, -1)]), (-1, [(9, 1)]), (1000000000, [(11, 1)]), (1000000000, [(11, -1)])], [], [], [], [(222, [(1, []), (2, []), (0, [(0, 1)]), (0, [(1, 1)]), (0, [(2, 1)]), (0, [(3, 1)]), (0, [(4, 1)]), (0, [(5, 1)]), (0, [(6, 1)]), (0, [(7, 1)]), (0, [(8, 1)])]), (224, [(0, [(0, 1)]), (0, [(1, 1)]), (0, [(8, 1)]), (147, [])]), (220, [(0, []), (0, [(0, 1)]), (0, [(1, 1)]), (0, [(2, 1)]), (0, [(3, 1)]), (0, [(7, 1)]), (1, [(8, 1)]), (0, [(9, 1)]), (0, []), (0, [(10, 1)])]), (86, [(3, []), (0, [(6, 1)]), (0, [(9, 1)]), (0, [(11, 1)])])], 12), [([], [], [], [], [], [], [(222, [(1, []), (2, []), (0, [(0, 1)]), (0, [(1, 1)]), (0, [(2, 1)]), (0, [(3, 1)]), (0, [(4, 1)]), (0, [(5, 1)]), (0, [(11, 1)]), (0, []), (0, [(10, 1)])])], 12)])
theorem ze_m147rp_l {P : zq_Ty} {h : zq_H} {g n o W b p a c q w x u : Int} (a1 : 0 ≤ a + 2147483648) (a2 : 0 ≤ -a + 2147483648) (a3 : 0 ≤ w + 2147483648) (a4 : 0 ≤ -w + 2147483648) (a5 : 0 ≤ w - 1) (a6 : 0 ≤ u + 1000000000) (a7 : 0 ≤ -u + 1000000000) (k1 : ze_SL 1 2 g n o W b p a c q P h) (k2 : ze_CD g n q 147 P h) (k3 : ze_EV 0 g n o W c (q + 1) w 0 x P h) (k4 : zo_ol 3 a w u P h) : (ze_SL 1 2 g n o W b p u 0 x P h) := by
  have k4 : u = zq_fun 1 3 a w := k4
  have hu : u = a.tdiv w := ze_tdiv64 k4 (by omega) (by omega)
  intro r d e h2
  have k2 : 147 = ze_c g n q := k2
  refine k1 r d e (ze_tl_go (by rw [← k2]; decide) k3 ?_)
  rw [← k2]
  unfold ze_m
  rw [decide_eq_false (show ¬ w = 0 by omega), Bool.and_false]
  simp only [cond_false]
  have z2 : ze_op 147 a w = u := by rw [hu]; rfl
  rw [z2, ze_on0, ze_bd_f (ze_out_f (by omega) (by omega))]
  exact h2
theorem ze_m147rp_ok {w : zq_Wd} (x_SL : zj_is w 222 (fun q => ze_SL (q 0) (q 1) (q 2) (q 3) (q 4) (q 5) (q 6) (q 7) (q 8) (q 9) (q 10))) (x_CD : zj_is w 224 (fun q => ze_CD (q 0) (q 1) (q 2) (q 3))) (x_EV : zj_is w 220 (fun q => ze_EV (q 0) (q 1) (q 2) (q 3) (q 4) (q 5) (q 6) (q 7) (q 8) (q 9))) (x_OL : zj_is w 86 (fun q => zo_ol (q 0) (q 1) (q 2) (q 3))) : zq_okG1 w ze_m147rp := by
  refine ⟨rfl, rfl, zu_fac ⟨rfl, by decide⟩ zq_fan, ?_⟩
  intro r P h H hM
  have q0 : zq_ev r (2147483648, [(6, 1)]) = r 6 + 2147483648 := zu_e2 _ _ _
  have q1 : zq_ev r (2147483648, [(6, -1)]) = -r 6 + 2147483648 := zu_e5 _ _ _
  have q2 : zq_ev r (2147483648, [(9, 1)]) = r 9 + 2147483648 := zu_e2 _ _ _
  have q3 : zq_ev r (2147483648, [(9, -1)]) = -r 9 + 2147483648 := zu_e5 _ _ _
  have q4 : zq_ev r (-1, [(9, 1)]) = r 9 - 1 := zu_e3 _ _ _
  have q5 : zq_ev r (1000000000, [(11, 1)]) = r 11 + 1000000000 := zu_e2 _ _ _
  have q6 : zq_ev r (1000000000, [(11, -1)]) = -r 11 + 1000000000 := zu_e5 _ _ _
  have q7 : zq_ev r (1, []) = 1 := zu_e0 _ _
  have q8 : zq_ev r (2, []) = 2 := zu_e0 _ _
  have q9 : zq_ev r (0, [(0, 1)]) = r 0 := zu_e1 _ _
  have q10 : zq_ev r (0, [(1, 1)]) = r 1 := zu_e1 _ _
  have q11 : zq_ev r (0, [(2, 1)]) = r 2 := zu_e1 _ _
  have q12 : zq_ev r (0, [(3, 1)]) = r 3 := zu_e1 _ _
  have q13 : zq_ev r (0, [(4, 1)]) = r 4 := zu_e1 _ _
  have q14 : zq_ev r (0, [(5, 1)]) = r 5 := zu_e1 _ _
  have q15 : zq_ev r (0, [(6, 1)]) = r 6 := zu_e1 _ _
  have q16 : zq_ev r (0, [(7, 1)]) = r 7 := zu_e1 _ _
  have q17 : zq_ev r (0, [(8, 1)]) = r 8 := zu_e1 _ _
  have q18 : zq_ev r (147, []) = 147 := zu_e0 _ _
  have q19 : zq_ev r (0, []) = 0 := zu_e0 _ _
  have q20 : zq_ev r (1, [(8, 1)]) = r 8 + 1 := zu_e2 _ _ _
  have q21 : zq_ev r (0, [(9, 1)]) = r 9 := zu_e1 _ _
  have q22 : zq_ev r (0, [(10, 1)]) = r 10 := zu_e1 _ _
  have q23 : zq_ev r (3, []) = 3 := zu_e0 _ _
  have q24 : zq_ev r (0, [(11, 1)]) = r 11 := zu_e1 _ _
  obtain ⟨hT, hC, hF, hS, -, hK⟩ := hM
  have c := hC.1
  have a1 := zq_all_1 c
  rw [q0] at a1
  have c := zq_all_t c
  have a2 := zq_all_1 c
  rw [q1] at a2
  have c := zq_all_t c
  have a3 := zq_all_1 c
  rw [q2] at a3
  have c := zq_all_t c
  have a4 := zq_all_1 c
  rw [q3] at a4
  have c := zq_all_t c
  have a5 := zq_all_1 c
  rw [q4] at a5
  have c := zq_all_t c
  have a6 := zq_all_1 c
  rw [q5] at a6
  have c := zq_all_t c
  have a7 := zq_all_1 c
  rw [q6] at a7
  have k1 := zj_use x_SL (hK)
  have k1 : ze_SL (zq_ev r (1, [])) (zq_ev r (2, [])) (zq_ev r (0, [(0, 1)])) (zq_ev r (0, [(1, 1)])) (zq_ev r (0, [(2, 1)])) (zq_ev r (0, [(3, 1)])) (zq_ev r (0, [(4, 1)])) (zq_ev r (0, [(5, 1)])) (zq_ev r (0, [(6, 1)])) (zq_ev r (0, [(7, 1)])) (zq_ev r (0, [(8, 1)])) P h := k1
  simp only [q10, q11, q12, q13, q14, q15, q16, q17, q7, q8, q9] at k1
  have k2 := zj_use x_CD (zq_okX_t (hK))
  have k2 : ze_CD (zq_ev r (0, [(0, 1)])) (zq_ev r (0, [(1, 1)])) (zq_ev r (0, [(8, 1)])) (zq_ev r (147, [])) P h := k2
  simp only [q10, q17, q18, q9] at k2
  have k3 := zj_use x_EV (zq_okX_t (zq_okX_t (hK)))
  have k3 : ze_EV (zq_ev r (0, [])) (zq_ev r (0, [(0, 1)])) (zq_ev r (0, [(1, 1)])) (zq_ev r (0, [(2, 1)])) (zq_ev r (0, [(3, 1)])) (zq_ev r (0, [(7, 1)])) (zq_ev r (1, [(8, 1)])) (zq_ev r (0, [(9, 1)])) (zq_ev r (0, [])) (zq_ev r (0, [(10, 1)])) P h := k3
  simp only [q10, q11, q12, q16, q19, q20, q21, q22, q9] at k3
  have k4 := zj_use x_OL (zq_okX_t (zq_okX_t (zq_okX_t (hK))))
  have k4 : zo_ol (zq_ev r (3, [])) (zq_ev r (0, [(6, 1)])) (zq_ev r (0, [(9, 1)])) (zq_ev r (0, [(11, 1)])) P h := k4
  simp only [q15, q21, q23, q24] at k4
  obtain t1 := ze_m147rp_l (P := P) (h := h) (g := r 0) (n := r 1) (o := r 2) (W := r 3) (b := r 4) (p := r 5) (a := r 6) (c := r 7) (q := r 8) (w := r 9) (x := r 10) (u := r 11) a1 a2 a3 a4 a5 a6 a7 k1 k2 k3 k4
  obtain ⟨rq, hr⟩ : ∃ rq : Nat → Int, (∀ i, i < 12 → rq i = r i) := ⟨r, fun i hi => rfl⟩
  have v0 : rq 0 = r 0 := hr 0 (by decide)
  have v1 : rq 1 = r 1 := hr 1 (by decide)
  have v2 : rq 2 = r 2 := hr 2 (by decide)
  have v3 : rq 3 = r 3 := hr 3 (by decide)
  have v4 : rq 4 = r 4 := hr 4 (by decide)
  have v5 : rq 5 = r 5 := hr 5 (by decide)
  have v10 : rq 10 = r 10 := hr 10 (by decide)
  have v11 : rq 11 = r 11 := hr 11 (by decide)
  have g0 : zq_ev rq (1, []) = 1 := zu_e0 _ _
  have g1 : zq_ev rq (2, []) = 2 := zu_e0 _ _
  have g2 : zq_ev rq (0, [(0, 1)]) = r 0 := zu_f1 v0
  have g3 : zq_ev rq (0, [(1, 1)]) = r 1 := zu_f1 v1
  have g4 : zq_ev rq (0, [(2, 1)]) = r 2 := zu_f1 v2
  have g5 : zq_ev rq (0, [(3, 1)]) = r 3 := zu_f1 v3
  have g6 : zq_ev rq (0, [(4, 1)]) = r 4 := zu_f1 v4
  have g7 : zq_ev rq (0, [(5, 1)]) = r 5 := zu_f1 v5
  have g8 : zq_ev rq (0, [(11, 1)]) = r 11 := zu_f1 v11
  have g9 : zq_ev rq (0, []) = 0 := zu_e0 _ _
  have g10 : zq_ev rq (0, [(10, 1)]) = r 10 := zu_f1 v10
  exact ⟨_, List.mem_cons_self .., rq, hr, zq_MeS_mk rfl hT (zq_all_nil) zq_fan (zq_fan) rfl (zu_fac ((x_SL _ _ _).mpr (by show ze_SL (zq_ev rq (1, [])) (zq_ev rq (2, [])) (zq_ev rq (0, [(0, 1)])) (zq_ev rq (0, [(1, 1)])) (zq_ev rq (0, [(2, 1)])) (zq_ev rq (0, [(3, 1)])) (zq_ev rq (0, [(4, 1)])) (zq_ev rq (0, [(5, 1)])) (zq_ev rq (0, [(11, 1)])) (zq_ev rq (0, [])) (zq_ev rq (0, [(10, 1)])) P h; simp only [g0, g1, g10, g2, g3, g4, g5, g6, g7, g8, g9]; exact t1)) zq_fan)⟩
noncomputable def ze_m147tm : zq_S × List zq_S := (([], [], [(2147483648, [(6, 1)]), (2147483648, [(6, -1)]), (2147483648, [(9, 1)]), (2147483648, [(9, -1)]), (-1, [(9, -1)]), (-1000000001, [(11, 1)])], [], [], [], [(222, [(1, []), (2, []), (0, [(0, 1)]), (0, [(1, 1)]), (0, [(2, 1)]), (0, [(3, 1)]), (0, [(4, 1)]), (0, [(5, 1)]), (0, [(6, 1)]), (0, [(7, 1)]), (0, [(8, 1)])]), (224, [(0, [(0, 1)]), (0, [(1, 1)]), (0, [(8, 1)]), (147, [])]), (220, [(0, []), (0, [(0, 1)]), (0, [(1, 1)]), (0, [(2, 1)]), (0, [(3, 1)]), (0, [(7, 1)]), (1, [(8, 1)]), (0, [(9, 1)]), (0, []), (0, [(10, 1)])]), (86, [(3, []), (0, [(6, 1)]), (0, [(9, 1)]), (0, [(11, 1)])])], 12), [([], [], [], [], [], [], [(222, [(1, []), (2, []), (0, [(0, 1)]), (0, [(1, 1)]), (0, [(2, 1)]), (0, [(3, 1)]), (0, [(4, 1)]), (0, [(5, 1)]), (0, []), (1, []), (0, [(10, 1)])])], 12)])
theorem ze_m147tm_l {P : zq_Ty} {h : zq_H} {g n o W b p a c q w x u : Int} (a1 : 0 ≤ a + 2147483648) (a2 : 0 ≤ -a + 2147483648) (a3 : 0 ≤ w + 2147483648) (a4 : 0 ≤ -w + 2147483648) (a5 : 0 ≤ -w - 1) (a6 : 0 ≤ u - 1000000001) (k1 : ze_SL 1 2 g n o W b p a c q P h) (k2 : ze_CD g n q 147 P h) (k3 : ze_EV 0 g n o W c (q + 1) w 0 x P h) (k4 : zo_ol 3 a w u P h) : (ze_SL 1 2 g n o W b p 0 1 x P h) := by
  have k4 : u = zq_fun 1 3 a w := k4
  have hu : u = a.tdiv w := ze_tdiv64 k4 (by omega) (by omega)
  intro r d e h2
  have k2 : 147 = ze_c g n q := k2
  refine k1 r d e (ze_tl_go (by rw [← k2]; decide) k3 ?_)
  rw [← k2]
  unfold ze_m
  rw [decide_eq_false (show ¬ w = 0 by omega), Bool.and_false]
  simp only [cond_false]
  have z2 : ze_op 147 a w = u := by rw [hu]; rfl
  rw [z2, ze_bd_t (ze_out_t (Or.inl (by omega)))]
  exact h2
theorem ze_m147tm_ok {w : zq_Wd} (x_SL : zj_is w 222 (fun q => ze_SL (q 0) (q 1) (q 2) (q 3) (q 4) (q 5) (q 6) (q 7) (q 8) (q 9) (q 10))) (x_CD : zj_is w 224 (fun q => ze_CD (q 0) (q 1) (q 2) (q 3))) (x_EV : zj_is w 220 (fun q => ze_EV (q 0) (q 1) (q 2) (q 3) (q 4) (q 5) (q 6) (q 7) (q 8) (q 9))) (x_OL : zj_is w 86 (fun q => zo_ol (q 0) (q 1) (q 2) (q 3))) : zq_okG1 w ze_m147tm := by
  refine ⟨rfl, rfl, zu_fac ⟨rfl, by decide⟩ zq_fan, ?_⟩
  intro r P h H hM
  have q0 : zq_ev r (2147483648, [(6, 1)]) = r 6 + 2147483648 := zu_e2 _ _ _
  have q1 : zq_ev r (2147483648, [(6, -1)]) = -r 6 + 2147483648 := zu_e5 _ _ _
  have q2 : zq_ev r (2147483648, [(9, 1)]) = r 9 + 2147483648 := zu_e2 _ _ _
  have q3 : zq_ev r (2147483648, [(9, -1)]) = -r 9 + 2147483648 := zu_e5 _ _ _
  have q4 : zq_ev r (-1, [(9, -1)]) = -r 9 - 1 := zu_e6 _ _ _
  have q5 : zq_ev r (-1000000001, [(11, 1)]) = r 11 - 1000000001 := zu_e3 _ _ _
  have q6 : zq_ev r (1, []) = 1 := zu_e0 _ _
  have q7 : zq_ev r (2, []) = 2 := zu_e0 _ _
  have q8 : zq_ev r (0, [(0, 1)]) = r 0 := zu_e1 _ _
  have q9 : zq_ev r (0, [(1, 1)]) = r 1 := zu_e1 _ _
  have q10 : zq_ev r (0, [(2, 1)]) = r 2 := zu_e1 _ _
  have q11 : zq_ev r (0, [(3, 1)]) = r 3 := zu_e1 _ _
  have q12 : zq_ev r (0, [(4, 1)]) = r 4 := zu_e1 _ _
  have q13 : zq_ev r (0, [(5, 1)]) = r 5 := zu_e1 _ _
  have q14 : zq_ev r (0, [(6, 1)]) = r 6 := zu_e1 _ _
  have q15 : zq_ev r (0, [(7, 1)]) = r 7 := zu_e1 _ _
  have q16 : zq_ev r (0, [(8, 1)]) = r 8 := zu_e1 _ _
  have q17 : zq_ev r (147, []) = 147 := zu_e0 _ _
  have q18 : zq_ev r (0, []) = 0 := zu_e0 _ _
  have q19 : zq_ev r (1, [(8, 1)]) = r 8 + 1 := zu_e2 _ _ _
  have q20 : zq_ev r (0, [(9, 1)]) = r 9 := zu_e1 _ _
  have q21 : zq_ev r (0, [(10, 1)]) = r 10 := zu_e1 _ _
  have q22 : zq_ev r (3, []) = 3 := zu_e0 _ _
  have q23 : zq_ev r (0, [(11, 1)]) = r 11 := zu_e1 _ _
  obtain ⟨hT, hC, hF, hS, -, hK⟩ := hM
  have c := hC.1
  have a1 := zq_all_1 c
  rw [q0] at a1
  have c := zq_all_t c
  have a2 := zq_all_1 c
  rw [q1] at a2
  have c := zq_all_t c
  have a3 := zq_all_1 c
  rw [q2] at a3
  have c := zq_all_t c
  have a4 := zq_all_1 c
  rw [q3] at a4
  have c := zq_all_t c
  have a5 := zq_all_1 c
  rw [q4] at a5
  have c := zq_all_t c
  have a6 := zq_all_1 c
  rw [q5] at a6
  have k1 := zj_use x_SL (hK)
  have k1 : ze_SL (zq_ev r (1, [])) (zq_ev r (2, [])) (zq_ev r (0, [(0, 1)])) (zq_ev r (0, [(1, 1)])) (zq_ev r (0, [(2, 1)])) (zq_ev r (0, [(3, 1)])) (zq_ev r (0, [(4, 1)])) (zq_ev r (0, [(5, 1)])) (zq_ev r (0, [(6, 1)])) (zq_ev r (0, [(7, 1)])) (zq_ev r (0, [(8, 1)])) P h := k1
  simp only [q10, q11, q12, q13, q14, q15, q16, q6, q7, q8, q9] at k1
  have k2 := zj_use x_CD (zq_okX_t (hK))
  have k2 : ze_CD (zq_ev r (0, [(0, 1)])) (zq_ev r (0, [(1, 1)])) (zq_ev r (0, [(8, 1)])) (zq_ev r (147, [])) P h := k2
  simp only [q16, q17, q8, q9] at k2
  have k3 := zj_use x_EV (zq_okX_t (zq_okX_t (hK)))
  have k3 : ze_EV (zq_ev r (0, [])) (zq_ev r (0, [(0, 1)])) (zq_ev r (0, [(1, 1)])) (zq_ev r (0, [(2, 1)])) (zq_ev r (0, [(3, 1)])) (zq_ev r (0, [(7, 1)])) (zq_ev r (1, [(8, 1)])) (zq_ev r (0, [(9, 1)])) (zq_ev r (0, [])) (zq_ev r (0, [(10, 1)])) P h := k3
  simp only [q10, q11, q15, q18, q19, q20, q21, q8, q9] at k3
  have k4 := zj_use x_OL (zq_okX_t (zq_okX_t (zq_okX_t (hK))))
  have k4 : zo_ol (zq_ev r (3, [])) (zq_ev r (0, [(6, 1)])) (zq_ev r (0, [(9, 1)])) (zq_ev r (0, [(11, 1)])) P h := k4
  simp only [q14, q20, q22, q23] at k4
  obtain t1 := ze_m147tm_l (P := P) (h := h) (g := r 0) (n := r 1) (o := r 2) (W := r 3) (b := r 4) (p := r 5) (a := r 6) (c := r 7) (q := r 8) (w := r 9) (x := r 10) (u := r 11) a1 a2 a3 a4 a5 a6 k1 k2 k3 k4
  obtain ⟨rq, hr⟩ : ∃ rq : Nat → Int, (∀ i, i < 12 → rq i = r i) := ⟨r, fun i hi => rfl⟩
  have v0 : rq 0 = r 0 := hr 0 (by decide)
  have v1 : rq 1 = r 1 := hr 1 (by decide)
  have v2 : rq 2 = r 2 := hr 2 (by decide)
  have v3 : rq 3 = r 3 := hr 3 (by decide)
  have v4 : rq 4 = r 4 := hr 4 (by decide)
  have v5 : rq 5 = r 5 := hr 5 (by decide)
  have v10 : rq 10 = r 10 := hr 10 (by decide)
  have g0 : zq_ev rq (1, []) = 1 := zu_e0 _ _
  have g1 : zq_ev rq (2, []) = 2 := zu_e0 _ _
  have g2 : zq_ev rq (0, [(0, 1)]) = r 0 := zu_f1 v0
  have g3 : zq_ev rq (0, [(1, 1)]) = r 1 := zu_f1 v1
  have g4 : zq_ev rq (0, [(2, 1)]) = r 2 := zu_f1 v2
  have g5 : zq_ev rq (0, [(3, 1)]) = r 3 := zu_f1 v3
  have g6 : zq_ev rq (0, [(4, 1)]) = r 4 := zu_f1 v4
  have g7 : zq_ev rq (0, [(5, 1)]) = r 5 := zu_f1 v5
  have g8 : zq_ev rq (0, []) = 0 := zu_e0 _ _
  have g9 : zq_ev rq (0, [(10, 1)]) = r 10 := zu_f1 v10
  exact ⟨_, List.mem_cons_self .., rq, hr, zq_MeS_mk rfl hT (zq_all_nil) zq_fan (zq_fan) rfl (zu_fac ((x_SL _ _ _).mpr (by show ze_SL (zq_ev rq (1, [])) (zq_ev rq (2, [])) (zq_ev rq (0, [(0, 1)])) (zq_ev rq (0, [(1, 1)])) (zq_ev rq (0, [(2, 1)])) (zq_ev rq (0, [(3, 1)])) (zq_ev rq (0, [(4, 1)])) (zq_ev rq (0, [(5, 1)])) (zq_ev rq (0, [])) (zq_ev rq (1, [])) (zq_ev rq (0, [(10, 1)])) P h; simp only [g0, g1, g2, g3, g4, g5, g6, g7, g8, g9]; exact t1)) zq_fan)⟩
noncomputable def ze_m147um : zq_S × List zq_S := (([], [], [(2147483648, [(6, 1)]), (2147483648, [(6, -1)]), (2147483648, [(9, 1)]), (2147483648, [(9, -1)]), (-1, [(9, -1)]), (-1000000001, [(11, -1)])], [], [], [], [(222, [(1, []), (2, []), (0, [(0, 1)]), (0, [(1, 1)]), (0, [(2, 1)]), (0, [(3, 1)]), (0, [(4, 1)]), (0, [(5, 1)]), (0, [(6, 1)]), (0, [(7, 1)]), (0, [(8, 1)])]), (224, [(0, [(0, 1)]), (0, [(1, 1)]), (0, [(8, 1)]), (147, [])]), (220, [(0, []), (0, [(0, 1)]), (0, [(1, 1)]), (0, [(2, 1)]), (0, [(3, 1)]), (0, [(7, 1)]), (1, [(8, 1)]), (0, [(9, 1)]), (0, []), (0, [(10, 1)])]), (86, [(3, []), (0, [(6, 1)]), (0, [(9, 1)]), (0, [(11, 1)])])], 12), [([], [], [], [], [], [], [(222, [(1, []), (2, []), (0, [(0, 1)]), (0, [(1, 1)]), (0, [(2, 1)]), (0, [(3, 1)]), (0, [(4, 1)]), (0, [(5, 1)]), (0, []), (1, []), (0, [(10, 1)])])], 12)])
theorem ze_m147um_l {P : zq_Ty} {h : zq_H} {g n o W b p a c q w x u : Int} (a1 : 0 ≤ a + 2147483648) (a2 : 0 ≤ -a + 2147483648) (a3 : 0 ≤ w + 2147483648) (a4 : 0 ≤ -w + 2147483648) (a5 : 0 ≤ -w - 1) (a6 : 0 ≤ -u - 1000000001) (k1 : ze_SL 1 2 g n o W b p a c q P h) (k2 : ze_CD g n q 147 P h) (k3 : ze_EV 0 g n o W c (q + 1) w 0 x P h) (k4 : zo_ol 3 a w u P h) : (ze_SL 1 2 g n o W b p 0 1 x P h) := by
  have k4 : u = zq_fun 1 3 a w := k4
  have hu : u = a.tdiv w := ze_tdiv64 k4 (by omega) (by omega)
  intro r d e h2
  have k2 : 147 = ze_c g n q := k2
  refine k1 r d e (ze_tl_go (by rw [← k2]; decide) k3 ?_)
  rw [← k2]
  unfold ze_m
  rw [decide_eq_false (show ¬ w = 0 by omega), Bool.and_false]
  simp only [cond_false]
  have z2 : ze_op 147 a w = u := by rw [hu]; rfl
  rw [z2, ze_bd_t (ze_out_t (Or.inr (by omega)))]
  exact h2
theorem ze_m147um_ok {w : zq_Wd} (x_SL : zj_is w 222 (fun q => ze_SL (q 0) (q 1) (q 2) (q 3) (q 4) (q 5) (q 6) (q 7) (q 8) (q 9) (q 10))) (x_CD : zj_is w 224 (fun q => ze_CD (q 0) (q 1) (q 2) (q 3))) (x_EV : zj_is w 220 (fun q => ze_EV (q 0) (q 1) (q 2) (q 3) (q 4) (q 5) (q 6) (q 7) (q 8) (q 9))) (x_OL : zj_is w 86 (fun q => zo_ol (q 0) (q 1) (q 2) (q 3))) : zq_okG1 w ze_m147um := by
  refine ⟨rfl, rfl, zu_fac ⟨rfl, by decide⟩ zq_fan, ?_⟩
  intro r P h H hM
  have q0 : zq_ev r (2147483648, [(6, 1)]) = r 6 + 2147483648 := zu_e2 _ _ _
  have q1 : zq_ev r (2147483648, [(6, -1)]) = -r 6 + 2147483648 := zu_e5 _ _ _
  have q2 : zq_ev r (2147483648, [(9, 1)]) = r 9 + 2147483648 := zu_e2 _ _ _
  have q3 : zq_ev r (2147483648, [(9, -1)]) = -r 9 + 2147483648 := zu_e5 _ _ _
  have q4 : zq_ev r (-1, [(9, -1)]) = -r 9 - 1 := zu_e6 _ _ _
  have q5 : zq_ev r (-1000000001, [(11, -1)]) = -r 11 - 1000000001 := zu_e6 _ _ _
  have q6 : zq_ev r (1, []) = 1 := zu_e0 _ _
  have q7 : zq_ev r (2, []) = 2 := zu_e0 _ _
  have q8 : zq_ev r (0, [(0, 1)]) = r 0 := zu_e1 _ _
  have q9 : zq_ev r (0, [(1, 1)]) = r 1 := zu_e1 _ _
  have q10 : zq_ev r (0, [(2, 1)]) = r 2 := zu_e1 _ _
  have q11 : zq_ev r (0, [(3, 1)]) = r 3 := zu_e1 _ _
  have q12 : zq_ev r (0, [(4, 1)]) = r 4 := zu_e1 _ _
  have q13 : zq_ev r (0, [(5, 1)]) = r 5 := zu_e1 _ _
  have q14 : zq_ev r (0, [(6, 1)]) = r 6 := zu_e1 _ _
  have q15 : zq_ev r (0, [(7, 1)]) = r 7 := zu_e1 _ _
  have q16 : zq_ev r (0, [(8, 1)]) = r 8 := zu_e1 _ _
  have q17 : zq_ev r (147, []) = 147 := zu_e0 _ _
  have q18 : zq_ev r (0, []) = 0 := zu_e0 _ _
  have q19 : zq_ev r (1, [(8, 1)]) = r 8 + 1 := zu_e2 _ _ _
  have q20 : zq_ev r (0, [(9, 1)]) = r 9 := zu_e1 _ _
  have q21 : zq_ev r (0, [(10, 1)]) = r 10 := zu_e1 _ _
  have q22 : zq_ev r (3, []) = 3 := zu_e0 _ _
  have q23 : zq_ev r (0, [(11, 1)]) = r 11 := zu_e1 _ _
  obtain ⟨hT, hC, hF, hS, -, hK⟩ := hM
  have c := hC.1
  have a1 := zq_all_1 c
  rw [q0] at a1
  have c := zq_all_t c
  have a2 := zq_all_1 c
  rw [q1] at a2
  have c := zq_all_t c
  have a3 := zq_all_1 c
  rw [q2] at a3
  have c := zq_all_t c
  have a4 := zq_all_1 c
  rw [q3] at a4
  have c := zq_all_t c
  have a5 := zq_all_1 c
  rw [q4] at a5
  have c := zq_all_t c
  have a6 := zq_all_1 c
  rw [q5] at a6
  have k1 := zj_use x_SL (hK)
  have k1 : ze_SL (zq_ev r (1, [])) (zq_ev r (2, [])) (zq_ev r (0, [(0, 1)])) (zq_ev r (0, [(1, 1)])) (zq_ev r (0, [(2, 1)])) (zq_ev r (0, [(3, 1)])) (zq_ev r (0, [(4, 1)])) (zq_ev r (0, [(5, 1)])) (zq_ev r (0, [(6, 1)])) (zq_ev r (0, [(7, 1)])) (zq_ev r (0, [(8, 1)])) P h := k1
  simp only [q10, q11, q12, q13, q14, q15, q16, q6, q7, q8, q9] at k1
  have k2 := zj_use x_CD (zq_okX_t (hK))
  have k2 : ze_CD (zq_ev r (0, [(0, 1)])) (zq_ev r (0, [(1, 1)])) (zq_ev r (0, [(8, 1)])) (zq_ev r (147, [])) P h := k2
  simp only [q16, q17, q8, q9] at k2
  have k3 := zj_use x_EV (zq_okX_t (zq_okX_t (hK)))
  have k3 : ze_EV (zq_ev r (0, [])) (zq_ev r (0, [(0, 1)])) (zq_ev r (0, [(1, 1)])) (zq_ev r (0, [(2, 1)])) (zq_ev r (0, [(3, 1)])) (zq_ev r (0, [(7, 1)])) (zq_ev r (1, [(8, 1)])) (zq_ev r (0, [(9, 1)])) (zq_ev r (0, [])) (zq_ev r (0, [(10, 1)])) P h := k3
  simp only [q10, q11, q15, q18, q19, q20, q21, q8, q9] at k3
  have k4 := zj_use x_OL (zq_okX_t (zq_okX_t (zq_okX_t (hK))))
  have k4 : zo_ol (zq_ev r (3, [])) (zq_ev r (0, [(6, 1)])) (zq_ev r (0, [(9, 1)])) (zq_ev r (0, [(11, 1)])) P h := k4
  simp only [q14, q20, q22, q23] at k4
  obtain t1 := ze_m147um_l (P := P) (h := h) (g := r 0) (n := r 1) (o := r 2) (W := r 3) (b := r 4) (p := r 5) (a := r 6) (c := r 7) (q := r 8) (w := r 9) (x := r 10) (u := r 11) a1 a2 a3 a4 a5 a6 k1 k2 k3 k4
  obtain ⟨rq, hr⟩ : ∃ rq : Nat → Int, (∀ i, i < 12 → rq i = r i) := ⟨r, fun i hi => rfl⟩
  have v0 : rq 0 = r 0 := hr 0 (by decide)
  have v1 : rq 1 = r 1 := hr 1 (by decide)
  have v2 : rq 2 = r 2 := hr 2 (by decide)
  have v3 : rq 3 = r 3 := hr 3 (by decide)
  have v4 : rq 4 = r 4 := hr 4 (by decide)
  have v5 : rq 5 = r 5 := hr 5 (by decide)
  have v10 : rq 10 = r 10 := hr 10 (by decide)
  have g0 : zq_ev rq (1, []) = 1 := zu_e0 _ _
  have g1 : zq_ev rq (2, []) = 2 := zu_e0 _ _
  have g2 : zq_ev rq (0, [(0, 1)]) = r 0 := zu_f1 v0
  have g3 : zq_ev rq (0, [(1, 1)]) = r 1 := zu_f1 v1
  have g4 : zq_ev rq (0, [(2, 1)]) = r 2 := zu_f1 v2
  have g5 : zq_ev rq (0, [(3, 1)]) = r 3 := zu_f1 v3
  have g6 : zq_ev rq (0, [(4, 1)]) = r 4 := zu_f1 v4
  have g7 : zq_ev rq (0, [(5, 1)]) = r 5 := zu_f1 v5
  have g8 : zq_ev rq (0, []) = 0 := zu_e0 _ _
  have g9 : zq_ev rq (0, [(10, 1)]) = r 10 := zu_f1 v10
  exact ⟨_, List.mem_cons_self .., rq, hr, zq_MeS_mk rfl hT (zq_all_nil) zq_fan (zq_fan) rfl (zu_fac ((x_SL _ _ _).mpr (by show ze_SL (zq_ev rq (1, [])) (zq_ev rq (2, [])) (zq_ev rq (0, [(0, 1)])) (zq_ev rq (0, [(1, 1)])) (zq_ev rq (0, [(2, 1)])) (zq_ev rq (0, [(3, 1)])) (zq_ev rq (0, [(4, 1)])) (zq_ev rq (0, [(5, 1)])) (zq_ev rq (0, [])) (zq_ev rq (1, [])) (zq_ev rq (0, [(10, 1)])) P h; simp only [g0, g1, g2, g3, g4, g5, g6, g7, g8, g9]; exact t1)) zq_fan)⟩
noncomputable def ze_m147rm : zq_S × List zq_S := (([], [], [(2147483648, [(6, 1)]), (2147483648, [(6, -1)]), (2147483648, [(9, 1)]), (2147483648, [(9, -1)]), (-1, [(9, -1)]), (1000000000, [(11, 1)]), (1000000000, [(11, -1)])], [], [], [], [(222, [(1, []), (2, []), (0, [(0, 1)]), (0, [(1, 1)]), (0, [(2, 1)]), (0, [(3, 1)]), (0, [(4, 1)]), (0, [(5, 1)]), (0, [(6, 1)]), (0, [(7, 1)]), (0, [(8, 1)])]), (224, [(0, [(0, 1)]), (0, [(1, 1)]), (0, [(8, 1)]), (147, [])]), (220, [(0, []), (0, [(0, 1)]), (0, [(1, 1)]), (0, [(2, 1)]), (0, [(3, 1)]), (0, [(7, 1)]), (1, [(8, 1)]), (0, [(9, 1)]), (0, []), (0, [(10, 1)])]), (86, [(3, []), (0, [(6, 1)]), (0, [(9, 1)]), (0, [(11, 1)])])], 12), [([], [], [], [], [], [], [(222, [(1, []), (2, []), (0, [(0, 1)]), (0, [(1, 1)]), (0, [(2, 1)]), (0, [(3, 1)]), (0, [(4, 1)]), (0, [(5, 1)]), (0, [(11, 1)]), (0, []), (0, [(10, 1)])])], 12)])
theorem ze_m147rm_l {P : zq_Ty} {h : zq_H} {g n o W b p a c q w x u : Int} (a1 : 0 ≤ a + 2147483648) (a2 : 0 ≤ -a + 2147483648) (a3 : 0 ≤ w + 2147483648) (a4 : 0 ≤ -w + 2147483648) (a5 : 0 ≤ -w - 1) (a6 : 0 ≤ u + 1000000000) (a7 : 0 ≤ -u + 1000000000) (k1 : ze_SL 1 2 g n o W b p a c q P h) (k2 : ze_CD g n q 147 P h) (k3 : ze_EV 0 g n o W c (q + 1) w 0 x P h) (k4 : zo_ol 3 a w u P h) : (ze_SL 1 2 g n o W b p u 0 x P h) := by
  have k4 : u = zq_fun 1 3 a w := k4
  have hu : u = a.tdiv w := ze_tdiv64 k4 (by omega) (by omega)
  intro r d e h2
  have k2 : 147 = ze_c g n q := k2
  refine k1 r d e (ze_tl_go (by rw [← k2]; decide) k3 ?_)
  rw [← k2]
  unfold ze_m
  rw [decide_eq_false (show ¬ w = 0 by omega), Bool.and_false]
  simp only [cond_false]
  have z2 : ze_op 147 a w = u := by rw [hu]; rfl
  rw [z2, ze_on0, ze_bd_f (ze_out_f (by omega) (by omega))]
  exact h2
theorem ze_m147rm_ok {w : zq_Wd} (x_SL : zj_is w 222 (fun q => ze_SL (q 0) (q 1) (q 2) (q 3) (q 4) (q 5) (q 6) (q 7) (q 8) (q 9) (q 10))) (x_CD : zj_is w 224 (fun q => ze_CD (q 0) (q 1) (q 2) (q 3))) (x_EV : zj_is w 220 (fun q => ze_EV (q 0) (q 1) (q 2) (q 3) (q 4) (q 5) (q 6) (q 7) (q 8) (q 9))) (x_OL : zj_is w 86 (fun q => zo_ol (q 0) (q 1) (q 2) (q 3))) : zq_okG1 w ze_m147rm := by
  refine ⟨rfl, rfl, zu_fac ⟨rfl, by decide⟩ zq_fan, ?_⟩
  intro r P h H hM
  have q0 : zq_ev r (2147483648, [(6, 1)]) = r 6 + 2147483648 := zu_e2 _ _ _
  have q1 : zq_ev r (2147483648, [(6, -1)]) = -r 6 + 2147483648 := zu_e5 _ _ _
  have q2 : zq_ev r (2147483648, [(9, 1)]) = r 9 + 2147483648 := zu_e2 _ _ _
  have q3 : zq_ev r (2147483648, [(9, -1)]) = -r 9 + 2147483648 := zu_e5 _ _ _
  have q4 : zq_ev r (-1, [(9, -1)]) = -r 9 - 1 := zu_e6 _ _ _
  have q5 : zq_ev r (1000000000, [(11, 1)]) = r 11 + 1000000000 := zu_e2 _ _ _
  have q6 : zq_ev r (1000000000, [(11, -1)]) = -r 11 + 1000000000 := zu_e5 _ _ _
  have q7 : zq_ev r (1, []) = 1 := zu_e0 _ _
  have q8 : zq_ev r (2, []) = 2 := zu_e0 _ _
  have q9 : zq_ev r (0, [(0, 1)]) = r 0 := zu_e1 _ _
  have q10 : zq_ev r (0, [(1, 1)]) = r 1 := zu_e1 _ _
  have q11 : zq_ev r (0, [(2, 1)]) = r 2 := zu_e1 _ _
  have q12 : zq_ev r (0, [(3, 1)]) = r 3 := zu_e1 _ _
  have q13 : zq_ev r (0, [(4, 1)]) = r 4 := zu_e1 _ _
  have q14 : zq_ev r (0, [(5, 1)]) = r 5 := zu_e1 _ _
  have q15 : zq_ev r (0, [(6, 1)]) = r 6 := zu_e1 _ _
  have q16 : zq_ev r (0, [(7, 1)]) = r 7 := zu_e1 _ _
  have q17 : zq_ev r (0, [(8, 1)]) = r 8 := zu_e1 _ _
  have q18 : zq_ev r (147, []) = 147 := zu_e0 _ _
  have q19 : zq_ev r (0, []) = 0 := zu_e0 _ _
  have q20 : zq_ev r (1, [(8, 1)]) = r 8 + 1 := zu_e2 _ _ _
  have q21 : zq_ev r (0, [(9, 1)]) = r 9 := zu_e1 _ _
  have q22 : zq_ev r (0, [(10, 1)]) = r 10 := zu_e1 _ _
  have q23 : zq_ev r (3, []) = 3 := zu_e0 _ _
  have q24 : zq_ev r (0, [(11, 1)]) = r 11 := zu_e1 _ _
  obtain ⟨hT, hC, hF, hS, -, hK⟩ := hM
  have c := hC.1
  have a1 := zq_all_1 c
  rw [q0] at a1
  have c := zq_all_t c
  have a2 := zq_all_1 c
  rw [q1] at a2
  have c := zq_all_t c
  have a3 := zq_all_1 c
  rw [q2] at a3
  have c := zq_all_t c
  have a4 := zq_all_1 c
  rw [q3] at a4
  have c := zq_all_t c
  have a5 := zq_all_1 c
  rw [q4] at a5
  have c := zq_all_t c
  have a6 := zq_all_1 c
  rw [q5] at a6
  have c := zq_all_t c
  have a7 := zq_all_1 c
  rw [q6] at a7
  have k1 := zj_use x_SL (hK)
  have k1 : ze_SL (zq_ev r (1, [])) (zq_ev r (2, [])) (zq_ev r (0, [(0, 1)])) (zq_ev r (0, [(1, 1)])) (zq_ev r (0, [(2, 1)])) (zq_ev r (0, [(3, 1)])) (zq_ev r (0, [(4, 1)])) (zq_ev r (0, [(5, 1)])) (zq_ev r (0, [(6, 1)])) (zq_ev r (0, [(7, 1)])) (zq_ev r (0, [(8, 1)])) P h := k1
  simp only [q10, q11, q12, q13, q14, q15, q16, q17, q7, q8, q9] at k1
  have k2 := zj_use x_CD (zq_okX_t (hK))
  have k2 : ze_CD (zq_ev r (0, [(0, 1)])) (zq_ev r (0, [(1, 1)])) (zq_ev r (0, [(8, 1)])) (zq_ev r (147, [])) P h := k2
  simp only [q10, q17, q18, q9] at k2
  have k3 := zj_use x_EV (zq_okX_t (zq_okX_t (hK)))
  have k3 : ze_EV (zq_ev r (0, [])) (zq_ev r (0, [(0, 1)])) (zq_ev r (0, [(1, 1)])) (zq_ev r (0, [(2, 1)])) (zq_ev r (0, [(3, 1)])) (zq_ev r (0, [(7, 1)])) (zq_ev r (1, [(8, 1)])) (zq_ev r (0, [(9, 1)])) (zq_ev r (0, [])) (zq_ev r (0, [(10, 1)])) P h := k3
  simp only [q10, q11, q12, q16, q19, q20, q21, q22, q9] at k3
  have k4 := zj_use x_OL (zq_okX_t (zq_okX_t (zq_okX_t (hK))))
  have k4 : zo_ol (zq_ev r (3, [])) (zq_ev r (0, [(6, 1)])) (zq_ev r (0, [(9, 1)])) (zq_ev r (0, [(11, 1)])) P h := k4
  simp only [q15, q21, q23, q24] at k4
  obtain t1 := ze_m147rm_l (P := P) (h := h) (g := r 0) (n := r 1) (o := r 2) (W := r 3) (b := r 4) (p := r 5) (a := r 6) (c := r 7) (q := r 8) (w := r 9) (x := r 10) (u := r 11) a1 a2 a3 a4 a5 a6 a7 k1 k2 k3 k4
  obtain ⟨rq, hr⟩ : ∃ rq : Nat → Int, (∀ i, i < 12 → rq i = r i) := ⟨r, fun i hi => rfl⟩
  have v0 : rq 0 = r 0 := hr 0 (by decide)
  have v1 : rq 1 = r 1 := hr 1 (by decide)
  have v2 : rq 2 = r 2 := hr 2 (by decide)
  have v3 : rq 3 = r 3 := hr 3 (by decide)
  have v4 : rq 4 = r 4 := hr 4 (by decide)
  have v5 : rq 5 = r 5 := hr 5 (by decide)
  have v10 : rq 10 = r 10 := hr 10 (by decide)
  have v11 : rq 11 = r 11 := hr 11 (by decide)
  have g0 : zq_ev rq (1, []) = 1 := zu_e0 _ _
  have g1 : zq_ev rq (2, []) = 2 := zu_e0 _ _
  have g2 : zq_ev rq (0, [(0, 1)]) = r 0 := zu_f1 v0
  have g3 : zq_ev rq (0, [(1, 1)]) = r 1 := zu_f1 v1
  have g4 : zq_ev rq (0, [(2, 1)]) = r 2 := zu_f1 v2
  have g5 : zq_ev rq (0, [(3, 1)]) = r 3 := zu_f1 v3
  have g6 : zq_ev rq (0, [(4, 1)]) = r 4 := zu_f1 v4
  have g7 : zq_ev rq (0, [(5, 1)]) = r 5 := zu_f1 v5
  have g8 : zq_ev rq (0, [(11, 1)]) = r 11 := zu_f1 v11
  have g9 : zq_ev rq (0, []) = 0 := zu_e0 _ _
  have g10 : zq_ev rq (0, [(10, 1)]) = r 10 := zu_f1 v10
  exact ⟨_, List.mem_cons_self .., rq, hr, zq_MeS_mk rfl hT (zq_all_nil) zq_fan (zq_fan) rfl (zu_fac ((x_SL _ _ _).mpr (by show ze_SL (zq_ev rq (1, [])) (zq_ev rq (2, [])) (zq_ev rq (0, [(0, 1)])) (zq_ev rq (0, [(1, 1)])) (zq_ev rq (0, [(2, 1)])) (zq_ev rq (0, [(3, 1)])) (zq_ev rq (0, [(4, 1)])) (zq_ev rq (0, [(5, 1)])) (zq_ev rq (0, [(11, 1)])) (zq_ev rq (0, [])) (zq_ev rq (0, [(10, 1)])) P h; simp only [g0, g1, g10, g2, g3, g4, g5, g6, g7, g8, g9]; exact t1)) zq_fan)⟩
noncomputable def ze_m137x : zq_S × List zq_S := (([], [], [], [], [], [], [(222, [(1, []), (2, []), (0, [(0, 1)]), (0, [(1, 1)]), (0, [(2, 1)]), (0, [(3, 1)]), (0, [(4, 1)]), (0, [(5, 1)]), (0, [(6, 1)]), (0, [(7, 1)]), (0, [(8, 1)])]), (224, [(0, [(0, 1)]), (0, [(1, 1)]), (0, [(8, 1)]), (137, [])]), (220, [(0, []), (0, [(0, 1)]), (0, [(1, 1)]), (0, [(2, 1)]), (0, [(3, 1)]), (0, [(7, 1)]), (1, [(8, 1)]), (0, [(9, 1)]), (1, []), (0, [(10, 1)])])], 11), [([], [], [], [], [], [], [(222, [(1, []), (2, []), (0, [(0, 1)]), (0, [(1, 1)]), (0, [(2, 1)]), (0, [(3, 1)]), (0, [(4, 1)]), (0, [(5, 1)]), (0, []), (1, []), (0, [(10, 1)])])], 11)])
theorem ze_m137x_l {P : zq_Ty} {h : zq_H} {g n o W b p a c q w x : Int} (k1 : ze_SL 1 2 g n o W b p a c q P h) (k2 : ze_CD g n q 137 P h) (k3 : ze_EV 0 g n o W c (q + 1) w 1 x P h) : (ze_SL 1 2 g n o W b p 0 1 x P h) := by
  intro r d e h2
  have k2 : 137 = ze_c g n q := k2
  refine k1 r d e (ze_tl_go (by rw [← k2]; decide) k3 ?_)
  rw [← k2]
  unfold ze_m
  by_cases hw : w = 0
  · rw [decide_eq_true hw, show (!decide ((137 : Int) = 142) && true) = true by decide]
    simp only [cond_true]
    rw [ze_on1, Bool.true_or, ze_bd_1]
    exact h2
  · rw [decide_eq_false hw, Bool.and_false]
    simp only [cond_false]
    rw [ze_on1, ze_bd_1]
    exact h2
theorem ze_m137x_ok {w : zq_Wd} (x_SL : zj_is w 222 (fun q => ze_SL (q 0) (q 1) (q 2) (q 3) (q 4) (q 5) (q 6) (q 7) (q 8) (q 9) (q 10))) (x_CD : zj_is w 224 (fun q => ze_CD (q 0) (q 1) (q 2) (q 3))) (x_EV : zj_is w 220 (fun q => ze_EV (q 0) (q 1) (q 2) (q 3) (q 4) (q 5) (q 6) (q 7) (q 8) (q 9))) : zq_okG1 w ze_m137x := by
  refine ⟨rfl, rfl, zu_fac ⟨rfl, by decide⟩ zq_fan, ?_⟩
  intro r P h H hM
  have q0 : zq_ev r (1, []) = 1 := zu_e0 _ _
  have q1 : zq_ev r (2, []) = 2 := zu_e0 _ _
  have q2 : zq_ev r (0, [(0, 1)]) = r 0 := zu_e1 _ _
  have q3 : zq_ev r (0, [(1, 1)]) = r 1 := zu_e1 _ _
  have q4 : zq_ev r (0, [(2, 1)]) = r 2 := zu_e1 _ _
  have q5 : zq_ev r (0, [(3, 1)]) = r 3 := zu_e1 _ _
  have q6 : zq_ev r (0, [(4, 1)]) = r 4 := zu_e1 _ _
  have q7 : zq_ev r (0, [(5, 1)]) = r 5 := zu_e1 _ _
  have q8 : zq_ev r (0, [(6, 1)]) = r 6 := zu_e1 _ _
  have q9 : zq_ev r (0, [(7, 1)]) = r 7 := zu_e1 _ _
  have q10 : zq_ev r (0, [(8, 1)]) = r 8 := zu_e1 _ _
  have q11 : zq_ev r (137, []) = 137 := zu_e0 _ _
  have q12 : zq_ev r (0, []) = 0 := zu_e0 _ _
  have q13 : zq_ev r (1, [(8, 1)]) = r 8 + 1 := zu_e2 _ _ _
  have q14 : zq_ev r (0, [(9, 1)]) = r 9 := zu_e1 _ _
  have q15 : zq_ev r (0, [(10, 1)]) = r 10 := zu_e1 _ _
  obtain ⟨hT, hC, hF, hS, -, hK⟩ := hM
  have c := hC.1
  have k1 := zj_use x_SL (hK)
  have k1 : ze_SL (zq_ev r (1, [])) (zq_ev r (2, [])) (zq_ev r (0, [(0, 1)])) (zq_ev r (0, [(1, 1)])) (zq_ev r (0, [(2, 1)])) (zq_ev r (0, [(3, 1)])) (zq_ev r (0, [(4, 1)])) (zq_ev r (0, [(5, 1)])) (zq_ev r (0, [(6, 1)])) (zq_ev r (0, [(7, 1)])) (zq_ev r (0, [(8, 1)])) P h := k1
  simp only [q0, q1, q10, q2, q3, q4, q5, q6, q7, q8, q9] at k1
  have k2 := zj_use x_CD (zq_okX_t (hK))
  have k2 : ze_CD (zq_ev r (0, [(0, 1)])) (zq_ev r (0, [(1, 1)])) (zq_ev r (0, [(8, 1)])) (zq_ev r (137, [])) P h := k2
  simp only [q10, q11, q2, q3] at k2
  have k3 := zj_use x_EV (zq_okX_t (zq_okX_t (hK)))
  have k3 : ze_EV (zq_ev r (0, [])) (zq_ev r (0, [(0, 1)])) (zq_ev r (0, [(1, 1)])) (zq_ev r (0, [(2, 1)])) (zq_ev r (0, [(3, 1)])) (zq_ev r (0, [(7, 1)])) (zq_ev r (1, [(8, 1)])) (zq_ev r (0, [(9, 1)])) (zq_ev r (1, [])) (zq_ev r (0, [(10, 1)])) P h := k3
  simp only [q0, q12, q13, q14, q15, q2, q3, q4, q5, q9] at k3
  obtain t1 := ze_m137x_l (P := P) (h := h) (g := r 0) (n := r 1) (o := r 2) (W := r 3) (b := r 4) (p := r 5) (a := r 6) (c := r 7) (q := r 8) (w := r 9) (x := r 10) k1 k2 k3
  obtain ⟨rq, hr⟩ : ∃ rq : Nat → Int, (∀ i, i < 11 → rq i = r i) := ⟨r, fun i hi => rfl⟩
  have v0 : rq 0 = r 0 := hr 0 (by decide)
  have v1 : rq 1 = r 1 := hr 1 (by decide)
  have v2 : rq 2 = r 2 := hr 2 (by decide)
  have v3 : rq 3 = r 3 := hr 3 (by decide)
  have v4 : rq 4 = r 4 := hr 4 (by decide)
  have v5 : rq 5 = r 5 := hr 5 (by decide)
  have v10 : rq 10 = r 10 := hr 10 (by decide)
  have g0 : zq_ev rq (1, []) = 1 := zu_e0 _ _
  have g1 : zq_ev rq (2, []) = 2 := zu_e0 _ _
  have g2 : zq_ev rq (0, [(0, 1)]) = r 0 := zu_f1 v0
  have g3 : zq_ev rq (0, [(1, 1)]) = r 1 := zu_f1 v1
  have g4 : zq_ev rq (0, [(2, 1)]) = r 2 := zu_f1 v2
  have g5 : zq_ev rq (0, [(3, 1)]) = r 3 := zu_f1 v3
  have g6 : zq_ev rq (0, [(4, 1)]) = r 4 := zu_f1 v4
  have g7 : zq_ev rq (0, [(5, 1)]) = r 5 := zu_f1 v5
  have g8 : zq_ev rq (0, []) = 0 := zu_e0 _ _
  have g9 : zq_ev rq (0, [(10, 1)]) = r 10 := zu_f1 v10
  exact ⟨_, List.mem_cons_self .., rq, hr, zq_MeS_mk rfl hT (zq_all_nil) zq_fan (zq_fan) rfl (zu_fac ((x_SL _ _ _).mpr (by show ze_SL (zq_ev rq (1, [])) (zq_ev rq (2, [])) (zq_ev rq (0, [(0, 1)])) (zq_ev rq (0, [(1, 1)])) (zq_ev rq (0, [(2, 1)])) (zq_ev rq (0, [(3, 1)])) (zq_ev rq (0, [(4, 1)])) (zq_ev rq (0, [(5, 1)])) (zq_ev rq (0, [])) (zq_ev rq (1, [])) (zq_ev rq (0, [(10, 1)])) P h; simp only [g0, g1, g2, g3, g4, g5, g6, g7, g8, g9]; exact t1)) zq_fan)⟩
noncomputable def ze_m137z : zq_S × List zq_S := (([], [], [(0, [(9, 1)]), (0, [(9, -1)])], [], [], [], [(222, [(1, []), (2, []), (0, [(0, 1)]), (0, [(1, 1)]), (0, [(2, 1)]), (0, [(3, 1)]), (0, [(4, 1)]), (0, [(5, 1)]), (0, [(6, 1)]), (0, [(7, 1)]), (0, [(8, 1)])]), (224, [(0, [(0, 1)]), (0, [(1, 1)]), (0, [(8, 1)]), (137, [])]), (220, [(0, []), (0, [(0, 1)]), (0, [(1, 1)]), (0, [(2, 1)]), (0, [(3, 1)]), (0, [(7, 1)]), (1, [(8, 1)]), (0, [(9, 1)]), (0, [(11, 1)]), (0, [(10, 1)])])], 12), [([], [], [], [], [], [], [(222, [(1, []), (2, []), (0, [(0, 1)]), (0, [(1, 1)]), (0, [(2, 1)]), (0, [(3, 1)]), (0, [(4, 1)]), (0, [(5, 1)]), (0, []), (1, []), (0, [(10, 1)])])], 12)])
theorem ze_m137z_l {P : zq_Ty} {h : zq_H} {g n o W b p a c q w x d : Int} (a1 : 0 ≤ w) (a2 : 0 ≤ -w) (k1 : ze_SL 1 2 g n o W b p a c q P h) (k2 : ze_CD g n q 137 P h) (k3 : ze_EV 0 g n o W c (q + 1) w d x P h) : (ze_SL 1 2 g n o W b p 0 1 x P h) := by
  intro r d2 e h2
  have k2 : 137 = ze_c g n q := k2
  refine k1 r d2 e (ze_tl_go (by rw [← k2]; decide) k3 ?_)
  rw [← k2]
  unfold ze_m
  rw [decide_eq_true (show w = 0 by omega), show (!decide ((137 : Int) = 142) && true) = true by decide]
  simp only [cond_true]
  rw [Bool.or_true, ze_bd_1]
  exact h2
theorem ze_m137z_ok {w : zq_Wd} (x_SL : zj_is w 222 (fun q => ze_SL (q 0) (q 1) (q 2) (q 3) (q 4) (q 5) (q 6) (q 7) (q 8) (q 9) (q 10))) (x_CD : zj_is w 224 (fun q => ze_CD (q 0) (q 1) (q 2) (q 3))) (x_EV : zj_is w 220 (fun q => ze_EV (q 0) (q 1) (q 2) (q 3) (q 4) (q 5) (q 6) (q 7) (q 8) (q 9))) : zq_okG1 w ze_m137z := by
  refine ⟨rfl, rfl, zu_fac ⟨rfl, by decide⟩ zq_fan, ?_⟩
  intro r P h H hM
  have q0 : zq_ev r (0, [(9, 1)]) = r 9 := zu_e1 _ _
  have q1 : zq_ev r (0, [(9, -1)]) = -r 9 := zu_e4 _ _
  have q2 : zq_ev r (1, []) = 1 := zu_e0 _ _
  have q3 : zq_ev r (2, []) = 2 := zu_e0 _ _
  have q4 : zq_ev r (0, [(0, 1)]) = r 0 := zu_e1 _ _
  have q5 : zq_ev r (0, [(1, 1)]) = r 1 := zu_e1 _ _
  have q6 : zq_ev r (0, [(2, 1)]) = r 2 := zu_e1 _ _
  have q7 : zq_ev r (0, [(3, 1)]) = r 3 := zu_e1 _ _
  have q8 : zq_ev r (0, [(4, 1)]) = r 4 := zu_e1 _ _
  have q9 : zq_ev r (0, [(5, 1)]) = r 5 := zu_e1 _ _
  have q10 : zq_ev r (0, [(6, 1)]) = r 6 := zu_e1 _ _
  have q11 : zq_ev r (0, [(7, 1)]) = r 7 := zu_e1 _ _
  have q12 : zq_ev r (0, [(8, 1)]) = r 8 := zu_e1 _ _
  have q13 : zq_ev r (137, []) = 137 := zu_e0 _ _
  have q14 : zq_ev r (0, []) = 0 := zu_e0 _ _
  have q15 : zq_ev r (1, [(8, 1)]) = r 8 + 1 := zu_e2 _ _ _
  have q16 : zq_ev r (0, [(11, 1)]) = r 11 := zu_e1 _ _
  have q17 : zq_ev r (0, [(10, 1)]) = r 10 := zu_e1 _ _
  obtain ⟨hT, hC, hF, hS, -, hK⟩ := hM
  have c := hC.1
  have a1 := zq_all_1 c
  rw [q0] at a1
  have c := zq_all_t c
  have a2 := zq_all_1 c
  rw [q1] at a2
  have k1 := zj_use x_SL (hK)
  have k1 : ze_SL (zq_ev r (1, [])) (zq_ev r (2, [])) (zq_ev r (0, [(0, 1)])) (zq_ev r (0, [(1, 1)])) (zq_ev r (0, [(2, 1)])) (zq_ev r (0, [(3, 1)])) (zq_ev r (0, [(4, 1)])) (zq_ev r (0, [(5, 1)])) (zq_ev r (0, [(6, 1)])) (zq_ev r (0, [(7, 1)])) (zq_ev r (0, [(8, 1)])) P h := k1
  simp only [q10, q11, q12, q2, q3, q4, q5, q6, q7, q8, q9] at k1
  have k2 := zj_use x_CD (zq_okX_t (hK))
  have k2 : ze_CD (zq_ev r (0, [(0, 1)])) (zq_ev r (0, [(1, 1)])) (zq_ev r (0, [(8, 1)])) (zq_ev r (137, [])) P h := k2
  simp only [q12, q13, q4, q5] at k2
  have k3 := zj_use x_EV (zq_okX_t (zq_okX_t (hK)))
  have k3 : ze_EV (zq_ev r (0, [])) (zq_ev r (0, [(0, 1)])) (zq_ev r (0, [(1, 1)])) (zq_ev r (0, [(2, 1)])) (zq_ev r (0, [(3, 1)])) (zq_ev r (0, [(7, 1)])) (zq_ev r (1, [(8, 1)])) (zq_ev r (0, [(9, 1)])) (zq_ev r (0, [(11, 1)])) (zq_ev r (0, [(10, 1)])) P h := k3
  simp only [q0, q11, q14, q15, q16, q17, q4, q5, q6, q7] at k3
  obtain t1 := ze_m137z_l (P := P) (h := h) (g := r 0) (n := r 1) (o := r 2) (W := r 3) (b := r 4) (p := r 5) (a := r 6) (c := r 7) (q := r 8) (w := r 9) (x := r 10) (d := r 11) a1 a2 k1 k2 k3
  obtain ⟨rq, hr⟩ : ∃ rq : Nat → Int, (∀ i, i < 12 → rq i = r i) := ⟨r, fun i hi => rfl⟩
  have v0 : rq 0 = r 0 := hr 0 (by decide)
  have v1 : rq 1 = r 1 := hr 1 (by decide)
  have v2 : rq 2 = r 2 := hr 2 (by decide)
  have v3 : rq 3 = r 3 := hr 3 (by decide)
  have v4 : rq 4 = r 4 := hr 4 (by decide)
  have v5 : rq 5 = r 5 := hr 5 (by decide)
  have v10 : rq 10 = r 10 := hr 10 (by decide)
  have g0 : zq_ev rq (1, []) = 1 := zu_e0 _ _
  have g1 : zq_ev rq (2, []) = 2 := zu_e0 _ _
  have g2 : zq_ev rq (0, [(0, 1)]) = r 0 := zu_f1 v0
  have g3 : zq_ev rq (0, [(1, 1)]) = r 1 := zu_f1 v1
  have g4 : zq_ev rq (0, [(2, 1)]) = r 2 := zu_f1 v2
  have g5 : zq_ev rq (0, [(3, 1)]) = r 3 := zu_f1 v3
  have g6 : zq_ev rq (0, [(4, 1)]) = r 4 := zu_f1 v4
  have g7 : zq_ev rq (0, [(5, 1)]) = r 5 := zu_f1 v5
  have g8 : zq_ev rq (0, []) = 0 := zu_e0 _ _
  have g9 : zq_ev rq (0, [(10, 1)]) = r 10 := zu_f1 v10
  exact ⟨_, List.mem_cons_self .., rq, hr, zq_MeS_mk rfl hT (zq_all_nil) zq_fan (zq_fan) rfl (zu_fac ((x_SL _ _ _).mpr (by show ze_SL (zq_ev rq (1, [])) (zq_ev rq (2, [])) (zq_ev rq (0, [(0, 1)])) (zq_ev rq (0, [(1, 1)])) (zq_ev rq (0, [(2, 1)])) (zq_ev rq (0, [(3, 1)])) (zq_ev rq (0, [(4, 1)])) (zq_ev rq (0, [(5, 1)])) (zq_ev rq (0, [])) (zq_ev rq (1, [])) (zq_ev rq (0, [(10, 1)])) P h; simp only [g0, g1, g2, g3, g4, g5, g6, g7, g8, g9]; exact t1)) zq_fan)⟩
noncomputable def ze_m137tp : zq_S × List zq_S := (([], [], [(2147483648, [(6, 1)]), (2147483648, [(6, -1)]), (2147483648, [(9, 1)]), (2147483648, [(9, -1)]), (-1, [(9, 1)]), (-1000000001, [(11, 1)])], [], [], [], [(222, [(1, []), (2, []), (0, [(0, 1)]), (0, [(1, 1)]), (0, [(2, 1)]), (0, [(3, 1)]), (0, [(4, 1)]), (0, [(5, 1)]), (0, [(6, 1)]), (0, [(7, 1)]), (0, [(8, 1)])]), (224, [(0, [(0, 1)]), (0, [(1, 1)]), (0, [(8, 1)]), (137, [])]), (220, [(0, []), (0, [(0, 1)]), (0, [(1, 1)]), (0, [(2, 1)]), (0, [(3, 1)]), (0, [(7, 1)]), (1, [(8, 1)]), (0, [(9, 1)]), (0, []), (0, [(10, 1)])]), (86, [(4, []), (0, [(6, 1)]), (0, [(9, 1)]), (0, [(11, 1)])])], 12), [([], [], [], [], [], [], [(222, [(1, []), (2, []), (0, [(0, 1)]), (0, [(1, 1)]), (0, [(2, 1)]), (0, [(3, 1)]), (0, [(4, 1)]), (0, [(5, 1)]), (0, []), (1, []), (0, [(10, 1)])])], 12)])
theorem ze_m137tp_l {P : zq_Ty} {h : zq_H} {g n o W b p a c q w x u : Int} (a1 : 0 ≤ a + 2147483648) (a2 : 0 ≤ -a + 2147483648) (a3 : 0 ≤ w + 2147483648) (a4 : 0 ≤ -w + 2147483648) (a5 : 0 ≤ w - 1) (a6 : 0 ≤ u - 1000000001) (k1 : ze_SL 1 2 g n o W b p a c q P h) (k2 : ze_CD g n q 137 P h) (k3 : ze_EV 0 g n o W c (q + 1) w 0 x P h) (k4 : zo_ol 4 a w u P h) : (ze_SL 1 2 g n o W b p 0 1 x P h) := by
  have k4 : u = zq_fun 1 4 a w := k4
  have hu : u = a.tmod w := ze_tmod64 k4
  intro r d e h2
  have k2 : 137 = ze_c g n q := k2
  refine k1 r d e (ze_tl_go (by rw [← k2]; decide) k3 ?_)
  rw [← k2]
  unfold ze_m
  rw [decide_eq_false (show ¬ w = 0 by omega), Bool.and_false]
  simp only [cond_false]
  have z2 : ze_op 137 a w = u := by rw [hu]; rfl
  rw [z2, ze_bd_t (ze_out_t (Or.inl (by omega)))]
  exact h2
theorem ze_m137tp_ok {w : zq_Wd} (x_SL : zj_is w 222 (fun q => ze_SL (q 0) (q 1) (q 2) (q 3) (q 4) (q 5) (q 6) (q 7) (q 8) (q 9) (q 10))) (x_CD : zj_is w 224 (fun q => ze_CD (q 0) (q 1) (q 2) (q 3))) (x_EV : zj_is w 220 (fun q => ze_EV (q 0) (q 1) (q 2) (q 3) (q 4) (q 5) (q 6) (q 7) (q 8) (q 9))) (x_OL : zj_is w 86 (fun q => zo_ol (q 0) (q 1) (q 2) (q 3))) : zq_okG1 w ze_m137tp := by
  refine ⟨rfl, rfl, zu_fac ⟨rfl, by decide⟩ zq_fan, ?_⟩
  intro r P h H hM
  have q0 : zq_ev r (2147483648, [(6, 1)]) = r 6 + 2147483648 := zu_e2 _ _ _
  have q1 : zq_ev r (2147483648, [(6, -1)]) = -r 6 + 2147483648 := zu_e5 _ _ _
  have q2 : zq_ev r (2147483648, [(9, 1)]) = r 9 + 2147483648 := zu_e2 _ _ _
  have q3 : zq_ev r (2147483648, [(9, -1)]) = -r 9 + 2147483648 := zu_e5 _ _ _
  have q4 : zq_ev r (-1, [(9, 1)]) = r 9 - 1 := zu_e3 _ _ _
  have q5 : zq_ev r (-1000000001, [(11, 1)]) = r 11 - 1000000001 := zu_e3 _ _ _
  have q6 : zq_ev r (1, []) = 1 := zu_e0 _ _
  have q7 : zq_ev r (2, []) = 2 := zu_e0 _ _
  have q8 : zq_ev r (0, [(0, 1)]) = r 0 := zu_e1 _ _
  have q9 : zq_ev r (0, [(1, 1)]) = r 1 := zu_e1 _ _
  have q10 : zq_ev r (0, [(2, 1)]) = r 2 := zu_e1 _ _
  have q11 : zq_ev r (0, [(3, 1)]) = r 3 := zu_e1 _ _
  have q12 : zq_ev r (0, [(4, 1)]) = r 4 := zu_e1 _ _
  have q13 : zq_ev r (0, [(5, 1)]) = r 5 := zu_e1 _ _
  have q14 : zq_ev r (0, [(6, 1)]) = r 6 := zu_e1 _ _
  have q15 : zq_ev r (0, [(7, 1)]) = r 7 := zu_e1 _ _
  have q16 : zq_ev r (0, [(8, 1)]) = r 8 := zu_e1 _ _
  have q17 : zq_ev r (137, []) = 137 := zu_e0 _ _
  have q18 : zq_ev r (0, []) = 0 := zu_e0 _ _
  have q19 : zq_ev r (1, [(8, 1)]) = r 8 + 1 := zu_e2 _ _ _
  have q20 : zq_ev r (0, [(9, 1)]) = r 9 := zu_e1 _ _
  have q21 : zq_ev r (0, [(10, 1)]) = r 10 := zu_e1 _ _
  have q22 : zq_ev r (4, []) = 4 := zu_e0 _ _
  have q23 : zq_ev r (0, [(11, 1)]) = r 11 := zu_e1 _ _
  obtain ⟨hT, hC, hF, hS, -, hK⟩ := hM
  have c := hC.1
  have a1 := zq_all_1 c
  rw [q0] at a1
  have c := zq_all_t c
  have a2 := zq_all_1 c
  rw [q1] at a2
  have c := zq_all_t c
  have a3 := zq_all_1 c
  rw [q2] at a3
  have c := zq_all_t c
  have a4 := zq_all_1 c
  rw [q3] at a4
  have c := zq_all_t c
  have a5 := zq_all_1 c
  rw [q4] at a5
  have c := zq_all_t c
  have a6 := zq_all_1 c
  rw [q5] at a6
  have k1 := zj_use x_SL (hK)
  have k1 : ze_SL (zq_ev r (1, [])) (zq_ev r (2, [])) (zq_ev r (0, [(0, 1)])) (zq_ev r (0, [(1, 1)])) (zq_ev r (0, [(2, 1)])) (zq_ev r (0, [(3, 1)])) (zq_ev r (0, [(4, 1)])) (zq_ev r (0, [(5, 1)])) (zq_ev r (0, [(6, 1)])) (zq_ev r (0, [(7, 1)])) (zq_ev r (0, [(8, 1)])) P h := k1
  simp only [q10, q11, q12, q13, q14, q15, q16, q6, q7, q8, q9] at k1
  have k2 := zj_use x_CD (zq_okX_t (hK))
  have k2 : ze_CD (zq_ev r (0, [(0, 1)])) (zq_ev r (0, [(1, 1)])) (zq_ev r (0, [(8, 1)])) (zq_ev r (137, [])) P h := k2
  simp only [q16, q17, q8, q9] at k2
  have k3 := zj_use x_EV (zq_okX_t (zq_okX_t (hK)))
  have k3 : ze_EV (zq_ev r (0, [])) (zq_ev r (0, [(0, 1)])) (zq_ev r (0, [(1, 1)])) (zq_ev r (0, [(2, 1)])) (zq_ev r (0, [(3, 1)])) (zq_ev r (0, [(7, 1)])) (zq_ev r (1, [(8, 1)])) (zq_ev r (0, [(9, 1)])) (zq_ev r (0, [])) (zq_ev r (0, [(10, 1)])) P h := k3
  simp only [q10, q11, q15, q18, q19, q20, q21, q8, q9] at k3
  have k4 := zj_use x_OL (zq_okX_t (zq_okX_t (zq_okX_t (hK))))
  have k4 : zo_ol (zq_ev r (4, [])) (zq_ev r (0, [(6, 1)])) (zq_ev r (0, [(9, 1)])) (zq_ev r (0, [(11, 1)])) P h := k4
  simp only [q14, q20, q22, q23] at k4
  obtain t1 := ze_m137tp_l (P := P) (h := h) (g := r 0) (n := r 1) (o := r 2) (W := r 3) (b := r 4) (p := r 5) (a := r 6) (c := r 7) (q := r 8) (w := r 9) (x := r 10) (u := r 11) a1 a2 a3 a4 a5 a6 k1 k2 k3 k4
  obtain ⟨rq, hr⟩ : ∃ rq : Nat → Int, (∀ i, i < 12 → rq i = r i) := ⟨r, fun i hi => rfl⟩
  have v0 : rq 0 = r 0 := hr 0 (by decide)
  have v1 : rq 1 = r 1 := hr 1 (by decide)
  have v2 : rq 2 = r 2 := hr 2 (by decide)
  have v3 : rq 3 = r 3 := hr 3 (by decide)
  have v4 : rq 4 = r 4 := hr 4 (by decide)
  have v5 : rq 5 = r 5 := hr 5 (by decide)
  have v10 : rq 10 = r 10 := hr 10 (by decide)
  have g0 : zq_ev rq (1, []) = 1 := zu_e0 _ _
  have g1 : zq_ev rq (2, []) = 2 := zu_e0 _ _
  have g2 : zq_ev rq (0, [(0, 1)]) = r 0 := zu_f1 v0
  have g3 : zq_ev rq (0, [(1, 1)]) = r 1 := zu_f1 v1
  have g4 : zq_ev rq (0, [(2, 1)]) = r 2 := zu_f1 v2
  have g5 : zq_ev rq (0, [(3, 1)]) = r 3 := zu_f1 v3
  have g6 : zq_ev rq (0, [(4, 1)]) = r 4 := zu_f1 v4
  have g7 : zq_ev rq (0, [(5, 1)]) = r 5 := zu_f1 v5
  have g8 : zq_ev rq (0, []) = 0 := zu_e0 _ _
  have g9 : zq_ev rq (0, [(10, 1)]) = r 10 := zu_f1 v10
  exact ⟨_, List.mem_cons_self .., rq, hr, zq_MeS_mk rfl hT (zq_all_nil) zq_fan (zq_fan) rfl (zu_fac ((x_SL _ _ _).mpr (by show ze_SL (zq_ev rq (1, [])) (zq_ev rq (2, [])) (zq_ev rq (0, [(0, 1)])) (zq_ev rq (0, [(1, 1)])) (zq_ev rq (0, [(2, 1)])) (zq_ev rq (0, [(3, 1)])) (zq_ev rq (0, [(4, 1)])) (zq_ev rq (0, [(5, 1)])) (zq_ev rq (0, [])) (zq_ev rq (1, [])) (zq_ev rq (0, [(10, 1)])) P h; simp only [g0, g1, g2, g3, g4, g5, g6, g7, g8, g9]; exact t1)) zq_fan)⟩
noncomputable def ze_m137up : zq_S × List zq_S := (([], [], [(2147483648, [(6, 1)]), (2147483648, [(6, -1)]), (2147483648, [(9, 1)]), (2147483648, [(9, -1)]), (-1, [(9, 1)]), (-1000000001, [(11, -1)])], [], [], [], [(222, [(1, []), (2, []), (0, [(0, 1)]), (0, [(1, 1)]), (0, [(2, 1)]), (0, [(3, 1)]), (0, [(4, 1)]), (0, [(5, 1)]), (0, [(6, 1)]), (0, [(7, 1)]), (0, [(8, 1)])]), (224, [(0, [(0, 1)]), (0, [(1, 1)]), (0, [(8, 1)]), (137, [])]), (220, [(0, []), (0, [(0, 1)]), (0, [(1, 1)]), (0, [(2, 1)]), (0, [(3, 1)]), (0, [(7, 1)]), (1, [(8, 1)]), (0, [(9, 1)]), (0, []), (0, [(10, 1)])]), (86, [(4, []), (0, [(6, 1)]), (0, [(9, 1)]), (0, [(11, 1)])])], 12), [([], [], [], [], [], [], [(222, [(1, []), (2, []), (0, [(0, 1)]), (0, [(1, 1)]), (0, [(2, 1)]), (0, [(3, 1)]), (0, [(4, 1)]), (0, [(5, 1)]), (0, []), (1, []), (0, [(10, 1)])])], 12)])
theorem ze_m137up_l {P : zq_Ty} {h : zq_H} {g n o W b p a c q w x u : Int} (a1 : 0 ≤ a + 2147483648) (a2 : 0 ≤ -a + 2147483648) (a3 : 0 ≤ w + 2147483648) (a4 : 0 ≤ -w + 2147483648) (a5 : 0 ≤ w - 1) (a6 : 0 ≤ -u - 1000000001) (k1 : ze_SL 1 2 g n o W b p a c q P h) (k2 : ze_CD g n q 137 P h) (k3 : ze_EV 0 g n o W c (q + 1) w 0 x P h) (k4 : zo_ol 4 a w u P h) : (ze_SL 1 2 g n o W b p 0 1 x P h) := by
  have k4 : u = zq_fun 1 4 a w := k4
  have hu : u = a.tmod w := ze_tmod64 k4
  intro r d e h2
  have k2 : 137 = ze_c g n q := k2
  refine k1 r d e (ze_tl_go (by rw [← k2]; decide) k3 ?_)
  rw [← k2]
  unfold ze_m
  rw [decide_eq_false (show ¬ w = 0 by omega), Bool.and_false]
  simp only [cond_false]
  have z2 : ze_op 137 a w = u := by rw [hu]; rfl
  rw [z2, ze_bd_t (ze_out_t (Or.inr (by omega)))]
  exact h2
theorem ze_m137up_ok {w : zq_Wd} (x_SL : zj_is w 222 (fun q => ze_SL (q 0) (q 1) (q 2) (q 3) (q 4) (q 5) (q 6) (q 7) (q 8) (q 9) (q 10))) (x_CD : zj_is w 224 (fun q => ze_CD (q 0) (q 1) (q 2) (q 3))) (x_EV : zj_is w 220 (fun q => ze_EV (q 0) (q 1) (q 2) (q 3) (q 4) (q 5) (q 6) (q 7) (q 8) (q 9))) (x_OL : zj_is w 86 (fun q => zo_ol (q 0) (q 1) (q 2) (q 3))) : zq_okG1 w ze_m137up := by
  refine ⟨rfl, rfl, zu_fac ⟨rfl, by decide⟩ zq_fan, ?_⟩
  intro r P h H hM
  have q0 : zq_ev r (2147483648, [(6, 1)]) = r 6 + 2147483648 := zu_e2 _ _ _
  have q1 : zq_ev r (2147483648, [(6, -1)]) = -r 6 + 2147483648 := zu_e5 _ _ _
  have q2 : zq_ev r (2147483648, [(9, 1)]) = r 9 + 2147483648 := zu_e2 _ _ _
  have q3 : zq_ev r (2147483648, [(9, -1)]) = -r 9 + 2147483648 := zu_e5 _ _ _
  have q4 : zq_ev r (-1, [(9, 1)]) = r 9 - 1 := zu_e3 _ _ _
  have q5 : zq_ev r (-1000000001, [(11, -1)]) = -r 11 - 1000000001 := zu_e6 _ _ _
  have q6 : zq_ev r (1, []) = 1 := zu_e0 _ _
  have q7 : zq_ev r (2, []) = 2 := zu_e0 _ _
  have q8 : zq_ev r (0, [(0, 1)]) = r 0 := zu_e1 _ _
  have q9 : zq_ev r (0, [(1, 1)]) = r 1 := zu_e1 _ _
  have q10 : zq_ev r (0, [(2, 1)]) = r 2 := zu_e1 _ _
  have q11 : zq_ev r (0, [(3, 1)]) = r 3 := zu_e1 _ _
  have q12 : zq_ev r (0, [(4, 1)]) = r 4 := zu_e1 _ _
  have q13 : zq_ev r (0, [(5, 1)]) = r 5 := zu_e1 _ _
  have q14 : zq_ev r (0, [(6, 1)]) = r 6 := zu_e1 _ _
  have q15 : zq_ev r (0, [(7, 1)]) = r 7 := zu_e1 _ _
  have q16 : zq_ev r (0, [(8, 1)]) = r 8 := zu_e1 _ _
  have q17 : zq_ev r (137, []) = 137 := zu_e0 _ _
  have q18 : zq_ev r (0, []) = 0 := zu_e0 _ _
  have q19 : zq_ev r (1, [(8, 1)]) = r 8 + 1 := zu_e2 _ _ _
  have q20 : zq_ev r (0, [(9, 1)]) = r 9 := zu_e1 _ _
  have q21 : zq_ev r (0, [(10, 1)]) = r 10 := zu_e1 _ _
  have q22 : zq_ev r (4, []) = 4 := zu_e0 _ _
  have q23 : zq_ev r (0, [(11, 1)]) = r 11 := zu_e1 _ _
  obtain ⟨hT, hC, hF, hS, -, hK⟩ := hM
  have c := hC.1
  have a1 := zq_all_1 c
  rw [q0] at a1
  have c := zq_all_t c
  have a2 := zq_all_1 c
  rw [q1] at a2
  have c := zq_all_t c
  have a3 := zq_all_1 c
  rw [q2] at a3
  have c := zq_all_t c
  have a4 := zq_all_1 c
  rw [q3] at a4
  have c := zq_all_t c
  have a5 := zq_all_1 c
  rw [q4] at a5
  have c := zq_all_t c
  have a6 := zq_all_1 c
  rw [q5] at a6
  have k1 := zj_use x_SL (hK)
  have k1 : ze_SL (zq_ev r (1, [])) (zq_ev r (2, [])) (zq_ev r (0, [(0, 1)])) (zq_ev r (0, [(1, 1)])) (zq_ev r (0, [(2, 1)])) (zq_ev r (0, [(3, 1)])) (zq_ev r (0, [(4, 1)])) (zq_ev r (0, [(5, 1)])) (zq_ev r (0, [(6, 1)])) (zq_ev r (0, [(7, 1)])) (zq_ev r (0, [(8, 1)])) P h := k1
  simp only [q10, q11, q12, q13, q14, q15, q16, q6, q7, q8, q9] at k1
  have k2 := zj_use x_CD (zq_okX_t (hK))
  have k2 : ze_CD (zq_ev r (0, [(0, 1)])) (zq_ev r (0, [(1, 1)])) (zq_ev r (0, [(8, 1)])) (zq_ev r (137, [])) P h := k2
  simp only [q16, q17, q8, q9] at k2
  have k3 := zj_use x_EV (zq_okX_t (zq_okX_t (hK)))
  have k3 : ze_EV (zq_ev r (0, [])) (zq_ev r (0, [(0, 1)])) (zq_ev r (0, [(1, 1)])) (zq_ev r (0, [(2, 1)])) (zq_ev r (0, [(3, 1)])) (zq_ev r (0, [(7, 1)])) (zq_ev r (1, [(8, 1)])) (zq_ev r (0, [(9, 1)])) (zq_ev r (0, [])) (zq_ev r (0, [(10, 1)])) P h := k3
  simp only [q10, q11, q15, q18, q19, q20, q21, q8, q9] at k3
  have k4 := zj_use x_OL (zq_okX_t (zq_okX_t (zq_okX_t (hK))))
  have k4 : zo_ol (zq_ev r (4, [])) (zq_ev r (0, [(6, 1)])) (zq_ev r (0, [(9, 1)])) (zq_ev r (0, [(11, 1)])) P h := k4
  simp only [q14, q20, q22, q23] at k4
  obtain t1 := ze_m137up_l (P := P) (h := h) (g := r 0) (n := r 1) (o := r 2) (W := r 3) (b := r 4) (p := r 5) (a := r 6) (c := r 7) (q := r 8) (w := r 9) (x := r 10) (u := r 11) a1 a2 a3 a4 a5 a6 k1 k2 k3 k4
  obtain ⟨rq, hr⟩ : ∃ rq : Nat → Int, (∀ i, i < 12 → rq i = r i) := ⟨r, fun i hi => rfl⟩
  have v0 : rq 0 = r 0 := hr 0 (by decide)
  have v1 : rq 1 = r 1 := hr 1 (by decide)
  have v2 : rq 2 = r 2 := hr 2 (by decide)
  have v3 : rq 3 = r 3 := hr 3 (by decide)
  have v4 : rq 4 = r 4 := hr 4 (by decide)
  have v5 : rq 5 = r 5 := hr 5 (by decide)
  have v10 : rq 10 = r 10 := hr 10 (by decide)
  have g0 : zq_ev rq (1, []) = 1 := zu_e0 _ _
  have g1 : zq_ev rq (2, []) = 2 := zu_e0 _ _
  have g2 : zq_ev rq (0, [(0, 1)]) = r 0 := zu_f1 v0
  have g3 : zq_ev rq (0, [(1, 1)]) = r 1 := zu_f1 v1
  have g4 : zq_ev rq (0, [(2, 1)]) = r 2 := zu_f1 v2
  have g5 : zq_ev rq (0, [(3, 1)]) = r 3 := zu_f1 v3
  have g6 : zq_ev rq (0, [(4, 1)]) = r 4 := zu_f1 v4
  have g7 : zq_ev rq (0, [(5, 1)]) = r 5 := zu_f1 v5
  have g8 : zq_ev rq (0, []) = 0 := zu_e0 _ _
  have g9 : zq_ev rq (0, [(10, 1)]) = r 10 := zu_f1 v10
  exact ⟨_, List.mem_cons_self .., rq, hr, zq_MeS_mk rfl hT (zq_all_nil) zq_fan (zq_fan) rfl (zu_fac ((x_SL _ _ _).mpr (by show ze_SL (zq_ev rq (1, [])) (zq_ev rq (2, [])) (zq_ev rq (0, [(0, 1)])) (zq_ev rq (0, [(1, 1)])) (zq_ev rq (0, [(2, 1)])) (zq_ev rq (0, [(3, 1)])) (zq_ev rq (0, [(4, 1)])) (zq_ev rq (0, [(5, 1)])) (zq_ev rq (0, [])) (zq_ev rq (1, [])) (zq_ev rq (0, [(10, 1)])) P h; simp only [g0, g1, g2, g3, g4, g5, g6, g7, g8, g9]; exact t1)) zq_fan)⟩
noncomputable def ze_m137rp : zq_S × List zq_S := (([], [], [(2147483648, [(6, 1)]), (2147483648, [(6, -1)]), (2147483648, [(9, 1)]), (2147483648, [(9, -1)]), (-1, [(9, 1)]), (1000000000, [(11, 1)]), (1000000000, [(11, -1)])], [], [], [], [(222, [(1, []), (2, []), (0, [(0, 1)]), (0, [(1, 1)]), (0, [(2, 1)]), (0, [(3, 1)]), (0, [(4, 1)]), (0, [(5, 1)]), (0, [(6, 1)]), (0, [(7, 1)]), (0, [(8, 1)])]), (224, [(0, [(0, 1)]), (0, [(1, 1)]), (0, [(8, 1)]), (137, [])]), (220, [(0, []), (0, [(0, 1)]), (0, [(1, 1)]), (0, [(2, 1)]), (0, [(3, 1)]), (0, [(7, 1)]), (1, [(8, 1)]), (0, [(9, 1)]), (0, []), (0, [(10, 1)])]), (86, [(4, []), (0, [(6, 1)]), (0, [(9, 1)]), (0, [(11, 1)])])], 12), [([], [], [], [], [], [], [(222, [(1, []), (2, []), (0, [(0, 1)]), (0, [(1, 1)]), (0, [(2, 1)]), (0, [(3, 1)]), (0, [(4, 1)]), (0, [(5, 1)]), (0, [(11, 1)]), (0, []), (0, [(10, 1)])])], 12)])
theorem ze_m137rp_l {P : zq_Ty} {h : zq_H} {g n o W b p a c q w x u : Int} (a1 : 0 ≤ a + 2147483648) (a2 : 0 ≤ -a + 2147483648) (a3 : 0 ≤ w + 2147483648) (a4 : 0 ≤ -w + 2147483648) (a5 : 0 ≤ w - 1) (a6 : 0 ≤ u + 1000000000) (a7 : 0 ≤ -u + 1000000000) (k1 : ze_SL 1 2 g n o W b p a c q P h) (k2 : ze_CD g n q 137 P h) (k3 : ze_EV 0 g n o W c (q + 1) w 0 x P h) (k4 : zo_ol 4 a w u P h) : (ze_SL 1 2 g n o W b p u 0 x P h) := by
  have k4 : u = zq_fun 1 4 a w := k4
  have hu : u = a.tmod w := ze_tmod64 k4
  intro r d e h2
  have k2 : 137 = ze_c g n q := k2
  refine k1 r d e (ze_tl_go (by rw [← k2]; decide) k3 ?_)
  rw [← k2]
  unfold ze_m
  rw [decide_eq_false (show ¬ w = 0 by omega), Bool.and_false]
  simp only [cond_false]
  have z2 : ze_op 137 a w = u := by rw [hu]; rfl
  rw [z2, ze_on0, ze_bd_f (ze_out_f (by omega) (by omega))]
  exact h2
theorem ze_m137rp_ok {w : zq_Wd} (x_SL : zj_is w 222 (fun q => ze_SL (q 0) (q 1) (q 2) (q 3) (q 4) (q 5) (q 6) (q 7) (q 8) (q 9) (q 10))) (x_CD : zj_is w 224 (fun q => ze_CD (q 0) (q 1) (q 2) (q 3))) (x_EV : zj_is w 220 (fun q => ze_EV (q 0) (q 1) (q 2) (q 3) (q 4) (q 5) (q 6) (q 7) (q 8) (q 9))) (x_OL : zj_is w 86 (fun q => zo_ol (q 0) (q 1) (q 2) (q 3))) : zq_okG1 w ze_m137rp := by
  refine ⟨rfl, rfl, zu_fac ⟨rfl, by decide⟩ zq_fan, ?_⟩
  intro r P h H hM
  have q0 : zq_ev r (2147483648, [(6, 1)]) = r 6 + 2147483648 := zu_e2 _ _ _
  have q1 : zq_ev r (2147483648, [(6, -1)]) = -r 6 + 2147483648 := zu_e5 _ _ _
  have q2 : zq_ev r (2147483648, [(9, 1)]) = r 9 + 2147483648 := zu_e2 _ _ _
  have q3 : zq_ev r (2147483648, [(9, -1)]) = -r 9 + 2147483648 := zu_e5 _ _ _
  have q4 : zq_ev r (-1, [(9, 1)]) = r 9 - 1 := zu_e3 _ _ _
  have q5 : zq_ev r (1000000000, [(11, 1)]) = r 11 + 1000000000 := zu_e2 _ _ _
  have q6 : zq_ev r (1000000000, [(11, -1)]) = -r 11 + 1000000000 := zu_e5 _ _ _
  have q7 : zq_ev r (1, []) = 1 := zu_e0 _ _
  have q8 : zq_ev r (2, []) = 2 := zu_e0 _ _
  have q9 : zq_ev r (0, [(0, 1)]) = r 0 := zu_e1 _ _
  have q10 : zq_ev r (0, [(1, 1)]) = r 1 := zu_e1 _ _
  have q11 : zq_ev r (0, [(2, 1)]) = r 2 := zu_e1 _ _
  have q12 : zq_ev r (0, [(3, 1)]) = r 3 := zu_e1 _ _
  have q13 : zq_ev r (0, [(4, 1)]) = r 4 := zu_e1 _ _
  have q14 : zq_ev r (0, [(5, 1)]) = r 5 := zu_e1 _ _
  have q15 : zq_ev r (0, [(6, 1)]) = r 6 := zu_e1 _ _
  have q16 : zq_ev r (0, [(7, 1)]) = r 7 := zu_e1 _ _
  have q17 : zq_ev r (0, [(8, 1)]) = r 8 := zu_e1 _ _
  have q18 : zq_ev r (137, []) = 137 := zu_e0 _ _
  have q19 : zq_ev r (0, []) = 0 := zu_e0 _ _
  have q20 : zq_ev r (1, [(8, 1)]) = r 8 + 1 := zu_e2 _ _ _
  have q21 : zq_ev r (0, [(9, 1)]) = r 9 := zu_e1 _ _
  have q22 : zq_ev r (0, [(10, 1)]) = r 10 := zu_e1 _ _
  have q23 : zq_ev r (4, []) = 4 := zu_e0 _ _
  have q24 : zq_ev r (0, [(11, 1)]) = r 11 := zu_e1 _ _
  obtain ⟨hT, hC, hF, hS, -, hK⟩ := hM
  have c := hC.1
  have a1 := zq_all_1 c
  rw [q0] at a1
  have c := zq_all_t c
  have a2 := zq_all_1 c
  rw [q1] at a2
  have c := zq_all_t c
  have a3 := zq_all_1 c
  rw [q2] at a3
  have c := zq_all_t c
  have a4 := zq_all_1 c
  rw [q3] at a4
  have c := zq_all_t c
  have a5 := zq_all_1 c
  rw [q4] at a5
  have c := zq_all_t c
  have a6 := zq_all_1 c
  rw [q5] at a6
  have c := zq_all_t c
  have a7 := zq_all_1 c
  rw [q6] at a7
  have k1 := zj_use x_SL (hK)
  have k1 : ze_SL (zq_ev r (1, [])) (zq_ev r (2, [])) (zq_ev r (0, [(0, 1)])) (zq_ev r (0, [(1, 1)])) (zq_ev r (0, [(2, 1)])) (zq_ev r (0, [(3, 1)])) (zq_ev r (0, [(4, 1)])) (zq_ev r (0, [(5, 1)])) (zq_ev r (0, [(6, 1)])) (zq_ev r (0, [(7, 1)])) (zq_ev r (0, [(8, 1)])) P h := k1
  simp only [q10, q11, q12, q13, q14, q15, q16, q17, q7, q8, q9] at k1
  have k2 := zj_use x_CD (zq_okX_t (hK))
  have k2 : ze_CD (zq_ev r (0, [(0, 1)])) (zq_ev r (0, [(1, 1)])) (zq_ev r (0, [(8, 1)])) (zq_ev r (137, [])) P h := k2
  simp only [q10, q17, q18, q9] at k2
  have k3 := zj_use x_EV (zq_okX_t (zq_okX_t (hK)))
  have k3 : ze_EV (zq_ev r (0, [])) (zq_ev r (0, [(0, 1)])) (zq_ev r (0, [(1, 1)])) (zq_ev r (0, [(2, 1)])) (zq_ev r (0, [(3, 1)])) (zq_ev r (0, [(7, 1)])) (zq_ev r (1, [(8, 1)])) (zq_ev r (0, [(9, 1)])) (zq_ev r (0, [])) (zq_ev r (0, [(10, 1)])) P h := k3
  simp only [q10, q11, q12, q16, q19, q20, q21, q22, q9] at k3
  have k4 := zj_use x_OL (zq_okX_t (zq_okX_t (zq_okX_t (hK))))
  have k4 : zo_ol (zq_ev r (4, [])) (zq_ev r (0, [(6, 1)])) (zq_ev r (0, [(9, 1)])) (zq_ev r (0, [(11, 1)])) P h := k4
  simp only [q15, q21, q23, q24] at k4
  obtain t1 := ze_m137rp_l (P := P) (h := h) (g := r 0) (n := r 1) (o := r 2) (W := r 3) (b := r 4) (p := r 5) (a := r 6) (c := r 7) (q := r 8) (w := r 9) (x := r 10) (u := r 11) a1 a2 a3 a4 a5 a6 a7 k1 k2 k3 k4
  obtain ⟨rq, hr⟩ : ∃ rq : Nat → Int, (∀ i, i < 12 → rq i = r i) := ⟨r, fun i hi => rfl⟩
  have v0 : rq 0 = r 0 := hr 0 (by decide)
  have v1 : rq 1 = r 1 := hr 1 (by decide)
  have v2 : rq 2 = r 2 := hr 2 (by decide)
  have v3 : rq 3 = r 3 := hr 3 (by decide)
  have v4 : rq 4 = r 4 := hr 4 (by decide)
  have v5 : rq 5 = r 5 := hr 5 (by decide)
  have v10 : rq 10 = r 10 := hr 10 (by decide)
  have v11 : rq 11 = r 11 := hr 11 (by decide)
  have g0 : zq_ev rq (1, []) = 1 := zu_e0 _ _
  have g1 : zq_ev rq (2, []) = 2 := zu_e0 _ _
  have g2 : zq_ev rq (0, [(0, 1)]) = r 0 := zu_f1 v0
  have g3 : zq_ev rq (0, [(1, 1)]) = r 1 := zu_f1 v1
  have g4 : zq_ev rq (0, [(2, 1)]) = r 2 := zu_f1 v2
  have g5 : zq_ev rq (0, [(3, 1)]) = r 3 := zu_f1 v3
  have g6 : zq_ev rq (0, [(4, 1)]) = r 4 := zu_f1 v4
  have g7 : zq_ev rq (0, [(5, 1)]) = r 5 := zu_f1 v5
  have g8 : zq_ev rq (0, [(11, 1)]) = r 11 := zu_f1 v11
  have g9 : zq_ev rq (0, []) = 0 := zu_e0 _ _
  have g10 : zq_ev rq (0, [(10, 1)]) = r 10 := zu_f1 v10
  exact ⟨_, List.mem_cons_self .., rq, hr, zq_MeS_mk rfl hT (zq_all_nil) zq_fan (zq_fan) rfl (zu_fac ((x_SL _ _ _).mpr (by show ze_SL (zq_ev rq (1, [])) (zq_ev rq (2, [])) (zq_ev rq (0, [(0, 1)])) (zq_ev rq (0, [(1, 1)])) (zq_ev rq (0, [(2, 1)])) (zq_ev rq (0, [(3, 1)])) (zq_ev rq (0, [(4, 1)])) (zq_ev rq (0, [(5, 1)])) (zq_ev rq (0, [(11, 1)])) (zq_ev rq (0, [])) (zq_ev rq (0, [(10, 1)])) P h; simp only [g0, g1, g10, g2, g3, g4, g5, g6, g7, g8, g9]; exact t1)) zq_fan)⟩
noncomputable def ze_m137tm : zq_S × List zq_S := (([], [], [(2147483648, [(6, 1)]), (2147483648, [(6, -1)]), (2147483648, [(9, 1)]), (2147483648, [(9, -1)]), (-1, [(9, -1)]), (-1000000001, [(11, 1)])], [], [], [], [(222, [(1, []), (2, []), (0, [(0, 1)]), (0, [(1, 1)]), (0, [(2, 1)]), (0, [(3, 1)]), (0, [(4, 1)]), (0, [(5, 1)]), (0, [(6, 1)]), (0, [(7, 1)]), (0, [(8, 1)])]), (224, [(0, [(0, 1)]), (0, [(1, 1)]), (0, [(8, 1)]), (137, [])]), (220, [(0, []), (0, [(0, 1)]), (0, [(1, 1)]), (0, [(2, 1)]), (0, [(3, 1)]), (0, [(7, 1)]), (1, [(8, 1)]), (0, [(9, 1)]), (0, []), (0, [(10, 1)])]), (86, [(4, []), (0, [(6, 1)]), (0, [(9, 1)]), (0, [(11, 1)])])], 12), [([], [], [], [], [], [], [(222, [(1, []), (2, []), (0, [(0, 1)]), (0, [(1, 1)]), (0, [(2, 1)]), (0, [(3, 1)]), (0, [(4, 1)]), (0, [(5, 1)]), (0, []), (1, []), (0, [(10, 1)])])], 12)])
theorem ze_m137tm_l {P : zq_Ty} {h : zq_H} {g n o W b p a c q w x u : Int} (a1 : 0 ≤ a + 2147483648) (a2 : 0 ≤ -a + 2147483648) (a3 : 0 ≤ w + 2147483648) (a4 : 0 ≤ -w + 2147483648) (a5 : 0 ≤ -w - 1) (a6 : 0 ≤ u - 1000000001) (k1 : ze_SL 1 2 g n o W b p a c q P h) (k2 : ze_CD g n q 137 P h) (k3 : ze_EV 0 g n o W c (q + 1) w 0 x P h) (k4 : zo_ol 4 a w u P h) : (ze_SL 1 2 g n o W b p 0 1 x P h) := by
  have k4 : u = zq_fun 1 4 a w := k4
  have hu : u = a.tmod w := ze_tmod64 k4
  intro r d e h2
  have k2 : 137 = ze_c g n q := k2
  refine k1 r d e (ze_tl_go (by rw [← k2]; decide) k3 ?_)
  rw [← k2]
  unfold ze_m
  rw [decide_eq_false (show ¬ w = 0 by omega), Bool.and_false]
  simp only [cond_false]
  have z2 : ze_op 137 a w = u := by rw [hu]; rfl
  rw [z2, ze_bd_t (ze_out_t (Or.inl (by omega)))]
  exact h2
theorem ze_m137tm_ok {w : zq_Wd} (x_SL : zj_is w 222 (fun q => ze_SL (q 0) (q 1) (q 2) (q 3) (q 4) (q 5) (q 6) (q 7) (q 8) (q 9) (q 10))) (x_CD : zj_is w 224 (fun q => ze_CD (q 0) (q 1) (q 2) (q 3))) (x_EV : zj_is w 220 (fun q => ze_EV (q 0) (q 1) (q 2) (q 3) (q 4) (q 5) (q 6) (q 7) (q 8) (q 9))) (x_OL : zj_is w 86 (fun q => zo_ol (q 0) (q 1) (q 2) (q 3))) : zq_okG1 w ze_m137tm := by
  refine ⟨rfl, rfl, zu_fac ⟨rfl, by decide⟩ zq_fan, ?_⟩
  intro r P h H hM
  have q0 : zq_ev r (2147483648, [(6, 1)]) = r 6 + 2147483648 := zu_e2 _ _ _
  have q1 : zq_ev r (2147483648, [(6, -1)]) = -r 6 + 2147483648 := zu_e5 _ _ _
  have q2 : zq_ev r (2147483648, [(9, 1)]) = r 9 + 2147483648 := zu_e2 _ _ _
  have q3 : zq_ev r (2147483648, [(9, -1)]) = -r 9 + 2147483648 := zu_e5 _ _ _
  have q4 : zq_ev r (-1, [(9, -1)]) = -r 9 - 1 := zu_e6 _ _ _
  have q5 : zq_ev r (-1000000001, [(11, 1)]) = r 11 - 1000000001 := zu_e3 _ _ _
  have q6 : zq_ev r (1, []) = 1 := zu_e0 _ _
  have q7 : zq_ev r (2, []) = 2 := zu_e0 _ _
  have q8 : zq_ev r (0, [(0, 1)]) = r 0 := zu_e1 _ _
  have q9 : zq_ev r (0, [(1, 1)]) = r 1 := zu_e1 _ _
  have q10 : zq_ev r (0, [(2, 1)]) = r 2 := zu_e1 _ _
  have q11 : zq_ev r (0, [(3, 1)]) = r 3 := zu_e1 _ _
  have q12 : zq_ev r (0, [(4, 1)]) = r 4 := zu_e1 _ _
  have q13 : zq_ev r (0, [(5, 1)]) = r 5 := zu_e1 _ _
  have q14 : zq_ev r (0, [(6, 1)]) = r 6 := zu_e1 _ _
  have q15 : zq_ev r (0, [(7, 1)]) = r 7 := zu_e1 _ _
  have q16 : zq_ev r (0, [(8, 1)]) = r 8 := zu_e1 _ _
  have q17 : zq_ev r (137, []) = 137 := zu_e0 _ _
  have q18 : zq_ev r (0, []) = 0 := zu_e0 _ _
  have q19 : zq_ev r (1, [(8, 1)]) = r 8 + 1 := zu_e2 _ _ _
  have q20 : zq_ev r (0, [(9, 1)]) = r 9 := zu_e1 _ _
  have q21 : zq_ev r (0, [(10, 1)]) = r 10 := zu_e1 _ _
  have q22 : zq_ev r (4, []) = 4 := zu_e0 _ _
  have q23 : zq_ev r (0, [(11, 1)]) = r 11 := zu_e1 _ _
  obtain ⟨hT, hC, hF, hS, -, hK⟩ := hM
  have c := hC.1
  have a1 := zq_all_1 c
  rw [q0] at a1
  have c := zq_all_t c
  have a2 := zq_all_1 c
  rw [q1] at a2
  have c := zq_all_t c
  have a3 := zq_all_1 c
  rw [q2] at a3
  have c := zq_all_t c
  have a4 := zq_all_1 c
  rw [q3] at a4
  have c := zq_all_t c
  have a5 := zq_all_1 c
  rw [q4] at a5
  have c := zq_all_t c
  have a6 := zq_all_1 c
  rw [q5] at a6
  have k1 := zj_use x_SL (hK)
  have k1 : ze_SL (zq_ev r (1, [])) (zq_ev r (2, [])) (zq_ev r (0, [(0, 1)])) (zq_ev r (0, [(1, 1)])) (zq_ev r (0, [(2, 1)])) (zq_ev r (0, [(3, 1)])) (zq_ev r (0, [(4, 1)])) (zq_ev r (0, [(5, 1)])) (zq_ev r (0, [(6, 1)])) (zq_ev r (0, [(7, 1)])) (zq_ev r (0, [(8, 1)])) P h := k1
  simp only [q10, q11, q12, q13, q14, q15, q16, q6, q7, q8, q9] at k1
  have k2 := zj_use x_CD (zq_okX_t (hK))
  have k2 : ze_CD (zq_ev r (0, [(0, 1)])) (zq_ev r (0, [(1, 1)])) (zq_ev r (0, [(8, 1)])) (zq_ev r (137, [])) P h := k2
  simp only [q16, q17, q8, q9] at k2
  have k3 := zj_use x_EV (zq_okX_t (zq_okX_t (hK)))
  have k3 : ze_EV (zq_ev r (0, [])) (zq_ev r (0, [(0, 1)])) (zq_ev r (0, [(1, 1)])) (zq_ev r (0, [(2, 1)])) (zq_ev r (0, [(3, 1)])) (zq_ev r (0, [(7, 1)])) (zq_ev r (1, [(8, 1)])) (zq_ev r (0, [(9, 1)])) (zq_ev r (0, [])) (zq_ev r (0, [(10, 1)])) P h := k3
  simp only [q10, q11, q15, q18, q19, q20, q21, q8, q9] at k3
  have k4 := zj_use x_OL (zq_okX_t (zq_okX_t (zq_okX_t (hK))))
  have k4 : zo_ol (zq_ev r (4, [])) (zq_ev r (0, [(6, 1)])) (zq_ev r (0, [(9, 1)])) (zq_ev r (0, [(11, 1)])) P h := k4
  simp only [q14, q20, q22, q23] at k4
  obtain t1 := ze_m137tm_l (P := P) (h := h) (g := r 0) (n := r 1) (o := r 2) (W := r 3) (b := r 4) (p := r 5) (a := r 6) (c := r 7) (q := r 8) (w := r 9) (x := r 10) (u := r 11) a1 a2 a3 a4 a5 a6 k1 k2 k3 k4
  obtain ⟨rq, hr⟩ : ∃ rq : Nat → Int, (∀ i, i < 12 → rq i = r i) := ⟨r, fun i hi => rfl⟩
  have v0 : rq 0 = r 0 := hr 0 (by decide)
  have v1 : rq 1 = r 1 := hr 1 (by decide)
  have v2 : rq 2 = r 2 := hr 2 (by decide)
  have v3 : rq 3 = r 3 := hr 3 (by decide)
  have v4 : rq 4 = r 4 := hr 4 (by decide)
  have v5 : rq 5 = r 5 := hr 5 (by decide)
  have v10 : rq 10 = r 10 := hr 10 (by decide)
  have g0 : zq_ev rq (1, []) = 1 := zu_e0 _ _
  have g1 : zq_ev rq (2, []) = 2 := zu_e0 _ _
  have g2 : zq_ev rq (0, [(0, 1)]) = r 0 := zu_f1 v0
  have g3 : zq_ev rq (0, [(1, 1)]) = r 1 := zu_f1 v1
  have g4 : zq_ev rq (0, [(2, 1)]) = r 2 := zu_f1 v2
  have g5 : zq_ev rq (0, [(3, 1)]) = r 3 := zu_f1 v3
  have g6 : zq_ev rq (0, [(4, 1)]) = r 4 := zu_f1 v4
  have g7 : zq_ev rq (0, [(5, 1)]) = r 5 := zu_f1 v5
  have g8 : zq_ev rq (0, []) = 0 := zu_e0 _ _
  have g9 : zq_ev rq (0, [(10, 1)]) = r 10 := zu_f1 v10
  exact ⟨_, List.mem_cons_self .., rq, hr, zq_MeS_mk rfl hT (zq_all_nil) zq_fan (zq_fan) rfl (zu_fac ((x_SL _ _ _).mpr (by show ze_SL (zq_ev rq (1, [])) (zq_ev rq (2, [])) (zq_ev rq (0, [(0, 1)])) (zq_ev rq (0, [(1, 1)])) (zq_ev rq (0, [(2, 1)])) (zq_ev rq (0, [(3, 1)])) (zq_ev rq (0, [(4, 1)])) (zq_ev rq (0, [(5, 1)])) (zq_ev rq (0, [])) (zq_ev rq (1, [])) (zq_ev rq (0, [(10, 1)])) P h; simp only [g0, g1, g2, g3, g4, g5, g6, g7, g8, g9]; exact t1)) zq_fan)⟩
noncomputable def ze_m137um : zq_S × List zq_S := (([], [], [(2147483648, [(6, 1)]), (2147483648, [(6, -1)]), (2147483648, [(9, 1)]), (2147483648, [(9, -1)]), (-1, [(9, -1)]), (-1000000001, [(11, -1)])], [], [], [], [(222, [(1, []), (2, []), (0, [(0, 1)]), (0, [(1, 1)]), (0, [(2, 1)]), (0, [(3, 1)]), (0, [(4, 1)]), (0, [(5, 1)]), (0, [(6, 1)]), (0, [(7, 1)]), (0, [(8, 1)])]), (224, [(0, [(0, 1)]), (0, [(1, 1)]), (0, [(8, 1)]), (137, [])]), (220, [(0, []), (0, [(0, 1)]), (0, [(1, 1)]), (0, [(2, 1)]), (0, [(3, 1)]), (0, [(7, 1)]), (1, [(8, 1)]), (0, [(9, 1)]), (0, []), (0, [(10, 1)])]), (86, [(4, []), (0, [(6, 1)]), (0, [(9, 1)]), (0, [(11, 1)])])], 12), [([], [], [], [], [], [], [(222, [(1, []), (2, []), (0, [(0, 1)]), (0, [(1, 1)]), (0, [(2, 1)]), (0, [(3, 1)]), (0, [(4, 1)]), (0, [(5, 1)]), (0, []), (1, []), (0, [(10, 1)])])], 12)])
theorem ze_m137um_l {P : zq_Ty} {h : zq_H} {g n o W b p a c q w x u : Int} (a1 : 0 ≤ a + 2147483648) (a2 : 0 ≤ -a + 2147483648) (a3 : 0 ≤ w + 2147483648) (a4 : 0 ≤ -w + 2147483648) (a5 : 0 ≤ -w - 1) (a6 : 0 ≤ -u - 1000000001) (k1 : ze_SL 1 2 g n o W b p a c q P h) (k2 : ze_CD g n q 137 P h) (k3 : ze_EV 0 g n o W c (q + 1) w 0 x P h) (k4 : zo_ol 4 a w u P h) : (ze_SL 1 2 g n o W b p 0 1 x P h) := by
  have k4 : u = zq_fun 1 4 a w := k4
  have hu : u = a.tmod w := ze_tmod64 k4
  intro r d e h2
  have k2 : 137 = ze_c g n q := k2
  refine k1 r d e (ze_tl_go (by rw [← k2]; decide) k3 ?_)
  rw [← k2]
  unfold ze_m
  rw [decide_eq_false (show ¬ w = 0 by omega), Bool.and_false]
  simp only [cond_false]
  have z2 : ze_op 137 a w = u := by rw [hu]; rfl
  rw [z2, ze_bd_t (ze_out_t (Or.inr (by omega)))]
  exact h2
theorem ze_m137um_ok {w : zq_Wd} (x_SL : zj_is w 222 (fun q => ze_SL (q 0) (q 1) (q 2) (q 3) (q 4) (q 5) (q 6) (q 7) (q 8) (q 9) (q 10))) (x_CD : zj_is w 224 (fun q => ze_CD (q 0) (q 1) (q 2) (q 3))) (x_EV : zj_is w 220 (fun q => ze_EV (q 0) (q 1) (q 2) (q 3) (q 4) (q 5) (q 6) (q 7) (q 8) (q 9))) (x_OL : zj_is w 86 (fun q => zo_ol (q 0) (q 1) (q 2) (q 3))) : zq_okG1 w ze_m137um := by
  refine ⟨rfl, rfl, zu_fac ⟨rfl, by decide⟩ zq_fan, ?_⟩
  intro r P h H hM
  have q0 : zq_ev r (2147483648, [(6, 1)]) = r 6 + 2147483648 := zu_e2 _ _ _
  have q1 : zq_ev r (2147483648, [(6, -1)]) = -r 6 + 2147483648 := zu_e5 _ _ _
  have q2 : zq_ev r (2147483648, [(9, 1)]) = r 9 + 2147483648 := zu_e2 _ _ _
  have q3 : zq_ev r (2147483648, [(9, -1)]) = -r 9 + 2147483648 := zu_e5 _ _ _
  have q4 : zq_ev r (-1, [(9, -1)]) = -r 9 - 1 := zu_e6 _ _ _
  have q5 : zq_ev r (-1000000001, [(11, -1)]) = -r 11 - 1000000001 := zu_e6 _ _ _
  have q6 : zq_ev r (1, []) = 1 := zu_e0 _ _
  have q7 : zq_ev r (2, []) = 2 := zu_e0 _ _
  have q8 : zq_ev r (0, [(0, 1)]) = r 0 := zu_e1 _ _
  have q9 : zq_ev r (0, [(1, 1)]) = r 1 := zu_e1 _ _
  have q10 : zq_ev r (0, [(2, 1)]) = r 2 := zu_e1 _ _
  have q11 : zq_ev r (0, [(3, 1)]) = r 3 := zu_e1 _ _
  have q12 : zq_ev r (0, [(4, 1)]) = r 4 := zu_e1 _ _
  have q13 : zq_ev r (0, [(5, 1)]) = r 5 := zu_e1 _ _
  have q14 : zq_ev r (0, [(6, 1)]) = r 6 := zu_e1 _ _
  have q15 : zq_ev r (0, [(7, 1)]) = r 7 := zu_e1 _ _
  have q16 : zq_ev r (0, [(8, 1)]) = r 8 := zu_e1 _ _
  have q17 : zq_ev r (137, []) = 137 := zu_e0 _ _
  have q18 : zq_ev r (0, []) = 0 := zu_e0 _ _
  have q19 : zq_ev r (1, [(8, 1)]) = r 8 + 1 := zu_e2 _ _ _
  have q20 : zq_ev r (0, [(9, 1)]) = r 9 := zu_e1 _ _
  have q21 : zq_ev r (0, [(10, 1)]) = r 10 := zu_e1 _ _
  have q22 : zq_ev r (4, []) = 4 := zu_e0 _ _
  have q23 : zq_ev r (0, [(11, 1)]) = r 11 := zu_e1 _ _
  obtain ⟨hT, hC, hF, hS, -, hK⟩ := hM
  have c := hC.1
  have a1 := zq_all_1 c
  rw [q0] at a1
  have c := zq_all_t c
  have a2 := zq_all_1 c
  rw [q1] at a2
  have c := zq_all_t c
  have a3 := zq_all_1 c
  rw [q2] at a3
  have c := zq_all_t c
  have a4 := zq_all_1 c
  rw [q3] at a4
  have c := zq_all_t c
  have a5 := zq_all_1 c
  rw [q4] at a5
  have c := zq_all_t c
  have a6 := zq_all_1 c
  rw [q5] at a6
  have k1 := zj_use x_SL (hK)
  have k1 : ze_SL (zq_ev r (1, [])) (zq_ev r (2, [])) (zq_ev r (0, [(0, 1)])) (zq_ev r (0, [(1, 1)])) (zq_ev r (0, [(2, 1)])) (zq_ev r (0, [(3, 1)])) (zq_ev r (0, [(4, 1)])) (zq_ev r (0, [(5, 1)])) (zq_ev r (0, [(6, 1)])) (zq_ev r (0, [(7, 1)])) (zq_ev r (0, [(8, 1)])) P h := k1
  simp only [q10, q11, q12, q13, q14, q15, q16, q6, q7, q8, q9] at k1
  have k2 := zj_use x_CD (zq_okX_t (hK))
  have k2 : ze_CD (zq_ev r (0, [(0, 1)])) (zq_ev r (0, [(1, 1)])) (zq_ev r (0, [(8, 1)])) (zq_ev r (137, [])) P h := k2
  simp only [q16, q17, q8, q9] at k2
  have k3 := zj_use x_EV (zq_okX_t (zq_okX_t (hK)))
  have k3 : ze_EV (zq_ev r (0, [])) (zq_ev r (0, [(0, 1)])) (zq_ev r (0, [(1, 1)])) (zq_ev r (0, [(2, 1)])) (zq_ev r (0, [(3, 1)])) (zq_ev r (0, [(7, 1)])) (zq_ev r (1, [(8, 1)])) (zq_ev r (0, [(9, 1)])) (zq_ev r (0, [])) (zq_ev r (0, [(10, 1)])) P h := k3
  simp only [q10, q11, q15, q18, q19, q20, q21, q8, q9] at k3
  have k4 := zj_use x_OL (zq_okX_t (zq_okX_t (zq_okX_t (hK))))
  have k4 : zo_ol (zq_ev r (4, [])) (zq_ev r (0, [(6, 1)])) (zq_ev r (0, [(9, 1)])) (zq_ev r (0, [(11, 1)])) P h := k4
  simp only [q14, q20, q22, q23] at k4
  obtain t1 := ze_m137um_l (P := P) (h := h) (g := r 0) (n := r 1) (o := r 2) (W := r 3) (b := r 4) (p := r 5) (a := r 6) (c := r 7) (q := r 8) (w := r 9) (x := r 10) (u := r 11) a1 a2 a3 a4 a5 a6 k1 k2 k3 k4
  obtain ⟨rq, hr⟩ : ∃ rq : Nat → Int, (∀ i, i < 12 → rq i = r i) := ⟨r, fun i hi => rfl⟩
  have v0 : rq 0 = r 0 := hr 0 (by decide)
  have v1 : rq 1 = r 1 := hr 1 (by decide)
  have v2 : rq 2 = r 2 := hr 2 (by decide)
  have v3 : rq 3 = r 3 := hr 3 (by decide)
  have v4 : rq 4 = r 4 := hr 4 (by decide)
  have v5 : rq 5 = r 5 := hr 5 (by decide)
  have v10 : rq 10 = r 10 := hr 10 (by decide)
  have g0 : zq_ev rq (1, []) = 1 := zu_e0 _ _
  have g1 : zq_ev rq (2, []) = 2 := zu_e0 _ _
  have g2 : zq_ev rq (0, [(0, 1)]) = r 0 := zu_f1 v0
  have g3 : zq_ev rq (0, [(1, 1)]) = r 1 := zu_f1 v1
  have g4 : zq_ev rq (0, [(2, 1)]) = r 2 := zu_f1 v2
  have g5 : zq_ev rq (0, [(3, 1)]) = r 3 := zu_f1 v3
  have g6 : zq_ev rq (0, [(4, 1)]) = r 4 := zu_f1 v4
  have g7 : zq_ev rq (0, [(5, 1)]) = r 5 := zu_f1 v5
  have g8 : zq_ev rq (0, []) = 0 := zu_e0 _ _
  have g9 : zq_ev rq (0, [(10, 1)]) = r 10 := zu_f1 v10
  exact ⟨_, List.mem_cons_self .., rq, hr, zq_MeS_mk rfl hT (zq_all_nil) zq_fan (zq_fan) rfl (zu_fac ((x_SL _ _ _).mpr (by show ze_SL (zq_ev rq (1, [])) (zq_ev rq (2, [])) (zq_ev rq (0, [(0, 1)])) (zq_ev rq (0, [(1, 1)])) (zq_ev rq (0, [(2, 1)])) (zq_ev rq (0, [(3, 1)])) (zq_ev rq (0, [(4, 1)])) (zq_ev rq (0, [(5, 1)])) (zq_ev rq (0, [])) (zq_ev rq (1, [])) (zq_ev rq (0, [(10, 1)])) P h; simp only [g0, g1, g2, g3, g4, g5, g6, g7, g8, g9]; exact t1)) zq_fan)⟩
noncomputable def ze_m137rm : zq_S × List zq_S := (([], [], [(2147483648, [(6, 1)]), (2147483648, [(6, -1)]), (2147483648, [(9, 1)]), (2147483648, [(9, -1)]), (-1, [(9, -1)]), (1000000000, [(11, 1)]), (1000000000, [(11, -1)])], [], [], [], [(222, [(1, []), (2, []), (0, [(0, 1)]), (0, [(1, 1)]), (0, [(2, 1)]), (0, [(3, 1)]), (0, [(4, 1)]), (0, [(5, 1)]), (0, [(6, 1)]), (0, [(7, 1)]), (0, [(8, 1)])]), (224, [(0, [(0, 1)]), (0, [(1, 1)]), (0, [(8, 1)]), (137, [])]), (220, [(0, []), (0, [(0, 1)]), (0, [(1, 1)]), (0, [(2, 1)]), (0, [(3, 1)]), (0, [(7, 1)]), (1, [(8, 1)]), (0, [(9, 1)]), (0, []), (0, [(10, 1)])]), (86, [(4, []), (0, [(6, 1)]), (0, [(9, 1)]), (0, [(11, 1)])])], 12), [([], [], [], [], [], [], [(222, [(1, []), (2, []), (0, [(0, 1)]), (0, [(1, 1)]), (0, [(2, 1)]), (0, [(3, 1)]), (0, [(4, 1)]), (0, [(5, 1)]), (0, [(11, 1)]), (0, []), (0, [(10, 1)])])], 12)])
theorem ze_m137rm_l {P : zq_Ty} {h : zq_H} {g n o W b p a c q w x u : Int} (a1 : 0 ≤ a + 2147483648) (a2 : 0 ≤ -a + 2147483648) (a3 : 0 ≤ w + 2147483648) (a4 : 0 ≤ -w + 2147483648) (a5 : 0 ≤ -w - 1) (a6 : 0 ≤ u + 1000000000) (a7 : 0 ≤ -u + 1000000000) (k1 : ze_SL 1 2 g n o W b p a c q P h) (k2 : ze_CD g n q 137 P h) (k3 : ze_EV 0 g n o W c (q + 1) w 0 x P h) (k4 : zo_ol 4 a w u P h) : (ze_SL 1 2 g n o W b p u 0 x P h) := by
  have k4 : u = zq_fun 1 4 a w := k4
  have hu : u = a.tmod w := ze_tmod64 k4
  intro r d e h2
  have k2 : 137 = ze_c g n q := k2
  refine k1 r d e (ze_tl_go (by rw [← k2]; decide) k3 ?_)
  rw [← k2]
  unfold ze_m
  rw [decide_eq_false (show ¬ w = 0 by omega), Bool.and_false]
  simp only [cond_false]
  have z2 : ze_op 137 a w = u := by rw [hu]; rfl
  rw [z2, ze_on0, ze_bd_f (ze_out_f (by omega) (by omega))]
  exact h2
theorem ze_m137rm_ok {w : zq_Wd} (x_SL : zj_is w 222 (fun q => ze_SL (q 0) (q 1) (q 2) (q 3) (q 4) (q 5) (q 6) (q 7) (q 8) (q 9) (q 10))) (x_CD : zj_is w 224 (fun q => ze_CD (q 0) (q 1) (q 2) (q 3))) (x_EV : zj_is w 220 (fun q => ze_EV (q 0) (q 1) (q 2) (q 3) (q 4) (q 5) (q 6) (q 7) (q 8) (q 9))) (x_OL : zj_is w 86 (fun q => zo_ol (q 0) (q 1) (q 2) (q 3))) : zq_okG1 w ze_m137rm := by
  refine ⟨rfl, rfl, zu_fac ⟨rfl, by decide⟩ zq_fan, ?_⟩
  intro r P h H hM
  have q0 : zq_ev r (2147483648, [(6, 1)]) = r 6 + 2147483648 := zu_e2 _ _ _
  have q1 : zq_ev r (2147483648, [(6, -1)]) = -r 6 + 2147483648 := zu_e5 _ _ _
  have q2 : zq_ev r (2147483648, [(9, 1)]) = r 9 + 2147483648 := zu_e2 _ _ _
  have q3 : zq_ev r (2147483648, [(9, -1)]) = -r 9 + 2147483648 := zu_e5 _ _ _
  have q4 : zq_ev r (-1, [(9, -1)]) = -r 9 - 1 := zu_e6 _ _ _
  have q5 : zq_ev r (1000000000, [(11, 1)]) = r 11 + 1000000000 := zu_e2 _ _ _
  have q6 : zq_ev r (1000000000, [(11, -1)]) = -r 11 + 1000000000 := zu_e5 _ _ _
  have q7 : zq_ev r (1, []) = 1 := zu_e0 _ _
  have q8 : zq_ev r (2, []) = 2 := zu_e0 _ _
  have q9 : zq_ev r (0, [(0, 1)]) = r 0 := zu_e1 _ _
  have q10 : zq_ev r (0, [(1, 1)]) = r 1 := zu_e1 _ _
  have q11 : zq_ev r (0, [(2, 1)]) = r 2 := zu_e1 _ _
  have q12 : zq_ev r (0, [(3, 1)]) = r 3 := zu_e1 _ _
  have q13 : zq_ev r (0, [(4, 1)]) = r 4 := zu_e1 _ _
  have q14 : zq_ev r (0, [(5, 1)]) = r 5 := zu_e1 _ _
  have q15 : zq_ev r (0, [(6, 1)]) = r 6 := zu_e1 _ _
  have q16 : zq_ev r (0, [(7, 1)]) = r 7 := zu_e1 _ _
  have q17 : zq_ev r (0, [(8, 1)]) = r 8 := zu_e1 _ _
  have q18 : zq_ev r (137, []) = 137 := zu_e0 _ _
  have q19 : zq_ev r (0, []) = 0 := zu_e0 _ _
  have q20 : zq_ev r (1, [(8, 1)]) = r 8 + 1 := zu_e2 _ _ _
  have q21 : zq_ev r (0, [(9, 1)]) = r 9 := zu_e1 _ _
  have q22 : zq_ev r (0, [(10, 1)]) = r 10 := zu_e1 _ _
  have q23 : zq_ev r (4, []) = 4 := zu_e0 _ _
  have q24 : zq_ev r (0, [(11, 1)]) = r 11 := zu_e1 _ _
  obtain ⟨hT, hC, hF, hS, -, hK⟩ := hM
  have c := hC.1
  have a1 := zq_all_1 c
  rw [q0] at a1
  have c := zq_all_t c
  have a2 := zq_all_1 c
  rw [q1] at a2
  have c := zq_all_t c
  have a3 := zq_all_1 c
  rw [q2] at a3
  have c := zq_all_t c
  have a4 := zq_all_1 c
  rw [q3] at a4
  have c := zq_all_t c
  have a5 := zq_all_1 c
  rw [q4] at a5
  have c := zq_all_t c
  have a6 := zq_all_1 c
  rw [q5] at a6
  have c := zq_all_t c
  have a7 := zq_all_1 c
  rw [q6] at a7
  have k1 := zj_use x_SL (hK)
  have k1 : ze_SL (zq_ev r (1, [])) (zq_ev r (2, [])) (zq_ev r (0, [(0, 1)])) (zq_ev r (0, [(1, 1)])) (zq_ev r (0, [(2, 1)])) (zq_ev r (0, [(3, 1)])) (zq_ev r (0, [(4, 1)])) (zq_ev r (0, [(5, 1)])) (zq_ev r (0, [(6, 1)])) (zq_ev r (0, [(7, 1)])) (zq_ev r (0, [(8, 1)])) P h := k1
  simp only [q10, q11, q12, q13, q14, q15, q16, q17, q7, q8, q9] at k1
  have k2 := zj_use x_CD (zq_okX_t (hK))
  have k2 : ze_CD (zq_ev r (0, [(0, 1)])) (zq_ev r (0, [(1, 1)])) (zq_ev r (0, [(8, 1)])) (zq_ev r (137, [])) P h := k2
  simp only [q10, q17, q18, q9] at k2
  have k3 := zj_use x_EV (zq_okX_t (zq_okX_t (hK)))
  have k3 : ze_EV (zq_ev r (0, [])) (zq_ev r (0, [(0, 1)])) (zq_ev r (0, [(1, 1)])) (zq_ev r (0, [(2, 1)])) (zq_ev r (0, [(3, 1)])) (zq_ev r (0, [(7, 1)])) (zq_ev r (1, [(8, 1)])) (zq_ev r (0, [(9, 1)])) (zq_ev r (0, [])) (zq_ev r (0, [(10, 1)])) P h := k3
  simp only [q10, q11, q12, q16, q19, q20, q21, q22, q9] at k3
  have k4 := zj_use x_OL (zq_okX_t (zq_okX_t (zq_okX_t (hK))))
  have k4 : zo_ol (zq_ev r (4, [])) (zq_ev r (0, [(6, 1)])) (zq_ev r (0, [(9, 1)])) (zq_ev r (0, [(11, 1)])) P h := k4
  simp only [q15, q21, q23, q24] at k4
  obtain t1 := ze_m137rm_l (P := P) (h := h) (g := r 0) (n := r 1) (o := r 2) (W := r 3) (b := r 4) (p := r 5) (a := r 6) (c := r 7) (q := r 8) (w := r 9) (x := r 10) (u := r 11) a1 a2 a3 a4 a5 a6 a7 k1 k2 k3 k4
  obtain ⟨rq, hr⟩ : ∃ rq : Nat → Int, (∀ i, i < 12 → rq i = r i) := ⟨r, fun i hi => rfl⟩
  have v0 : rq 0 = r 0 := hr 0 (by decide)
  have v1 : rq 1 = r 1 := hr 1 (by decide)
  have v2 : rq 2 = r 2 := hr 2 (by decide)
  have v3 : rq 3 = r 3 := hr 3 (by decide)
  have v4 : rq 4 = r 4 := hr 4 (by decide)
  have v5 : rq 5 = r 5 := hr 5 (by decide)
  have v10 : rq 10 = r 10 := hr 10 (by decide)
  have v11 : rq 11 = r 11 := hr 11 (by decide)
  have g0 : zq_ev rq (1, []) = 1 := zu_e0 _ _
  have g1 : zq_ev rq (2, []) = 2 := zu_e0 _ _
  have g2 : zq_ev rq (0, [(0, 1)]) = r 0 := zu_f1 v0
  have g3 : zq_ev rq (0, [(1, 1)]) = r 1 := zu_f1 v1
  have g4 : zq_ev rq (0, [(2, 1)]) = r 2 := zu_f1 v2
  have g5 : zq_ev rq (0, [(3, 1)]) = r 3 := zu_f1 v3
  have g6 : zq_ev rq (0, [(4, 1)]) = r 4 := zu_f1 v4
  have g7 : zq_ev rq (0, [(5, 1)]) = r 5 := zu_f1 v5
  have g8 : zq_ev rq (0, [(11, 1)]) = r 11 := zu_f1 v11
  have g9 : zq_ev rq (0, []) = 0 := zu_e0 _ _
  have g10 : zq_ev rq (0, [(10, 1)]) = r 10 := zu_f1 v10
  exact ⟨_, List.mem_cons_self .., rq, hr, zq_MeS_mk rfl hT (zq_all_nil) zq_fan (zq_fan) rfl (zu_fac ((x_SL _ _ _).mpr (by show ze_SL (zq_ev rq (1, [])) (zq_ev rq (2, [])) (zq_ev rq (0, [(0, 1)])) (zq_ev rq (0, [(1, 1)])) (zq_ev rq (0, [(2, 1)])) (zq_ev rq (0, [(3, 1)])) (zq_ev rq (0, [(4, 1)])) (zq_ev rq (0, [(5, 1)])) (zq_ev rq (0, [(11, 1)])) (zq_ev rq (0, [])) (zq_ev rq (0, [(10, 1)])) P h; simp only [g0, g1, g10, g2, g3, g4, g5, g6, g7, g8, g9]; exact t1)) zq_fan)⟩
noncomputable def ze_mt142 : zq_S × List zq_S := (([], [], [], [], [], [], [(223, [(1, []), (2, []), (0, [(0, 1)]), (0, [(1, 1)]), (0, [(2, 1)]), (0, [(3, 1)])]), (224, [(0, [(0, 1)]), (0, [(1, 1)]), (0, [(3, 1)]), (142, [])]), (221, [(0, []), (0, [(0, 1)]), (0, [(1, 1)]), (1, [(3, 1)]), (0, [(4, 1)])])], 5), [([], [], [], [], [], [], [(223, [(1, []), (2, []), (0, [(0, 1)]), (0, [(1, 1)]), (0, [(2, 1)]), (0, [(4, 1)])])], 5)])
theorem ze_mt142_l {P : zq_Ty} {h : zq_H} {g n p q x : Int} (k1 : ze_TL 1 2 g n p q P h) (k2 : ze_CD g n q 142 P h) (k3 : ze_TT 0 g n (q + 1) x P h) : (ze_TL 1 2 g n p x P h) := by
  intro e h2
  have k2 : 142 = ze_c g n q := k2
  exact k1 e (zt_tl_go (by rw [← k2]; decide) k3 h2)
theorem ze_mt142_ok {w : zq_Wd} (x_TL : zj_is w 223 (fun q => ze_TL (q 0) (q 1) (q 2) (q 3) (q 4) (q 5))) (x_CD : zj_is w 224 (fun q => ze_CD (q 0) (q 1) (q 2) (q 3))) (x_TT : zj_is w 221 (fun q => ze_TT (q 0) (q 1) (q 2) (q 3) (q 4))) : zq_okG1 w ze_mt142 := by
  refine ⟨rfl, rfl, zu_fac ⟨rfl, by decide⟩ zq_fan, ?_⟩
  intro r P h H hM
  have q0 : zq_ev r (1, []) = 1 := zu_e0 _ _
  have q1 : zq_ev r (2, []) = 2 := zu_e0 _ _
  have q2 : zq_ev r (0, [(0, 1)]) = r 0 := zu_e1 _ _
  have q3 : zq_ev r (0, [(1, 1)]) = r 1 := zu_e1 _ _
  have q4 : zq_ev r (0, [(2, 1)]) = r 2 := zu_e1 _ _
  have q5 : zq_ev r (0, [(3, 1)]) = r 3 := zu_e1 _ _
  have q6 : zq_ev r (142, []) = 142 := zu_e0 _ _
  have q7 : zq_ev r (0, []) = 0 := zu_e0 _ _
  have q8 : zq_ev r (1, [(3, 1)]) = r 3 + 1 := zu_e2 _ _ _
  have q9 : zq_ev r (0, [(4, 1)]) = r 4 := zu_e1 _ _
  obtain ⟨hT, hC, hF, hS, -, hK⟩ := hM
  have c := hC.1
  have k1 := zj_use x_TL (hK)
  have k1 : ze_TL (zq_ev r (1, [])) (zq_ev r (2, [])) (zq_ev r (0, [(0, 1)])) (zq_ev r (0, [(1, 1)])) (zq_ev r (0, [(2, 1)])) (zq_ev r (0, [(3, 1)])) P h := k1
  simp only [q0, q1, q2, q3, q4, q5] at k1
  have k2 := zj_use x_CD (zq_okX_t (hK))
  have k2 : ze_CD (zq_ev r (0, [(0, 1)])) (zq_ev r (0, [(1, 1)])) (zq_ev r (0, [(3, 1)])) (zq_ev r (142, [])) P h := k2
  simp only [q2, q3, q5, q6] at k2
  have k3 := zj_use x_TT (zq_okX_t (zq_okX_t (hK)))
  have k3 : ze_TT (zq_ev r (0, [])) (zq_ev r (0, [(0, 1)])) (zq_ev r (0, [(1, 1)])) (zq_ev r (1, [(3, 1)])) (zq_ev r (0, [(4, 1)])) P h := k3
  simp only [q2, q3, q7, q8, q9] at k3
  obtain t1 := ze_mt142_l (P := P) (h := h) (g := r 0) (n := r 1) (p := r 2) (q := r 3) (x := r 4) k1 k2 k3
  obtain ⟨rq, hr⟩ : ∃ rq : Nat → Int, (∀ i, i < 5 → rq i = r i) := ⟨r, fun i hi => rfl⟩
  have v0 : rq 0 = r 0 := hr 0 (by decide)
  have v1 : rq 1 = r 1 := hr 1 (by decide)
  have v2 : rq 2 = r 2 := hr 2 (by decide)
  have v4 : rq 4 = r 4 := hr 4 (by decide)
  have g0 : zq_ev rq (1, []) = 1 := zu_e0 _ _
  have g1 : zq_ev rq (2, []) = 2 := zu_e0 _ _
  have g2 : zq_ev rq (0, [(0, 1)]) = r 0 := zu_f1 v0
  have g3 : zq_ev rq (0, [(1, 1)]) = r 1 := zu_f1 v1
  have g4 : zq_ev rq (0, [(2, 1)]) = r 2 := zu_f1 v2
  have g5 : zq_ev rq (0, [(4, 1)]) = r 4 := zu_f1 v4
  exact ⟨_, List.mem_cons_self .., rq, hr, zq_MeS_mk rfl hT (zq_all_nil) zq_fan (zq_fan) rfl (zu_fac ((x_TL _ _ _).mpr (by show ze_TL (zq_ev rq (1, [])) (zq_ev rq (2, [])) (zq_ev rq (0, [(0, 1)])) (zq_ev rq (0, [(1, 1)])) (zq_ev rq (0, [(2, 1)])) (zq_ev rq (0, [(4, 1)])) P h; simp only [g0, g1, g2, g3, g4, g5]; exact t1)) zq_fan)⟩
noncomputable def ze_mt147 : zq_S × List zq_S := (([], [], [], [], [], [], [(223, [(1, []), (2, []), (0, [(0, 1)]), (0, [(1, 1)]), (0, [(2, 1)]), (0, [(3, 1)])]), (224, [(0, [(0, 1)]), (0, [(1, 1)]), (0, [(3, 1)]), (147, [])]), (221, [(0, []), (0, [(0, 1)]), (0, [(1, 1)]), (1, [(3, 1)]), (0, [(4, 1)])])], 5), [([], [], [], [], [], [], [(223, [(1, []), (2, []), (0, [(0, 1)]), (0, [(1, 1)]), (0, [(2, 1)]), (0, [(4, 1)])])], 5)])
theorem ze_mt147_l {P : zq_Ty} {h : zq_H} {g n p q x : Int} (k1 : ze_TL 1 2 g n p q P h) (k2 : ze_CD g n q 147 P h) (k3 : ze_TT 0 g n (q + 1) x P h) : (ze_TL 1 2 g n p x P h) := by
  intro e h2
  have k2 : 147 = ze_c g n q := k2
  exact k1 e (zt_tl_go (by rw [← k2]; decide) k3 h2)
theorem ze_mt147_ok {w : zq_Wd} (x_TL : zj_is w 223 (fun q => ze_TL (q 0) (q 1) (q 2) (q 3) (q 4) (q 5))) (x_CD : zj_is w 224 (fun q => ze_CD (q 0) (q 1) (q 2) (q 3))) (x_TT : zj_is w 221 (fun q => ze_TT (q 0) (q 1) (q 2) (q 3) (q 4))) : zq_okG1 w ze_mt147 := by
  refine ⟨rfl, rfl, zu_fac ⟨rfl, by decide⟩ zq_fan, ?_⟩
  intro r P h H hM
  have q0 : zq_ev r (1, []) = 1 := zu_e0 _ _
  have q1 : zq_ev r (2, []) = 2 := zu_e0 _ _
  have q2 : zq_ev r (0, [(0, 1)]) = r 0 := zu_e1 _ _
  have q3 : zq_ev r (0, [(1, 1)]) = r 1 := zu_e1 _ _
  have q4 : zq_ev r (0, [(2, 1)]) = r 2 := zu_e1 _ _
  have q5 : zq_ev r (0, [(3, 1)]) = r 3 := zu_e1 _ _
  have q6 : zq_ev r (147, []) = 147 := zu_e0 _ _
  have q7 : zq_ev r (0, []) = 0 := zu_e0 _ _
  have q8 : zq_ev r (1, [(3, 1)]) = r 3 + 1 := zu_e2 _ _ _
  have q9 : zq_ev r (0, [(4, 1)]) = r 4 := zu_e1 _ _
  obtain ⟨hT, hC, hF, hS, -, hK⟩ := hM
  have c := hC.1
  have k1 := zj_use x_TL (hK)
  have k1 : ze_TL (zq_ev r (1, [])) (zq_ev r (2, [])) (zq_ev r (0, [(0, 1)])) (zq_ev r (0, [(1, 1)])) (zq_ev r (0, [(2, 1)])) (zq_ev r (0, [(3, 1)])) P h := k1
  simp only [q0, q1, q2, q3, q4, q5] at k1
  have k2 := zj_use x_CD (zq_okX_t (hK))
  have k2 : ze_CD (zq_ev r (0, [(0, 1)])) (zq_ev r (0, [(1, 1)])) (zq_ev r (0, [(3, 1)])) (zq_ev r (147, [])) P h := k2
  simp only [q2, q3, q5, q6] at k2
  have k3 := zj_use x_TT (zq_okX_t (zq_okX_t (hK)))
  have k3 : ze_TT (zq_ev r (0, [])) (zq_ev r (0, [(0, 1)])) (zq_ev r (0, [(1, 1)])) (zq_ev r (1, [(3, 1)])) (zq_ev r (0, [(4, 1)])) P h := k3
  simp only [q2, q3, q7, q8, q9] at k3
  obtain t1 := ze_mt147_l (P := P) (h := h) (g := r 0) (n := r 1) (p := r 2) (q := r 3) (x := r 4) k1 k2 k3
  obtain ⟨rq, hr⟩ : ∃ rq : Nat → Int, (∀ i, i < 5 → rq i = r i) := ⟨r, fun i hi => rfl⟩
  have v0 : rq 0 = r 0 := hr 0 (by decide)
  have v1 : rq 1 = r 1 := hr 1 (by decide)
  have v2 : rq 2 = r 2 := hr 2 (by decide)
  have v4 : rq 4 = r 4 := hr 4 (by decide)
  have g0 : zq_ev rq (1, []) = 1 := zu_e0 _ _
  have g1 : zq_ev rq (2, []) = 2 := zu_e0 _ _
  have g2 : zq_ev rq (0, [(0, 1)]) = r 0 := zu_f1 v0
  have g3 : zq_ev rq (0, [(1, 1)]) = r 1 := zu_f1 v1
  have g4 : zq_ev rq (0, [(2, 1)]) = r 2 := zu_f1 v2
  have g5 : zq_ev rq (0, [(4, 1)]) = r 4 := zu_f1 v4
  exact ⟨_, List.mem_cons_self .., rq, hr, zq_MeS_mk rfl hT (zq_all_nil) zq_fan (zq_fan) rfl (zu_fac ((x_TL _ _ _).mpr (by show ze_TL (zq_ev rq (1, [])) (zq_ev rq (2, [])) (zq_ev rq (0, [(0, 1)])) (zq_ev rq (0, [(1, 1)])) (zq_ev rq (0, [(2, 1)])) (zq_ev rq (0, [(4, 1)])) P h; simp only [g0, g1, g2, g3, g4, g5]; exact t1)) zq_fan)⟩
noncomputable def ze_mt137 : zq_S × List zq_S := (([], [], [], [], [], [], [(223, [(1, []), (2, []), (0, [(0, 1)]), (0, [(1, 1)]), (0, [(2, 1)]), (0, [(3, 1)])]), (224, [(0, [(0, 1)]), (0, [(1, 1)]), (0, [(3, 1)]), (137, [])]), (221, [(0, []), (0, [(0, 1)]), (0, [(1, 1)]), (1, [(3, 1)]), (0, [(4, 1)])])], 5), [([], [], [], [], [], [], [(223, [(1, []), (2, []), (0, [(0, 1)]), (0, [(1, 1)]), (0, [(2, 1)]), (0, [(4, 1)])])], 5)])
theorem ze_mt137_l {P : zq_Ty} {h : zq_H} {g n p q x : Int} (k1 : ze_TL 1 2 g n p q P h) (k2 : ze_CD g n q 137 P h) (k3 : ze_TT 0 g n (q + 1) x P h) : (ze_TL 1 2 g n p x P h) := by
  intro e h2
  have k2 : 137 = ze_c g n q := k2
  exact k1 e (zt_tl_go (by rw [← k2]; decide) k3 h2)
theorem ze_mt137_ok {w : zq_Wd} (x_TL : zj_is w 223 (fun q => ze_TL (q 0) (q 1) (q 2) (q 3) (q 4) (q 5))) (x_CD : zj_is w 224 (fun q => ze_CD (q 0) (q 1) (q 2) (q 3))) (x_TT : zj_is w 221 (fun q => ze_TT (q 0) (q 1) (q 2) (q 3) (q 4))) : zq_okG1 w ze_mt137 := by
  refine ⟨rfl, rfl, zu_fac ⟨rfl, by decide⟩ zq_fan, ?_⟩
  intro r P h H hM
  have q0 : zq_ev r (1, []) = 1 := zu_e0 _ _
  have q1 : zq_ev r (2, []) = 2 := zu_e0 _ _
  have q2 : zq_ev r (0, [(0, 1)]) = r 0 := zu_e1 _ _
  have q3 : zq_ev r (0, [(1, 1)]) = r 1 := zu_e1 _ _
  have q4 : zq_ev r (0, [(2, 1)]) = r 2 := zu_e1 _ _
  have q5 : zq_ev r (0, [(3, 1)]) = r 3 := zu_e1 _ _
  have q6 : zq_ev r (137, []) = 137 := zu_e0 _ _
  have q7 : zq_ev r (0, []) = 0 := zu_e0 _ _
  have q8 : zq_ev r (1, [(3, 1)]) = r 3 + 1 := zu_e2 _ _ _
  have q9 : zq_ev r (0, [(4, 1)]) = r 4 := zu_e1 _ _
  obtain ⟨hT, hC, hF, hS, -, hK⟩ := hM
  have c := hC.1
  have k1 := zj_use x_TL (hK)
  have k1 : ze_TL (zq_ev r (1, [])) (zq_ev r (2, [])) (zq_ev r (0, [(0, 1)])) (zq_ev r (0, [(1, 1)])) (zq_ev r (0, [(2, 1)])) (zq_ev r (0, [(3, 1)])) P h := k1
  simp only [q0, q1, q2, q3, q4, q5] at k1
  have k2 := zj_use x_CD (zq_okX_t (hK))
  have k2 : ze_CD (zq_ev r (0, [(0, 1)])) (zq_ev r (0, [(1, 1)])) (zq_ev r (0, [(3, 1)])) (zq_ev r (137, [])) P h := k2
  simp only [q2, q3, q5, q6] at k2
  have k3 := zj_use x_TT (zq_okX_t (zq_okX_t (hK)))
  have k3 : ze_TT (zq_ev r (0, [])) (zq_ev r (0, [(0, 1)])) (zq_ev r (0, [(1, 1)])) (zq_ev r (1, [(3, 1)])) (zq_ev r (0, [(4, 1)])) P h := k3
  simp only [q2, q3, q7, q8, q9] at k3
  obtain t1 := ze_mt137_l (P := P) (h := h) (g := r 0) (n := r 1) (p := r 2) (q := r 3) (x := r 4) k1 k2 k3
  obtain ⟨rq, hr⟩ : ∃ rq : Nat → Int, (∀ i, i < 5 → rq i = r i) := ⟨r, fun i hi => rfl⟩
  have v0 : rq 0 = r 0 := hr 0 (by decide)
  have v1 : rq 1 = r 1 := hr 1 (by decide)
  have v2 : rq 2 = r 2 := hr 2 (by decide)
  have v4 : rq 4 = r 4 := hr 4 (by decide)
  have g0 : zq_ev rq (1, []) = 1 := zu_e0 _ _
  have g1 : zq_ev rq (2, []) = 2 := zu_e0 _ _
  have g2 : zq_ev rq (0, [(0, 1)]) = r 0 := zu_f1 v0
  have g3 : zq_ev rq (0, [(1, 1)]) = r 1 := zu_f1 v1
  have g4 : zq_ev rq (0, [(2, 1)]) = r 2 := zu_f1 v2
  have g5 : zq_ev rq (0, [(4, 1)]) = r 4 := zu_f1 v4
  exact ⟨_, List.mem_cons_self .., rq, hr, zq_MeS_mk rfl hT (zq_all_nil) zq_fan (zq_fan) rfl (zu_fac ((x_TL _ _ _).mpr (by show ze_TL (zq_ev rq (1, [])) (zq_ev rq (2, [])) (zq_ev rq (0, [(0, 1)])) (zq_ev rq (0, [(1, 1)])) (zq_ev rq (0, [(2, 1)])) (zq_ev rq (0, [(4, 1)])) P h; simp only [g0, g1, g2, g3, g4, g5]; exact t1)) zq_fan)⟩
noncomputable def ze_st143 : zq_S × List zq_S := (([], [], [], [], [], [], [(223, [(3, []), (4, []), (0, [(0, 1)]), (0, [(1, 1)]), (0, [(2, 1)]), (0, [(3, 1)])]), (224, [(0, [(0, 1)]), (0, [(1, 1)]), (0, [(3, 1)]), (143, [])]), (221, [(2, []), (0, [(0, 1)]), (0, [(1, 1)]), (1, [(3, 1)]), (0, [(4, 1)])])], 5), [([], [], [], [], [], [], [(223, [(3, []), (4, []), (0, [(0, 1)]), (0, [(1, 1)]), (0, [(2, 1)]), (0, [(4, 1)])])], 5)])
theorem ze_st143_l {P : zq_Ty} {h : zq_H} {g n p q x : Int} (k1 : ze_TL 3 4 g n p q P h) (k2 : ze_CD g n q 143 P h) (k3 : ze_TT 2 g n (q + 1) x P h) : (ze_TL 3 4 g n p x P h) := by
  intro e h2
  have k2 : 143 = ze_c g n q := k2
  exact k1 e (zt_sl_go (by rw [← k2]; decide) k3 h2)
theorem ze_st143_ok {w : zq_Wd} (x_TL : zj_is w 223 (fun q => ze_TL (q 0) (q 1) (q 2) (q 3) (q 4) (q 5))) (x_CD : zj_is w 224 (fun q => ze_CD (q 0) (q 1) (q 2) (q 3))) (x_TT : zj_is w 221 (fun q => ze_TT (q 0) (q 1) (q 2) (q 3) (q 4))) : zq_okG1 w ze_st143 := by
  refine ⟨rfl, rfl, zu_fac ⟨rfl, by decide⟩ zq_fan, ?_⟩
  intro r P h H hM
  have q0 : zq_ev r (3, []) = 3 := zu_e0 _ _
  have q1 : zq_ev r (4, []) = 4 := zu_e0 _ _
  have q2 : zq_ev r (0, [(0, 1)]) = r 0 := zu_e1 _ _
  have q3 : zq_ev r (0, [(1, 1)]) = r 1 := zu_e1 _ _
  have q4 : zq_ev r (0, [(2, 1)]) = r 2 := zu_e1 _ _
  have q5 : zq_ev r (0, [(3, 1)]) = r 3 := zu_e1 _ _
  have q6 : zq_ev r (143, []) = 143 := zu_e0 _ _
  have q7 : zq_ev r (2, []) = 2 := zu_e0 _ _
  have q8 : zq_ev r (1, [(3, 1)]) = r 3 + 1 := zu_e2 _ _ _
  have q9 : zq_ev r (0, [(4, 1)]) = r 4 := zu_e1 _ _
  obtain ⟨hT, hC, hF, hS, -, hK⟩ := hM
  have c := hC.1
  have k1 := zj_use x_TL (hK)
  have k1 : ze_TL (zq_ev r (3, [])) (zq_ev r (4, [])) (zq_ev r (0, [(0, 1)])) (zq_ev r (0, [(1, 1)])) (zq_ev r (0, [(2, 1)])) (zq_ev r (0, [(3, 1)])) P h := k1
  simp only [q0, q1, q2, q3, q4, q5] at k1
  have k2 := zj_use x_CD (zq_okX_t (hK))
  have k2 : ze_CD (zq_ev r (0, [(0, 1)])) (zq_ev r (0, [(1, 1)])) (zq_ev r (0, [(3, 1)])) (zq_ev r (143, [])) P h := k2
  simp only [q2, q3, q5, q6] at k2
  have k3 := zj_use x_TT (zq_okX_t (zq_okX_t (hK)))
  have k3 : ze_TT (zq_ev r (2, [])) (zq_ev r (0, [(0, 1)])) (zq_ev r (0, [(1, 1)])) (zq_ev r (1, [(3, 1)])) (zq_ev r (0, [(4, 1)])) P h := k3
  simp only [q2, q3, q7, q8, q9] at k3
  obtain t1 := ze_st143_l (P := P) (h := h) (g := r 0) (n := r 1) (p := r 2) (q := r 3) (x := r 4) k1 k2 k3
  obtain ⟨rq, hr⟩ : ∃ rq : Nat → Int, (∀ i, i < 5 → rq i = r i) := ⟨r, fun i hi => rfl⟩
  have v0 : rq 0 = r 0 := hr 0 (by decide)
  have v1 : rq 1 = r 1 := hr 1 (by decide)
  have v2 : rq 2 = r 2 := hr 2 (by decide)
  have v4 : rq 4 = r 4 := hr 4 (by decide)
  have g0 : zq_ev rq (3, []) = 3 := zu_e0 _ _
  have g1 : zq_ev rq (4, []) = 4 := zu_e0 _ _
  have g2 : zq_ev rq (0, [(0, 1)]) = r 0 := zu_f1 v0
  have g3 : zq_ev rq (0, [(1, 1)]) = r 1 := zu_f1 v1
  have g4 : zq_ev rq (0, [(2, 1)]) = r 2 := zu_f1 v2
  have g5 : zq_ev rq (0, [(4, 1)]) = r 4 := zu_f1 v4
  exact ⟨_, List.mem_cons_self .., rq, hr, zq_MeS_mk rfl hT (zq_all_nil) zq_fan (zq_fan) rfl (zu_fac ((x_TL _ _ _).mpr (by show ze_TL (zq_ev rq (3, [])) (zq_ev rq (4, [])) (zq_ev rq (0, [(0, 1)])) (zq_ev rq (0, [(1, 1)])) (zq_ev rq (0, [(2, 1)])) (zq_ev rq (0, [(4, 1)])) P h; simp only [g0, g1, g2, g3, g4, g5]; exact t1)) zq_fan)⟩
noncomputable def ze_st145 : zq_S × List zq_S := (([], [], [], [], [], [], [(223, [(3, []), (4, []), (0, [(0, 1)]), (0, [(1, 1)]), (0, [(2, 1)]), (0, [(3, 1)])]), (224, [(0, [(0, 1)]), (0, [(1, 1)]), (0, [(3, 1)]), (145, [])]), (221, [(2, []), (0, [(0, 1)]), (0, [(1, 1)]), (1, [(3, 1)]), (0, [(4, 1)])])], 5), [([], [], [], [], [], [], [(223, [(3, []), (4, []), (0, [(0, 1)]), (0, [(1, 1)]), (0, [(2, 1)]), (0, [(4, 1)])])], 5)])
theorem ze_st145_l {P : zq_Ty} {h : zq_H} {g n p q x : Int} (k1 : ze_TL 3 4 g n p q P h) (k2 : ze_CD g n q 145 P h) (k3 : ze_TT 2 g n (q + 1) x P h) : (ze_TL 3 4 g n p x P h) := by
  intro e h2
  have k2 : 145 = ze_c g n q := k2
  exact k1 e (zt_sl_go (by rw [← k2]; decide) k3 h2)
theorem ze_st145_ok {w : zq_Wd} (x_TL : zj_is w 223 (fun q => ze_TL (q 0) (q 1) (q 2) (q 3) (q 4) (q 5))) (x_CD : zj_is w 224 (fun q => ze_CD (q 0) (q 1) (q 2) (q 3))) (x_TT : zj_is w 221 (fun q => ze_TT (q 0) (q 1) (q 2) (q 3) (q 4))) : zq_okG1 w ze_st145 := by
  refine ⟨rfl, rfl, zu_fac ⟨rfl, by decide⟩ zq_fan, ?_⟩
  intro r P h H hM
  have q0 : zq_ev r (3, []) = 3 := zu_e0 _ _
  have q1 : zq_ev r (4, []) = 4 := zu_e0 _ _
  have q2 : zq_ev r (0, [(0, 1)]) = r 0 := zu_e1 _ _
  have q3 : zq_ev r (0, [(1, 1)]) = r 1 := zu_e1 _ _
  have q4 : zq_ev r (0, [(2, 1)]) = r 2 := zu_e1 _ _
  have q5 : zq_ev r (0, [(3, 1)]) = r 3 := zu_e1 _ _
  have q6 : zq_ev r (145, []) = 145 := zu_e0 _ _
  have q7 : zq_ev r (2, []) = 2 := zu_e0 _ _
  have q8 : zq_ev r (1, [(3, 1)]) = r 3 + 1 := zu_e2 _ _ _
  have q9 : zq_ev r (0, [(4, 1)]) = r 4 := zu_e1 _ _
  obtain ⟨hT, hC, hF, hS, -, hK⟩ := hM
  have c := hC.1
  have k1 := zj_use x_TL (hK)
  have k1 : ze_TL (zq_ev r (3, [])) (zq_ev r (4, [])) (zq_ev r (0, [(0, 1)])) (zq_ev r (0, [(1, 1)])) (zq_ev r (0, [(2, 1)])) (zq_ev r (0, [(3, 1)])) P h := k1
  simp only [q0, q1, q2, q3, q4, q5] at k1
  have k2 := zj_use x_CD (zq_okX_t (hK))
  have k2 : ze_CD (zq_ev r (0, [(0, 1)])) (zq_ev r (0, [(1, 1)])) (zq_ev r (0, [(3, 1)])) (zq_ev r (145, [])) P h := k2
  simp only [q2, q3, q5, q6] at k2
  have k3 := zj_use x_TT (zq_okX_t (zq_okX_t (hK)))
  have k3 : ze_TT (zq_ev r (2, [])) (zq_ev r (0, [(0, 1)])) (zq_ev r (0, [(1, 1)])) (zq_ev r (1, [(3, 1)])) (zq_ev r (0, [(4, 1)])) P h := k3
  simp only [q2, q3, q7, q8, q9] at k3
  obtain t1 := ze_st145_l (P := P) (h := h) (g := r 0) (n := r 1) (p := r 2) (q := r 3) (x := r 4) k1 k2 k3
  obtain ⟨rq, hr⟩ : ∃ rq : Nat → Int, (∀ i, i < 5 → rq i = r i) := ⟨r, fun i hi => rfl⟩
  have v0 : rq 0 = r 0 := hr 0 (by decide)
  have v1 : rq 1 = r 1 := hr 1 (by decide)
  have v2 : rq 2 = r 2 := hr 2 (by decide)
  have v4 : rq 4 = r 4 := hr 4 (by decide)
  have g0 : zq_ev rq (3, []) = 3 := zu_e0 _ _
  have g1 : zq_ev rq (4, []) = 4 := zu_e0 _ _
  have g2 : zq_ev rq (0, [(0, 1)]) = r 0 := zu_f1 v0
  have g3 : zq_ev rq (0, [(1, 1)]) = r 1 := zu_f1 v1
  have g4 : zq_ev rq (0, [(2, 1)]) = r 2 := zu_f1 v2
  have g5 : zq_ev rq (0, [(4, 1)]) = r 4 := zu_f1 v4
  exact ⟨_, List.mem_cons_self .., rq, hr, zq_MeS_mk rfl hT (zq_all_nil) zq_fan (zq_fan) rfl (zu_fac ((x_TL _ _ _).mpr (by show ze_TL (zq_ev rq (3, [])) (zq_ev rq (4, [])) (zq_ev rq (0, [(0, 1)])) (zq_ev rq (0, [(1, 1)])) (zq_ev rq (0, [(2, 1)])) (zq_ev rq (0, [(4, 1)])) P h; simp only [g0, g1, g2, g3, g4, g5]; exact t1)) zq_fan)⟩
noncomputable def ze_o : zq_S × List zq_S := (([], [], [], [], [], [], [(224, [(0, [(0, 1)]), (0, [(1, 1)]), (0, [(5, 1)]), (140, [])]), (220, [(10, []), (0, [(0, 1)]), (0, [(1, 1)]), (0, [(2, 1)]), (0, [(3, 1)]), (0, [(4, 1)]), (1, [(5, 1)]), (0, [(6, 1)]), (0, [(7, 1)]), (0, [(8, 1)])])], 9), [([], [], [], [], [], [], [(220, [(5, []), (0, [(0, 1)]), (0, [(1, 1)]), (0, [(2, 1)]), (0, [(3, 1)]), (0, [(4, 1)]), (0, [(5, 1)]), (0, [(6, 1)]), (0, [(7, 1)]), (1, [(8, 1)])])], 9)])
theorem ze_o_l {P : zq_Ty} {h : zq_H} {g n o W b p r c q : Int} (k1 : ze_CD g n p 140 P h) (k2 : ze_EV 10 g n o W b (p + 1) r c q P h) : (ze_EV 5 g n o W b p r c (q + 1) P h) := by
  exact ze_pos_b (show 140 = ze_c g n p from k1).symm k2
theorem ze_o_ok {w : zq_Wd} (x_CD : zj_is w 224 (fun q => ze_CD (q 0) (q 1) (q 2) (q 3))) (x_EV : zj_is w 220 (fun q => ze_EV (q 0) (q 1) (q 2) (q 3) (q 4) (q 5) (q 6) (q 7) (q 8) (q 9))) : zq_okG1 w ze_o := by
  refine ⟨rfl, rfl, zu_fac ⟨rfl, by decide⟩ zq_fan, ?_⟩
  intro r P h H hM
  have q0 : zq_ev r (0, [(0, 1)]) = r 0 := zu_e1 _ _
  have q1 : zq_ev r (0, [(1, 1)]) = r 1 := zu_e1 _ _
  have q2 : zq_ev r (0, [(5, 1)]) = r 5 := zu_e1 _ _
  have q3 : zq_ev r (140, []) = 140 := zu_e0 _ _
  have q4 : zq_ev r (10, []) = 10 := zu_e0 _ _
  have q5 : zq_ev r (0, [(2, 1)]) = r 2 := zu_e1 _ _
  have q6 : zq_ev r (0, [(3, 1)]) = r 3 := zu_e1 _ _
  have q7 : zq_ev r (0, [(4, 1)]) = r 4 := zu_e1 _ _
  have q8 : zq_ev r (1, [(5, 1)]) = r 5 + 1 := zu_e2 _ _ _
  have q9 : zq_ev r (0, [(6, 1)]) = r 6 := zu_e1 _ _
  have q10 : zq_ev r (0, [(7, 1)]) = r 7 := zu_e1 _ _
  have q11 : zq_ev r (0, [(8, 1)]) = r 8 := zu_e1 _ _
  obtain ⟨hT, hC, hF, hS, -, hK⟩ := hM
  have c := hC.1
  have k1 := zj_use x_CD (hK)
  have k1 : ze_CD (zq_ev r (0, [(0, 1)])) (zq_ev r (0, [(1, 1)])) (zq_ev r (0, [(5, 1)])) (zq_ev r (140, [])) P h := k1
  simp only [q0, q1, q2, q3] at k1
  have k2 := zj_use x_EV (zq_okX_t (hK))
  have k2 : ze_EV (zq_ev r (10, [])) (zq_ev r (0, [(0, 1)])) (zq_ev r (0, [(1, 1)])) (zq_ev r (0, [(2, 1)])) (zq_ev r (0, [(3, 1)])) (zq_ev r (0, [(4, 1)])) (zq_ev r (1, [(5, 1)])) (zq_ev r (0, [(6, 1)])) (zq_ev r (0, [(7, 1)])) (zq_ev r (0, [(8, 1)])) P h := k2
  simp only [q0, q1, q10, q11, q4, q5, q6, q7, q8, q9] at k2
  obtain t1 := ze_o_l (P := P) (h := h) (g := r 0) (n := r 1) (o := r 2) (W := r 3) (b := r 4) (p := r 5) (r := r 6) (c := r 7) (q := r 8) k1 k2
  obtain ⟨rq, hr⟩ : ∃ rq : Nat → Int, (∀ i, i < 9 → rq i = r i) := ⟨r, fun i hi => rfl⟩
  have v0 : rq 0 = r 0 := hr 0 (by decide)
  have v1 : rq 1 = r 1 := hr 1 (by decide)
  have v2 : rq 2 = r 2 := hr 2 (by decide)
  have v3 : rq 3 = r 3 := hr 3 (by decide)
  have v4 : rq 4 = r 4 := hr 4 (by decide)
  have v5 : rq 5 = r 5 := hr 5 (by decide)
  have v6 : rq 6 = r 6 := hr 6 (by decide)
  have v7 : rq 7 = r 7 := hr 7 (by decide)
  have v8 : rq 8 = r 8 := hr 8 (by decide)
  have g0 : zq_ev rq (5, []) = 5 := zu_e0 _ _
  have g1 : zq_ev rq (0, [(0, 1)]) = r 0 := zu_f1 v0
  have g2 : zq_ev rq (0, [(1, 1)]) = r 1 := zu_f1 v1
  have g3 : zq_ev rq (0, [(2, 1)]) = r 2 := zu_f1 v2
  have g4 : zq_ev rq (0, [(3, 1)]) = r 3 := zu_f1 v3
  have g5 : zq_ev rq (0, [(4, 1)]) = r 4 := zu_f1 v4
  have g6 : zq_ev rq (0, [(5, 1)]) = r 5 := zu_f1 v5
  have g7 : zq_ev rq (0, [(6, 1)]) = r 6 := zu_f1 v6
  have g8 : zq_ev rq (0, [(7, 1)]) = r 7 := zu_f1 v7
  have g9 : zq_ev rq (1, [(8, 1)]) = r 8 + 1 := zu_f2 v8 _
  exact ⟨_, List.mem_cons_self .., rq, hr, zq_MeS_mk rfl hT (zq_all_nil) zq_fan (zq_fan) rfl (zu_fac ((x_EV _ _ _).mpr (by show ze_EV (zq_ev rq (5, [])) (zq_ev rq (0, [(0, 1)])) (zq_ev rq (0, [(1, 1)])) (zq_ev rq (0, [(2, 1)])) (zq_ev rq (0, [(3, 1)])) (zq_ev rq (0, [(4, 1)])) (zq_ev rq (0, [(5, 1)])) (zq_ev rq (0, [(6, 1)])) (zq_ev rq (0, [(7, 1)])) (zq_ev rq (1, [(8, 1)])) P h; simp only [g0, g1, g2, g3, g4, g5, g6, g7, g8, g9]; exact t1)) zq_fan)⟩
noncomputable def ze_ot : zq_S × List zq_S := (([], [], [], [], [], [], [(224, [(0, [(0, 1)]), (0, [(1, 1)]), (0, [(2, 1)]), (140, [])]), (221, [(10, []), (0, [(0, 1)]), (0, [(1, 1)]), (1, [(2, 1)]), (0, [(3, 1)])])], 4), [([], [], [], [], [], [], [(221, [(5, []), (0, [(0, 1)]), (0, [(1, 1)]), (0, [(2, 1)]), (1, [(3, 1)])])], 4)])
theorem ze_ot_l {P : zq_Ty} {h : zq_H} {g n p q : Int} (k1 : ze_CD g n p 140 P h) (k2 : ze_TT 10 g n (p + 1) q P h) : (ze_TT 5 g n p (q + 1) P h) := by
  exact zt_pos_b (show 140 = ze_c g n p from k1).symm k2
theorem ze_ot_ok {w : zq_Wd} (x_CD : zj_is w 224 (fun q => ze_CD (q 0) (q 1) (q 2) (q 3))) (x_TT : zj_is w 221 (fun q => ze_TT (q 0) (q 1) (q 2) (q 3) (q 4))) : zq_okG1 w ze_ot := by
  refine ⟨rfl, rfl, zu_fac ⟨rfl, by decide⟩ zq_fan, ?_⟩
  intro r P h H hM
  have q0 : zq_ev r (0, [(0, 1)]) = r 0 := zu_e1 _ _
  have q1 : zq_ev r (0, [(1, 1)]) = r 1 := zu_e1 _ _
  have q2 : zq_ev r (0, [(2, 1)]) = r 2 := zu_e1 _ _
  have q3 : zq_ev r (140, []) = 140 := zu_e0 _ _
  have q4 : zq_ev r (10, []) = 10 := zu_e0 _ _
  have q5 : zq_ev r (1, [(2, 1)]) = r 2 + 1 := zu_e2 _ _ _
  have q6 : zq_ev r (0, [(3, 1)]) = r 3 := zu_e1 _ _
  obtain ⟨hT, hC, hF, hS, -, hK⟩ := hM
  have c := hC.1
  have k1 := zj_use x_CD (hK)
  have k1 : ze_CD (zq_ev r (0, [(0, 1)])) (zq_ev r (0, [(1, 1)])) (zq_ev r (0, [(2, 1)])) (zq_ev r (140, [])) P h := k1
  simp only [q0, q1, q2, q3] at k1
  have k2 := zj_use x_TT (zq_okX_t (hK))
  have k2 : ze_TT (zq_ev r (10, [])) (zq_ev r (0, [(0, 1)])) (zq_ev r (0, [(1, 1)])) (zq_ev r (1, [(2, 1)])) (zq_ev r (0, [(3, 1)])) P h := k2
  simp only [q0, q1, q4, q5, q6] at k2
  obtain t1 := ze_ot_l (P := P) (h := h) (g := r 0) (n := r 1) (p := r 2) (q := r 3) k1 k2
  obtain ⟨rq, hr⟩ : ∃ rq : Nat → Int, (∀ i, i < 4 → rq i = r i) := ⟨r, fun i hi => rfl⟩
  have v0 : rq 0 = r 0 := hr 0 (by decide)
  have v1 : rq 1 = r 1 := hr 1 (by decide)
  have v2 : rq 2 = r 2 := hr 2 (by decide)
  have v3 : rq 3 = r 3 := hr 3 (by decide)
  have g0 : zq_ev rq (5, []) = 5 := zu_e0 _ _
  have g1 : zq_ev rq (0, [(0, 1)]) = r 0 := zu_f1 v0
  have g2 : zq_ev rq (0, [(1, 1)]) = r 1 := zu_f1 v1
  have g3 : zq_ev rq (0, [(2, 1)]) = r 2 := zu_f1 v2
  have g4 : zq_ev rq (1, [(3, 1)]) = r 3 + 1 := zu_f2 v3 _
  exact ⟨_, List.mem_cons_self .., rq, hr, zq_MeS_mk rfl hT (zq_all_nil) zq_fan (zq_fan) rfl (zu_fac ((x_TT _ _ _).mpr (by show ze_TT (zq_ev rq (5, [])) (zq_ev rq (0, [(0, 1)])) (zq_ev rq (0, [(1, 1)])) (zq_ev rq (0, [(2, 1)])) (zq_ev rq (1, [(3, 1)])) P h; simp only [g0, g1, g2, g3, g4]; exact t1)) zq_fan)⟩
noncomputable def ze_cta : zq_S × List zq_S := (([], [], [(139, [(3, -1)])], [], [], [], [(224, [(0, [(0, 1)]), (0, [(1, 1)]), (0, [(2, 1)]), (0, [(3, 1)])]), (221, [(4, []), (0, [(0, 1)]), (0, [(1, 1)]), (0, [(2, 1)]), (0, [(4, 1)])]), (221, [(4, []), (0, [(0, 1)]), (0, [(1, 1)]), (1, [(4, 1)]), (0, [(5, 1)])])], 6), [([], [], [], [], [], [], [(221, [(5, []), (0, [(0, 1)]), (0, [(1, 1)]), (0, [(2, 1)]), (0, [(5, 1)])])], 6)])
theorem ze_cta_l {P : zq_Ty} {h : zq_H} {g n p s q x : Int} (a1 : 0 ≤ -s + 139) (k1 : ze_CD g n p s P h) (k2 : ze_TT 4 g n p q P h) (k3 : ze_TT 4 g n (q + 1) x P h) : (ze_TT 5 g n p x P h) := by
  have k1 : s = ze_c g n p := k1
  exact zt_pos_c (by rw [← k1]; omega) k2 k3
theorem ze_cta_ok {w : zq_Wd} (x_CD : zj_is w 224 (fun q => ze_CD (q 0) (q 1) (q 2) (q 3))) (x_TT : zj_is w 221 (fun q => ze_TT (q 0) (q 1) (q 2) (q 3) (q 4))) : zq_okG1 w ze_cta := by
  refine ⟨rfl, rfl, zu_fac ⟨rfl, by decide⟩ zq_fan, ?_⟩
  intro r P h H hM
  have q0 : zq_ev r (139, [(3, -1)]) = -r 3 + 139 := zu_e5 _ _ _
  have q1 : zq_ev r (0, [(0, 1)]) = r 0 := zu_e1 _ _
  have q2 : zq_ev r (0, [(1, 1)]) = r 1 := zu_e1 _ _
  have q3 : zq_ev r (0, [(2, 1)]) = r 2 := zu_e1 _ _
  have q4 : zq_ev r (0, [(3, 1)]) = r 3 := zu_e1 _ _
  have q5 : zq_ev r (4, []) = 4 := zu_e0 _ _
  have q6 : zq_ev r (0, [(4, 1)]) = r 4 := zu_e1 _ _
  have q7 : zq_ev r (1, [(4, 1)]) = r 4 + 1 := zu_e2 _ _ _
  have q8 : zq_ev r (0, [(5, 1)]) = r 5 := zu_e1 _ _
  obtain ⟨hT, hC, hF, hS, -, hK⟩ := hM
  have c := hC.1
  have a1 := zq_all_1 c
  rw [q0] at a1
  have k1 := zj_use x_CD (hK)
  have k1 : ze_CD (zq_ev r (0, [(0, 1)])) (zq_ev r (0, [(1, 1)])) (zq_ev r (0, [(2, 1)])) (zq_ev r (0, [(3, 1)])) P h := k1
  simp only [q1, q2, q3, q4] at k1
  have k2 := zj_use x_TT (zq_okX_t (hK))
  have k2 : ze_TT (zq_ev r (4, [])) (zq_ev r (0, [(0, 1)])) (zq_ev r (0, [(1, 1)])) (zq_ev r (0, [(2, 1)])) (zq_ev r (0, [(4, 1)])) P h := k2
  simp only [q1, q2, q3, q5, q6] at k2
  have k3 := zj_use x_TT (zq_okX_t (zq_okX_t (hK)))
  have k3 : ze_TT (zq_ev r (4, [])) (zq_ev r (0, [(0, 1)])) (zq_ev r (0, [(1, 1)])) (zq_ev r (1, [(4, 1)])) (zq_ev r (0, [(5, 1)])) P h := k3
  simp only [q1, q2, q5, q7, q8] at k3
  obtain t1 := ze_cta_l (P := P) (h := h) (g := r 0) (n := r 1) (p := r 2) (s := r 3) (q := r 4) (x := r 5) a1 k1 k2 k3
  obtain ⟨rq, hr⟩ : ∃ rq : Nat → Int, (∀ i, i < 6 → rq i = r i) := ⟨r, fun i hi => rfl⟩
  have v0 : rq 0 = r 0 := hr 0 (by decide)
  have v1 : rq 1 = r 1 := hr 1 (by decide)
  have v2 : rq 2 = r 2 := hr 2 (by decide)
  have v5 : rq 5 = r 5 := hr 5 (by decide)
  have g0 : zq_ev rq (5, []) = 5 := zu_e0 _ _
  have g1 : zq_ev rq (0, [(0, 1)]) = r 0 := zu_f1 v0
  have g2 : zq_ev rq (0, [(1, 1)]) = r 1 := zu_f1 v1
  have g3 : zq_ev rq (0, [(2, 1)]) = r 2 := zu_f1 v2
  have g4 : zq_ev rq (0, [(5, 1)]) = r 5 := zu_f1 v5
  exact ⟨_, List.mem_cons_self .., rq, hr, zq_MeS_mk rfl hT (zq_all_nil) zq_fan (zq_fan) rfl (zu_fac ((x_TT _ _ _).mpr (by show ze_TT (zq_ev rq (5, [])) (zq_ev rq (0, [(0, 1)])) (zq_ev rq (0, [(1, 1)])) (zq_ev rq (0, [(2, 1)])) (zq_ev rq (0, [(5, 1)])) P h; simp only [g0, g1, g2, g3, g4]; exact t1)) zq_fan)⟩
noncomputable def ze_cax : zq_S × List zq_S := (([], [], [(139, [(6, -1)])], [], [], [], [(224, [(0, [(0, 1)]), (0, [(1, 1)]), (0, [(5, 1)]), (0, [(6, 1)])]), (220, [(4, []), (0, [(0, 1)]), (0, [(1, 1)]), (0, [(2, 1)]), (0, [(3, 1)]), (0, [(4, 1)]), (0, [(5, 1)]), (0, [(8, 1)]), (0, [(9, 1)]), (0, [(7, 1)])]), (224, [(0, [(0, 1)]), (0, [(1, 1)]), (0, [(7, 1)]), (0, [(13, 1)])]), (220, [(4, []), (0, [(0, 1)]), (0, [(1, 1)]), (0, [(2, 1)]), (0, [(3, 1)]), (0, [(9, 1)]), (1, [(7, 1)]), (0, [(11, 1)]), (1, []), (0, [(12, 1)])])], 14), [([], [], [], [], [], [], [(220, [(5, []), (0, [(0, 1)]), (0, [(1, 1)]), (0, [(2, 1)]), (0, [(3, 1)]), (0, [(4, 1)]), (0, [(5, 1)]), (0, []), (1, []), (0, [(12, 1)])])], 14)])
theorem ze_cax_l {P : zq_Ty} {h : zq_H} {g n o W b p s q r c t y x m : Int} (a1 : 0 ≤ -s + 139) (k1 : ze_CD g n p s P h) (k2 : ze_EV 4 g n o W b p r c q P h) (k3 : ze_CD g n q m P h) (k4 : ze_EV 4 g n o W c (q + 1) y 1 x P h) : (ze_EV 5 g n o W b p 0 1 x P h) := by
  have k1 : s = ze_c g n p := k1
  have k3 : m = ze_c g n q := k3
  have e := ze_pos_c (acc := 0) (by rw [← k1]; omega) k2 k4
  rw [← k3] at e
  have x1 : ze_bi (true && (!(ze_on 1) && ze_cmp m r y)) = 0 := by rw [ze_on1]; rfl
  rw [x1] at e
  exact e
theorem ze_cax_ok {w : zq_Wd} (x_CD : zj_is w 224 (fun q => ze_CD (q 0) (q 1) (q 2) (q 3))) (x_EV : zj_is w 220 (fun q => ze_EV (q 0) (q 1) (q 2) (q 3) (q 4) (q 5) (q 6) (q 7) (q 8) (q 9))) : zq_okG1 w ze_cax := by
  refine ⟨rfl, rfl, zu_fac ⟨rfl, by decide⟩ zq_fan, ?_⟩
  intro r P h H hM
  have q0 : zq_ev r (139, [(6, -1)]) = -r 6 + 139 := zu_e5 _ _ _
  have q1 : zq_ev r (0, [(0, 1)]) = r 0 := zu_e1 _ _
  have q2 : zq_ev r (0, [(1, 1)]) = r 1 := zu_e1 _ _
  have q3 : zq_ev r (0, [(5, 1)]) = r 5 := zu_e1 _ _
  have q4 : zq_ev r (0, [(6, 1)]) = r 6 := zu_e1 _ _
  have q5 : zq_ev r (4, []) = 4 := zu_e0 _ _
  have q6 : zq_ev r (0, [(2, 1)]) = r 2 := zu_e1 _ _
  have q7 : zq_ev r (0, [(3, 1)]) = r 3 := zu_e1 _ _
  have q8 : zq_ev r (0, [(4, 1)]) = r 4 := zu_e1 _ _
  have q9 : zq_ev r (0, [(8, 1)]) = r 8 := zu_e1 _ _
  have q10 : zq_ev r (0, [(9, 1)]) = r 9 := zu_e1 _ _
  have q11 : zq_ev r (0, [(7, 1)]) = r 7 := zu_e1 _ _
  have q12 : zq_ev r (0, [(13, 1)]) = r 13 := zu_e1 _ _
  have q13 : zq_ev r (1, [(7, 1)]) = r 7 + 1 := zu_e2 _ _ _
  have q14 : zq_ev r (0, [(11, 1)]) = r 11 := zu_e1 _ _
  have q15 : zq_ev r (1, []) = 1 := zu_e0 _ _
  have q16 : zq_ev r (0, [(12, 1)]) = r 12 := zu_e1 _ _
  obtain ⟨hT, hC, hF, hS, -, hK⟩ := hM
  have c := hC.1
  have a1 := zq_all_1 c
  rw [q0] at a1
  have k1 := zj_use x_CD (hK)
  have k1 : ze_CD (zq_ev r (0, [(0, 1)])) (zq_ev r (0, [(1, 1)])) (zq_ev r (0, [(5, 1)])) (zq_ev r (0, [(6, 1)])) P h := k1
  simp only [q1, q2, q3, q4] at k1
  have k2 := zj_use x_EV (zq_okX_t (hK))
  have k2 : ze_EV (zq_ev r (4, [])) (zq_ev r (0, [(0, 1)])) (zq_ev r (0, [(1, 1)])) (zq_ev r (0, [(2, 1)])) (zq_ev r (0, [(3, 1)])) (zq_ev r (0, [(4, 1)])) (zq_ev r (0, [(5, 1)])) (zq_ev r (0, [(8, 1)])) (zq_ev r (0, [(9, 1)])) (zq_ev r (0, [(7, 1)])) P h := k2
  simp only [q1, q10, q11, q2, q3, q5, q6, q7, q8, q9] at k2
  have k3 := zj_use x_CD (zq_okX_t (zq_okX_t (hK)))
  have k3 : ze_CD (zq_ev r (0, [(0, 1)])) (zq_ev r (0, [(1, 1)])) (zq_ev r (0, [(7, 1)])) (zq_ev r (0, [(13, 1)])) P h := k3
  simp only [q1, q11, q12, q2] at k3
  have k4 := zj_use x_EV (zq_okX_t (zq_okX_t (zq_okX_t (hK))))
  have k4 : ze_EV (zq_ev r (4, [])) (zq_ev r (0, [(0, 1)])) (zq_ev r (0, [(1, 1)])) (zq_ev r (0, [(2, 1)])) (zq_ev r (0, [(3, 1)])) (zq_ev r (0, [(9, 1)])) (zq_ev r (1, [(7, 1)])) (zq_ev r (0, [(11, 1)])) (zq_ev r (1, [])) (zq_ev r (0, [(12, 1)])) P h := k4
  simp only [q1, q10, q13, q14, q15, q16, q2, q5, q6, q7] at k4
  obtain t1 := ze_cax_l (P := P) (h := h) (g := r 0) (n := r 1) (o := r 2) (W := r 3) (b := r 4) (p := r 5) (s := r 6) (q := r 7) (r := r 8) (c := r 9) (t := r 10) (y := r 11) (x := r 12) (m := r 13) a1 k1 k2 k3 k4
  obtain ⟨rq, hr⟩ : ∃ rq : Nat → Int, (∀ i, i < 14 → rq i = r i) := ⟨r, fun i hi => rfl⟩
  have v0 : rq 0 = r 0 := hr 0 (by decide)
  have v1 : rq 1 = r 1 := hr 1 (by decide)
  have v2 : rq 2 = r 2 := hr 2 (by decide)
  have v3 : rq 3 = r 3 := hr 3 (by decide)
  have v4 : rq 4 = r 4 := hr 4 (by decide)
  have v5 : rq 5 = r 5 := hr 5 (by decide)
  have v12 : rq 12 = r 12 := hr 12 (by decide)
  have g0 : zq_ev rq (5, []) = 5 := zu_e0 _ _
  have g1 : zq_ev rq (0, [(0, 1)]) = r 0 := zu_f1 v0
  have g2 : zq_ev rq (0, [(1, 1)]) = r 1 := zu_f1 v1
  have g3 : zq_ev rq (0, [(2, 1)]) = r 2 := zu_f1 v2
  have g4 : zq_ev rq (0, [(3, 1)]) = r 3 := zu_f1 v3
  have g5 : zq_ev rq (0, [(4, 1)]) = r 4 := zu_f1 v4
  have g6 : zq_ev rq (0, [(5, 1)]) = r 5 := zu_f1 v5
  have g7 : zq_ev rq (0, []) = 0 := zu_e0 _ _
  have g8 : zq_ev rq (1, []) = 1 := zu_e0 _ _
  have g9 : zq_ev rq (0, [(12, 1)]) = r 12 := zu_f1 v12
  exact ⟨_, List.mem_cons_self .., rq, hr, zq_MeS_mk rfl hT (zq_all_nil) zq_fan (zq_fan) rfl (zu_fac ((x_EV _ _ _).mpr (by show ze_EV (zq_ev rq (5, [])) (zq_ev rq (0, [(0, 1)])) (zq_ev rq (0, [(1, 1)])) (zq_ev rq (0, [(2, 1)])) (zq_ev rq (0, [(3, 1)])) (zq_ev rq (0, [(4, 1)])) (zq_ev rq (0, [(5, 1)])) (zq_ev rq (0, [])) (zq_ev rq (1, [])) (zq_ev rq (0, [(12, 1)])) P h; simp only [g0, g1, g2, g3, g4, g5, g6, g7, g8, g9]; exact t1)) zq_fan)⟩
noncomputable def ze_cal1 : zq_S × List zq_S := (([], [], [(139, [(6, -1)]), (-1, [(8, -1), (11, 1)])], [], [], [], [(224, [(0, [(0, 1)]), (0, [(1, 1)]), (0, [(5, 1)]), (0, [(6, 1)])]), (220, [(4, []), (0, [(0, 1)]), (0, [(1, 1)]), (0, [(2, 1)]), (0, [(3, 1)]), (0, [(4, 1)]), (0, [(5, 1)]), (0, [(8, 1)]), (0, [(9, 1)]), (0, [(7, 1)])]), (224, [(0, [(0, 1)]), (0, [(1, 1)]), (0, [(7, 1)]), (160, [])]), (220, [(4, []), (0, [(0, 1)]), (0, [(1, 1)]), (0, [(2, 1)]), (0, [(3, 1)]), (0, [(9, 1)]), (1, [(7, 1)]), (0, [(11, 1)]), (0, []), (0, [(12, 1)])])], 13), [([], [], [], [], [], [], [(220, [(5, []), (0, [(0, 1)]), (0, [(1, 1)]), (0, [(2, 1)]), (0, [(3, 1)]), (0, [(4, 1)]), (0, [(5, 1)]), (1, []), (0, []), (0, [(12, 1)])])], 13)])
theorem ze_cal1_l {P : zq_Ty} {h : zq_H} {g n o W b p s q r c t y x : Int} (a1 : 0 ≤ -s + 139) (a2 : 0 ≤ -r + y - 1) (k1 : ze_CD g n p s P h) (k2 : ze_EV 4 g n o W b p r c q P h) (k3 : ze_CD g n q 160 P h) (k4 : ze_EV 4 g n o W c (q + 1) y 0 x P h) : (ze_EV 5 g n o W b p 1 0 x P h) := by
  have k1 : s = ze_c g n p := k1
  have k3 : 160 = ze_c g n q := k3
  have e := ze_pos_c (acc := 0) (by rw [← k1]; omega) k2 k4
  rw [← k3] at e
  have x0 : ze_cmp 160 r y = true := by unfold ze_cmp; rw [if_pos rfl]; exact decide_eq_true (by omega)
  have x1 : ze_bi (true && (!(ze_on 0) && ze_cmp 160 r y)) = 1 := by rw [ze_on0, x0]; rfl
  rw [x1] at e
  exact e
theorem ze_cal1_ok {w : zq_Wd} (x_CD : zj_is w 224 (fun q => ze_CD (q 0) (q 1) (q 2) (q 3))) (x_EV : zj_is w 220 (fun q => ze_EV (q 0) (q 1) (q 2) (q 3) (q 4) (q 5) (q 6) (q 7) (q 8) (q 9))) : zq_okG1 w ze_cal1 := by
  refine ⟨rfl, rfl, zu_fac ⟨rfl, by decide⟩ zq_fan, ?_⟩
  intro r P h H hM
  have q0 : zq_ev r (139, [(6, -1)]) = -r 6 + 139 := zu_e5 _ _ _
  have q1 : zq_ev r (-1, [(8, -1), (11, 1)]) = -r 8 + r 11 - 1 := by simp only [zq_ev, zq_ts] <;> omega
  have q2 : zq_ev r (0, [(0, 1)]) = r 0 := zu_e1 _ _
  have q3 : zq_ev r (0, [(1, 1)]) = r 1 := zu_e1 _ _
  have q4 : zq_ev r (0, [(5, 1)]) = r 5 := zu_e1 _ _
  have q5 : zq_ev r (0, [(6, 1)]) = r 6 := zu_e1 _ _
  have q6 : zq_ev r (4, []) = 4 := zu_e0 _ _
  have q7 : zq_ev r (0, [(2, 1)]) = r 2 := zu_e1 _ _
  have q8 : zq_ev r (0, [(3, 1)]) = r 3 := zu_e1 _ _
  have q9 : zq_ev r (0, [(4, 1)]) = r 4 := zu_e1 _ _
  have q10 : zq_ev r (0, [(8, 1)]) = r 8 := zu_e1 _ _
  have q11 : zq_ev r (0, [(9, 1)]) = r 9 := zu_e1 _ _
  have q12 : zq_ev r (0, [(7, 1)]) = r 7 := zu_e1 _ _
  have q13 : zq_ev r (160, []) = 160 := zu_e0 _ _
  have q14 : zq_ev r (1, [(7, 1)]) = r 7 + 1 := zu_e2 _ _ _
  have q15 : zq_ev r (0, [(11, 1)]) = r 11 := zu_e1 _ _
  have q16 : zq_ev r (0, []) = 0 := zu_e0 _ _
  have q17 : zq_ev r (0, [(12, 1)]) = r 12 := zu_e1 _ _
  obtain ⟨hT, hC, hF, hS, -, hK⟩ := hM
  have c := hC.1
  have a1 := zq_all_1 c
  rw [q0] at a1
  have c := zq_all_t c
  have a2 := zq_all_1 c
  rw [q1] at a2
  have k1 := zj_use x_CD (hK)
  have k1 : ze_CD (zq_ev r (0, [(0, 1)])) (zq_ev r (0, [(1, 1)])) (zq_ev r (0, [(5, 1)])) (zq_ev r (0, [(6, 1)])) P h := k1
  simp only [q2, q3, q4, q5] at k1
  have k2 := zj_use x_EV (zq_okX_t (hK))
  have k2 : ze_EV (zq_ev r (4, [])) (zq_ev r (0, [(0, 1)])) (zq_ev r (0, [(1, 1)])) (zq_ev r (0, [(2, 1)])) (zq_ev r (0, [(3, 1)])) (zq_ev r (0, [(4, 1)])) (zq_ev r (0, [(5, 1)])) (zq_ev r (0, [(8, 1)])) (zq_ev r (0, [(9, 1)])) (zq_ev r (0, [(7, 1)])) P h := k2
  simp only [q10, q11, q12, q2, q3, q4, q6, q7, q8, q9] at k2
  have k3 := zj_use x_CD (zq_okX_t (zq_okX_t (hK)))
  have k3 : ze_CD (zq_ev r (0, [(0, 1)])) (zq_ev r (0, [(1, 1)])) (zq_ev r (0, [(7, 1)])) (zq_ev r (160, [])) P h := k3
  simp only [q12, q13, q2, q3] at k3
  have k4 := zj_use x_EV (zq_okX_t (zq_okX_t (zq_okX_t (hK))))
  have k4 : ze_EV (zq_ev r (4, [])) (zq_ev r (0, [(0, 1)])) (zq_ev r (0, [(1, 1)])) (zq_ev r (0, [(2, 1)])) (zq_ev r (0, [(3, 1)])) (zq_ev r (0, [(9, 1)])) (zq_ev r (1, [(7, 1)])) (zq_ev r (0, [(11, 1)])) (zq_ev r (0, [])) (zq_ev r (0, [(12, 1)])) P h := k4
  simp only [q11, q14, q15, q16, q17, q2, q3, q6, q7, q8] at k4
  obtain t1 := ze_cal1_l (P := P) (h := h) (g := r 0) (n := r 1) (o := r 2) (W := r 3) (b := r 4) (p := r 5) (s := r 6) (q := r 7) (r := r 8) (c := r 9) (t := r 10) (y := r 11) (x := r 12) a1 a2 k1 k2 k3 k4
  obtain ⟨rq, hr⟩ : ∃ rq : Nat → Int, (∀ i, i < 13 → rq i = r i) := ⟨r, fun i hi => rfl⟩
  have v0 : rq 0 = r 0 := hr 0 (by decide)
  have v1 : rq 1 = r 1 := hr 1 (by decide)
  have v2 : rq 2 = r 2 := hr 2 (by decide)
  have v3 : rq 3 = r 3 := hr 3 (by decide)
  have v4 : rq 4 = r 4 := hr 4 (by decide)
  have v5 : rq 5 = r 5 := hr 5 (by decide)
  have v12 : rq 12 = r 12 := hr 12 (by decide)
  have g0 : zq_ev rq (5, []) = 5 := zu_e0 _ _
  have g1 : zq_ev rq (0, [(0, 1)]) = r 0 := zu_f1 v0
  have g2 : zq_ev rq (0, [(1, 1)]) = r 1 := zu_f1 v1
  have g3 : zq_ev rq (0, [(2, 1)]) = r 2 := zu_f1 v2
  have g4 : zq_ev rq (0, [(3, 1)]) = r 3 := zu_f1 v3
  have g5 : zq_ev rq (0, [(4, 1)]) = r 4 := zu_f1 v4
  have g6 : zq_ev rq (0, [(5, 1)]) = r 5 := zu_f1 v5
  have g7 : zq_ev rq (1, []) = 1 := zu_e0 _ _
  have g8 : zq_ev rq (0, []) = 0 := zu_e0 _ _
  have g9 : zq_ev rq (0, [(12, 1)]) = r 12 := zu_f1 v12
  exact ⟨_, List.mem_cons_self .., rq, hr, zq_MeS_mk rfl hT (zq_all_nil) zq_fan (zq_fan) rfl (zu_fac ((x_EV _ _ _).mpr (by show ze_EV (zq_ev rq (5, [])) (zq_ev rq (0, [(0, 1)])) (zq_ev rq (0, [(1, 1)])) (zq_ev rq (0, [(2, 1)])) (zq_ev rq (0, [(3, 1)])) (zq_ev rq (0, [(4, 1)])) (zq_ev rq (0, [(5, 1)])) (zq_ev rq (1, [])) (zq_ev rq (0, [])) (zq_ev rq (0, [(12, 1)])) P h; simp only [g0, g1, g2, g3, g4, g5, g6, g7, g8, g9]; exact t1)) zq_fan)⟩
noncomputable def ze_cal0 : zq_S × List zq_S := (([], [], [(139, [(6, -1)]), (0, [(8, 1), (11, -1)])], [], [], [], [(224, [(0, [(0, 1)]), (0, [(1, 1)]), (0, [(5, 1)]), (0, [(6, 1)])]), (220, [(4, []), (0, [(0, 1)]), (0, [(1, 1)]), (0, [(2, 1)]), (0, [(3, 1)]), (0, [(4, 1)]), (0, [(5, 1)]), (0, [(8, 1)]), (0, [(9, 1)]), (0, [(7, 1)])]), (224, [(0, [(0, 1)]), (0, [(1, 1)]), (0, [(7, 1)]), (160, [])]), (220, [(4, []), (0, [(0, 1)]), (0, [(1, 1)]), (0, [(2, 1)]), (0, [(3, 1)]), (0, [(9, 1)]), (1, [(7, 1)]), (0, [(11, 1)]), (0, []), (0, [(12, 1)])])], 13), [([], [], [], [], [], [], [(220, [(5, []), (0, [(0, 1)]), (0, [(1, 1)]), (0, [(2, 1)]), (0, [(3, 1)]), (0, [(4, 1)]), (0, [(5, 1)]), (0, []), (0, []), (0, [(12, 1)])])], 13)])
theorem ze_cal0_l {P : zq_Ty} {h : zq_H} {g n o W b p s q r c t y x : Int} (a1 : 0 ≤ -s + 139) (a2 : 0 ≤ r - y) (k1 : ze_CD g n p s P h) (k2 : ze_EV 4 g n o W b p r c q P h) (k3 : ze_CD g n q 160 P h) (k4 : ze_EV 4 g n o W c (q + 1) y 0 x P h) : (ze_EV 5 g n o W b p 0 0 x P h) := by
  have k1 : s = ze_c g n p := k1
  have k3 : 160 = ze_c g n q := k3
  have e := ze_pos_c (acc := 0) (by rw [← k1]; omega) k2 k4
  rw [← k3] at e
  have x0 : ze_cmp 160 r y = false := by unfold ze_cmp; rw [if_pos rfl]; exact decide_eq_false (by omega)
  have x1 : ze_bi (true && (!(ze_on 0) && ze_cmp 160 r y)) = 0 := by rw [ze_on0, x0]; rfl
  rw [x1] at e
  exact e
theorem ze_cal0_ok {w : zq_Wd} (x_CD : zj_is w 224 (fun q => ze_CD (q 0) (q 1) (q 2) (q 3))) (x_EV : zj_is w 220 (fun q => ze_EV (q 0) (q 1) (q 2) (q 3) (q 4) (q 5) (q 6) (q 7) (q 8) (q 9))) : zq_okG1 w ze_cal0 := by
  refine ⟨rfl, rfl, zu_fac ⟨rfl, by decide⟩ zq_fan, ?_⟩
  intro r P h H hM
  have q0 : zq_ev r (139, [(6, -1)]) = -r 6 + 139 := zu_e5 _ _ _
  have q1 : zq_ev r (0, [(8, 1), (11, -1)]) = r 8 - r 11 := by simp only [zq_ev, zq_ts] <;> omega
  have q2 : zq_ev r (0, [(0, 1)]) = r 0 := zu_e1 _ _
  have q3 : zq_ev r (0, [(1, 1)]) = r 1 := zu_e1 _ _
  have q4 : zq_ev r (0, [(5, 1)]) = r 5 := zu_e1 _ _
  have q5 : zq_ev r (0, [(6, 1)]) = r 6 := zu_e1 _ _
  have q6 : zq_ev r (4, []) = 4 := zu_e0 _ _
  have q7 : zq_ev r (0, [(2, 1)]) = r 2 := zu_e1 _ _
  have q8 : zq_ev r (0, [(3, 1)]) = r 3 := zu_e1 _ _
  have q9 : zq_ev r (0, [(4, 1)]) = r 4 := zu_e1 _ _
  have q10 : zq_ev r (0, [(8, 1)]) = r 8 := zu_e1 _ _
  have q11 : zq_ev r (0, [(9, 1)]) = r 9 := zu_e1 _ _
  have q12 : zq_ev r (0, [(7, 1)]) = r 7 := zu_e1 _ _
  have q13 : zq_ev r (160, []) = 160 := zu_e0 _ _
  have q14 : zq_ev r (1, [(7, 1)]) = r 7 + 1 := zu_e2 _ _ _
  have q15 : zq_ev r (0, [(11, 1)]) = r 11 := zu_e1 _ _
  have q16 : zq_ev r (0, []) = 0 := zu_e0 _ _
  have q17 : zq_ev r (0, [(12, 1)]) = r 12 := zu_e1 _ _
  obtain ⟨hT, hC, hF, hS, -, hK⟩ := hM
  have c := hC.1
  have a1 := zq_all_1 c
  rw [q0] at a1
  have c := zq_all_t c
  have a2 := zq_all_1 c
  rw [q1] at a2
  have k1 := zj_use x_CD (hK)
  have k1 : ze_CD (zq_ev r (0, [(0, 1)])) (zq_ev r (0, [(1, 1)])) (zq_ev r (0, [(5, 1)])) (zq_ev r (0, [(6, 1)])) P h := k1
  simp only [q2, q3, q4, q5] at k1
  have k2 := zj_use x_EV (zq_okX_t (hK))
  have k2 : ze_EV (zq_ev r (4, [])) (zq_ev r (0, [(0, 1)])) (zq_ev r (0, [(1, 1)])) (zq_ev r (0, [(2, 1)])) (zq_ev r (0, [(3, 1)])) (zq_ev r (0, [(4, 1)])) (zq_ev r (0, [(5, 1)])) (zq_ev r (0, [(8, 1)])) (zq_ev r (0, [(9, 1)])) (zq_ev r (0, [(7, 1)])) P h := k2
  simp only [q10, q11, q12, q2, q3, q4, q6, q7, q8, q9] at k2
  have k3 := zj_use x_CD (zq_okX_t (zq_okX_t (hK)))
  have k3 : ze_CD (zq_ev r (0, [(0, 1)])) (zq_ev r (0, [(1, 1)])) (zq_ev r (0, [(7, 1)])) (zq_ev r (160, [])) P h := k3
  simp only [q12, q13, q2, q3] at k3
  have k4 := zj_use x_EV (zq_okX_t (zq_okX_t (zq_okX_t (hK))))
  have k4 : ze_EV (zq_ev r (4, [])) (zq_ev r (0, [(0, 1)])) (zq_ev r (0, [(1, 1)])) (zq_ev r (0, [(2, 1)])) (zq_ev r (0, [(3, 1)])) (zq_ev r (0, [(9, 1)])) (zq_ev r (1, [(7, 1)])) (zq_ev r (0, [(11, 1)])) (zq_ev r (0, [])) (zq_ev r (0, [(12, 1)])) P h := k4
  simp only [q11, q14, q15, q16, q17, q2, q3, q6, q7, q8] at k4
  obtain t1 := ze_cal0_l (P := P) (h := h) (g := r 0) (n := r 1) (o := r 2) (W := r 3) (b := r 4) (p := r 5) (s := r 6) (q := r 7) (r := r 8) (c := r 9) (t := r 10) (y := r 11) (x := r 12) a1 a2 k1 k2 k3 k4
  obtain ⟨rq, hr⟩ : ∃ rq : Nat → Int, (∀ i, i < 13 → rq i = r i) := ⟨r, fun i hi => rfl⟩
  have v0 : rq 0 = r 0 := hr 0 (by decide)
  have v1 : rq 1 = r 1 := hr 1 (by decide)
  have v2 : rq 2 = r 2 := hr 2 (by decide)
  have v3 : rq 3 = r 3 := hr 3 (by decide)
  have v4 : rq 4 = r 4 := hr 4 (by decide)
  have v5 : rq 5 = r 5 := hr 5 (by decide)
  have v12 : rq 12 = r 12 := hr 12 (by decide)
  have g0 : zq_ev rq (5, []) = 5 := zu_e0 _ _
  have g1 : zq_ev rq (0, [(0, 1)]) = r 0 := zu_f1 v0
  have g2 : zq_ev rq (0, [(1, 1)]) = r 1 := zu_f1 v1
  have g3 : zq_ev rq (0, [(2, 1)]) = r 2 := zu_f1 v2
  have g4 : zq_ev rq (0, [(3, 1)]) = r 3 := zu_f1 v3
  have g5 : zq_ev rq (0, [(4, 1)]) = r 4 := zu_f1 v4
  have g6 : zq_ev rq (0, [(5, 1)]) = r 5 := zu_f1 v5
  have g7 : zq_ev rq (0, []) = 0 := zu_e0 _ _
  have g8 : zq_ev rq (0, [(12, 1)]) = r 12 := zu_f1 v12
  exact ⟨_, List.mem_cons_self .., rq, hr, zq_MeS_mk rfl hT (zq_all_nil) zq_fan (zq_fan) rfl (zu_fac ((x_EV _ _ _).mpr (by show ze_EV (zq_ev rq (5, [])) (zq_ev rq (0, [(0, 1)])) (zq_ev rq (0, [(1, 1)])) (zq_ev rq (0, [(2, 1)])) (zq_ev rq (0, [(3, 1)])) (zq_ev rq (0, [(4, 1)])) (zq_ev rq (0, [(5, 1)])) (zq_ev rq (0, [])) (zq_ev rq (0, [])) (zq_ev rq (0, [(12, 1)])) P h; simp only [g0, g1, g2, g3, g4, g5, g6, g7, g8]; exact t1)) zq_fan)⟩
noncomputable def ze_cag1 : zq_S × List zq_S := (([], [], [(139, [(6, -1)]), (-1, [(8, 1), (11, -1)])], [], [], [], [(224, [(0, [(0, 1)]), (0, [(1, 1)]), (0, [(5, 1)]), (0, [(6, 1)])]), (220, [(4, []), (0, [(0, 1)]), (0, [(1, 1)]), (0, [(2, 1)]), (0, [(3, 1)]), (0, [(4, 1)]), (0, [(5, 1)]), (0, [(8, 1)]), (0, [(9, 1)]), (0, [(7, 1)])]), (224, [(0, [(0, 1)]), (0, [(1, 1)]), (0, [(7, 1)]), (162, [])]), (220, [(4, []), (0, [(0, 1)]), (0, [(1, 1)]), (0, [(2, 1)]), (0, [(3, 1)]), (0, [(9, 1)]), (1, [(7, 1)]), (0, [(11, 1)]), (0, []), (0, [(12, 1)])])], 13), [([], [], [], [], [], [], [(220, [(5, []), (0, [(0, 1)]), (0, [(1, 1)]), (0, [(2, 1)]), (0, [(3, 1)]), (0, [(4, 1)]), (0, [(5, 1)]), (1, []), (0, []), (0, [(12, 1)])])], 13)])
theorem ze_cag1_l {P : zq_Ty} {h : zq_H} {g n o W b p s q r c t y x : Int} (a1 : 0 ≤ -s + 139) (a2 : 0 ≤ r - y - 1) (k1 : ze_CD g n p s P h) (k2 : ze_EV 4 g n o W b p r c q P h) (k3 : ze_CD g n q 162 P h) (k4 : ze_EV 4 g n o W c (q + 1) y 0 x P h) : (ze_EV 5 g n o W b p 1 0 x P h) := by
  have k1 : s = ze_c g n p := k1
  have k3 : 162 = ze_c g n q := k3
  have e := ze_pos_c (acc := 0) (by rw [← k1]; omega) k2 k4
  rw [← k3] at e
  have x0 : ze_cmp 162 r y = true := by unfold ze_cmp; rw [if_neg (by decide), if_pos rfl]; exact decide_eq_true (by omega)
  have x1 : ze_bi (true && (!(ze_on 0) && ze_cmp 162 r y)) = 1 := by rw [ze_on0, x0]; rfl
  rw [x1] at e
  exact e
theorem ze_cag1_ok {w : zq_Wd} (x_CD : zj_is w 224 (fun q => ze_CD (q 0) (q 1) (q 2) (q 3))) (x_EV : zj_is w 220 (fun q => ze_EV (q 0) (q 1) (q 2) (q 3) (q 4) (q 5) (q 6) (q 7) (q 8) (q 9))) : zq_okG1 w ze_cag1 := by
  refine ⟨rfl, rfl, zu_fac ⟨rfl, by decide⟩ zq_fan, ?_⟩
  intro r P h H hM
  have q0 : zq_ev r (139, [(6, -1)]) = -r 6 + 139 := zu_e5 _ _ _
  have q1 : zq_ev r (-1, [(8, 1), (11, -1)]) = r 8 - r 11 - 1 := by simp only [zq_ev, zq_ts] <;> omega
  have q2 : zq_ev r (0, [(0, 1)]) = r 0 := zu_e1 _ _
  have q3 : zq_ev r (0, [(1, 1)]) = r 1 := zu_e1 _ _
  have q4 : zq_ev r (0, [(5, 1)]) = r 5 := zu_e1 _ _
  have q5 : zq_ev r (0, [(6, 1)]) = r 6 := zu_e1 _ _
  have q6 : zq_ev r (4, []) = 4 := zu_e0 _ _
  have q7 : zq_ev r (0, [(2, 1)]) = r 2 := zu_e1 _ _
  have q8 : zq_ev r (0, [(3, 1)]) = r 3 := zu_e1 _ _
  have q9 : zq_ev r (0, [(4, 1)]) = r 4 := zu_e1 _ _
  have q10 : zq_ev r (0, [(8, 1)]) = r 8 := zu_e1 _ _
  have q11 : zq_ev r (0, [(9, 1)]) = r 9 := zu_e1 _ _
  have q12 : zq_ev r (0, [(7, 1)]) = r 7 := zu_e1 _ _
  have q13 : zq_ev r (162, []) = 162 := zu_e0 _ _
  have q14 : zq_ev r (1, [(7, 1)]) = r 7 + 1 := zu_e2 _ _ _
  have q15 : zq_ev r (0, [(11, 1)]) = r 11 := zu_e1 _ _
  have q16 : zq_ev r (0, []) = 0 := zu_e0 _ _
  have q17 : zq_ev r (0, [(12, 1)]) = r 12 := zu_e1 _ _
  obtain ⟨hT, hC, hF, hS, -, hK⟩ := hM
  have c := hC.1
  have a1 := zq_all_1 c
  rw [q0] at a1
  have c := zq_all_t c
  have a2 := zq_all_1 c
  rw [q1] at a2
  have k1 := zj_use x_CD (hK)
  have k1 : ze_CD (zq_ev r (0, [(0, 1)])) (zq_ev r (0, [(1, 1)])) (zq_ev r (0, [(5, 1)])) (zq_ev r (0, [(6, 1)])) P h := k1
  simp only [q2, q3, q4, q5] at k1
  have k2 := zj_use x_EV (zq_okX_t (hK))
  have k2 : ze_EV (zq_ev r (4, [])) (zq_ev r (0, [(0, 1)])) (zq_ev r (0, [(1, 1)])) (zq_ev r (0, [(2, 1)])) (zq_ev r (0, [(3, 1)])) (zq_ev r (0, [(4, 1)])) (zq_ev r (0, [(5, 1)])) (zq_ev r (0, [(8, 1)])) (zq_ev r (0, [(9, 1)])) (zq_ev r (0, [(7, 1)])) P h := k2
  simp only [q10, q11, q12, q2, q3, q4, q6, q7, q8, q9] at k2
  have k3 := zj_use x_CD (zq_okX_t (zq_okX_t (hK)))
  have k3 : ze_CD (zq_ev r (0, [(0, 1)])) (zq_ev r (0, [(1, 1)])) (zq_ev r (0, [(7, 1)])) (zq_ev r (162, [])) P h := k3
  simp only [q12, q13, q2, q3] at k3
  have k4 := zj_use x_EV (zq_okX_t (zq_okX_t (zq_okX_t (hK))))
  have k4 : ze_EV (zq_ev r (4, [])) (zq_ev r (0, [(0, 1)])) (zq_ev r (0, [(1, 1)])) (zq_ev r (0, [(2, 1)])) (zq_ev r (0, [(3, 1)])) (zq_ev r (0, [(9, 1)])) (zq_ev r (1, [(7, 1)])) (zq_ev r (0, [(11, 1)])) (zq_ev r (0, [])) (zq_ev r (0, [(12, 1)])) P h := k4
  simp only [q11, q14, q15, q16, q17, q2, q3, q6, q7, q8] at k4
  obtain t1 := ze_cag1_l (P := P) (h := h) (g := r 0) (n := r 1) (o := r 2) (W := r 3) (b := r 4) (p := r 5) (s := r 6) (q := r 7) (r := r 8) (c := r 9) (t := r 10) (y := r 11) (x := r 12) a1 a2 k1 k2 k3 k4
  obtain ⟨rq, hr⟩ : ∃ rq : Nat → Int, (∀ i, i < 13 → rq i = r i) := ⟨r, fun i hi => rfl⟩
  have v0 : rq 0 = r 0 := hr 0 (by decide)
  have v1 : rq 1 = r 1 := hr 1 (by decide)
  have v2 : rq 2 = r 2 := hr 2 (by decide)
  have v3 : rq 3 = r 3 := hr 3 (by decide)
  have v4 : rq 4 = r 4 := hr 4 (by decide)
  have v5 : rq 5 = r 5 := hr 5 (by decide)
  have v12 : rq 12 = r 12 := hr 12 (by decide)
  have g0 : zq_ev rq (5, []) = 5 := zu_e0 _ _
  have g1 : zq_ev rq (0, [(0, 1)]) = r 0 := zu_f1 v0
  have g2 : zq_ev rq (0, [(1, 1)]) = r 1 := zu_f1 v1
  have g3 : zq_ev rq (0, [(2, 1)]) = r 2 := zu_f1 v2
  have g4 : zq_ev rq (0, [(3, 1)]) = r 3 := zu_f1 v3
  have g5 : zq_ev rq (0, [(4, 1)]) = r 4 := zu_f1 v4
  have g6 : zq_ev rq (0, [(5, 1)]) = r 5 := zu_f1 v5
  have g7 : zq_ev rq (1, []) = 1 := zu_e0 _ _
  have g8 : zq_ev rq (0, []) = 0 := zu_e0 _ _
  have g9 : zq_ev rq (0, [(12, 1)]) = r 12 := zu_f1 v12
  exact ⟨_, List.mem_cons_self .., rq, hr, zq_MeS_mk rfl hT (zq_all_nil) zq_fan (zq_fan) rfl (zu_fac ((x_EV _ _ _).mpr (by show ze_EV (zq_ev rq (5, [])) (zq_ev rq (0, [(0, 1)])) (zq_ev rq (0, [(1, 1)])) (zq_ev rq (0, [(2, 1)])) (zq_ev rq (0, [(3, 1)])) (zq_ev rq (0, [(4, 1)])) (zq_ev rq (0, [(5, 1)])) (zq_ev rq (1, [])) (zq_ev rq (0, [])) (zq_ev rq (0, [(12, 1)])) P h; simp only [g0, g1, g2, g3, g4, g5, g6, g7, g8, g9]; exact t1)) zq_fan)⟩
noncomputable def ze_cag0 : zq_S × List zq_S := (([], [], [(139, [(6, -1)]), (0, [(8, -1), (11, 1)])], [], [], [], [(224, [(0, [(0, 1)]), (0, [(1, 1)]), (0, [(5, 1)]), (0, [(6, 1)])]), (220, [(4, []), (0, [(0, 1)]), (0, [(1, 1)]), (0, [(2, 1)]), (0, [(3, 1)]), (0, [(4, 1)]), (0, [(5, 1)]), (0, [(8, 1)]), (0, [(9, 1)]), (0, [(7, 1)])]), (224, [(0, [(0, 1)]), (0, [(1, 1)]), (0, [(7, 1)]), (162, [])]), (220, [(4, []), (0, [(0, 1)]), (0, [(1, 1)]), (0, [(2, 1)]), (0, [(3, 1)]), (0, [(9, 1)]), (1, [(7, 1)]), (0, [(11, 1)]), (0, []), (0, [(12, 1)])])], 13), [([], [], [], [], [], [], [(220, [(5, []), (0, [(0, 1)]), (0, [(1, 1)]), (0, [(2, 1)]), (0, [(3, 1)]), (0, [(4, 1)]), (0, [(5, 1)]), (0, []), (0, []), (0, [(12, 1)])])], 13)])
theorem ze_cag0_l {P : zq_Ty} {h : zq_H} {g n o W b p s q r c t y x : Int} (a1 : 0 ≤ -s + 139) (a2 : 0 ≤ -r + y) (k1 : ze_CD g n p s P h) (k2 : ze_EV 4 g n o W b p r c q P h) (k3 : ze_CD g n q 162 P h) (k4 : ze_EV 4 g n o W c (q + 1) y 0 x P h) : (ze_EV 5 g n o W b p 0 0 x P h) := by
  have k1 : s = ze_c g n p := k1
  have k3 : 162 = ze_c g n q := k3
  have e := ze_pos_c (acc := 0) (by rw [← k1]; omega) k2 k4
  rw [← k3] at e
  have x0 : ze_cmp 162 r y = false := by unfold ze_cmp; rw [if_neg (by decide), if_pos rfl]; exact decide_eq_false (by omega)
  have x1 : ze_bi (true && (!(ze_on 0) && ze_cmp 162 r y)) = 0 := by rw [ze_on0, x0]; rfl
  rw [x1] at e
  exact e
theorem ze_cag0_ok {w : zq_Wd} (x_CD : zj_is w 224 (fun q => ze_CD (q 0) (q 1) (q 2) (q 3))) (x_EV : zj_is w 220 (fun q => ze_EV (q 0) (q 1) (q 2) (q 3) (q 4) (q 5) (q 6) (q 7) (q 8) (q 9))) : zq_okG1 w ze_cag0 := by
  refine ⟨rfl, rfl, zu_fac ⟨rfl, by decide⟩ zq_fan, ?_⟩
  intro r P h H hM
  have q0 : zq_ev r (139, [(6, -1)]) = -r 6 + 139 := zu_e5 _ _ _
  have q1 : zq_ev r (0, [(8, -1), (11, 1)]) = -r 8 + r 11 := by simp only [zq_ev, zq_ts] <;> omega
  have q2 : zq_ev r (0, [(0, 1)]) = r 0 := zu_e1 _ _
  have q3 : zq_ev r (0, [(1, 1)]) = r 1 := zu_e1 _ _
  have q4 : zq_ev r (0, [(5, 1)]) = r 5 := zu_e1 _ _
  have q5 : zq_ev r (0, [(6, 1)]) = r 6 := zu_e1 _ _
  have q6 : zq_ev r (4, []) = 4 := zu_e0 _ _
  have q7 : zq_ev r (0, [(2, 1)]) = r 2 := zu_e1 _ _
  have q8 : zq_ev r (0, [(3, 1)]) = r 3 := zu_e1 _ _
  have q9 : zq_ev r (0, [(4, 1)]) = r 4 := zu_e1 _ _
  have q10 : zq_ev r (0, [(8, 1)]) = r 8 := zu_e1 _ _
  have q11 : zq_ev r (0, [(9, 1)]) = r 9 := zu_e1 _ _
  have q12 : zq_ev r (0, [(7, 1)]) = r 7 := zu_e1 _ _
  have q13 : zq_ev r (162, []) = 162 := zu_e0 _ _
  have q14 : zq_ev r (1, [(7, 1)]) = r 7 + 1 := zu_e2 _ _ _
  have q15 : zq_ev r (0, [(11, 1)]) = r 11 := zu_e1 _ _
  have q16 : zq_ev r (0, []) = 0 := zu_e0 _ _
  have q17 : zq_ev r (0, [(12, 1)]) = r 12 := zu_e1 _ _
  obtain ⟨hT, hC, hF, hS, -, hK⟩ := hM
  have c := hC.1
  have a1 := zq_all_1 c
  rw [q0] at a1
  have c := zq_all_t c
  have a2 := zq_all_1 c
  rw [q1] at a2
  have k1 := zj_use x_CD (hK)
  have k1 : ze_CD (zq_ev r (0, [(0, 1)])) (zq_ev r (0, [(1, 1)])) (zq_ev r (0, [(5, 1)])) (zq_ev r (0, [(6, 1)])) P h := k1
  simp only [q2, q3, q4, q5] at k1
  have k2 := zj_use x_EV (zq_okX_t (hK))
  have k2 : ze_EV (zq_ev r (4, [])) (zq_ev r (0, [(0, 1)])) (zq_ev r (0, [(1, 1)])) (zq_ev r (0, [(2, 1)])) (zq_ev r (0, [(3, 1)])) (zq_ev r (0, [(4, 1)])) (zq_ev r (0, [(5, 1)])) (zq_ev r (0, [(8, 1)])) (zq_ev r (0, [(9, 1)])) (zq_ev r (0, [(7, 1)])) P h := k2
  simp only [q10, q11, q12, q2, q3, q4, q6, q7, q8, q9] at k2
  have k3 := zj_use x_CD (zq_okX_t (zq_okX_t (hK)))
  have k3 : ze_CD (zq_ev r (0, [(0, 1)])) (zq_ev r (0, [(1, 1)])) (zq_ev r (0, [(7, 1)])) (zq_ev r (162, [])) P h := k3
  simp only [q12, q13, q2, q3] at k3
  have k4 := zj_use x_EV (zq_okX_t (zq_okX_t (zq_okX_t (hK))))
  have k4 : ze_EV (zq_ev r (4, [])) (zq_ev r (0, [(0, 1)])) (zq_ev r (0, [(1, 1)])) (zq_ev r (0, [(2, 1)])) (zq_ev r (0, [(3, 1)])) (zq_ev r (0, [(9, 1)])) (zq_ev r (1, [(7, 1)])) (zq_ev r (0, [(11, 1)])) (zq_ev r (0, [])) (zq_ev r (0, [(12, 1)])) P h := k4
  simp only [q11, q14, q15, q16, q17, q2, q3, q6, q7, q8] at k4
  obtain t1 := ze_cag0_l (P := P) (h := h) (g := r 0) (n := r 1) (o := r 2) (W := r 3) (b := r 4) (p := r 5) (s := r 6) (q := r 7) (r := r 8) (c := r 9) (t := r 10) (y := r 11) (x := r 12) a1 a2 k1 k2 k3 k4
  obtain ⟨rq, hr⟩ : ∃ rq : Nat → Int, (∀ i, i < 13 → rq i = r i) := ⟨r, fun i hi => rfl⟩
  have v0 : rq 0 = r 0 := hr 0 (by decide)
  have v1 : rq 1 = r 1 := hr 1 (by decide)
  have v2 : rq 2 = r 2 := hr 2 (by decide)
  have v3 : rq 3 = r 3 := hr 3 (by decide)
  have v4 : rq 4 = r 4 := hr 4 (by decide)
  have v5 : rq 5 = r 5 := hr 5 (by decide)
  have v12 : rq 12 = r 12 := hr 12 (by decide)
  have g0 : zq_ev rq (5, []) = 5 := zu_e0 _ _
  have g1 : zq_ev rq (0, [(0, 1)]) = r 0 := zu_f1 v0
  have g2 : zq_ev rq (0, [(1, 1)]) = r 1 := zu_f1 v1
  have g3 : zq_ev rq (0, [(2, 1)]) = r 2 := zu_f1 v2
  have g4 : zq_ev rq (0, [(3, 1)]) = r 3 := zu_f1 v3
  have g5 : zq_ev rq (0, [(4, 1)]) = r 4 := zu_f1 v4
  have g6 : zq_ev rq (0, [(5, 1)]) = r 5 := zu_f1 v5
  have g7 : zq_ev rq (0, []) = 0 := zu_e0 _ _
  have g8 : zq_ev rq (0, [(12, 1)]) = r 12 := zu_f1 v12
  exact ⟨_, List.mem_cons_self .., rq, hr, zq_MeS_mk rfl hT (zq_all_nil) zq_fan (zq_fan) rfl (zu_fac ((x_EV _ _ _).mpr (by show ze_EV (zq_ev rq (5, [])) (zq_ev rq (0, [(0, 1)])) (zq_ev rq (0, [(1, 1)])) (zq_ev rq (0, [(2, 1)])) (zq_ev rq (0, [(3, 1)])) (zq_ev rq (0, [(4, 1)])) (zq_ev rq (0, [(5, 1)])) (zq_ev rq (0, [])) (zq_ev rq (0, [])) (zq_ev rq (0, [(12, 1)])) P h; simp only [g0, g1, g2, g3, g4, g5, g6, g7, g8]; exact t1)) zq_fan)⟩
noncomputable def ze_cae1 : zq_S × List zq_S := (([], [], [(139, [(6, -1)]), (0, [(8, 1), (11, -1)]), (0, [(8, -1), (11, 1)])], [], [], [], [(224, [(0, [(0, 1)]), (0, [(1, 1)]), (0, [(5, 1)]), (0, [(6, 1)])]), (220, [(4, []), (0, [(0, 1)]), (0, [(1, 1)]), (0, [(2, 1)]), (0, [(3, 1)]), (0, [(4, 1)]), (0, [(5, 1)]), (0, [(8, 1)]), (0, [(9, 1)]), (0, [(7, 1)])]), (224, [(0, [(0, 1)]), (0, [(1, 1)]), (0, [(7, 1)]), (161, [])]), (220, [(4, []), (0, [(0, 1)]), (0, [(1, 1)]), (0, [(2, 1)]), (0, [(3, 1)]), (0, [(9, 1)]), (1, [(7, 1)]), (0, [(11, 1)]), (0, []), (0, [(12, 1)])])], 13), [([], [], [], [], [], [], [(220, [(5, []), (0, [(0, 1)]), (0, [(1, 1)]), (0, [(2, 1)]), (0, [(3, 1)]), (0, [(4, 1)]), (0, [(5, 1)]), (1, []), (0, []), (0, [(12, 1)])])], 13)])
theorem ze_cae1_l {P : zq_Ty} {h : zq_H} {g n o W b p s q r c t y x : Int} (a1 : 0 ≤ -s + 139) (a2 : 0 ≤ r - y) (a3 : 0 ≤ -r + y) (k1 : ze_CD g n p s P h) (k2 : ze_EV 4 g n o W b p r c q P h) (k3 : ze_CD g n q 161 P h) (k4 : ze_EV 4 g n o W c (q + 1) y 0 x P h) : (ze_EV 5 g n o W b p 1 0 x P h) := by
  have k1 : s = ze_c g n p := k1
  have k3 : 161 = ze_c g n q := k3
  have e := ze_pos_c (acc := 0) (by rw [← k1]; omega) k2 k4
  rw [← k3] at e
  have x0 : ze_cmp 161 r y = true := by unfold ze_cmp; rw [if_neg (by decide), if_neg (by decide)]; exact decide_eq_true (by omega)
  have x1 : ze_bi (true && (!(ze_on 0) && ze_cmp 161 r y)) = 1 := by rw [ze_on0, x0]; rfl
  rw [x1] at e
  exact e
theorem ze_cae1_ok {w : zq_Wd} (x_CD : zj_is w 224 (fun q => ze_CD (q 0) (q 1) (q 2) (q 3))) (x_EV : zj_is w 220 (fun q => ze_EV (q 0) (q 1) (q 2) (q 3) (q 4) (q 5) (q 6) (q 7) (q 8) (q 9))) : zq_okG1 w ze_cae1 := by
  refine ⟨rfl, rfl, zu_fac ⟨rfl, by decide⟩ zq_fan, ?_⟩
  intro r P h H hM
  have q0 : zq_ev r (139, [(6, -1)]) = -r 6 + 139 := zu_e5 _ _ _
  have q1 : zq_ev r (0, [(8, 1), (11, -1)]) = r 8 - r 11 := by simp only [zq_ev, zq_ts] <;> omega
  have q2 : zq_ev r (0, [(8, -1), (11, 1)]) = -r 8 + r 11 := by simp only [zq_ev, zq_ts] <;> omega
  have q3 : zq_ev r (0, [(0, 1)]) = r 0 := zu_e1 _ _
  have q4 : zq_ev r (0, [(1, 1)]) = r 1 := zu_e1 _ _
  have q5 : zq_ev r (0, [(5, 1)]) = r 5 := zu_e1 _ _
  have q6 : zq_ev r (0, [(6, 1)]) = r 6 := zu_e1 _ _
  have q7 : zq_ev r (4, []) = 4 := zu_e0 _ _
  have q8 : zq_ev r (0, [(2, 1)]) = r 2 := zu_e1 _ _
  have q9 : zq_ev r (0, [(3, 1)]) = r 3 := zu_e1 _ _
  have q10 : zq_ev r (0, [(4, 1)]) = r 4 := zu_e1 _ _
  have q11 : zq_ev r (0, [(8, 1)]) = r 8 := zu_e1 _ _
  have q12 : zq_ev r (0, [(9, 1)]) = r 9 := zu_e1 _ _
  have q13 : zq_ev r (0, [(7, 1)]) = r 7 := zu_e1 _ _
  have q14 : zq_ev r (161, []) = 161 := zu_e0 _ _
  have q15 : zq_ev r (1, [(7, 1)]) = r 7 + 1 := zu_e2 _ _ _
  have q16 : zq_ev r (0, [(11, 1)]) = r 11 := zu_e1 _ _
  have q17 : zq_ev r (0, []) = 0 := zu_e0 _ _
  have q18 : zq_ev r (0, [(12, 1)]) = r 12 := zu_e1 _ _
  obtain ⟨hT, hC, hF, hS, -, hK⟩ := hM
  have c := hC.1
  have a1 := zq_all_1 c
  rw [q0] at a1
  have c := zq_all_t c
  have a2 := zq_all_1 c
  rw [q1] at a2
  have c := zq_all_t c
  have a3 := zq_all_1 c
  rw [q2] at a3
  have k1 := zj_use x_CD (hK)
  have k1 : ze_CD (zq_ev r (0, [(0, 1)])) (zq_ev r (0, [(1, 1)])) (zq_ev r (0, [(5, 1)])) (zq_ev r (0, [(6, 1)])) P h := k1
  simp only [q3, q4, q5, q6] at k1
  have k2 := zj_use x_EV (zq_okX_t (hK))
  have k2 : ze_EV (zq_ev r (4, [])) (zq_ev r (0, [(0, 1)])) (zq_ev r (0, [(1, 1)])) (zq_ev r (0, [(2, 1)])) (zq_ev r (0, [(3, 1)])) (zq_ev r (0, [(4, 1)])) (zq_ev r (0, [(5, 1)])) (zq_ev r (0, [(8, 1)])) (zq_ev r (0, [(9, 1)])) (zq_ev r (0, [(7, 1)])) P h := k2
  simp only [q10, q11, q12, q13, q3, q4, q5, q7, q8, q9] at k2
  have k3 := zj_use x_CD (zq_okX_t (zq_okX_t (hK)))
  have k3 : ze_CD (zq_ev r (0, [(0, 1)])) (zq_ev r (0, [(1, 1)])) (zq_ev r (0, [(7, 1)])) (zq_ev r (161, [])) P h := k3
  simp only [q13, q14, q3, q4] at k3
  have k4 := zj_use x_EV (zq_okX_t (zq_okX_t (zq_okX_t (hK))))
  have k4 : ze_EV (zq_ev r (4, [])) (zq_ev r (0, [(0, 1)])) (zq_ev r (0, [(1, 1)])) (zq_ev r (0, [(2, 1)])) (zq_ev r (0, [(3, 1)])) (zq_ev r (0, [(9, 1)])) (zq_ev r (1, [(7, 1)])) (zq_ev r (0, [(11, 1)])) (zq_ev r (0, [])) (zq_ev r (0, [(12, 1)])) P h := k4
  simp only [q12, q15, q16, q17, q18, q3, q4, q7, q8, q9] at k4
  obtain t1 := ze_cae1_l (P := P) (h := h) (g := r 0) (n := r 1) (o := r 2) (W := r 3) (b := r 4) (p := r 5) (s := r 6) (q := r 7) (r := r 8) (c := r 9) (t := r 10) (y := r 11) (x := r 12) a1 a2 a3 k1 k2 k3 k4
  obtain ⟨rq, hr⟩ : ∃ rq : Nat → Int, (∀ i, i < 13 → rq i = r i) := ⟨r, fun i hi => rfl⟩
  have v0 : rq 0 = r 0 := hr 0 (by decide)
  have v1 : rq 1 = r 1 := hr 1 (by decide)
  have v2 : rq 2 = r 2 := hr 2 (by decide)
  have v3 : rq 3 = r 3 := hr 3 (by decide)
  have v4 : rq 4 = r 4 := hr 4 (by decide)
  have v5 : rq 5 = r 5 := hr 5 (by decide)
  have v12 : rq 12 = r 12 := hr 12 (by decide)
  have g0 : zq_ev rq (5, []) = 5 := zu_e0 _ _
  have g1 : zq_ev rq (0, [(0, 1)]) = r 0 := zu_f1 v0
  have g2 : zq_ev rq (0, [(1, 1)]) = r 1 := zu_f1 v1
  have g3 : zq_ev rq (0, [(2, 1)]) = r 2 := zu_f1 v2
  have g4 : zq_ev rq (0, [(3, 1)]) = r 3 := zu_f1 v3
  have g5 : zq_ev rq (0, [(4, 1)]) = r 4 := zu_f1 v4
  have g6 : zq_ev rq (0, [(5, 1)]) = r 5 := zu_f1 v5
  have g7 : zq_ev rq (1, []) = 1 := zu_e0 _ _
  have g8 : zq_ev rq (0, []) = 0 := zu_e0 _ _
  have g9 : zq_ev rq (0, [(12, 1)]) = r 12 := zu_f1 v12
  exact ⟨_, List.mem_cons_self .., rq, hr, zq_MeS_mk rfl hT (zq_all_nil) zq_fan (zq_fan) rfl (zu_fac ((x_EV _ _ _).mpr (by show ze_EV (zq_ev rq (5, [])) (zq_ev rq (0, [(0, 1)])) (zq_ev rq (0, [(1, 1)])) (zq_ev rq (0, [(2, 1)])) (zq_ev rq (0, [(3, 1)])) (zq_ev rq (0, [(4, 1)])) (zq_ev rq (0, [(5, 1)])) (zq_ev rq (1, [])) (zq_ev rq (0, [])) (zq_ev rq (0, [(12, 1)])) P h; simp only [g0, g1, g2, g3, g4, g5, g6, g7, g8, g9]; exact t1)) zq_fan)⟩
noncomputable def ze_cae0 : zq_S × List zq_S := (([], [], [(139, [(6, -1)]), (-1, [(8, 1), (11, -1)])], [], [], [], [(224, [(0, [(0, 1)]), (0, [(1, 1)]), (0, [(5, 1)]), (0, [(6, 1)])]), (220, [(4, []), (0, [(0, 1)]), (0, [(1, 1)]), (0, [(2, 1)]), (0, [(3, 1)]), (0, [(4, 1)]), (0, [(5, 1)]), (0, [(8, 1)]), (0, [(9, 1)]), (0, [(7, 1)])]), (224, [(0, [(0, 1)]), (0, [(1, 1)]), (0, [(7, 1)]), (161, [])]), (220, [(4, []), (0, [(0, 1)]), (0, [(1, 1)]), (0, [(2, 1)]), (0, [(3, 1)]), (0, [(9, 1)]), (1, [(7, 1)]), (0, [(11, 1)]), (0, []), (0, [(12, 1)])])], 13), [([], [], [], [], [], [], [(220, [(5, []), (0, [(0, 1)]), (0, [(1, 1)]), (0, [(2, 1)]), (0, [(3, 1)]), (0, [(4, 1)]), (0, [(5, 1)]), (0, []), (0, []), (0, [(12, 1)])])], 13)])
theorem ze_cae0_l {P : zq_Ty} {h : zq_H} {g n o W b p s q r c t y x : Int} (a1 : 0 ≤ -s + 139) (a2 : 0 ≤ r - y - 1) (k1 : ze_CD g n p s P h) (k2 : ze_EV 4 g n o W b p r c q P h) (k3 : ze_CD g n q 161 P h) (k4 : ze_EV 4 g n o W c (q + 1) y 0 x P h) : (ze_EV 5 g n o W b p 0 0 x P h) := by
  have k1 : s = ze_c g n p := k1
  have k3 : 161 = ze_c g n q := k3
  have e := ze_pos_c (acc := 0) (by rw [← k1]; omega) k2 k4
  rw [← k3] at e
  have x0 : ze_cmp 161 r y = false := by unfold ze_cmp; rw [if_neg (by decide), if_neg (by decide)]; exact decide_eq_false (by omega)
  have x1 : ze_bi (true && (!(ze_on 0) && ze_cmp 161 r y)) = 0 := by rw [ze_on0, x0]; rfl
  rw [x1] at e
  exact e
theorem ze_cae0_ok {w : zq_Wd} (x_CD : zj_is w 224 (fun q => ze_CD (q 0) (q 1) (q 2) (q 3))) (x_EV : zj_is w 220 (fun q => ze_EV (q 0) (q 1) (q 2) (q 3) (q 4) (q 5) (q 6) (q 7) (q 8) (q 9))) : zq_okG1 w ze_cae0 := by
  refine ⟨rfl, rfl, zu_fac ⟨rfl, by decide⟩ zq_fan, ?_⟩
  intro r P h H hM
  have q0 : zq_ev r (139, [(6, -1)]) = -r 6 + 139 := zu_e5 _ _ _
  have q1 : zq_ev r (-1, [(8, 1), (11, -1)]) = r 8 - r 11 - 1 := by simp only [zq_ev, zq_ts] <;> omega
  have q2 : zq_ev r (0, [(0, 1)]) = r 0 := zu_e1 _ _
  have q3 : zq_ev r (0, [(1, 1)]) = r 1 := zu_e1 _ _
  have q4 : zq_ev r (0, [(5, 1)]) = r 5 := zu_e1 _ _
  have q5 : zq_ev r (0, [(6, 1)]) = r 6 := zu_e1 _ _
  have q6 : zq_ev r (4, []) = 4 := zu_e0 _ _
  have q7 : zq_ev r (0, [(2, 1)]) = r 2 := zu_e1 _ _
  have q8 : zq_ev r (0, [(3, 1)]) = r 3 := zu_e1 _ _
  have q9 : zq_ev r (0, [(4, 1)]) = r 4 := zu_e1 _ _
  have q10 : zq_ev r (0, [(8, 1)]) = r 8 := zu_e1 _ _
  have q11 : zq_ev r (0, [(9, 1)]) = r 9 := zu_e1 _ _
  have q12 : zq_ev r (0, [(7, 1)]) = r 7 := zu_e1 _ _
  have q13 : zq_ev r (161, []) = 161 := zu_e0 _ _
  have q14 : zq_ev r (1, [(7, 1)]) = r 7 + 1 := zu_e2 _ _ _
  have q15 : zq_ev r (0, [(11, 1)]) = r 11 := zu_e1 _ _
  have q16 : zq_ev r (0, []) = 0 := zu_e0 _ _
  have q17 : zq_ev r (0, [(12, 1)]) = r 12 := zu_e1 _ _
  obtain ⟨hT, hC, hF, hS, -, hK⟩ := hM
  have c := hC.1
  have a1 := zq_all_1 c
  rw [q0] at a1
  have c := zq_all_t c
  have a2 := zq_all_1 c
  rw [q1] at a2
  have k1 := zj_use x_CD (hK)
  have k1 : ze_CD (zq_ev r (0, [(0, 1)])) (zq_ev r (0, [(1, 1)])) (zq_ev r (0, [(5, 1)])) (zq_ev r (0, [(6, 1)])) P h := k1
  simp only [q2, q3, q4, q5] at k1
  have k2 := zj_use x_EV (zq_okX_t (hK))
  have k2 : ze_EV (zq_ev r (4, [])) (zq_ev r (0, [(0, 1)])) (zq_ev r (0, [(1, 1)])) (zq_ev r (0, [(2, 1)])) (zq_ev r (0, [(3, 1)])) (zq_ev r (0, [(4, 1)])) (zq_ev r (0, [(5, 1)])) (zq_ev r (0, [(8, 1)])) (zq_ev r (0, [(9, 1)])) (zq_ev r (0, [(7, 1)])) P h := k2
  simp only [q10, q11, q12, q2, q3, q4, q6, q7, q8, q9] at k2
  have k3 := zj_use x_CD (zq_okX_t (zq_okX_t (hK)))
  have k3 : ze_CD (zq_ev r (0, [(0, 1)])) (zq_ev r (0, [(1, 1)])) (zq_ev r (0, [(7, 1)])) (zq_ev r (161, [])) P h := k3
  simp only [q12, q13, q2, q3] at k3
  have k4 := zj_use x_EV (zq_okX_t (zq_okX_t (zq_okX_t (hK))))
  have k4 : ze_EV (zq_ev r (4, [])) (zq_ev r (0, [(0, 1)])) (zq_ev r (0, [(1, 1)])) (zq_ev r (0, [(2, 1)])) (zq_ev r (0, [(3, 1)])) (zq_ev r (0, [(9, 1)])) (zq_ev r (1, [(7, 1)])) (zq_ev r (0, [(11, 1)])) (zq_ev r (0, [])) (zq_ev r (0, [(12, 1)])) P h := k4
  simp only [q11, q14, q15, q16, q17, q2, q3, q6, q7, q8] at k4
  obtain t1 := ze_cae0_l (P := P) (h := h) (g := r 0) (n := r 1) (o := r 2) (W := r 3) (b := r 4) (p := r 5) (s := r 6) (q := r 7) (r := r 8) (c := r 9) (t := r 10) (y := r 11) (x := r 12) a1 a2 k1 k2 k3 k4
  obtain ⟨rq, hr⟩ : ∃ rq : Nat → Int, (∀ i, i < 13 → rq i = r i) := ⟨r, fun i hi => rfl⟩
  have v0 : rq 0 = r 0 := hr 0 (by decide)
  have v1 : rq 1 = r 1 := hr 1 (by decide)
  have v2 : rq 2 = r 2 := hr 2 (by decide)
  have v3 : rq 3 = r 3 := hr 3 (by decide)
  have v4 : rq 4 = r 4 := hr 4 (by decide)
  have v5 : rq 5 = r 5 := hr 5 (by decide)
  have v12 : rq 12 = r 12 := hr 12 (by decide)
  have g0 : zq_ev rq (5, []) = 5 := zu_e0 _ _
  have g1 : zq_ev rq (0, [(0, 1)]) = r 0 := zu_f1 v0
  have g2 : zq_ev rq (0, [(1, 1)]) = r 1 := zu_f1 v1
  have g3 : zq_ev rq (0, [(2, 1)]) = r 2 := zu_f1 v2
  have g4 : zq_ev rq (0, [(3, 1)]) = r 3 := zu_f1 v3
  have g5 : zq_ev rq (0, [(4, 1)]) = r 4 := zu_f1 v4
  have g6 : zq_ev rq (0, [(5, 1)]) = r 5 := zu_f1 v5
  have g7 : zq_ev rq (0, []) = 0 := zu_e0 _ _
  have g8 : zq_ev rq (0, [(12, 1)]) = r 12 := zu_f1 v12
  exact ⟨_, List.mem_cons_self .., rq, hr, zq_MeS_mk rfl hT (zq_all_nil) zq_fan (zq_fan) rfl (zu_fac ((x_EV _ _ _).mpr (by show ze_EV (zq_ev rq (5, [])) (zq_ev rq (0, [(0, 1)])) (zq_ev rq (0, [(1, 1)])) (zq_ev rq (0, [(2, 1)])) (zq_ev rq (0, [(3, 1)])) (zq_ev rq (0, [(4, 1)])) (zq_ev rq (0, [(5, 1)])) (zq_ev rq (0, [])) (zq_ev rq (0, [])) (zq_ev rq (0, [(12, 1)])) P h; simp only [g0, g1, g2, g3, g4, g5, g6, g7, g8]; exact t1)) zq_fan)⟩
noncomputable def ze_cae0b : zq_S × List zq_S := (([], [], [(139, [(6, -1)]), (-1, [(8, -1), (11, 1)])], [], [], [], [(224, [(0, [(0, 1)]), (0, [(1, 1)]), (0, [(5, 1)]), (0, [(6, 1)])]), (220, [(4, []), (0, [(0, 1)]), (0, [(1, 1)]), (0, [(2, 1)]), (0, [(3, 1)]), (0, [(4, 1)]), (0, [(5, 1)]), (0, [(8, 1)]), (0, [(9, 1)]), (0, [(7, 1)])]), (224, [(0, [(0, 1)]), (0, [(1, 1)]), (0, [(7, 1)]), (161, [])]), (220, [(4, []), (0, [(0, 1)]), (0, [(1, 1)]), (0, [(2, 1)]), (0, [(3, 1)]), (0, [(9, 1)]), (1, [(7, 1)]), (0, [(11, 1)]), (0, []), (0, [(12, 1)])])], 13), [([], [], [], [], [], [], [(220, [(5, []), (0, [(0, 1)]), (0, [(1, 1)]), (0, [(2, 1)]), (0, [(3, 1)]), (0, [(4, 1)]), (0, [(5, 1)]), (0, []), (0, []), (0, [(12, 1)])])], 13)])
theorem ze_cae0b_l {P : zq_Ty} {h : zq_H} {g n o W b p s q r c t y x : Int} (a1 : 0 ≤ -s + 139) (a2 : 0 ≤ -r + y - 1) (k1 : ze_CD g n p s P h) (k2 : ze_EV 4 g n o W b p r c q P h) (k3 : ze_CD g n q 161 P h) (k4 : ze_EV 4 g n o W c (q + 1) y 0 x P h) : (ze_EV 5 g n o W b p 0 0 x P h) := by
  have k1 : s = ze_c g n p := k1
  have k3 : 161 = ze_c g n q := k3
  have e := ze_pos_c (acc := 0) (by rw [← k1]; omega) k2 k4
  rw [← k3] at e
  have x0 : ze_cmp 161 r y = false := by unfold ze_cmp; rw [if_neg (by decide), if_neg (by decide)]; exact decide_eq_false (by omega)
  have x1 : ze_bi (true && (!(ze_on 0) && ze_cmp 161 r y)) = 0 := by rw [ze_on0, x0]; rfl
  rw [x1] at e
  exact e
theorem ze_cae0b_ok {w : zq_Wd} (x_CD : zj_is w 224 (fun q => ze_CD (q 0) (q 1) (q 2) (q 3))) (x_EV : zj_is w 220 (fun q => ze_EV (q 0) (q 1) (q 2) (q 3) (q 4) (q 5) (q 6) (q 7) (q 8) (q 9))) : zq_okG1 w ze_cae0b := by
  refine ⟨rfl, rfl, zu_fac ⟨rfl, by decide⟩ zq_fan, ?_⟩
  intro r P h H hM
  have q0 : zq_ev r (139, [(6, -1)]) = -r 6 + 139 := zu_e5 _ _ _
  have q1 : zq_ev r (-1, [(8, -1), (11, 1)]) = -r 8 + r 11 - 1 := by simp only [zq_ev, zq_ts] <;> omega
  have q2 : zq_ev r (0, [(0, 1)]) = r 0 := zu_e1 _ _
  have q3 : zq_ev r (0, [(1, 1)]) = r 1 := zu_e1 _ _
  have q4 : zq_ev r (0, [(5, 1)]) = r 5 := zu_e1 _ _
  have q5 : zq_ev r (0, [(6, 1)]) = r 6 := zu_e1 _ _
  have q6 : zq_ev r (4, []) = 4 := zu_e0 _ _
  have q7 : zq_ev r (0, [(2, 1)]) = r 2 := zu_e1 _ _
  have q8 : zq_ev r (0, [(3, 1)]) = r 3 := zu_e1 _ _
  have q9 : zq_ev r (0, [(4, 1)]) = r 4 := zu_e1 _ _
  have q10 : zq_ev r (0, [(8, 1)]) = r 8 := zu_e1 _ _
  have q11 : zq_ev r (0, [(9, 1)]) = r 9 := zu_e1 _ _
  have q12 : zq_ev r (0, [(7, 1)]) = r 7 := zu_e1 _ _
  have q13 : zq_ev r (161, []) = 161 := zu_e0 _ _
  have q14 : zq_ev r (1, [(7, 1)]) = r 7 + 1 := zu_e2 _ _ _
  have q15 : zq_ev r (0, [(11, 1)]) = r 11 := zu_e1 _ _
  have q16 : zq_ev r (0, []) = 0 := zu_e0 _ _
  have q17 : zq_ev r (0, [(12, 1)]) = r 12 := zu_e1 _ _
  obtain ⟨hT, hC, hF, hS, -, hK⟩ := hM
  have c := hC.1
  have a1 := zq_all_1 c
  rw [q0] at a1
  have c := zq_all_t c
  have a2 := zq_all_1 c
  rw [q1] at a2
  have k1 := zj_use x_CD (hK)
  have k1 : ze_CD (zq_ev r (0, [(0, 1)])) (zq_ev r (0, [(1, 1)])) (zq_ev r (0, [(5, 1)])) (zq_ev r (0, [(6, 1)])) P h := k1
  simp only [q2, q3, q4, q5] at k1
  have k2 := zj_use x_EV (zq_okX_t (hK))
  have k2 : ze_EV (zq_ev r (4, [])) (zq_ev r (0, [(0, 1)])) (zq_ev r (0, [(1, 1)])) (zq_ev r (0, [(2, 1)])) (zq_ev r (0, [(3, 1)])) (zq_ev r (0, [(4, 1)])) (zq_ev r (0, [(5, 1)])) (zq_ev r (0, [(8, 1)])) (zq_ev r (0, [(9, 1)])) (zq_ev r (0, [(7, 1)])) P h := k2
  simp only [q10, q11, q12, q2, q3, q4, q6, q7, q8, q9] at k2
  have k3 := zj_use x_CD (zq_okX_t (zq_okX_t (hK)))
  have k3 : ze_CD (zq_ev r (0, [(0, 1)])) (zq_ev r (0, [(1, 1)])) (zq_ev r (0, [(7, 1)])) (zq_ev r (161, [])) P h := k3
  simp only [q12, q13, q2, q3] at k3
  have k4 := zj_use x_EV (zq_okX_t (zq_okX_t (zq_okX_t (hK))))
  have k4 : ze_EV (zq_ev r (4, [])) (zq_ev r (0, [(0, 1)])) (zq_ev r (0, [(1, 1)])) (zq_ev r (0, [(2, 1)])) (zq_ev r (0, [(3, 1)])) (zq_ev r (0, [(9, 1)])) (zq_ev r (1, [(7, 1)])) (zq_ev r (0, [(11, 1)])) (zq_ev r (0, [])) (zq_ev r (0, [(12, 1)])) P h := k4
  simp only [q11, q14, q15, q16, q17, q2, q3, q6, q7, q8] at k4
  obtain t1 := ze_cae0b_l (P := P) (h := h) (g := r 0) (n := r 1) (o := r 2) (W := r 3) (b := r 4) (p := r 5) (s := r 6) (q := r 7) (r := r 8) (c := r 9) (t := r 10) (y := r 11) (x := r 12) a1 a2 k1 k2 k3 k4
  obtain ⟨rq, hr⟩ : ∃ rq : Nat → Int, (∀ i, i < 13 → rq i = r i) := ⟨r, fun i hi => rfl⟩
  have v0 : rq 0 = r 0 := hr 0 (by decide)
  have v1 : rq 1 = r 1 := hr 1 (by decide)
  have v2 : rq 2 = r 2 := hr 2 (by decide)
  have v3 : rq 3 = r 3 := hr 3 (by decide)
  have v4 : rq 4 = r 4 := hr 4 (by decide)
  have v5 : rq 5 = r 5 := hr 5 (by decide)
  have v12 : rq 12 = r 12 := hr 12 (by decide)
  have g0 : zq_ev rq (5, []) = 5 := zu_e0 _ _
  have g1 : zq_ev rq (0, [(0, 1)]) = r 0 := zu_f1 v0
  have g2 : zq_ev rq (0, [(1, 1)]) = r 1 := zu_f1 v1
  have g3 : zq_ev rq (0, [(2, 1)]) = r 2 := zu_f1 v2
  have g4 : zq_ev rq (0, [(3, 1)]) = r 3 := zu_f1 v3
  have g5 : zq_ev rq (0, [(4, 1)]) = r 4 := zu_f1 v4
  have g6 : zq_ev rq (0, [(5, 1)]) = r 5 := zu_f1 v5
  have g7 : zq_ev rq (0, []) = 0 := zu_e0 _ _
  have g8 : zq_ev rq (0, [(12, 1)]) = r 12 := zu_f1 v12
  exact ⟨_, List.mem_cons_self .., rq, hr, zq_MeS_mk rfl hT (zq_all_nil) zq_fan (zq_fan) rfl (zu_fac ((x_EV _ _ _).mpr (by show ze_EV (zq_ev rq (5, [])) (zq_ev rq (0, [(0, 1)])) (zq_ev rq (0, [(1, 1)])) (zq_ev rq (0, [(2, 1)])) (zq_ev rq (0, [(3, 1)])) (zq_ev rq (0, [(4, 1)])) (zq_ev rq (0, [(5, 1)])) (zq_ev rq (0, [])) (zq_ev rq (0, [])) (zq_ev rq (0, [(12, 1)])) P h; simp only [g0, g1, g2, g3, g4, g5, g6, g7, g8]; exact t1)) zq_fan)⟩
noncomputable def ze_ctb : zq_S × List zq_S := (([], [], [(-141, [(3, 1)])], [], [], [], [(224, [(0, [(0, 1)]), (0, [(1, 1)]), (0, [(2, 1)]), (0, [(3, 1)])]), (221, [(4, []), (0, [(0, 1)]), (0, [(1, 1)]), (0, [(2, 1)]), (0, [(4, 1)])]), (221, [(4, []), (0, [(0, 1)]), (0, [(1, 1)]), (1, [(4, 1)]), (0, [(5, 1)])])], 6), [([], [], [], [], [], [], [(221, [(5, []), (0, [(0, 1)]), (0, [(1, 1)]), (0, [(2, 1)]), (0, [(5, 1)])])], 6)])
theorem ze_ctb_l {P : zq_Ty} {h : zq_H} {g n p s q x : Int} (a1 : 0 ≤ s - 141) (k1 : ze_CD g n p s P h) (k2 : ze_TT 4 g n p q P h) (k3 : ze_TT 4 g n (q + 1) x P h) : (ze_TT 5 g n p x P h) := by
  have k1 : s = ze_c g n p := k1
  exact zt_pos_c (by rw [← k1]; omega) k2 k3
theorem ze_ctb_ok {w : zq_Wd} (x_CD : zj_is w 224 (fun q => ze_CD (q 0) (q 1) (q 2) (q 3))) (x_TT : zj_is w 221 (fun q => ze_TT (q 0) (q 1) (q 2) (q 3) (q 4))) : zq_okG1 w ze_ctb := by
  refine ⟨rfl, rfl, zu_fac ⟨rfl, by decide⟩ zq_fan, ?_⟩
  intro r P h H hM
  have q0 : zq_ev r (-141, [(3, 1)]) = r 3 - 141 := zu_e3 _ _ _
  have q1 : zq_ev r (0, [(0, 1)]) = r 0 := zu_e1 _ _
  have q2 : zq_ev r (0, [(1, 1)]) = r 1 := zu_e1 _ _
  have q3 : zq_ev r (0, [(2, 1)]) = r 2 := zu_e1 _ _
  have q4 : zq_ev r (0, [(3, 1)]) = r 3 := zu_e1 _ _
  have q5 : zq_ev r (4, []) = 4 := zu_e0 _ _
  have q6 : zq_ev r (0, [(4, 1)]) = r 4 := zu_e1 _ _
  have q7 : zq_ev r (1, [(4, 1)]) = r 4 + 1 := zu_e2 _ _ _
  have q8 : zq_ev r (0, [(5, 1)]) = r 5 := zu_e1 _ _
  obtain ⟨hT, hC, hF, hS, -, hK⟩ := hM
  have c := hC.1
  have a1 := zq_all_1 c
  rw [q0] at a1
  have k1 := zj_use x_CD (hK)
  have k1 : ze_CD (zq_ev r (0, [(0, 1)])) (zq_ev r (0, [(1, 1)])) (zq_ev r (0, [(2, 1)])) (zq_ev r (0, [(3, 1)])) P h := k1
  simp only [q1, q2, q3, q4] at k1
  have k2 := zj_use x_TT (zq_okX_t (hK))
  have k2 : ze_TT (zq_ev r (4, [])) (zq_ev r (0, [(0, 1)])) (zq_ev r (0, [(1, 1)])) (zq_ev r (0, [(2, 1)])) (zq_ev r (0, [(4, 1)])) P h := k2
  simp only [q1, q2, q3, q5, q6] at k2
  have k3 := zj_use x_TT (zq_okX_t (zq_okX_t (hK)))
  have k3 : ze_TT (zq_ev r (4, [])) (zq_ev r (0, [(0, 1)])) (zq_ev r (0, [(1, 1)])) (zq_ev r (1, [(4, 1)])) (zq_ev r (0, [(5, 1)])) P h := k3
  simp only [q1, q2, q5, q7, q8] at k3
  obtain t1 := ze_ctb_l (P := P) (h := h) (g := r 0) (n := r 1) (p := r 2) (s := r 3) (q := r 4) (x := r 5) a1 k1 k2 k3
  obtain ⟨rq, hr⟩ : ∃ rq : Nat → Int, (∀ i, i < 6 → rq i = r i) := ⟨r, fun i hi => rfl⟩
  have v0 : rq 0 = r 0 := hr 0 (by decide)
  have v1 : rq 1 = r 1 := hr 1 (by decide)
  have v2 : rq 2 = r 2 := hr 2 (by decide)
  have v5 : rq 5 = r 5 := hr 5 (by decide)
  have g0 : zq_ev rq (5, []) = 5 := zu_e0 _ _
  have g1 : zq_ev rq (0, [(0, 1)]) = r 0 := zu_f1 v0
  have g2 : zq_ev rq (0, [(1, 1)]) = r 1 := zu_f1 v1
  have g3 : zq_ev rq (0, [(2, 1)]) = r 2 := zu_f1 v2
  have g4 : zq_ev rq (0, [(5, 1)]) = r 5 := zu_f1 v5
  exact ⟨_, List.mem_cons_self .., rq, hr, zq_MeS_mk rfl hT (zq_all_nil) zq_fan (zq_fan) rfl (zu_fac ((x_TT _ _ _).mpr (by show ze_TT (zq_ev rq (5, [])) (zq_ev rq (0, [(0, 1)])) (zq_ev rq (0, [(1, 1)])) (zq_ev rq (0, [(2, 1)])) (zq_ev rq (0, [(5, 1)])) P h; simp only [g0, g1, g2, g3, g4]; exact t1)) zq_fan)⟩
noncomputable def ze_cbx : zq_S × List zq_S := (([], [], [(-141, [(6, 1)])], [], [], [], [(224, [(0, [(0, 1)]), (0, [(1, 1)]), (0, [(5, 1)]), (0, [(6, 1)])]), (220, [(4, []), (0, [(0, 1)]), (0, [(1, 1)]), (0, [(2, 1)]), (0, [(3, 1)]), (0, [(4, 1)]), (0, [(5, 1)]), (0, [(8, 1)]), (0, [(9, 1)]), (0, [(7, 1)])]), (224, [(0, [(0, 1)]), (0, [(1, 1)]), (0, [(7, 1)]), (0, [(13, 1)])]), (220, [(4, []), (0, [(0, 1)]), (0, [(1, 1)]), (0, [(2, 1)]), (0, [(3, 1)]), (0, [(9, 1)]), (1, [(7, 1)]), (0, [(11, 1)]), (1, []), (0, [(12, 1)])])], 14), [([], [], [], [], [], [], [(220, [(5, []), (0, [(0, 1)]), (0, [(1, 1)]), (0, [(2, 1)]), (0, [(3, 1)]), (0, [(4, 1)]), (0, [(5, 1)]), (0, []), (1, []), (0, [(12, 1)])])], 14)])
theorem ze_cbx_l {P : zq_Ty} {h : zq_H} {g n o W b p s q r c t y x m : Int} (a1 : 0 ≤ s - 141) (k1 : ze_CD g n p s P h) (k2 : ze_EV 4 g n o W b p r c q P h) (k3 : ze_CD g n q m P h) (k4 : ze_EV 4 g n o W c (q + 1) y 1 x P h) : (ze_EV 5 g n o W b p 0 1 x P h) := by
  have k1 : s = ze_c g n p := k1
  have k3 : m = ze_c g n q := k3
  have e := ze_pos_c (acc := 0) (by rw [← k1]; omega) k2 k4
  rw [← k3] at e
  have x1 : ze_bi (true && (!(ze_on 1) && ze_cmp m r y)) = 0 := by rw [ze_on1]; rfl
  rw [x1] at e
  exact e
theorem ze_cbx_ok {w : zq_Wd} (x_CD : zj_is w 224 (fun q => ze_CD (q 0) (q 1) (q 2) (q 3))) (x_EV : zj_is w 220 (fun q => ze_EV (q 0) (q 1) (q 2) (q 3) (q 4) (q 5) (q 6) (q 7) (q 8) (q 9))) : zq_okG1 w ze_cbx := by
  refine ⟨rfl, rfl, zu_fac ⟨rfl, by decide⟩ zq_fan, ?_⟩
  intro r P h H hM
  have q0 : zq_ev r (-141, [(6, 1)]) = r 6 - 141 := zu_e3 _ _ _
  have q1 : zq_ev r (0, [(0, 1)]) = r 0 := zu_e1 _ _
  have q2 : zq_ev r (0, [(1, 1)]) = r 1 := zu_e1 _ _
  have q3 : zq_ev r (0, [(5, 1)]) = r 5 := zu_e1 _ _
  have q4 : zq_ev r (0, [(6, 1)]) = r 6 := zu_e1 _ _
  have q5 : zq_ev r (4, []) = 4 := zu_e0 _ _
  have q6 : zq_ev r (0, [(2, 1)]) = r 2 := zu_e1 _ _
  have q7 : zq_ev r (0, [(3, 1)]) = r 3 := zu_e1 _ _
  have q8 : zq_ev r (0, [(4, 1)]) = r 4 := zu_e1 _ _
  have q9 : zq_ev r (0, [(8, 1)]) = r 8 := zu_e1 _ _
  have q10 : zq_ev r (0, [(9, 1)]) = r 9 := zu_e1 _ _
  have q11 : zq_ev r (0, [(7, 1)]) = r 7 := zu_e1 _ _
  have q12 : zq_ev r (0, [(13, 1)]) = r 13 := zu_e1 _ _
  have q13 : zq_ev r (1, [(7, 1)]) = r 7 + 1 := zu_e2 _ _ _
  have q14 : zq_ev r (0, [(11, 1)]) = r 11 := zu_e1 _ _
  have q15 : zq_ev r (1, []) = 1 := zu_e0 _ _
  have q16 : zq_ev r (0, [(12, 1)]) = r 12 := zu_e1 _ _
  obtain ⟨hT, hC, hF, hS, -, hK⟩ := hM
  have c := hC.1
  have a1 := zq_all_1 c
  rw [q0] at a1
  have k1 := zj_use x_CD (hK)
  have k1 : ze_CD (zq_ev r (0, [(0, 1)])) (zq_ev r (0, [(1, 1)])) (zq_ev r (0, [(5, 1)])) (zq_ev r (0, [(6, 1)])) P h := k1
  simp only [q1, q2, q3, q4] at k1
  have k2 := zj_use x_EV (zq_okX_t (hK))
  have k2 : ze_EV (zq_ev r (4, [])) (zq_ev r (0, [(0, 1)])) (zq_ev r (0, [(1, 1)])) (zq_ev r (0, [(2, 1)])) (zq_ev r (0, [(3, 1)])) (zq_ev r (0, [(4, 1)])) (zq_ev r (0, [(5, 1)])) (zq_ev r (0, [(8, 1)])) (zq_ev r (0, [(9, 1)])) (zq_ev r (0, [(7, 1)])) P h := k2
  simp only [q1, q10, q11, q2, q3, q5, q6, q7, q8, q9] at k2
  have k3 := zj_use x_CD (zq_okX_t (zq_okX_t (hK)))
  have k3 : ze_CD (zq_ev r (0, [(0, 1)])) (zq_ev r (0, [(1, 1)])) (zq_ev r (0, [(7, 1)])) (zq_ev r (0, [(13, 1)])) P h := k3
  simp only [q1, q11, q12, q2] at k3
  have k4 := zj_use x_EV (zq_okX_t (zq_okX_t (zq_okX_t (hK))))
  have k4 : ze_EV (zq_ev r (4, [])) (zq_ev r (0, [(0, 1)])) (zq_ev r (0, [(1, 1)])) (zq_ev r (0, [(2, 1)])) (zq_ev r (0, [(3, 1)])) (zq_ev r (0, [(9, 1)])) (zq_ev r (1, [(7, 1)])) (zq_ev r (0, [(11, 1)])) (zq_ev r (1, [])) (zq_ev r (0, [(12, 1)])) P h := k4
  simp only [q1, q10, q13, q14, q15, q16, q2, q5, q6, q7] at k4
  obtain t1 := ze_cbx_l (P := P) (h := h) (g := r 0) (n := r 1) (o := r 2) (W := r 3) (b := r 4) (p := r 5) (s := r 6) (q := r 7) (r := r 8) (c := r 9) (t := r 10) (y := r 11) (x := r 12) (m := r 13) a1 k1 k2 k3 k4
  obtain ⟨rq, hr⟩ : ∃ rq : Nat → Int, (∀ i, i < 14 → rq i = r i) := ⟨r, fun i hi => rfl⟩
  have v0 : rq 0 = r 0 := hr 0 (by decide)
  have v1 : rq 1 = r 1 := hr 1 (by decide)
  have v2 : rq 2 = r 2 := hr 2 (by decide)
  have v3 : rq 3 = r 3 := hr 3 (by decide)
  have v4 : rq 4 = r 4 := hr 4 (by decide)
  have v5 : rq 5 = r 5 := hr 5 (by decide)
  have v12 : rq 12 = r 12 := hr 12 (by decide)
  have g0 : zq_ev rq (5, []) = 5 := zu_e0 _ _
  have g1 : zq_ev rq (0, [(0, 1)]) = r 0 := zu_f1 v0
  have g2 : zq_ev rq (0, [(1, 1)]) = r 1 := zu_f1 v1
  have g3 : zq_ev rq (0, [(2, 1)]) = r 2 := zu_f1 v2
  have g4 : zq_ev rq (0, [(3, 1)]) = r 3 := zu_f1 v3
  have g5 : zq_ev rq (0, [(4, 1)]) = r 4 := zu_f1 v4
  have g6 : zq_ev rq (0, [(5, 1)]) = r 5 := zu_f1 v5
  have g7 : zq_ev rq (0, []) = 0 := zu_e0 _ _
  have g8 : zq_ev rq (1, []) = 1 := zu_e0 _ _
  have g9 : zq_ev rq (0, [(12, 1)]) = r 12 := zu_f1 v12
  exact ⟨_, List.mem_cons_self .., rq, hr, zq_MeS_mk rfl hT (zq_all_nil) zq_fan (zq_fan) rfl (zu_fac ((x_EV _ _ _).mpr (by show ze_EV (zq_ev rq (5, [])) (zq_ev rq (0, [(0, 1)])) (zq_ev rq (0, [(1, 1)])) (zq_ev rq (0, [(2, 1)])) (zq_ev rq (0, [(3, 1)])) (zq_ev rq (0, [(4, 1)])) (zq_ev rq (0, [(5, 1)])) (zq_ev rq (0, [])) (zq_ev rq (1, [])) (zq_ev rq (0, [(12, 1)])) P h; simp only [g0, g1, g2, g3, g4, g5, g6, g7, g8, g9]; exact t1)) zq_fan)⟩
noncomputable def ze_cbl1 : zq_S × List zq_S := (([], [], [(-141, [(6, 1)]), (-1, [(8, -1), (11, 1)])], [], [], [], [(224, [(0, [(0, 1)]), (0, [(1, 1)]), (0, [(5, 1)]), (0, [(6, 1)])]), (220, [(4, []), (0, [(0, 1)]), (0, [(1, 1)]), (0, [(2, 1)]), (0, [(3, 1)]), (0, [(4, 1)]), (0, [(5, 1)]), (0, [(8, 1)]), (0, [(9, 1)]), (0, [(7, 1)])]), (224, [(0, [(0, 1)]), (0, [(1, 1)]), (0, [(7, 1)]), (160, [])]), (220, [(4, []), (0, [(0, 1)]), (0, [(1, 1)]), (0, [(2, 1)]), (0, [(3, 1)]), (0, [(9, 1)]), (1, [(7, 1)]), (0, [(11, 1)]), (0, []), (0, [(12, 1)])])], 13), [([], [], [], [], [], [], [(220, [(5, []), (0, [(0, 1)]), (0, [(1, 1)]), (0, [(2, 1)]), (0, [(3, 1)]), (0, [(4, 1)]), (0, [(5, 1)]), (1, []), (0, []), (0, [(12, 1)])])], 13)])
theorem ze_cbl1_l {P : zq_Ty} {h : zq_H} {g n o W b p s q r c t y x : Int} (a1 : 0 ≤ s - 141) (a2 : 0 ≤ -r + y - 1) (k1 : ze_CD g n p s P h) (k2 : ze_EV 4 g n o W b p r c q P h) (k3 : ze_CD g n q 160 P h) (k4 : ze_EV 4 g n o W c (q + 1) y 0 x P h) : (ze_EV 5 g n o W b p 1 0 x P h) := by
  have k1 : s = ze_c g n p := k1
  have k3 : 160 = ze_c g n q := k3
  have e := ze_pos_c (acc := 0) (by rw [← k1]; omega) k2 k4
  rw [← k3] at e
  have x0 : ze_cmp 160 r y = true := by unfold ze_cmp; rw [if_pos rfl]; exact decide_eq_true (by omega)
  have x1 : ze_bi (true && (!(ze_on 0) && ze_cmp 160 r y)) = 1 := by rw [ze_on0, x0]; rfl
  rw [x1] at e
  exact e
theorem ze_cbl1_ok {w : zq_Wd} (x_CD : zj_is w 224 (fun q => ze_CD (q 0) (q 1) (q 2) (q 3))) (x_EV : zj_is w 220 (fun q => ze_EV (q 0) (q 1) (q 2) (q 3) (q 4) (q 5) (q 6) (q 7) (q 8) (q 9))) : zq_okG1 w ze_cbl1 := by
  refine ⟨rfl, rfl, zu_fac ⟨rfl, by decide⟩ zq_fan, ?_⟩
  intro r P h H hM
  have q0 : zq_ev r (-141, [(6, 1)]) = r 6 - 141 := zu_e3 _ _ _
  have q1 : zq_ev r (-1, [(8, -1), (11, 1)]) = -r 8 + r 11 - 1 := by simp only [zq_ev, zq_ts] <;> omega
  have q2 : zq_ev r (0, [(0, 1)]) = r 0 := zu_e1 _ _
  have q3 : zq_ev r (0, [(1, 1)]) = r 1 := zu_e1 _ _
  have q4 : zq_ev r (0, [(5, 1)]) = r 5 := zu_e1 _ _
  have q5 : zq_ev r (0, [(6, 1)]) = r 6 := zu_e1 _ _
  have q6 : zq_ev r (4, []) = 4 := zu_e0 _ _
  have q7 : zq_ev r (0, [(2, 1)]) = r 2 := zu_e1 _ _
  have q8 : zq_ev r (0, [(3, 1)]) = r 3 := zu_e1 _ _
  have q9 : zq_ev r (0, [(4, 1)]) = r 4 := zu_e1 _ _
  have q10 : zq_ev r (0, [(8, 1)]) = r 8 := zu_e1 _ _
  have q11 : zq_ev r (0, [(9, 1)]) = r 9 := zu_e1 _ _
  have q12 : zq_ev r (0, [(7, 1)]) = r 7 := zu_e1 _ _
  have q13 : zq_ev r (160, []) = 160 := zu_e0 _ _
  have q14 : zq_ev r (1, [(7, 1)]) = r 7 + 1 := zu_e2 _ _ _
  have q15 : zq_ev r (0, [(11, 1)]) = r 11 := zu_e1 _ _
  have q16 : zq_ev r (0, []) = 0 := zu_e0 _ _
  have q17 : zq_ev r (0, [(12, 1)]) = r 12 := zu_e1 _ _
  obtain ⟨hT, hC, hF, hS, -, hK⟩ := hM
  have c := hC.1
  have a1 := zq_all_1 c
  rw [q0] at a1
  have c := zq_all_t c
  have a2 := zq_all_1 c
  rw [q1] at a2
  have k1 := zj_use x_CD (hK)
  have k1 : ze_CD (zq_ev r (0, [(0, 1)])) (zq_ev r (0, [(1, 1)])) (zq_ev r (0, [(5, 1)])) (zq_ev r (0, [(6, 1)])) P h := k1
  simp only [q2, q3, q4, q5] at k1
  have k2 := zj_use x_EV (zq_okX_t (hK))
  have k2 : ze_EV (zq_ev r (4, [])) (zq_ev r (0, [(0, 1)])) (zq_ev r (0, [(1, 1)])) (zq_ev r (0, [(2, 1)])) (zq_ev r (0, [(3, 1)])) (zq_ev r (0, [(4, 1)])) (zq_ev r (0, [(5, 1)])) (zq_ev r (0, [(8, 1)])) (zq_ev r (0, [(9, 1)])) (zq_ev r (0, [(7, 1)])) P h := k2
  simp only [q10, q11, q12, q2, q3, q4, q6, q7, q8, q9] at k2
  have k3 := zj_use x_CD (zq_okX_t (zq_okX_t (hK)))
  have k3 : ze_CD (zq_ev r (0, [(0, 1)])) (zq_ev r (0, [(1, 1)])) (zq_ev r (0, [(7, 1)])) (zq_ev r (160, [])) P h := k3
  simp only [q12, q13, q2, q3] at k3
  have k4 := zj_use x_EV (zq_okX_t (zq_okX_t (zq_okX_t (hK))))
  have k4 : ze_EV (zq_ev r (4, [])) (zq_ev r (0, [(0, 1)])) (zq_ev r (0, [(1, 1)])) (zq_ev r (0, [(2, 1)])) (zq_ev r (0, [(3, 1)])) (zq_ev r (0, [(9, 1)])) (zq_ev r (1, [(7, 1)])) (zq_ev r (0, [(11, 1)])) (zq_ev r (0, [])) (zq_ev r (0, [(12, 1)])) P h := k4
  simp only [q11, q14, q15, q16, q17, q2, q3, q6, q7, q8] at k4
  obtain t1 := ze_cbl1_l (P := P) (h := h) (g := r 0) (n := r 1) (o := r 2) (W := r 3) (b := r 4) (p := r 5) (s := r 6) (q := r 7) (r := r 8) (c := r 9) (t := r 10) (y := r 11) (x := r 12) a1 a2 k1 k2 k3 k4
  obtain ⟨rq, hr⟩ : ∃ rq : Nat → Int, (∀ i, i < 13 → rq i = r i) := ⟨r, fun i hi => rfl⟩
  have v0 : rq 0 = r 0 := hr 0 (by decide)
  have v1 : rq 1 = r 1 := hr 1 (by decide)
  have v2 : rq 2 = r 2 := hr 2 (by decide)
  have v3 : rq 3 = r 3 := hr 3 (by decide)
  have v4 : rq 4 = r 4 := hr 4 (by decide)
  have v5 : rq 5 = r 5 := hr 5 (by decide)
  have v12 : rq 12 = r 12 := hr 12 (by decide)
  have g0 : zq_ev rq (5, []) = 5 := zu_e0 _ _
  have g1 : zq_ev rq (0, [(0, 1)]) = r 0 := zu_f1 v0
  have g2 : zq_ev rq (0, [(1, 1)]) = r 1 := zu_f1 v1
  have g3 : zq_ev rq (0, [(2, 1)]) = r 2 := zu_f1 v2
  have g4 : zq_ev rq (0, [(3, 1)]) = r 3 := zu_f1 v3
  have g5 : zq_ev rq (0, [(4, 1)]) = r 4 := zu_f1 v4
  have g6 : zq_ev rq (0, [(5, 1)]) = r 5 := zu_f1 v5
  have g7 : zq_ev rq (1, []) = 1 := zu_e0 _ _
  have g8 : zq_ev rq (0, []) = 0 := zu_e0 _ _
  have g9 : zq_ev rq (0, [(12, 1)]) = r 12 := zu_f1 v12
  exact ⟨_, List.mem_cons_self .., rq, hr, zq_MeS_mk rfl hT (zq_all_nil) zq_fan (zq_fan) rfl (zu_fac ((x_EV _ _ _).mpr (by show ze_EV (zq_ev rq (5, [])) (zq_ev rq (0, [(0, 1)])) (zq_ev rq (0, [(1, 1)])) (zq_ev rq (0, [(2, 1)])) (zq_ev rq (0, [(3, 1)])) (zq_ev rq (0, [(4, 1)])) (zq_ev rq (0, [(5, 1)])) (zq_ev rq (1, [])) (zq_ev rq (0, [])) (zq_ev rq (0, [(12, 1)])) P h; simp only [g0, g1, g2, g3, g4, g5, g6, g7, g8, g9]; exact t1)) zq_fan)⟩
noncomputable def ze_cbl0 : zq_S × List zq_S := (([], [], [(-141, [(6, 1)]), (0, [(8, 1), (11, -1)])], [], [], [], [(224, [(0, [(0, 1)]), (0, [(1, 1)]), (0, [(5, 1)]), (0, [(6, 1)])]), (220, [(4, []), (0, [(0, 1)]), (0, [(1, 1)]), (0, [(2, 1)]), (0, [(3, 1)]), (0, [(4, 1)]), (0, [(5, 1)]), (0, [(8, 1)]), (0, [(9, 1)]), (0, [(7, 1)])]), (224, [(0, [(0, 1)]), (0, [(1, 1)]), (0, [(7, 1)]), (160, [])]), (220, [(4, []), (0, [(0, 1)]), (0, [(1, 1)]), (0, [(2, 1)]), (0, [(3, 1)]), (0, [(9, 1)]), (1, [(7, 1)]), (0, [(11, 1)]), (0, []), (0, [(12, 1)])])], 13), [([], [], [], [], [], [], [(220, [(5, []), (0, [(0, 1)]), (0, [(1, 1)]), (0, [(2, 1)]), (0, [(3, 1)]), (0, [(4, 1)]), (0, [(5, 1)]), (0, []), (0, []), (0, [(12, 1)])])], 13)])
theorem ze_cbl0_l {P : zq_Ty} {h : zq_H} {g n o W b p s q r c t y x : Int} (a1 : 0 ≤ s - 141) (a2 : 0 ≤ r - y) (k1 : ze_CD g n p s P h) (k2 : ze_EV 4 g n o W b p r c q P h) (k3 : ze_CD g n q 160 P h) (k4 : ze_EV 4 g n o W c (q + 1) y 0 x P h) : (ze_EV 5 g n o W b p 0 0 x P h) := by
  have k1 : s = ze_c g n p := k1
  have k3 : 160 = ze_c g n q := k3
  have e := ze_pos_c (acc := 0) (by rw [← k1]; omega) k2 k4
  rw [← k3] at e
  have x0 : ze_cmp 160 r y = false := by unfold ze_cmp; rw [if_pos rfl]; exact decide_eq_false (by omega)
  have x1 : ze_bi (true && (!(ze_on 0) && ze_cmp 160 r y)) = 0 := by rw [ze_on0, x0]; rfl
  rw [x1] at e
  exact e
theorem ze_cbl0_ok {w : zq_Wd} (x_CD : zj_is w 224 (fun q => ze_CD (q 0) (q 1) (q 2) (q 3))) (x_EV : zj_is w 220 (fun q => ze_EV (q 0) (q 1) (q 2) (q 3) (q 4) (q 5) (q 6) (q 7) (q 8) (q 9))) : zq_okG1 w ze_cbl0 := by
  refine ⟨rfl, rfl, zu_fac ⟨rfl, by decide⟩ zq_fan, ?_⟩
  intro r P h H hM
  have q0 : zq_ev r (-141, [(6, 1)]) = r 6 - 141 := zu_e3 _ _ _
  have q1 : zq_ev r (0, [(8, 1), (11, -1)]) = r 8 - r 11 := by simp only [zq_ev, zq_ts] <;> omega
  have q2 : zq_ev r (0, [(0, 1)]) = r 0 := zu_e1 _ _
  have q3 : zq_ev r (0, [(1, 1)]) = r 1 := zu_e1 _ _
  have q4 : zq_ev r (0, [(5, 1)]) = r 5 := zu_e1 _ _
  have q5 : zq_ev r (0, [(6, 1)]) = r 6 := zu_e1 _ _
  have q6 : zq_ev r (4, []) = 4 := zu_e0 _ _
  have q7 : zq_ev r (0, [(2, 1)]) = r 2 := zu_e1 _ _
  have q8 : zq_ev r (0, [(3, 1)]) = r 3 := zu_e1 _ _
  have q9 : zq_ev r (0, [(4, 1)]) = r 4 := zu_e1 _ _
  have q10 : zq_ev r (0, [(8, 1)]) = r 8 := zu_e1 _ _
  have q11 : zq_ev r (0, [(9, 1)]) = r 9 := zu_e1 _ _
  have q12 : zq_ev r (0, [(7, 1)]) = r 7 := zu_e1 _ _
  have q13 : zq_ev r (160, []) = 160 := zu_e0 _ _
  have q14 : zq_ev r (1, [(7, 1)]) = r 7 + 1 := zu_e2 _ _ _
  have q15 : zq_ev r (0, [(11, 1)]) = r 11 := zu_e1 _ _
  have q16 : zq_ev r (0, []) = 0 := zu_e0 _ _
  have q17 : zq_ev r (0, [(12, 1)]) = r 12 := zu_e1 _ _
  obtain ⟨hT, hC, hF, hS, -, hK⟩ := hM
  have c := hC.1
  have a1 := zq_all_1 c
  rw [q0] at a1
  have c := zq_all_t c
  have a2 := zq_all_1 c
  rw [q1] at a2
  have k1 := zj_use x_CD (hK)
  have k1 : ze_CD (zq_ev r (0, [(0, 1)])) (zq_ev r (0, [(1, 1)])) (zq_ev r (0, [(5, 1)])) (zq_ev r (0, [(6, 1)])) P h := k1
  simp only [q2, q3, q4, q5] at k1
  have k2 := zj_use x_EV (zq_okX_t (hK))
  have k2 : ze_EV (zq_ev r (4, [])) (zq_ev r (0, [(0, 1)])) (zq_ev r (0, [(1, 1)])) (zq_ev r (0, [(2, 1)])) (zq_ev r (0, [(3, 1)])) (zq_ev r (0, [(4, 1)])) (zq_ev r (0, [(5, 1)])) (zq_ev r (0, [(8, 1)])) (zq_ev r (0, [(9, 1)])) (zq_ev r (0, [(7, 1)])) P h := k2
  simp only [q10, q11, q12, q2, q3, q4, q6, q7, q8, q9] at k2
  have k3 := zj_use x_CD (zq_okX_t (zq_okX_t (hK)))
  have k3 : ze_CD (zq_ev r (0, [(0, 1)])) (zq_ev r (0, [(1, 1)])) (zq_ev r (0, [(7, 1)])) (zq_ev r (160, [])) P h := k3
  simp only [q12, q13, q2, q3] at k3
  have k4 := zj_use x_EV (zq_okX_t (zq_okX_t (zq_okX_t (hK))))
  have k4 : ze_EV (zq_ev r (4, [])) (zq_ev r (0, [(0, 1)])) (zq_ev r (0, [(1, 1)])) (zq_ev r (0, [(2, 1)])) (zq_ev r (0, [(3, 1)])) (zq_ev r (0, [(9, 1)])) (zq_ev r (1, [(7, 1)])) (zq_ev r (0, [(11, 1)])) (zq_ev r (0, [])) (zq_ev r (0, [(12, 1)])) P h := k4
  simp only [q11, q14, q15, q16, q17, q2, q3, q6, q7, q8] at k4
  obtain t1 := ze_cbl0_l (P := P) (h := h) (g := r 0) (n := r 1) (o := r 2) (W := r 3) (b := r 4) (p := r 5) (s := r 6) (q := r 7) (r := r 8) (c := r 9) (t := r 10) (y := r 11) (x := r 12) a1 a2 k1 k2 k3 k4
  obtain ⟨rq, hr⟩ : ∃ rq : Nat → Int, (∀ i, i < 13 → rq i = r i) := ⟨r, fun i hi => rfl⟩
  have v0 : rq 0 = r 0 := hr 0 (by decide)
  have v1 : rq 1 = r 1 := hr 1 (by decide)
  have v2 : rq 2 = r 2 := hr 2 (by decide)
  have v3 : rq 3 = r 3 := hr 3 (by decide)
  have v4 : rq 4 = r 4 := hr 4 (by decide)
  have v5 : rq 5 = r 5 := hr 5 (by decide)
  have v12 : rq 12 = r 12 := hr 12 (by decide)
  have g0 : zq_ev rq (5, []) = 5 := zu_e0 _ _
  have g1 : zq_ev rq (0, [(0, 1)]) = r 0 := zu_f1 v0
  have g2 : zq_ev rq (0, [(1, 1)]) = r 1 := zu_f1 v1
  have g3 : zq_ev rq (0, [(2, 1)]) = r 2 := zu_f1 v2
  have g4 : zq_ev rq (0, [(3, 1)]) = r 3 := zu_f1 v3
  have g5 : zq_ev rq (0, [(4, 1)]) = r 4 := zu_f1 v4
  have g6 : zq_ev rq (0, [(5, 1)]) = r 5 := zu_f1 v5
  have g7 : zq_ev rq (0, []) = 0 := zu_e0 _ _
  have g8 : zq_ev rq (0, [(12, 1)]) = r 12 := zu_f1 v12
  exact ⟨_, List.mem_cons_self .., rq, hr, zq_MeS_mk rfl hT (zq_all_nil) zq_fan (zq_fan) rfl (zu_fac ((x_EV _ _ _).mpr (by show ze_EV (zq_ev rq (5, [])) (zq_ev rq (0, [(0, 1)])) (zq_ev rq (0, [(1, 1)])) (zq_ev rq (0, [(2, 1)])) (zq_ev rq (0, [(3, 1)])) (zq_ev rq (0, [(4, 1)])) (zq_ev rq (0, [(5, 1)])) (zq_ev rq (0, [])) (zq_ev rq (0, [])) (zq_ev rq (0, [(12, 1)])) P h; simp only [g0, g1, g2, g3, g4, g5, g6, g7, g8]; exact t1)) zq_fan)⟩
noncomputable def ze_cbg1 : zq_S × List zq_S := (([], [], [(-141, [(6, 1)]), (-1, [(8, 1), (11, -1)])], [], [], [], [(224, [(0, [(0, 1)]), (0, [(1, 1)]), (0, [(5, 1)]), (0, [(6, 1)])]), (220, [(4, []), (0, [(0, 1)]), (0, [(1, 1)]), (0, [(2, 1)]), (0, [(3, 1)]), (0, [(4, 1)]), (0, [(5, 1)]), (0, [(8, 1)]), (0, [(9, 1)]), (0, [(7, 1)])]), (224, [(0, [(0, 1)]), (0, [(1, 1)]), (0, [(7, 1)]), (162, [])]), (220, [(4, []), (0, [(0, 1)]), (0, [(1, 1)]), (0, [(2, 1)]), (0, [(3, 1)]), (0, [(9, 1)]), (1, [(7, 1)]), (0, [(11, 1)]), (0, []), (0, [(12, 1)])])], 13), [([], [], [], [], [], [], [(220, [(5, []), (0, [(0, 1)]), (0, [(1, 1)]), (0, [(2, 1)]), (0, [(3, 1)]), (0, [(4, 1)]), (0, [(5, 1)]), (1, []), (0, []), (0, [(12, 1)])])], 13)])
theorem ze_cbg1_l {P : zq_Ty} {h : zq_H} {g n o W b p s q r c t y x : Int} (a1 : 0 ≤ s - 141) (a2 : 0 ≤ r - y - 1) (k1 : ze_CD g n p s P h) (k2 : ze_EV 4 g n o W b p r c q P h) (k3 : ze_CD g n q 162 P h) (k4 : ze_EV 4 g n o W c (q + 1) y 0 x P h) : (ze_EV 5 g n o W b p 1 0 x P h) := by
  have k1 : s = ze_c g n p := k1
  have k3 : 162 = ze_c g n q := k3
  have e := ze_pos_c (acc := 0) (by rw [← k1]; omega) k2 k4
  rw [← k3] at e
  have x0 : ze_cmp 162 r y = true := by unfold ze_cmp; rw [if_neg (by decide), if_pos rfl]; exact decide_eq_true (by omega)
  have x1 : ze_bi (true && (!(ze_on 0) && ze_cmp 162 r y)) = 1 := by rw [ze_on0, x0]; rfl
  rw [x1] at e
  exact e
theorem ze_cbg1_ok {w : zq_Wd} (x_CD : zj_is w 224 (fun q => ze_CD (q 0) (q 1) (q 2) (q 3))) (x_EV : zj_is w 220 (fun q => ze_EV (q 0) (q 1) (q 2) (q 3) (q 4) (q 5) (q 6) (q 7) (q 8) (q 9))) : zq_okG1 w ze_cbg1 := by
  refine ⟨rfl, rfl, zu_fac ⟨rfl, by decide⟩ zq_fan, ?_⟩
  intro r P h H hM
  have q0 : zq_ev r (-141, [(6, 1)]) = r 6 - 141 := zu_e3 _ _ _
  have q1 : zq_ev r (-1, [(8, 1), (11, -1)]) = r 8 - r 11 - 1 := by simp only [zq_ev, zq_ts] <;> omega
  have q2 : zq_ev r (0, [(0, 1)]) = r 0 := zu_e1 _ _
  have q3 : zq_ev r (0, [(1, 1)]) = r 1 := zu_e1 _ _
  have q4 : zq_ev r (0, [(5, 1)]) = r 5 := zu_e1 _ _
  have q5 : zq_ev r (0, [(6, 1)]) = r 6 := zu_e1 _ _
  have q6 : zq_ev r (4, []) = 4 := zu_e0 _ _
  have q7 : zq_ev r (0, [(2, 1)]) = r 2 := zu_e1 _ _
  have q8 : zq_ev r (0, [(3, 1)]) = r 3 := zu_e1 _ _
  have q9 : zq_ev r (0, [(4, 1)]) = r 4 := zu_e1 _ _
  have q10 : zq_ev r (0, [(8, 1)]) = r 8 := zu_e1 _ _
  have q11 : zq_ev r (0, [(9, 1)]) = r 9 := zu_e1 _ _
  have q12 : zq_ev r (0, [(7, 1)]) = r 7 := zu_e1 _ _
  have q13 : zq_ev r (162, []) = 162 := zu_e0 _ _
  have q14 : zq_ev r (1, [(7, 1)]) = r 7 + 1 := zu_e2 _ _ _
  have q15 : zq_ev r (0, [(11, 1)]) = r 11 := zu_e1 _ _
  have q16 : zq_ev r (0, []) = 0 := zu_e0 _ _
  have q17 : zq_ev r (0, [(12, 1)]) = r 12 := zu_e1 _ _
  obtain ⟨hT, hC, hF, hS, -, hK⟩ := hM
  have c := hC.1
  have a1 := zq_all_1 c
  rw [q0] at a1
  have c := zq_all_t c
  have a2 := zq_all_1 c
  rw [q1] at a2
  have k1 := zj_use x_CD (hK)
  have k1 : ze_CD (zq_ev r (0, [(0, 1)])) (zq_ev r (0, [(1, 1)])) (zq_ev r (0, [(5, 1)])) (zq_ev r (0, [(6, 1)])) P h := k1
  simp only [q2, q3, q4, q5] at k1
  have k2 := zj_use x_EV (zq_okX_t (hK))
  have k2 : ze_EV (zq_ev r (4, [])) (zq_ev r (0, [(0, 1)])) (zq_ev r (0, [(1, 1)])) (zq_ev r (0, [(2, 1)])) (zq_ev r (0, [(3, 1)])) (zq_ev r (0, [(4, 1)])) (zq_ev r (0, [(5, 1)])) (zq_ev r (0, [(8, 1)])) (zq_ev r (0, [(9, 1)])) (zq_ev r (0, [(7, 1)])) P h := k2
  simp only [q10, q11, q12, q2, q3, q4, q6, q7, q8, q9] at k2
  have k3 := zj_use x_CD (zq_okX_t (zq_okX_t (hK)))
  have k3 : ze_CD (zq_ev r (0, [(0, 1)])) (zq_ev r (0, [(1, 1)])) (zq_ev r (0, [(7, 1)])) (zq_ev r (162, [])) P h := k3
  simp only [q12, q13, q2, q3] at k3
  have k4 := zj_use x_EV (zq_okX_t (zq_okX_t (zq_okX_t (hK))))
  have k4 : ze_EV (zq_ev r (4, [])) (zq_ev r (0, [(0, 1)])) (zq_ev r (0, [(1, 1)])) (zq_ev r (0, [(2, 1)])) (zq_ev r (0, [(3, 1)])) (zq_ev r (0, [(9, 1)])) (zq_ev r (1, [(7, 1)])) (zq_ev r (0, [(11, 1)])) (zq_ev r (0, [])) (zq_ev r (0, [(12, 1)])) P h := k4
  simp only [q11, q14, q15, q16, q17, q2, q3, q6, q7, q8] at k4
  obtain t1 := ze_cbg1_l (P := P) (h := h) (g := r 0) (n := r 1) (o := r 2) (W := r 3) (b := r 4) (p := r 5) (s := r 6) (q := r 7) (r := r 8) (c := r 9) (t := r 10) (y := r 11) (x := r 12) a1 a2 k1 k2 k3 k4
  obtain ⟨rq, hr⟩ : ∃ rq : Nat → Int, (∀ i, i < 13 → rq i = r i) := ⟨r, fun i hi => rfl⟩
  have v0 : rq 0 = r 0 := hr 0 (by decide)
  have v1 : rq 1 = r 1 := hr 1 (by decide)
  have v2 : rq 2 = r 2 := hr 2 (by decide)
  have v3 : rq 3 = r 3 := hr 3 (by decide)
  have v4 : rq 4 = r 4 := hr 4 (by decide)
  have v5 : rq 5 = r 5 := hr 5 (by decide)
  have v12 : rq 12 = r 12 := hr 12 (by decide)
  have g0 : zq_ev rq (5, []) = 5 := zu_e0 _ _
  have g1 : zq_ev rq (0, [(0, 1)]) = r 0 := zu_f1 v0
  have g2 : zq_ev rq (0, [(1, 1)]) = r 1 := zu_f1 v1
  have g3 : zq_ev rq (0, [(2, 1)]) = r 2 := zu_f1 v2
  have g4 : zq_ev rq (0, [(3, 1)]) = r 3 := zu_f1 v3
  have g5 : zq_ev rq (0, [(4, 1)]) = r 4 := zu_f1 v4
  have g6 : zq_ev rq (0, [(5, 1)]) = r 5 := zu_f1 v5
  have g7 : zq_ev rq (1, []) = 1 := zu_e0 _ _
  have g8 : zq_ev rq (0, []) = 0 := zu_e0 _ _
  have g9 : zq_ev rq (0, [(12, 1)]) = r 12 := zu_f1 v12
  exact ⟨_, List.mem_cons_self .., rq, hr, zq_MeS_mk rfl hT (zq_all_nil) zq_fan (zq_fan) rfl (zu_fac ((x_EV _ _ _).mpr (by show ze_EV (zq_ev rq (5, [])) (zq_ev rq (0, [(0, 1)])) (zq_ev rq (0, [(1, 1)])) (zq_ev rq (0, [(2, 1)])) (zq_ev rq (0, [(3, 1)])) (zq_ev rq (0, [(4, 1)])) (zq_ev rq (0, [(5, 1)])) (zq_ev rq (1, [])) (zq_ev rq (0, [])) (zq_ev rq (0, [(12, 1)])) P h; simp only [g0, g1, g2, g3, g4, g5, g6, g7, g8, g9]; exact t1)) zq_fan)⟩
noncomputable def ze_cbg0 : zq_S × List zq_S := (([], [], [(-141, [(6, 1)]), (0, [(8, -1), (11, 1)])], [], [], [], [(224, [(0, [(0, 1)]), (0, [(1, 1)]), (0, [(5, 1)]), (0, [(6, 1)])]), (220, [(4, []), (0, [(0, 1)]), (0, [(1, 1)]), (0, [(2, 1)]), (0, [(3, 1)]), (0, [(4, 1)]), (0, [(5, 1)]), (0, [(8, 1)]), (0, [(9, 1)]), (0, [(7, 1)])]), (224, [(0, [(0, 1)]), (0, [(1, 1)]), (0, [(7, 1)]), (162, [])]), (220, [(4, []), (0, [(0, 1)]), (0, [(1, 1)]), (0, [(2, 1)]), (0, [(3, 1)]), (0, [(9, 1)]), (1, [(7, 1)]), (0, [(11, 1)]), (0, []), (0, [(12, 1)])])], 13), [([], [], [], [], [], [], [(220, [(5, []), (0, [(0, 1)]), (0, [(1, 1)]), (0, [(2, 1)]), (0, [(3, 1)]), (0, [(4, 1)]), (0, [(5, 1)]), (0, []), (0, []), (0, [(12, 1)])])], 13)])
theorem ze_cbg0_l {P : zq_Ty} {h : zq_H} {g n o W b p s q r c t y x : Int} (a1 : 0 ≤ s - 141) (a2 : 0 ≤ -r + y) (k1 : ze_CD g n p s P h) (k2 : ze_EV 4 g n o W b p r c q P h) (k3 : ze_CD g n q 162 P h) (k4 : ze_EV 4 g n o W c (q + 1) y 0 x P h) : (ze_EV 5 g n o W b p 0 0 x P h) := by
  have k1 : s = ze_c g n p := k1
  have k3 : 162 = ze_c g n q := k3
  have e := ze_pos_c (acc := 0) (by rw [← k1]; omega) k2 k4
  rw [← k3] at e
  have x0 : ze_cmp 162 r y = false := by unfold ze_cmp; rw [if_neg (by decide), if_pos rfl]; exact decide_eq_false (by omega)
  have x1 : ze_bi (true && (!(ze_on 0) && ze_cmp 162 r y)) = 0 := by rw [ze_on0, x0]; rfl
  rw [x1] at e
  exact e
theorem ze_cbg0_ok {w : zq_Wd} (x_CD : zj_is w 224 (fun q => ze_CD (q 0) (q 1) (q 2) (q 3))) (x_EV : zj_is w 220 (fun q => ze_EV (q 0) (q 1) (q 2) (q 3) (q 4) (q 5) (q 6) (q 7) (q 8) (q 9))) : zq_okG1 w ze_cbg0 := by
  refine ⟨rfl, rfl, zu_fac ⟨rfl, by decide⟩ zq_fan, ?_⟩
  intro r P h H hM
  have q0 : zq_ev r (-141, [(6, 1)]) = r 6 - 141 := zu_e3 _ _ _
  have q1 : zq_ev r (0, [(8, -1), (11, 1)]) = -r 8 + r 11 := by simp only [zq_ev, zq_ts] <;> omega
  have q2 : zq_ev r (0, [(0, 1)]) = r 0 := zu_e1 _ _
  have q3 : zq_ev r (0, [(1, 1)]) = r 1 := zu_e1 _ _
  have q4 : zq_ev r (0, [(5, 1)]) = r 5 := zu_e1 _ _
  have q5 : zq_ev r (0, [(6, 1)]) = r 6 := zu_e1 _ _
  have q6 : zq_ev r (4, []) = 4 := zu_e0 _ _
  have q7 : zq_ev r (0, [(2, 1)]) = r 2 := zu_e1 _ _
  have q8 : zq_ev r (0, [(3, 1)]) = r 3 := zu_e1 _ _
  have q9 : zq_ev r (0, [(4, 1)]) = r 4 := zu_e1 _ _
  have q10 : zq_ev r (0, [(8, 1)]) = r 8 := zu_e1 _ _
  have q11 : zq_ev r (0, [(9, 1)]) = r 9 := zu_e1 _ _
  have q12 : zq_ev r (0, [(7, 1)]) = r 7 := zu_e1 _ _
  have q13 : zq_ev r (162, []) = 162 := zu_e0 _ _
  have q14 : zq_ev r (1, [(7, 1)]) = r 7 + 1 := zu_e2 _ _ _
  have q15 : zq_ev r (0, [(11, 1)]) = r 11 := zu_e1 _ _
  have q16 : zq_ev r (0, []) = 0 := zu_e0 _ _
  have q17 : zq_ev r (0, [(12, 1)]) = r 12 := zu_e1 _ _
  obtain ⟨hT, hC, hF, hS, -, hK⟩ := hM
  have c := hC.1
  have a1 := zq_all_1 c
  rw [q0] at a1
  have c := zq_all_t c
  have a2 := zq_all_1 c
  rw [q1] at a2
  have k1 := zj_use x_CD (hK)
  have k1 : ze_CD (zq_ev r (0, [(0, 1)])) (zq_ev r (0, [(1, 1)])) (zq_ev r (0, [(5, 1)])) (zq_ev r (0, [(6, 1)])) P h := k1
  simp only [q2, q3, q4, q5] at k1
  have k2 := zj_use x_EV (zq_okX_t (hK))
  have k2 : ze_EV (zq_ev r (4, [])) (zq_ev r (0, [(0, 1)])) (zq_ev r (0, [(1, 1)])) (zq_ev r (0, [(2, 1)])) (zq_ev r (0, [(3, 1)])) (zq_ev r (0, [(4, 1)])) (zq_ev r (0, [(5, 1)])) (zq_ev r (0, [(8, 1)])) (zq_ev r (0, [(9, 1)])) (zq_ev r (0, [(7, 1)])) P h := k2
  simp only [q10, q11, q12, q2, q3, q4, q6, q7, q8, q9] at k2
  have k3 := zj_use x_CD (zq_okX_t (zq_okX_t (hK)))
  have k3 : ze_CD (zq_ev r (0, [(0, 1)])) (zq_ev r (0, [(1, 1)])) (zq_ev r (0, [(7, 1)])) (zq_ev r (162, [])) P h := k3
  simp only [q12, q13, q2, q3] at k3
  have k4 := zj_use x_EV (zq_okX_t (zq_okX_t (zq_okX_t (hK))))
  have k4 : ze_EV (zq_ev r (4, [])) (zq_ev r (0, [(0, 1)])) (zq_ev r (0, [(1, 1)])) (zq_ev r (0, [(2, 1)])) (zq_ev r (0, [(3, 1)])) (zq_ev r (0, [(9, 1)])) (zq_ev r (1, [(7, 1)])) (zq_ev r (0, [(11, 1)])) (zq_ev r (0, [])) (zq_ev r (0, [(12, 1)])) P h := k4
  simp only [q11, q14, q15, q16, q17, q2, q3, q6, q7, q8] at k4
  obtain t1 := ze_cbg0_l (P := P) (h := h) (g := r 0) (n := r 1) (o := r 2) (W := r 3) (b := r 4) (p := r 5) (s := r 6) (q := r 7) (r := r 8) (c := r 9) (t := r 10) (y := r 11) (x := r 12) a1 a2 k1 k2 k3 k4
  obtain ⟨rq, hr⟩ : ∃ rq : Nat → Int, (∀ i, i < 13 → rq i = r i) := ⟨r, fun i hi => rfl⟩
  have v0 : rq 0 = r 0 := hr 0 (by decide)
  have v1 : rq 1 = r 1 := hr 1 (by decide)
  have v2 : rq 2 = r 2 := hr 2 (by decide)
  have v3 : rq 3 = r 3 := hr 3 (by decide)
  have v4 : rq 4 = r 4 := hr 4 (by decide)
  have v5 : rq 5 = r 5 := hr 5 (by decide)
  have v12 : rq 12 = r 12 := hr 12 (by decide)
  have g0 : zq_ev rq (5, []) = 5 := zu_e0 _ _
  have g1 : zq_ev rq (0, [(0, 1)]) = r 0 := zu_f1 v0
  have g2 : zq_ev rq (0, [(1, 1)]) = r 1 := zu_f1 v1
  have g3 : zq_ev rq (0, [(2, 1)]) = r 2 := zu_f1 v2
  have g4 : zq_ev rq (0, [(3, 1)]) = r 3 := zu_f1 v3
  have g5 : zq_ev rq (0, [(4, 1)]) = r 4 := zu_f1 v4
  have g6 : zq_ev rq (0, [(5, 1)]) = r 5 := zu_f1 v5
  have g7 : zq_ev rq (0, []) = 0 := zu_e0 _ _
  have g8 : zq_ev rq (0, [(12, 1)]) = r 12 := zu_f1 v12
  exact ⟨_, List.mem_cons_self .., rq, hr, zq_MeS_mk rfl hT (zq_all_nil) zq_fan (zq_fan) rfl (zu_fac ((x_EV _ _ _).mpr (by show ze_EV (zq_ev rq (5, [])) (zq_ev rq (0, [(0, 1)])) (zq_ev rq (0, [(1, 1)])) (zq_ev rq (0, [(2, 1)])) (zq_ev rq (0, [(3, 1)])) (zq_ev rq (0, [(4, 1)])) (zq_ev rq (0, [(5, 1)])) (zq_ev rq (0, [])) (zq_ev rq (0, [])) (zq_ev rq (0, [(12, 1)])) P h; simp only [g0, g1, g2, g3, g4, g5, g6, g7, g8]; exact t1)) zq_fan)⟩
noncomputable def ze_cbe1 : zq_S × List zq_S := (([], [], [(-141, [(6, 1)]), (0, [(8, 1), (11, -1)]), (0, [(8, -1), (11, 1)])], [], [], [], [(224, [(0, [(0, 1)]), (0, [(1, 1)]), (0, [(5, 1)]), (0, [(6, 1)])]), (220, [(4, []), (0, [(0, 1)]), (0, [(1, 1)]), (0, [(2, 1)]), (0, [(3, 1)]), (0, [(4, 1)]), (0, [(5, 1)]), (0, [(8, 1)]), (0, [(9, 1)]), (0, [(7, 1)])]), (224, [(0, [(0, 1)]), (0, [(1, 1)]), (0, [(7, 1)]), (161, [])]), (220, [(4, []), (0, [(0, 1)]), (0, [(1, 1)]), (0, [(2, 1)]), (0, [(3, 1)]), (0, [(9, 1)]), (1, [(7, 1)]), (0, [(11, 1)]), (0, []), (0, [(12, 1)])])], 13), [([], [], [], [], [], [], [(220, [(5, []), (0, [(0, 1)]), (0, [(1, 1)]), (0, [(2, 1)]), (0, [(3, 1)]), (0, [(4, 1)]), (0, [(5, 1)]), (1, []), (0, []), (0, [(12, 1)])])], 13)])
theorem ze_cbe1_l {P : zq_Ty} {h : zq_H} {g n o W b p s q r c t y x : Int} (a1 : 0 ≤ s - 141) (a2 : 0 ≤ r - y) (a3 : 0 ≤ -r + y) (k1 : ze_CD g n p s P h) (k2 : ze_EV 4 g n o W b p r c q P h) (k3 : ze_CD g n q 161 P h) (k4 : ze_EV 4 g n o W c (q + 1) y 0 x P h) : (ze_EV 5 g n o W b p 1 0 x P h) := by
  have k1 : s = ze_c g n p := k1
  have k3 : 161 = ze_c g n q := k3
  have e := ze_pos_c (acc := 0) (by rw [← k1]; omega) k2 k4
  rw [← k3] at e
  have x0 : ze_cmp 161 r y = true := by unfold ze_cmp; rw [if_neg (by decide), if_neg (by decide)]; exact decide_eq_true (by omega)
  have x1 : ze_bi (true && (!(ze_on 0) && ze_cmp 161 r y)) = 1 := by rw [ze_on0, x0]; rfl
  rw [x1] at e
  exact e
theorem ze_cbe1_ok {w : zq_Wd} (x_CD : zj_is w 224 (fun q => ze_CD (q 0) (q 1) (q 2) (q 3))) (x_EV : zj_is w 220 (fun q => ze_EV (q 0) (q 1) (q 2) (q 3) (q 4) (q 5) (q 6) (q 7) (q 8) (q 9))) : zq_okG1 w ze_cbe1 := by
  refine ⟨rfl, rfl, zu_fac ⟨rfl, by decide⟩ zq_fan, ?_⟩
  intro r P h H hM
  have q0 : zq_ev r (-141, [(6, 1)]) = r 6 - 141 := zu_e3 _ _ _
  have q1 : zq_ev r (0, [(8, 1), (11, -1)]) = r 8 - r 11 := by simp only [zq_ev, zq_ts] <;> omega
  have q2 : zq_ev r (0, [(8, -1), (11, 1)]) = -r 8 + r 11 := by simp only [zq_ev, zq_ts] <;> omega
  have q3 : zq_ev r (0, [(0, 1)]) = r 0 := zu_e1 _ _
  have q4 : zq_ev r (0, [(1, 1)]) = r 1 := zu_e1 _ _
  have q5 : zq_ev r (0, [(5, 1)]) = r 5 := zu_e1 _ _
  have q6 : zq_ev r (0, [(6, 1)]) = r 6 := zu_e1 _ _
  have q7 : zq_ev r (4, []) = 4 := zu_e0 _ _
  have q8 : zq_ev r (0, [(2, 1)]) = r 2 := zu_e1 _ _
  have q9 : zq_ev r (0, [(3, 1)]) = r 3 := zu_e1 _ _
  have q10 : zq_ev r (0, [(4, 1)]) = r 4 := zu_e1 _ _
  have q11 : zq_ev r (0, [(8, 1)]) = r 8 := zu_e1 _ _
  have q12 : zq_ev r (0, [(9, 1)]) = r 9 := zu_e1 _ _
  have q13 : zq_ev r (0, [(7, 1)]) = r 7 := zu_e1 _ _
  have q14 : zq_ev r (161, []) = 161 := zu_e0 _ _
  have q15 : zq_ev r (1, [(7, 1)]) = r 7 + 1 := zu_e2 _ _ _
  have q16 : zq_ev r (0, [(11, 1)]) = r 11 := zu_e1 _ _
  have q17 : zq_ev r (0, []) = 0 := zu_e0 _ _
  have q18 : zq_ev r (0, [(12, 1)]) = r 12 := zu_e1 _ _
  obtain ⟨hT, hC, hF, hS, -, hK⟩ := hM
  have c := hC.1
  have a1 := zq_all_1 c
  rw [q0] at a1
  have c := zq_all_t c
  have a2 := zq_all_1 c
  rw [q1] at a2
  have c := zq_all_t c
  have a3 := zq_all_1 c
  rw [q2] at a3
  have k1 := zj_use x_CD (hK)
  have k1 : ze_CD (zq_ev r (0, [(0, 1)])) (zq_ev r (0, [(1, 1)])) (zq_ev r (0, [(5, 1)])) (zq_ev r (0, [(6, 1)])) P h := k1
  simp only [q3, q4, q5, q6] at k1
  have k2 := zj_use x_EV (zq_okX_t (hK))
  have k2 : ze_EV (zq_ev r (4, [])) (zq_ev r (0, [(0, 1)])) (zq_ev r (0, [(1, 1)])) (zq_ev r (0, [(2, 1)])) (zq_ev r (0, [(3, 1)])) (zq_ev r (0, [(4, 1)])) (zq_ev r (0, [(5, 1)])) (zq_ev r (0, [(8, 1)])) (zq_ev r (0, [(9, 1)])) (zq_ev r (0, [(7, 1)])) P h := k2
  simp only [q10, q11, q12, q13, q3, q4, q5, q7, q8, q9] at k2
  have k3 := zj_use x_CD (zq_okX_t (zq_okX_t (hK)))
  have k3 : ze_CD (zq_ev r (0, [(0, 1)])) (zq_ev r (0, [(1, 1)])) (zq_ev r (0, [(7, 1)])) (zq_ev r (161, [])) P h := k3
  simp only [q13, q14, q3, q4] at k3
  have k4 := zj_use x_EV (zq_okX_t (zq_okX_t (zq_okX_t (hK))))
  have k4 : ze_EV (zq_ev r (4, [])) (zq_ev r (0, [(0, 1)])) (zq_ev r (0, [(1, 1)])) (zq_ev r (0, [(2, 1)])) (zq_ev r (0, [(3, 1)])) (zq_ev r (0, [(9, 1)])) (zq_ev r (1, [(7, 1)])) (zq_ev r (0, [(11, 1)])) (zq_ev r (0, [])) (zq_ev r (0, [(12, 1)])) P h := k4
  simp only [q12, q15, q16, q17, q18, q3, q4, q7, q8, q9] at k4
  obtain t1 := ze_cbe1_l (P := P) (h := h) (g := r 0) (n := r 1) (o := r 2) (W := r 3) (b := r 4) (p := r 5) (s := r 6) (q := r 7) (r := r 8) (c := r 9) (t := r 10) (y := r 11) (x := r 12) a1 a2 a3 k1 k2 k3 k4
  obtain ⟨rq, hr⟩ : ∃ rq : Nat → Int, (∀ i, i < 13 → rq i = r i) := ⟨r, fun i hi => rfl⟩
  have v0 : rq 0 = r 0 := hr 0 (by decide)
  have v1 : rq 1 = r 1 := hr 1 (by decide)
  have v2 : rq 2 = r 2 := hr 2 (by decide)
  have v3 : rq 3 = r 3 := hr 3 (by decide)
  have v4 : rq 4 = r 4 := hr 4 (by decide)
  have v5 : rq 5 = r 5 := hr 5 (by decide)
  have v12 : rq 12 = r 12 := hr 12 (by decide)
  have g0 : zq_ev rq (5, []) = 5 := zu_e0 _ _
  have g1 : zq_ev rq (0, [(0, 1)]) = r 0 := zu_f1 v0
  have g2 : zq_ev rq (0, [(1, 1)]) = r 1 := zu_f1 v1
  have g3 : zq_ev rq (0, [(2, 1)]) = r 2 := zu_f1 v2
  have g4 : zq_ev rq (0, [(3, 1)]) = r 3 := zu_f1 v3
  have g5 : zq_ev rq (0, [(4, 1)]) = r 4 := zu_f1 v4
  have g6 : zq_ev rq (0, [(5, 1)]) = r 5 := zu_f1 v5
  have g7 : zq_ev rq (1, []) = 1 := zu_e0 _ _
  have g8 : zq_ev rq (0, []) = 0 := zu_e0 _ _
  have g9 : zq_ev rq (0, [(12, 1)]) = r 12 := zu_f1 v12
  exact ⟨_, List.mem_cons_self .., rq, hr, zq_MeS_mk rfl hT (zq_all_nil) zq_fan (zq_fan) rfl (zu_fac ((x_EV _ _ _).mpr (by show ze_EV (zq_ev rq (5, [])) (zq_ev rq (0, [(0, 1)])) (zq_ev rq (0, [(1, 1)])) (zq_ev rq (0, [(2, 1)])) (zq_ev rq (0, [(3, 1)])) (zq_ev rq (0, [(4, 1)])) (zq_ev rq (0, [(5, 1)])) (zq_ev rq (1, [])) (zq_ev rq (0, [])) (zq_ev rq (0, [(12, 1)])) P h; simp only [g0, g1, g2, g3, g4, g5, g6, g7, g8, g9]; exact t1)) zq_fan)⟩
noncomputable def ze_cbe0 : zq_S × List zq_S := (([], [], [(-141, [(6, 1)]), (-1, [(8, 1), (11, -1)])], [], [], [], [(224, [(0, [(0, 1)]), (0, [(1, 1)]), (0, [(5, 1)]), (0, [(6, 1)])]), (220, [(4, []), (0, [(0, 1)]), (0, [(1, 1)]), (0, [(2, 1)]), (0, [(3, 1)]), (0, [(4, 1)]), (0, [(5, 1)]), (0, [(8, 1)]), (0, [(9, 1)]), (0, [(7, 1)])]), (224, [(0, [(0, 1)]), (0, [(1, 1)]), (0, [(7, 1)]), (161, [])]), (220, [(4, []), (0, [(0, 1)]), (0, [(1, 1)]), (0, [(2, 1)]), (0, [(3, 1)]), (0, [(9, 1)]), (1, [(7, 1)]), (0, [(11, 1)]), (0, []), (0, [(12, 1)])])], 13), [([], [], [], [], [], [], [(220, [(5, []), (0, [(0, 1)]), (0, [(1, 1)]), (0, [(2, 1)]), (0, [(3, 1)]), (0, [(4, 1)]), (0, [(5, 1)]), (0, []), (0, []), (0, [(12, 1)])])], 13)])
theorem ze_cbe0_l {P : zq_Ty} {h : zq_H} {g n o W b p s q r c t y x : Int} (a1 : 0 ≤ s - 141) (a2 : 0 ≤ r - y - 1) (k1 : ze_CD g n p s P h) (k2 : ze_EV 4 g n o W b p r c q P h) (k3 : ze_CD g n q 161 P h) (k4 : ze_EV 4 g n o W c (q + 1) y 0 x P h) : (ze_EV 5 g n o W b p 0 0 x P h) := by
  have k1 : s = ze_c g n p := k1
  have k3 : 161 = ze_c g n q := k3
  have e := ze_pos_c (acc := 0) (by rw [← k1]; omega) k2 k4
  rw [← k3] at e
  have x0 : ze_cmp 161 r y = false := by unfold ze_cmp; rw [if_neg (by decide), if_neg (by decide)]; exact decide_eq_false (by omega)
  have x1 : ze_bi (true && (!(ze_on 0) && ze_cmp 161 r y)) = 0 := by rw [ze_on0, x0]; rfl
  rw [x1] at e
  exact e
theorem ze_cbe0_ok {w : zq_Wd} (x_CD : zj_is w 224 (fun q => ze_CD (q 0) (q 1) (q 2) (q 3))) (x_EV : zj_is w 220 (fun q => ze_EV (q 0) (q 1) (q 2) (q 3) (q 4) (q 5) (q 6) (q 7) (q 8) (q 9))) : zq_okG1 w ze_cbe0 := by
  refine ⟨rfl, rfl, zu_fac ⟨rfl, by decide⟩ zq_fan, ?_⟩
  intro r P h H hM
  have q0 : zq_ev r (-141, [(6, 1)]) = r 6 - 141 := zu_e3 _ _ _
  have q1 : zq_ev r (-1, [(8, 1), (11, -1)]) = r 8 - r 11 - 1 := by simp only [zq_ev, zq_ts] <;> omega
  have q2 : zq_ev r (0, [(0, 1)]) = r 0 := zu_e1 _ _
  have q3 : zq_ev r (0, [(1, 1)]) = r 1 := zu_e1 _ _
  have q4 : zq_ev r (0, [(5, 1)]) = r 5 := zu_e1 _ _
  have q5 : zq_ev r (0, [(6, 1)]) = r 6 := zu_e1 _ _
  have q6 : zq_ev r (4, []) = 4 := zu_e0 _ _
  have q7 : zq_ev r (0, [(2, 1)]) = r 2 := zu_e1 _ _
  have q8 : zq_ev r (0, [(3, 1)]) = r 3 := zu_e1 _ _
  have q9 : zq_ev r (0, [(4, 1)]) = r 4 := zu_e1 _ _
  have q10 : zq_ev r (0, [(8, 1)]) = r 8 := zu_e1 _ _
  have q11 : zq_ev r (0, [(9, 1)]) = r 9 := zu_e1 _ _
  have q12 : zq_ev r (0, [(7, 1)]) = r 7 := zu_e1 _ _
  have q13 : zq_ev r (161, []) = 161 := zu_e0 _ _
  have q14 : zq_ev r (1, [(7, 1)]) = r 7 + 1 := zu_e2 _ _ _
  have q15 : zq_ev r (0, [(11, 1)]) = r 11 := zu_e1 _ _
  have q16 : zq_ev r (0, []) = 0 := zu_e0 _ _
  have q17 : zq_ev r (0, [(12, 1)]) = r 12 := zu_e1 _ _
  obtain ⟨hT, hC, hF, hS, -, hK⟩ := hM
  have c := hC.1
  have a1 := zq_all_1 c
  rw [q0] at a1
  have c := zq_all_t c
  have a2 := zq_all_1 c
  rw [q1] at a2
  have k1 := zj_use x_CD (hK)
  have k1 : ze_CD (zq_ev r (0, [(0, 1)])) (zq_ev r (0, [(1, 1)])) (zq_ev r (0, [(5, 1)])) (zq_ev r (0, [(6, 1)])) P h := k1
  simp only [q2, q3, q4, q5] at k1
  have k2 := zj_use x_EV (zq_okX_t (hK))
  have k2 : ze_EV (zq_ev r (4, [])) (zq_ev r (0, [(0, 1)])) (zq_ev r (0, [(1, 1)])) (zq_ev r (0, [(2, 1)])) (zq_ev r (0, [(3, 1)])) (zq_ev r (0, [(4, 1)])) (zq_ev r (0, [(5, 1)])) (zq_ev r (0, [(8, 1)])) (zq_ev r (0, [(9, 1)])) (zq_ev r (0, [(7, 1)])) P h := k2
  simp only [q10, q11, q12, q2, q3, q4, q6, q7, q8, q9] at k2
  have k3 := zj_use x_CD (zq_okX_t (zq_okX_t (hK)))
  have k3 : ze_CD (zq_ev r (0, [(0, 1)])) (zq_ev r (0, [(1, 1)])) (zq_ev r (0, [(7, 1)])) (zq_ev r (161, [])) P h := k3
  simp only [q12, q13, q2, q3] at k3
  have k4 := zj_use x_EV (zq_okX_t (zq_okX_t (zq_okX_t (hK))))
  have k4 : ze_EV (zq_ev r (4, [])) (zq_ev r (0, [(0, 1)])) (zq_ev r (0, [(1, 1)])) (zq_ev r (0, [(2, 1)])) (zq_ev r (0, [(3, 1)])) (zq_ev r (0, [(9, 1)])) (zq_ev r (1, [(7, 1)])) (zq_ev r (0, [(11, 1)])) (zq_ev r (0, [])) (zq_ev r (0, [(12, 1)])) P h := k4
  simp only [q11, q14, q15, q16, q17, q2, q3, q6, q7, q8] at k4
  obtain t1 := ze_cbe0_l (P := P) (h := h) (g := r 0) (n := r 1) (o := r 2) (W := r 3) (b := r 4) (p := r 5) (s := r 6) (q := r 7) (r := r 8) (c := r 9) (t := r 10) (y := r 11) (x := r 12) a1 a2 k1 k2 k3 k4
  obtain ⟨rq, hr⟩ : ∃ rq : Nat → Int, (∀ i, i < 13 → rq i = r i) := ⟨r, fun i hi => rfl⟩
  have v0 : rq 0 = r 0 := hr 0 (by decide)
  have v1 : rq 1 = r 1 := hr 1 (by decide)
  have v2 : rq 2 = r 2 := hr 2 (by decide)
  have v3 : rq 3 = r 3 := hr 3 (by decide)
  have v4 : rq 4 = r 4 := hr 4 (by decide)
  have v5 : rq 5 = r 5 := hr 5 (by decide)
  have v12 : rq 12 = r 12 := hr 12 (by decide)
  have g0 : zq_ev rq (5, []) = 5 := zu_e0 _ _
  have g1 : zq_ev rq (0, [(0, 1)]) = r 0 := zu_f1 v0
  have g2 : zq_ev rq (0, [(1, 1)]) = r 1 := zu_f1 v1
  have g3 : zq_ev rq (0, [(2, 1)]) = r 2 := zu_f1 v2
  have g4 : zq_ev rq (0, [(3, 1)]) = r 3 := zu_f1 v3
  have g5 : zq_ev rq (0, [(4, 1)]) = r 4 := zu_f1 v4
  have g6 : zq_ev rq (0, [(5, 1)]) = r 5 := zu_f1 v5
  have g7 : zq_ev rq (0, []) = 0 := zu_e0 _ _
  have g8 : zq_ev rq (0, [(12, 1)]) = r 12 := zu_f1 v12
  exact ⟨_, List.mem_cons_self .., rq, hr, zq_MeS_mk rfl hT (zq_all_nil) zq_fan (zq_fan) rfl (zu_fac ((x_EV _ _ _).mpr (by show ze_EV (zq_ev rq (5, [])) (zq_ev rq (0, [(0, 1)])) (zq_ev rq (0, [(1, 1)])) (zq_ev rq (0, [(2, 1)])) (zq_ev rq (0, [(3, 1)])) (zq_ev rq (0, [(4, 1)])) (zq_ev rq (0, [(5, 1)])) (zq_ev rq (0, [])) (zq_ev rq (0, [])) (zq_ev rq (0, [(12, 1)])) P h; simp only [g0, g1, g2, g3, g4, g5, g6, g7, g8]; exact t1)) zq_fan)⟩
noncomputable def ze_cbe0b : zq_S × List zq_S := (([], [], [(-141, [(6, 1)]), (-1, [(8, -1), (11, 1)])], [], [], [], [(224, [(0, [(0, 1)]), (0, [(1, 1)]), (0, [(5, 1)]), (0, [(6, 1)])]), (220, [(4, []), (0, [(0, 1)]), (0, [(1, 1)]), (0, [(2, 1)]), (0, [(3, 1)]), (0, [(4, 1)]), (0, [(5, 1)]), (0, [(8, 1)]), (0, [(9, 1)]), (0, [(7, 1)])]), (224, [(0, [(0, 1)]), (0, [(1, 1)]), (0, [(7, 1)]), (161, [])]), (220, [(4, []), (0, [(0, 1)]), (0, [(1, 1)]), (0, [(2, 1)]), (0, [(3, 1)]), (0, [(9, 1)]), (1, [(7, 1)]), (0, [(11, 1)]), (0, []), (0, [(12, 1)])])], 13), [([], [], [], [], [], [], [(220, [(5, []), (0, [(0, 1)]), (0, [(1, 1)]), (0, [(2, 1)]), (0, [(3, 1)]), (0, [(4, 1)]), (0, [(5, 1)]), (0, []), (0, []), (0, [(12, 1)])])], 13)])
theorem ze_cbe0b_l {P : zq_Ty} {h : zq_H} {g n o W b p s q r c t y x : Int} (a1 : 0 ≤ s - 141) (a2 : 0 ≤ -r + y - 1) (k1 : ze_CD g n p s P h) (k2 : ze_EV 4 g n o W b p r c q P h) (k3 : ze_CD g n q 161 P h) (k4 : ze_EV 4 g n o W c (q + 1) y 0 x P h) : (ze_EV 5 g n o W b p 0 0 x P h) := by
  have k1 : s = ze_c g n p := k1
  have k3 : 161 = ze_c g n q := k3
  have e := ze_pos_c (acc := 0) (by rw [← k1]; omega) k2 k4
  rw [← k3] at e
  have x0 : ze_cmp 161 r y = false := by unfold ze_cmp; rw [if_neg (by decide), if_neg (by decide)]; exact decide_eq_false (by omega)
  have x1 : ze_bi (true && (!(ze_on 0) && ze_cmp 161 r y)) = 0 := by rw [ze_on0, x0]; rfl
  rw [x1] at e
  exact e
theorem ze_cbe0b_ok {w : zq_Wd} (x_CD : zj_is w 224 (fun q => ze_CD (q 0) (q 1) (q 2) (q 3))) (x_EV : zj_is w 220 (fun q => ze_EV (q 0) (q 1) (q 2) (q 3) (q 4) (q 5) (q 6) (q 7) (q 8) (q 9))) : zq_okG1 w ze_cbe0b := by
  refine ⟨rfl, rfl, zu_fac ⟨rfl, by decide⟩ zq_fan, ?_⟩
  intro r P h H hM
  have q0 : zq_ev r (-141, [(6, 1)]) = r 6 - 141 := zu_e3 _ _ _
  have q1 : zq_ev r (-1, [(8, -1), (11, 1)]) = -r 8 + r 11 - 1 := by simp only [zq_ev, zq_ts] <;> omega
  have q2 : zq_ev r (0, [(0, 1)]) = r 0 := zu_e1 _ _
  have q3 : zq_ev r (0, [(1, 1)]) = r 1 := zu_e1 _ _
  have q4 : zq_ev r (0, [(5, 1)]) = r 5 := zu_e1 _ _
  have q5 : zq_ev r (0, [(6, 1)]) = r 6 := zu_e1 _ _
  have q6 : zq_ev r (4, []) = 4 := zu_e0 _ _
  have q7 : zq_ev r (0, [(2, 1)]) = r 2 := zu_e1 _ _
  have q8 : zq_ev r (0, [(3, 1)]) = r 3 := zu_e1 _ _
  have q9 : zq_ev r (0, [(4, 1)]) = r 4 := zu_e1 _ _
  have q10 : zq_ev r (0, [(8, 1)]) = r 8 := zu_e1 _ _
  have q11 : zq_ev r (0, [(9, 1)]) = r 9 := zu_e1 _ _
  have q12 : zq_ev r (0, [(7, 1)]) = r 7 := zu_e1 _ _
  have q13 : zq_ev r (161, []) = 161 := zu_e0 _ _
  have q14 : zq_ev r (1, [(7, 1)]) = r 7 + 1 := zu_e2 _ _ _
  have q15 : zq_ev r (0, [(11, 1)]) = r 11 := zu_e1 _ _
  have q16 : zq_ev r (0, []) = 0 := zu_e0 _ _
  have q17 : zq_ev r (0, [(12, 1)]) = r 12 := zu_e1 _ _
  obtain ⟨hT, hC, hF, hS, -, hK⟩ := hM
  have c := hC.1
  have a1 := zq_all_1 c
  rw [q0] at a1
  have c := zq_all_t c
  have a2 := zq_all_1 c
  rw [q1] at a2
  have k1 := zj_use x_CD (hK)
  have k1 : ze_CD (zq_ev r (0, [(0, 1)])) (zq_ev r (0, [(1, 1)])) (zq_ev r (0, [(5, 1)])) (zq_ev r (0, [(6, 1)])) P h := k1
  simp only [q2, q3, q4, q5] at k1
  have k2 := zj_use x_EV (zq_okX_t (hK))
  have k2 : ze_EV (zq_ev r (4, [])) (zq_ev r (0, [(0, 1)])) (zq_ev r (0, [(1, 1)])) (zq_ev r (0, [(2, 1)])) (zq_ev r (0, [(3, 1)])) (zq_ev r (0, [(4, 1)])) (zq_ev r (0, [(5, 1)])) (zq_ev r (0, [(8, 1)])) (zq_ev r (0, [(9, 1)])) (zq_ev r (0, [(7, 1)])) P h := k2
  simp only [q10, q11, q12, q2, q3, q4, q6, q7, q8, q9] at k2
  have k3 := zj_use x_CD (zq_okX_t (zq_okX_t (hK)))
  have k3 : ze_CD (zq_ev r (0, [(0, 1)])) (zq_ev r (0, [(1, 1)])) (zq_ev r (0, [(7, 1)])) (zq_ev r (161, [])) P h := k3
  simp only [q12, q13, q2, q3] at k3
  have k4 := zj_use x_EV (zq_okX_t (zq_okX_t (zq_okX_t (hK))))
  have k4 : ze_EV (zq_ev r (4, [])) (zq_ev r (0, [(0, 1)])) (zq_ev r (0, [(1, 1)])) (zq_ev r (0, [(2, 1)])) (zq_ev r (0, [(3, 1)])) (zq_ev r (0, [(9, 1)])) (zq_ev r (1, [(7, 1)])) (zq_ev r (0, [(11, 1)])) (zq_ev r (0, [])) (zq_ev r (0, [(12, 1)])) P h := k4
  simp only [q11, q14, q15, q16, q17, q2, q3, q6, q7, q8] at k4
  obtain t1 := ze_cbe0b_l (P := P) (h := h) (g := r 0) (n := r 1) (o := r 2) (W := r 3) (b := r 4) (p := r 5) (s := r 6) (q := r 7) (r := r 8) (c := r 9) (t := r 10) (y := r 11) (x := r 12) a1 a2 k1 k2 k3 k4
  obtain ⟨rq, hr⟩ : ∃ rq : Nat → Int, (∀ i, i < 13 → rq i = r i) := ⟨r, fun i hi => rfl⟩
  have v0 : rq 0 = r 0 := hr 0 (by decide)
  have v1 : rq 1 = r 1 := hr 1 (by decide)
  have v2 : rq 2 = r 2 := hr 2 (by decide)
  have v3 : rq 3 = r 3 := hr 3 (by decide)
  have v4 : rq 4 = r 4 := hr 4 (by decide)
  have v5 : rq 5 = r 5 := hr 5 (by decide)
  have v12 : rq 12 = r 12 := hr 12 (by decide)
  have g0 : zq_ev rq (5, []) = 5 := zu_e0 _ _
  have g1 : zq_ev rq (0, [(0, 1)]) = r 0 := zu_f1 v0
  have g2 : zq_ev rq (0, [(1, 1)]) = r 1 := zu_f1 v1
  have g3 : zq_ev rq (0, [(2, 1)]) = r 2 := zu_f1 v2
  have g4 : zq_ev rq (0, [(3, 1)]) = r 3 := zu_f1 v3
  have g5 : zq_ev rq (0, [(4, 1)]) = r 4 := zu_f1 v4
  have g6 : zq_ev rq (0, [(5, 1)]) = r 5 := zu_f1 v5
  have g7 : zq_ev rq (0, []) = 0 := zu_e0 _ _
  have g8 : zq_ev rq (0, [(12, 1)]) = r 12 := zu_f1 v12
  exact ⟨_, List.mem_cons_self .., rq, hr, zq_MeS_mk rfl hT (zq_all_nil) zq_fan (zq_fan) rfl (zu_fac ((x_EV _ _ _).mpr (by show ze_EV (zq_ev rq (5, [])) (zq_ev rq (0, [(0, 1)])) (zq_ev rq (0, [(1, 1)])) (zq_ev rq (0, [(2, 1)])) (zq_ev rq (0, [(3, 1)])) (zq_ev rq (0, [(4, 1)])) (zq_ev rq (0, [(5, 1)])) (zq_ev rq (0, [])) (zq_ev rq (0, [])) (zq_ev rq (0, [(12, 1)])) P h; simp only [g0, g1, g2, g3, g4, g5, g6, g7, g8]; exact t1)) zq_fan)⟩
noncomputable def ze_y70 : zq_S × List zq_S := (([], [], [(-1, [(6, 1)]), (1, [(6, -1)]), (0, [(9, 1)]), (0, [(9, -1)])], [], [], [], [(222, [(7, []), (8, []), (0, [(0, 1)]), (0, [(1, 1)]), (0, [(2, 1)]), (0, [(3, 1)]), (0, [(4, 1)]), (0, [(5, 1)]), (0, [(6, 1)]), (0, [(7, 1)]), (0, [(8, 1)])]), (224, [(0, [(0, 1)]), (0, [(1, 1)]), (0, [(8, 1)]), (6, [])]), (220, [(6, []), (0, [(0, 1)]), (0, [(1, 1)]), (0, [(2, 1)]), (0, [(3, 1)]), (0, [(7, 1)]), (1, [(8, 1)]), (0, [(9, 1)]), (0, [(10, 1)]), (0, [(11, 1)])])], 12), [([], [], [], [], [], [], [(222, [(7, []), (8, []), (0, [(0, 1)]), (0, [(1, 1)]), (0, [(2, 1)]), (0, [(3, 1)]), (0, [(4, 1)]), (0, [(5, 1)]), (0, []), (0, [(10, 1)]), (0, [(11, 1)])])], 12)])
theorem ze_y70_l {P : zq_Ty} {h : zq_H} {g n o W b p a c q w d x : Int} (a1 : 0 ≤ a - 1) (a2 : 0 ≤ -a + 1) (a3 : 0 ≤ w) (a4 : 0 ≤ -w) (k1 : ze_SL 7 8 g n o W b p a c q P h) (k2 : ze_CD g n q 6 P h) (k3 : ze_EV 6 g n o W c (q + 1) w d x P h) : (ze_SL 7 8 g n o W b p 0 d x P h) := by
  have ea : a = 1 := by omega
  have ew : w = 0 := by omega
  subst ea
  subst ew
  intro r d2 e h2
  have k2 : 6 = ze_c g n q := k2
  exact k1 r d2 e (ze_bl_go k2.symm k3 h2)
theorem ze_y70_ok {w : zq_Wd} (x_SL : zj_is w 222 (fun q => ze_SL (q 0) (q 1) (q 2) (q 3) (q 4) (q 5) (q 6) (q 7) (q 8) (q 9) (q 10))) (x_CD : zj_is w 224 (fun q => ze_CD (q 0) (q 1) (q 2) (q 3))) (x_EV : zj_is w 220 (fun q => ze_EV (q 0) (q 1) (q 2) (q 3) (q 4) (q 5) (q 6) (q 7) (q 8) (q 9))) : zq_okG1 w ze_y70 := by
  refine ⟨rfl, rfl, zu_fac ⟨rfl, by decide⟩ zq_fan, ?_⟩
  intro r P h H hM
  have q0 : zq_ev r (-1, [(6, 1)]) = r 6 - 1 := zu_e3 _ _ _
  have q1 : zq_ev r (1, [(6, -1)]) = -r 6 + 1 := zu_e5 _ _ _
  have q2 : zq_ev r (0, [(9, 1)]) = r 9 := zu_e1 _ _
  have q3 : zq_ev r (0, [(9, -1)]) = -r 9 := zu_e4 _ _
  have q4 : zq_ev r (7, []) = 7 := zu_e0 _ _
  have q5 : zq_ev r (8, []) = 8 := zu_e0 _ _
  have q6 : zq_ev r (0, [(0, 1)]) = r 0 := zu_e1 _ _
  have q7 : zq_ev r (0, [(1, 1)]) = r 1 := zu_e1 _ _
  have q8 : zq_ev r (0, [(2, 1)]) = r 2 := zu_e1 _ _
  have q9 : zq_ev r (0, [(3, 1)]) = r 3 := zu_e1 _ _
  have q10 : zq_ev r (0, [(4, 1)]) = r 4 := zu_e1 _ _
  have q11 : zq_ev r (0, [(5, 1)]) = r 5 := zu_e1 _ _
  have q12 : zq_ev r (0, [(6, 1)]) = r 6 := zu_e1 _ _
  have q13 : zq_ev r (0, [(7, 1)]) = r 7 := zu_e1 _ _
  have q14 : zq_ev r (0, [(8, 1)]) = r 8 := zu_e1 _ _
  have q15 : zq_ev r (6, []) = 6 := zu_e0 _ _
  have q16 : zq_ev r (1, [(8, 1)]) = r 8 + 1 := zu_e2 _ _ _
  have q17 : zq_ev r (0, [(10, 1)]) = r 10 := zu_e1 _ _
  have q18 : zq_ev r (0, [(11, 1)]) = r 11 := zu_e1 _ _
  obtain ⟨hT, hC, hF, hS, -, hK⟩ := hM
  have c := hC.1
  have a1 := zq_all_1 c
  rw [q0] at a1
  have c := zq_all_t c
  have a2 := zq_all_1 c
  rw [q1] at a2
  have c := zq_all_t c
  have a3 := zq_all_1 c
  rw [q2] at a3
  have c := zq_all_t c
  have a4 := zq_all_1 c
  rw [q3] at a4
  have k1 := zj_use x_SL (hK)
  have k1 : ze_SL (zq_ev r (7, [])) (zq_ev r (8, [])) (zq_ev r (0, [(0, 1)])) (zq_ev r (0, [(1, 1)])) (zq_ev r (0, [(2, 1)])) (zq_ev r (0, [(3, 1)])) (zq_ev r (0, [(4, 1)])) (zq_ev r (0, [(5, 1)])) (zq_ev r (0, [(6, 1)])) (zq_ev r (0, [(7, 1)])) (zq_ev r (0, [(8, 1)])) P h := k1
  simp only [q10, q11, q12, q13, q14, q4, q5, q6, q7, q8, q9] at k1
  have k2 := zj_use x_CD (zq_okX_t (hK))
  have k2 : ze_CD (zq_ev r (0, [(0, 1)])) (zq_ev r (0, [(1, 1)])) (zq_ev r (0, [(8, 1)])) (zq_ev r (6, [])) P h := k2
  simp only [q14, q15, q6, q7] at k2
  have k3 := zj_use x_EV (zq_okX_t (zq_okX_t (hK)))
  have k3 : ze_EV (zq_ev r (6, [])) (zq_ev r (0, [(0, 1)])) (zq_ev r (0, [(1, 1)])) (zq_ev r (0, [(2, 1)])) (zq_ev r (0, [(3, 1)])) (zq_ev r (0, [(7, 1)])) (zq_ev r (1, [(8, 1)])) (zq_ev r (0, [(9, 1)])) (zq_ev r (0, [(10, 1)])) (zq_ev r (0, [(11, 1)])) P h := k3
  simp only [q13, q15, q16, q17, q18, q2, q6, q7, q8, q9] at k3
  obtain t1 := ze_y70_l (P := P) (h := h) (g := r 0) (n := r 1) (o := r 2) (W := r 3) (b := r 4) (p := r 5) (a := r 6) (c := r 7) (q := r 8) (w := r 9) (d := r 10) (x := r 11) a1 a2 a3 a4 k1 k2 k3
  obtain ⟨rq, hr⟩ : ∃ rq : Nat → Int, (∀ i, i < 12 → rq i = r i) := ⟨r, fun i hi => rfl⟩
  have v0 : rq 0 = r 0 := hr 0 (by decide)
  have v1 : rq 1 = r 1 := hr 1 (by decide)
  have v2 : rq 2 = r 2 := hr 2 (by decide)
  have v3 : rq 3 = r 3 := hr 3 (by decide)
  have v4 : rq 4 = r 4 := hr 4 (by decide)
  have v5 : rq 5 = r 5 := hr 5 (by decide)
  have v10 : rq 10 = r 10 := hr 10 (by decide)
  have v11 : rq 11 = r 11 := hr 11 (by decide)
  have g0 : zq_ev rq (7, []) = 7 := zu_e0 _ _
  have g1 : zq_ev rq (8, []) = 8 := zu_e0 _ _
  have g2 : zq_ev rq (0, [(0, 1)]) = r 0 := zu_f1 v0
  have g3 : zq_ev rq (0, [(1, 1)]) = r 1 := zu_f1 v1
  have g4 : zq_ev rq (0, [(2, 1)]) = r 2 := zu_f1 v2
  have g5 : zq_ev rq (0, [(3, 1)]) = r 3 := zu_f1 v3
  have g6 : zq_ev rq (0, [(4, 1)]) = r 4 := zu_f1 v4
  have g7 : zq_ev rq (0, [(5, 1)]) = r 5 := zu_f1 v5
  have g8 : zq_ev rq (0, []) = 0 := zu_e0 _ _
  have g9 : zq_ev rq (0, [(10, 1)]) = r 10 := zu_f1 v10
  have g10 : zq_ev rq (0, [(11, 1)]) = r 11 := zu_f1 v11
  exact ⟨_, List.mem_cons_self .., rq, hr, zq_MeS_mk rfl hT (zq_all_nil) zq_fan (zq_fan) rfl (zu_fac ((x_SL _ _ _).mpr (by show ze_SL (zq_ev rq (7, [])) (zq_ev rq (8, [])) (zq_ev rq (0, [(0, 1)])) (zq_ev rq (0, [(1, 1)])) (zq_ev rq (0, [(2, 1)])) (zq_ev rq (0, [(3, 1)])) (zq_ev rq (0, [(4, 1)])) (zq_ev rq (0, [(5, 1)])) (zq_ev rq (0, [])) (zq_ev rq (0, [(10, 1)])) (zq_ev rq (0, [(11, 1)])) P h; simp only [g0, g1, g10, g2, g3, g4, g5, g6, g7, g8, g9]; exact t1)) zq_fan)⟩
noncomputable def ze_y71 : zq_S × List zq_S := (([], [], [(-1, [(6, 1)]), (1, [(6, -1)]), (-1, [(9, 1)]), (1, [(9, -1)])], [], [], [], [(222, [(7, []), (8, []), (0, [(0, 1)]), (0, [(1, 1)]), (0, [(2, 1)]), (0, [(3, 1)]), (0, [(4, 1)]), (0, [(5, 1)]), (0, [(6, 1)]), (0, [(7, 1)]), (0, [(8, 1)])]), (224, [(0, [(0, 1)]), (0, [(1, 1)]), (0, [(8, 1)]), (6, [])]), (220, [(6, []), (0, [(0, 1)]), (0, [(1, 1)]), (0, [(2, 1)]), (0, [(3, 1)]), (0, [(7, 1)]), (1, [(8, 1)]), (0, [(9, 1)]), (0, [(10, 1)]), (0, [(11, 1)])])], 12), [([], [], [], [], [], [], [(222, [(7, []), (8, []), (0, [(0, 1)]), (0, [(1, 1)]), (0, [(2, 1)]), (0, [(3, 1)]), (0, [(4, 1)]), (0, [(5, 1)]), (1, []), (0, [(10, 1)]), (0, [(11, 1)])])], 12)])
theorem ze_y71_l {P : zq_Ty} {h : zq_H} {g n o W b p a c q w d x : Int} (a1 : 0 ≤ a - 1) (a2 : 0 ≤ -a + 1) (a3 : 0 ≤ w - 1) (a4 : 0 ≤ -w + 1) (k1 : ze_SL 7 8 g n o W b p a c q P h) (k2 : ze_CD g n q 6 P h) (k3 : ze_EV 6 g n o W c (q + 1) w d x P h) : (ze_SL 7 8 g n o W b p 1 d x P h) := by
  have ea : a = 1 := by omega
  have ew : w = 1 := by omega
  subst ea
  subst ew
  intro r d2 e h2
  have k2 : 6 = ze_c g n q := k2
  exact k1 r d2 e (ze_bl_go k2.symm k3 h2)
theorem ze_y71_ok {w : zq_Wd} (x_SL : zj_is w 222 (fun q => ze_SL (q 0) (q 1) (q 2) (q 3) (q 4) (q 5) (q 6) (q 7) (q 8) (q 9) (q 10))) (x_CD : zj_is w 224 (fun q => ze_CD (q 0) (q 1) (q 2) (q 3))) (x_EV : zj_is w 220 (fun q => ze_EV (q 0) (q 1) (q 2) (q 3) (q 4) (q 5) (q 6) (q 7) (q 8) (q 9))) : zq_okG1 w ze_y71 := by
  refine ⟨rfl, rfl, zu_fac ⟨rfl, by decide⟩ zq_fan, ?_⟩
  intro r P h H hM
  have q0 : zq_ev r (-1, [(6, 1)]) = r 6 - 1 := zu_e3 _ _ _
  have q1 : zq_ev r (1, [(6, -1)]) = -r 6 + 1 := zu_e5 _ _ _
  have q2 : zq_ev r (-1, [(9, 1)]) = r 9 - 1 := zu_e3 _ _ _
  have q3 : zq_ev r (1, [(9, -1)]) = -r 9 + 1 := zu_e5 _ _ _
  have q4 : zq_ev r (7, []) = 7 := zu_e0 _ _
  have q5 : zq_ev r (8, []) = 8 := zu_e0 _ _
  have q6 : zq_ev r (0, [(0, 1)]) = r 0 := zu_e1 _ _
  have q7 : zq_ev r (0, [(1, 1)]) = r 1 := zu_e1 _ _
  have q8 : zq_ev r (0, [(2, 1)]) = r 2 := zu_e1 _ _
  have q9 : zq_ev r (0, [(3, 1)]) = r 3 := zu_e1 _ _
  have q10 : zq_ev r (0, [(4, 1)]) = r 4 := zu_e1 _ _
  have q11 : zq_ev r (0, [(5, 1)]) = r 5 := zu_e1 _ _
  have q12 : zq_ev r (0, [(6, 1)]) = r 6 := zu_e1 _ _
  have q13 : zq_ev r (0, [(7, 1)]) = r 7 := zu_e1 _ _
  have q14 : zq_ev r (0, [(8, 1)]) = r 8 := zu_e1 _ _
  have q15 : zq_ev r (6, []) = 6 := zu_e0 _ _
  have q16 : zq_ev r (1, [(8, 1)]) = r 8 + 1 := zu_e2 _ _ _
  have q17 : zq_ev r (0, [(9, 1)]) = r 9 := zu_e1 _ _
  have q18 : zq_ev r (0, [(10, 1)]) = r 10 := zu_e1 _ _
  have q19 : zq_ev r (0, [(11, 1)]) = r 11 := zu_e1 _ _
  obtain ⟨hT, hC, hF, hS, -, hK⟩ := hM
  have c := hC.1
  have a1 := zq_all_1 c
  rw [q0] at a1
  have c := zq_all_t c
  have a2 := zq_all_1 c
  rw [q1] at a2
  have c := zq_all_t c
  have a3 := zq_all_1 c
  rw [q2] at a3
  have c := zq_all_t c
  have a4 := zq_all_1 c
  rw [q3] at a4
  have k1 := zj_use x_SL (hK)
  have k1 : ze_SL (zq_ev r (7, [])) (zq_ev r (8, [])) (zq_ev r (0, [(0, 1)])) (zq_ev r (0, [(1, 1)])) (zq_ev r (0, [(2, 1)])) (zq_ev r (0, [(3, 1)])) (zq_ev r (0, [(4, 1)])) (zq_ev r (0, [(5, 1)])) (zq_ev r (0, [(6, 1)])) (zq_ev r (0, [(7, 1)])) (zq_ev r (0, [(8, 1)])) P h := k1
  simp only [q10, q11, q12, q13, q14, q4, q5, q6, q7, q8, q9] at k1
  have k2 := zj_use x_CD (zq_okX_t (hK))
  have k2 : ze_CD (zq_ev r (0, [(0, 1)])) (zq_ev r (0, [(1, 1)])) (zq_ev r (0, [(8, 1)])) (zq_ev r (6, [])) P h := k2
  simp only [q14, q15, q6, q7] at k2
  have k3 := zj_use x_EV (zq_okX_t (zq_okX_t (hK)))
  have k3 : ze_EV (zq_ev r (6, [])) (zq_ev r (0, [(0, 1)])) (zq_ev r (0, [(1, 1)])) (zq_ev r (0, [(2, 1)])) (zq_ev r (0, [(3, 1)])) (zq_ev r (0, [(7, 1)])) (zq_ev r (1, [(8, 1)])) (zq_ev r (0, [(9, 1)])) (zq_ev r (0, [(10, 1)])) (zq_ev r (0, [(11, 1)])) P h := k3
  simp only [q13, q15, q16, q17, q18, q19, q6, q7, q8, q9] at k3
  obtain t1 := ze_y71_l (P := P) (h := h) (g := r 0) (n := r 1) (o := r 2) (W := r 3) (b := r 4) (p := r 5) (a := r 6) (c := r 7) (q := r 8) (w := r 9) (d := r 10) (x := r 11) a1 a2 a3 a4 k1 k2 k3
  obtain ⟨rq, hr⟩ : ∃ rq : Nat → Int, (∀ i, i < 12 → rq i = r i) := ⟨r, fun i hi => rfl⟩
  have v0 : rq 0 = r 0 := hr 0 (by decide)
  have v1 : rq 1 = r 1 := hr 1 (by decide)
  have v2 : rq 2 = r 2 := hr 2 (by decide)
  have v3 : rq 3 = r 3 := hr 3 (by decide)
  have v4 : rq 4 = r 4 := hr 4 (by decide)
  have v5 : rq 5 = r 5 := hr 5 (by decide)
  have v10 : rq 10 = r 10 := hr 10 (by decide)
  have v11 : rq 11 = r 11 := hr 11 (by decide)
  have g0 : zq_ev rq (7, []) = 7 := zu_e0 _ _
  have g1 : zq_ev rq (8, []) = 8 := zu_e0 _ _
  have g2 : zq_ev rq (0, [(0, 1)]) = r 0 := zu_f1 v0
  have g3 : zq_ev rq (0, [(1, 1)]) = r 1 := zu_f1 v1
  have g4 : zq_ev rq (0, [(2, 1)]) = r 2 := zu_f1 v2
  have g5 : zq_ev rq (0, [(3, 1)]) = r 3 := zu_f1 v3
  have g6 : zq_ev rq (0, [(4, 1)]) = r 4 := zu_f1 v4
  have g7 : zq_ev rq (0, [(5, 1)]) = r 5 := zu_f1 v5
  have g8 : zq_ev rq (1, []) = 1 := zu_e0 _ _
  have g9 : zq_ev rq (0, [(10, 1)]) = r 10 := zu_f1 v10
  have g10 : zq_ev rq (0, [(11, 1)]) = r 11 := zu_f1 v11
  exact ⟨_, List.mem_cons_self .., rq, hr, zq_MeS_mk rfl hT (zq_all_nil) zq_fan (zq_fan) rfl (zu_fac ((x_SL _ _ _).mpr (by show ze_SL (zq_ev rq (7, [])) (zq_ev rq (8, [])) (zq_ev rq (0, [(0, 1)])) (zq_ev rq (0, [(1, 1)])) (zq_ev rq (0, [(2, 1)])) (zq_ev rq (0, [(3, 1)])) (zq_ev rq (0, [(4, 1)])) (zq_ev rq (0, [(5, 1)])) (zq_ev rq (1, [])) (zq_ev rq (0, [(10, 1)])) (zq_ev rq (0, [(11, 1)])) P h; simp only [g0, g1, g10, g2, g3, g4, g5, g6, g7, g8, g9]; exact t1)) zq_fan)⟩
noncomputable def ze_z7 : zq_S × List zq_S := (([], [], [(0, [(6, 1)]), (0, [(6, -1)])], [], [], [], [(222, [(7, []), (8, []), (0, [(0, 1)]), (0, [(1, 1)]), (0, [(2, 1)]), (0, [(3, 1)]), (0, [(4, 1)]), (0, [(5, 1)]), (0, [(6, 1)]), (0, [(7, 1)]), (0, [(8, 1)])]), (224, [(0, [(0, 1)]), (0, [(1, 1)]), (0, [(8, 1)]), (6, [])]), (221, [(6, []), (0, [(0, 1)]), (0, [(1, 1)]), (1, [(8, 1)]), (0, [(9, 1)])])], 10), [([], [], [], [], [], [], [(222, [(7, []), (8, []), (0, [(0, 1)]), (0, [(1, 1)]), (0, [(2, 1)]), (0, [(3, 1)]), (0, [(4, 1)]), (0, [(5, 1)]), (0, []), (0, [(7, 1)]), (0, [(9, 1)])])], 10)])
theorem ze_z7_l {P : zq_Ty} {h : zq_H} {g n o W b p a c q x : Int} (a1 : 0 ≤ a) (a2 : 0 ≤ -a) (k1 : ze_SL 7 8 g n o W b p a c q P h) (k2 : ze_CD g n q 6 P h) (k3 : ze_TT 6 g n (q + 1) x P h) : (ze_SL 7 8 g n o W b p 0 c x P h) := by
  have ea : a = 0 := by omega
  subst ea
  intro r d2 e h2
  have k2 : 6 = ze_c g n q := k2
  obtain ⟨r0, b0, v0⟩ := zt_V (v := ze_v g n) (w := ze_w o W) k3 0 true false
  exact k1 r d2 e (ze_bl_no (by decide) k2.symm (ze_V_dead v0 0 (ze_on c)) h2)
theorem ze_z7_ok {w : zq_Wd} (x_SL : zj_is w 222 (fun q => ze_SL (q 0) (q 1) (q 2) (q 3) (q 4) (q 5) (q 6) (q 7) (q 8) (q 9) (q 10))) (x_CD : zj_is w 224 (fun q => ze_CD (q 0) (q 1) (q 2) (q 3))) (x_TT : zj_is w 221 (fun q => ze_TT (q 0) (q 1) (q 2) (q 3) (q 4))) : zq_okG1 w ze_z7 := by
  refine ⟨rfl, rfl, zu_fac ⟨rfl, by decide⟩ zq_fan, ?_⟩
  intro r P h H hM
  have q0 : zq_ev r (0, [(6, 1)]) = r 6 := zu_e1 _ _
  have q1 : zq_ev r (0, [(6, -1)]) = -r 6 := zu_e4 _ _
  have q2 : zq_ev r (7, []) = 7 := zu_e0 _ _
  have q3 : zq_ev r (8, []) = 8 := zu_e0 _ _
  have q4 : zq_ev r (0, [(0, 1)]) = r 0 := zu_e1 _ _
  have q5 : zq_ev r (0, [(1, 1)]) = r 1 := zu_e1 _ _
  have q6 : zq_ev r (0, [(2, 1)]) = r 2 := zu_e1 _ _
  have q7 : zq_ev r (0, [(3, 1)]) = r 3 := zu_e1 _ _
  have q8 : zq_ev r (0, [(4, 1)]) = r 4 := zu_e1 _ _
  have q9 : zq_ev r (0, [(5, 1)]) = r 5 := zu_e1 _ _
  have q10 : zq_ev r (0, [(7, 1)]) = r 7 := zu_e1 _ _
  have q11 : zq_ev r (0, [(8, 1)]) = r 8 := zu_e1 _ _
  have q12 : zq_ev r (6, []) = 6 := zu_e0 _ _
  have q13 : zq_ev r (1, [(8, 1)]) = r 8 + 1 := zu_e2 _ _ _
  have q14 : zq_ev r (0, [(9, 1)]) = r 9 := zu_e1 _ _
  obtain ⟨hT, hC, hF, hS, -, hK⟩ := hM
  have c := hC.1
  have a1 := zq_all_1 c
  rw [q0] at a1
  have c := zq_all_t c
  have a2 := zq_all_1 c
  rw [q1] at a2
  have k1 := zj_use x_SL (hK)
  have k1 : ze_SL (zq_ev r (7, [])) (zq_ev r (8, [])) (zq_ev r (0, [(0, 1)])) (zq_ev r (0, [(1, 1)])) (zq_ev r (0, [(2, 1)])) (zq_ev r (0, [(3, 1)])) (zq_ev r (0, [(4, 1)])) (zq_ev r (0, [(5, 1)])) (zq_ev r (0, [(6, 1)])) (zq_ev r (0, [(7, 1)])) (zq_ev r (0, [(8, 1)])) P h := k1
  simp only [q0, q10, q11, q2, q3, q4, q5, q6, q7, q8, q9] at k1
  have k2 := zj_use x_CD (zq_okX_t (hK))
  have k2 : ze_CD (zq_ev r (0, [(0, 1)])) (zq_ev r (0, [(1, 1)])) (zq_ev r (0, [(8, 1)])) (zq_ev r (6, [])) P h := k2
  simp only [q11, q12, q4, q5] at k2
  have k3 := zj_use x_TT (zq_okX_t (zq_okX_t (hK)))
  have k3 : ze_TT (zq_ev r (6, [])) (zq_ev r (0, [(0, 1)])) (zq_ev r (0, [(1, 1)])) (zq_ev r (1, [(8, 1)])) (zq_ev r (0, [(9, 1)])) P h := k3
  simp only [q12, q13, q14, q4, q5] at k3
  obtain t1 := ze_z7_l (P := P) (h := h) (g := r 0) (n := r 1) (o := r 2) (W := r 3) (b := r 4) (p := r 5) (a := r 6) (c := r 7) (q := r 8) (x := r 9) a1 a2 k1 k2 k3
  obtain ⟨rq, hr⟩ : ∃ rq : Nat → Int, (∀ i, i < 10 → rq i = r i) := ⟨r, fun i hi => rfl⟩
  have v0 : rq 0 = r 0 := hr 0 (by decide)
  have v1 : rq 1 = r 1 := hr 1 (by decide)
  have v2 : rq 2 = r 2 := hr 2 (by decide)
  have v3 : rq 3 = r 3 := hr 3 (by decide)
  have v4 : rq 4 = r 4 := hr 4 (by decide)
  have v5 : rq 5 = r 5 := hr 5 (by decide)
  have v7 : rq 7 = r 7 := hr 7 (by decide)
  have v9 : rq 9 = r 9 := hr 9 (by decide)
  have g0 : zq_ev rq (7, []) = 7 := zu_e0 _ _
  have g1 : zq_ev rq (8, []) = 8 := zu_e0 _ _
  have g2 : zq_ev rq (0, [(0, 1)]) = r 0 := zu_f1 v0
  have g3 : zq_ev rq (0, [(1, 1)]) = r 1 := zu_f1 v1
  have g4 : zq_ev rq (0, [(2, 1)]) = r 2 := zu_f1 v2
  have g5 : zq_ev rq (0, [(3, 1)]) = r 3 := zu_f1 v3
  have g6 : zq_ev rq (0, [(4, 1)]) = r 4 := zu_f1 v4
  have g7 : zq_ev rq (0, [(5, 1)]) = r 5 := zu_f1 v5
  have g8 : zq_ev rq (0, []) = 0 := zu_e0 _ _
  have g9 : zq_ev rq (0, [(7, 1)]) = r 7 := zu_f1 v7
  have g10 : zq_ev rq (0, [(9, 1)]) = r 9 := zu_f1 v9
  exact ⟨_, List.mem_cons_self .., rq, hr, zq_MeS_mk rfl hT (zq_all_nil) zq_fan (zq_fan) rfl (zu_fac ((x_SL _ _ _).mpr (by show ze_SL (zq_ev rq (7, [])) (zq_ev rq (8, [])) (zq_ev rq (0, [(0, 1)])) (zq_ev rq (0, [(1, 1)])) (zq_ev rq (0, [(2, 1)])) (zq_ev rq (0, [(3, 1)])) (zq_ev rq (0, [(4, 1)])) (zq_ev rq (0, [(5, 1)])) (zq_ev rq (0, [])) (zq_ev rq (0, [(7, 1)])) (zq_ev rq (0, [(9, 1)])) P h; simp only [g0, g1, g10, g2, g3, g4, g5, g6, g7, g8, g9]; exact t1)) zq_fan)⟩
noncomputable def ze_zt7 : zq_S × List zq_S := (([], [], [], [], [], [], [(223, [(7, []), (8, []), (0, [(0, 1)]), (0, [(1, 1)]), (0, [(2, 1)]), (0, [(3, 1)])]), (224, [(0, [(0, 1)]), (0, [(1, 1)]), (0, [(3, 1)]), (6, [])]), (221, [(6, []), (0, [(0, 1)]), (0, [(1, 1)]), (1, [(3, 1)]), (0, [(4, 1)])])], 5), [([], [], [], [], [], [], [(223, [(7, []), (8, []), (0, [(0, 1)]), (0, [(1, 1)]), (0, [(2, 1)]), (0, [(4, 1)])])], 5)])
theorem ze_zt7_l {P : zq_Ty} {h : zq_H} {g n p q x : Int} (k1 : ze_TL 7 8 g n p q P h) (k2 : ze_CD g n q 6 P h) (k3 : ze_TT 6 g n (q + 1) x P h) : (ze_TL 7 8 g n p x P h) := by
  intro e h2
  have k2 : 6 = ze_c g n q := k2
  exact k1 e (zt_bl_go k2.symm k3 h2)
theorem ze_zt7_ok {w : zq_Wd} (x_TL : zj_is w 223 (fun q => ze_TL (q 0) (q 1) (q 2) (q 3) (q 4) (q 5))) (x_CD : zj_is w 224 (fun q => ze_CD (q 0) (q 1) (q 2) (q 3))) (x_TT : zj_is w 221 (fun q => ze_TT (q 0) (q 1) (q 2) (q 3) (q 4))) : zq_okG1 w ze_zt7 := by
  refine ⟨rfl, rfl, zu_fac ⟨rfl, by decide⟩ zq_fan, ?_⟩
  intro r P h H hM
  have q0 : zq_ev r (7, []) = 7 := zu_e0 _ _
  have q1 : zq_ev r (8, []) = 8 := zu_e0 _ _
  have q2 : zq_ev r (0, [(0, 1)]) = r 0 := zu_e1 _ _
  have q3 : zq_ev r (0, [(1, 1)]) = r 1 := zu_e1 _ _
  have q4 : zq_ev r (0, [(2, 1)]) = r 2 := zu_e1 _ _
  have q5 : zq_ev r (0, [(3, 1)]) = r 3 := zu_e1 _ _
  have q6 : zq_ev r (6, []) = 6 := zu_e0 _ _
  have q7 : zq_ev r (1, [(3, 1)]) = r 3 + 1 := zu_e2 _ _ _
  have q8 : zq_ev r (0, [(4, 1)]) = r 4 := zu_e1 _ _
  obtain ⟨hT, hC, hF, hS, -, hK⟩ := hM
  have c := hC.1
  have k1 := zj_use x_TL (hK)
  have k1 : ze_TL (zq_ev r (7, [])) (zq_ev r (8, [])) (zq_ev r (0, [(0, 1)])) (zq_ev r (0, [(1, 1)])) (zq_ev r (0, [(2, 1)])) (zq_ev r (0, [(3, 1)])) P h := k1
  simp only [q0, q1, q2, q3, q4, q5] at k1
  have k2 := zj_use x_CD (zq_okX_t (hK))
  have k2 : ze_CD (zq_ev r (0, [(0, 1)])) (zq_ev r (0, [(1, 1)])) (zq_ev r (0, [(3, 1)])) (zq_ev r (6, [])) P h := k2
  simp only [q2, q3, q5, q6] at k2
  have k3 := zj_use x_TT (zq_okX_t (zq_okX_t (hK)))
  have k3 : ze_TT (zq_ev r (6, [])) (zq_ev r (0, [(0, 1)])) (zq_ev r (0, [(1, 1)])) (zq_ev r (1, [(3, 1)])) (zq_ev r (0, [(4, 1)])) P h := k3
  simp only [q2, q3, q6, q7, q8] at k3
  obtain t1 := ze_zt7_l (P := P) (h := h) (g := r 0) (n := r 1) (p := r 2) (q := r 3) (x := r 4) k1 k2 k3
  obtain ⟨rq, hr⟩ : ∃ rq : Nat → Int, (∀ i, i < 5 → rq i = r i) := ⟨r, fun i hi => rfl⟩
  have v0 : rq 0 = r 0 := hr 0 (by decide)
  have v1 : rq 1 = r 1 := hr 1 (by decide)
  have v2 : rq 2 = r 2 := hr 2 (by decide)
  have v4 : rq 4 = r 4 := hr 4 (by decide)
  have g0 : zq_ev rq (7, []) = 7 := zu_e0 _ _
  have g1 : zq_ev rq (8, []) = 8 := zu_e0 _ _
  have g2 : zq_ev rq (0, [(0, 1)]) = r 0 := zu_f1 v0
  have g3 : zq_ev rq (0, [(1, 1)]) = r 1 := zu_f1 v1
  have g4 : zq_ev rq (0, [(2, 1)]) = r 2 := zu_f1 v2
  have g5 : zq_ev rq (0, [(4, 1)]) = r 4 := zu_f1 v4
  exact ⟨_, List.mem_cons_self .., rq, hr, zq_MeS_mk rfl hT (zq_all_nil) zq_fan (zq_fan) rfl (zu_fac ((x_TL _ _ _).mpr (by show ze_TL (zq_ev rq (7, [])) (zq_ev rq (8, [])) (zq_ev rq (0, [(0, 1)])) (zq_ev rq (0, [(1, 1)])) (zq_ev rq (0, [(2, 1)])) (zq_ev rq (0, [(4, 1)])) P h; simp only [g0, g1, g2, g3, g4, g5]; exact t1)) zq_fan)⟩
noncomputable def ze_y90 : zq_S × List zq_S := (([], [], [(0, [(6, 1)]), (0, [(6, -1)]), (0, [(9, 1)]), (0, [(9, -1)])], [], [], [], [(222, [(9, []), (10, []), (0, [(0, 1)]), (0, [(1, 1)]), (0, [(2, 1)]), (0, [(3, 1)]), (0, [(4, 1)]), (0, [(5, 1)]), (0, [(6, 1)]), (0, [(7, 1)]), (0, [(8, 1)])]), (224, [(0, [(0, 1)]), (0, [(1, 1)]), (0, [(8, 1)]), (5, [])]), (220, [(8, []), (0, [(0, 1)]), (0, [(1, 1)]), (0, [(2, 1)]), (0, [(3, 1)]), (0, [(7, 1)]), (1, [(8, 1)]), (0, [(9, 1)]), (0, [(10, 1)]), (0, [(11, 1)])])], 12), [([], [], [], [], [], [], [(222, [(9, []), (10, []), (0, [(0, 1)]), (0, [(1, 1)]), (0, [(2, 1)]), (0, [(3, 1)]), (0, [(4, 1)]), (0, [(5, 1)]), (0, []), (0, [(10, 1)]), (0, [(11, 1)])])], 12)])
theorem ze_y90_l {P : zq_Ty} {h : zq_H} {g n o W b p a c q w d x : Int} (a1 : 0 ≤ a) (a2 : 0 ≤ -a) (a3 : 0 ≤ w) (a4 : 0 ≤ -w) (k1 : ze_SL 9 10 g n o W b p a c q P h) (k2 : ze_CD g n q 5 P h) (k3 : ze_EV 8 g n o W c (q + 1) w d x P h) : (ze_SL 9 10 g n o W b p 0 d x P h) := by
  have ea : a = 0 := by omega
  have ew : w = 0 := by omega
  subst ea
  subst ew
  intro r d2 e h2
  have k2 : 5 = ze_c g n q := k2
  exact k1 r d2 e (ze_ol_go (by decide) k2.symm k3 h2)
theorem ze_y90_ok {w : zq_Wd} (x_SL : zj_is w 222 (fun q => ze_SL (q 0) (q 1) (q 2) (q 3) (q 4) (q 5) (q 6) (q 7) (q 8) (q 9) (q 10))) (x_CD : zj_is w 224 (fun q => ze_CD (q 0) (q 1) (q 2) (q 3))) (x_EV : zj_is w 220 (fun q => ze_EV (q 0) (q 1) (q 2) (q 3) (q 4) (q 5) (q 6) (q 7) (q 8) (q 9))) : zq_okG1 w ze_y90 := by
  refine ⟨rfl, rfl, zu_fac ⟨rfl, by decide⟩ zq_fan, ?_⟩
  intro r P h H hM
  have q0 : zq_ev r (0, [(6, 1)]) = r 6 := zu_e1 _ _
  have q1 : zq_ev r (0, [(6, -1)]) = -r 6 := zu_e4 _ _
  have q2 : zq_ev r (0, [(9, 1)]) = r 9 := zu_e1 _ _
  have q3 : zq_ev r (0, [(9, -1)]) = -r 9 := zu_e4 _ _
  have q4 : zq_ev r (9, []) = 9 := zu_e0 _ _
  have q5 : zq_ev r (10, []) = 10 := zu_e0 _ _
  have q6 : zq_ev r (0, [(0, 1)]) = r 0 := zu_e1 _ _
  have q7 : zq_ev r (0, [(1, 1)]) = r 1 := zu_e1 _ _
  have q8 : zq_ev r (0, [(2, 1)]) = r 2 := zu_e1 _ _
  have q9 : zq_ev r (0, [(3, 1)]) = r 3 := zu_e1 _ _
  have q10 : zq_ev r (0, [(4, 1)]) = r 4 := zu_e1 _ _
  have q11 : zq_ev r (0, [(5, 1)]) = r 5 := zu_e1 _ _
  have q12 : zq_ev r (0, [(7, 1)]) = r 7 := zu_e1 _ _
  have q13 : zq_ev r (0, [(8, 1)]) = r 8 := zu_e1 _ _
  have q14 : zq_ev r (5, []) = 5 := zu_e0 _ _
  have q15 : zq_ev r (8, []) = 8 := zu_e0 _ _
  have q16 : zq_ev r (1, [(8, 1)]) = r 8 + 1 := zu_e2 _ _ _
  have q17 : zq_ev r (0, [(10, 1)]) = r 10 := zu_e1 _ _
  have q18 : zq_ev r (0, [(11, 1)]) = r 11 := zu_e1 _ _
  obtain ⟨hT, hC, hF, hS, -, hK⟩ := hM
  have c := hC.1
  have a1 := zq_all_1 c
  rw [q0] at a1
  have c := zq_all_t c
  have a2 := zq_all_1 c
  rw [q1] at a2
  have c := zq_all_t c
  have a3 := zq_all_1 c
  rw [q2] at a3
  have c := zq_all_t c
  have a4 := zq_all_1 c
  rw [q3] at a4
  have k1 := zj_use x_SL (hK)
  have k1 : ze_SL (zq_ev r (9, [])) (zq_ev r (10, [])) (zq_ev r (0, [(0, 1)])) (zq_ev r (0, [(1, 1)])) (zq_ev r (0, [(2, 1)])) (zq_ev r (0, [(3, 1)])) (zq_ev r (0, [(4, 1)])) (zq_ev r (0, [(5, 1)])) (zq_ev r (0, [(6, 1)])) (zq_ev r (0, [(7, 1)])) (zq_ev r (0, [(8, 1)])) P h := k1
  simp only [q0, q10, q11, q12, q13, q4, q5, q6, q7, q8, q9] at k1
  have k2 := zj_use x_CD (zq_okX_t (hK))
  have k2 : ze_CD (zq_ev r (0, [(0, 1)])) (zq_ev r (0, [(1, 1)])) (zq_ev r (0, [(8, 1)])) (zq_ev r (5, [])) P h := k2
  simp only [q13, q14, q6, q7] at k2
  have k3 := zj_use x_EV (zq_okX_t (zq_okX_t (hK)))
  have k3 : ze_EV (zq_ev r (8, [])) (zq_ev r (0, [(0, 1)])) (zq_ev r (0, [(1, 1)])) (zq_ev r (0, [(2, 1)])) (zq_ev r (0, [(3, 1)])) (zq_ev r (0, [(7, 1)])) (zq_ev r (1, [(8, 1)])) (zq_ev r (0, [(9, 1)])) (zq_ev r (0, [(10, 1)])) (zq_ev r (0, [(11, 1)])) P h := k3
  simp only [q12, q15, q16, q17, q18, q2, q6, q7, q8, q9] at k3
  obtain t1 := ze_y90_l (P := P) (h := h) (g := r 0) (n := r 1) (o := r 2) (W := r 3) (b := r 4) (p := r 5) (a := r 6) (c := r 7) (q := r 8) (w := r 9) (d := r 10) (x := r 11) a1 a2 a3 a4 k1 k2 k3
  obtain ⟨rq, hr⟩ : ∃ rq : Nat → Int, (∀ i, i < 12 → rq i = r i) := ⟨r, fun i hi => rfl⟩
  have v0 : rq 0 = r 0 := hr 0 (by decide)
  have v1 : rq 1 = r 1 := hr 1 (by decide)
  have v2 : rq 2 = r 2 := hr 2 (by decide)
  have v3 : rq 3 = r 3 := hr 3 (by decide)
  have v4 : rq 4 = r 4 := hr 4 (by decide)
  have v5 : rq 5 = r 5 := hr 5 (by decide)
  have v10 : rq 10 = r 10 := hr 10 (by decide)
  have v11 : rq 11 = r 11 := hr 11 (by decide)
  have g0 : zq_ev rq (9, []) = 9 := zu_e0 _ _
  have g1 : zq_ev rq (10, []) = 10 := zu_e0 _ _
  have g2 : zq_ev rq (0, [(0, 1)]) = r 0 := zu_f1 v0
  have g3 : zq_ev rq (0, [(1, 1)]) = r 1 := zu_f1 v1
  have g4 : zq_ev rq (0, [(2, 1)]) = r 2 := zu_f1 v2
  have g5 : zq_ev rq (0, [(3, 1)]) = r 3 := zu_f1 v3
  have g6 : zq_ev rq (0, [(4, 1)]) = r 4 := zu_f1 v4
  have g7 : zq_ev rq (0, [(5, 1)]) = r 5 := zu_f1 v5
  have g8 : zq_ev rq (0, []) = 0 := zu_e0 _ _
  have g9 : zq_ev rq (0, [(10, 1)]) = r 10 := zu_f1 v10
  have g10 : zq_ev rq (0, [(11, 1)]) = r 11 := zu_f1 v11
  exact ⟨_, List.mem_cons_self .., rq, hr, zq_MeS_mk rfl hT (zq_all_nil) zq_fan (zq_fan) rfl (zu_fac ((x_SL _ _ _).mpr (by show ze_SL (zq_ev rq (9, [])) (zq_ev rq (10, [])) (zq_ev rq (0, [(0, 1)])) (zq_ev rq (0, [(1, 1)])) (zq_ev rq (0, [(2, 1)])) (zq_ev rq (0, [(3, 1)])) (zq_ev rq (0, [(4, 1)])) (zq_ev rq (0, [(5, 1)])) (zq_ev rq (0, [])) (zq_ev rq (0, [(10, 1)])) (zq_ev rq (0, [(11, 1)])) P h; simp only [g0, g1, g10, g2, g3, g4, g5, g6, g7, g8, g9]; exact t1)) zq_fan)⟩
noncomputable def ze_y91 : zq_S × List zq_S := (([], [], [(0, [(6, 1)]), (0, [(6, -1)]), (-1, [(9, 1)]), (1, [(9, -1)])], [], [], [], [(222, [(9, []), (10, []), (0, [(0, 1)]), (0, [(1, 1)]), (0, [(2, 1)]), (0, [(3, 1)]), (0, [(4, 1)]), (0, [(5, 1)]), (0, [(6, 1)]), (0, [(7, 1)]), (0, [(8, 1)])]), (224, [(0, [(0, 1)]), (0, [(1, 1)]), (0, [(8, 1)]), (5, [])]), (220, [(8, []), (0, [(0, 1)]), (0, [(1, 1)]), (0, [(2, 1)]), (0, [(3, 1)]), (0, [(7, 1)]), (1, [(8, 1)]), (0, [(9, 1)]), (0, [(10, 1)]), (0, [(11, 1)])])], 12), [([], [], [], [], [], [], [(222, [(9, []), (10, []), (0, [(0, 1)]), (0, [(1, 1)]), (0, [(2, 1)]), (0, [(3, 1)]), (0, [(4, 1)]), (0, [(5, 1)]), (1, []), (0, [(10, 1)]), (0, [(11, 1)])])], 12)])
theorem ze_y91_l {P : zq_Ty} {h : zq_H} {g n o W b p a c q w d x : Int} (a1 : 0 ≤ a) (a2 : 0 ≤ -a) (a3 : 0 ≤ w - 1) (a4 : 0 ≤ -w + 1) (k1 : ze_SL 9 10 g n o W b p a c q P h) (k2 : ze_CD g n q 5 P h) (k3 : ze_EV 8 g n o W c (q + 1) w d x P h) : (ze_SL 9 10 g n o W b p 1 d x P h) := by
  have ea : a = 0 := by omega
  have ew : w = 1 := by omega
  subst ea
  subst ew
  intro r d2 e h2
  have k2 : 5 = ze_c g n q := k2
  exact k1 r d2 e (ze_ol_go (by decide) k2.symm k3 h2)
theorem ze_y91_ok {w : zq_Wd} (x_SL : zj_is w 222 (fun q => ze_SL (q 0) (q 1) (q 2) (q 3) (q 4) (q 5) (q 6) (q 7) (q 8) (q 9) (q 10))) (x_CD : zj_is w 224 (fun q => ze_CD (q 0) (q 1) (q 2) (q 3))) (x_EV : zj_is w 220 (fun q => ze_EV (q 0) (q 1) (q 2) (q 3) (q 4) (q 5) (q 6) (q 7) (q 8) (q 9))) : zq_okG1 w ze_y91 := by
  refine ⟨rfl, rfl, zu_fac ⟨rfl, by decide⟩ zq_fan, ?_⟩
  intro r P h H hM
  have q0 : zq_ev r (0, [(6, 1)]) = r 6 := zu_e1 _ _
  have q1 : zq_ev r (0, [(6, -1)]) = -r 6 := zu_e4 _ _
  have q2 : zq_ev r (-1, [(9, 1)]) = r 9 - 1 := zu_e3 _ _ _
  have q3 : zq_ev r (1, [(9, -1)]) = -r 9 + 1 := zu_e5 _ _ _
  have q4 : zq_ev r (9, []) = 9 := zu_e0 _ _
  have q5 : zq_ev r (10, []) = 10 := zu_e0 _ _
  have q6 : zq_ev r (0, [(0, 1)]) = r 0 := zu_e1 _ _
  have q7 : zq_ev r (0, [(1, 1)]) = r 1 := zu_e1 _ _
  have q8 : zq_ev r (0, [(2, 1)]) = r 2 := zu_e1 _ _
  have q9 : zq_ev r (0, [(3, 1)]) = r 3 := zu_e1 _ _
  have q10 : zq_ev r (0, [(4, 1)]) = r 4 := zu_e1 _ _
  have q11 : zq_ev r (0, [(5, 1)]) = r 5 := zu_e1 _ _
  have q12 : zq_ev r (0, [(7, 1)]) = r 7 := zu_e1 _ _
  have q13 : zq_ev r (0, [(8, 1)]) = r 8 := zu_e1 _ _
  have q14 : zq_ev r (5, []) = 5 := zu_e0 _ _
  have q15 : zq_ev r (8, []) = 8 := zu_e0 _ _
  have q16 : zq_ev r (1, [(8, 1)]) = r 8 + 1 := zu_e2 _ _ _
  have q17 : zq_ev r (0, [(9, 1)]) = r 9 := zu_e1 _ _
  have q18 : zq_ev r (0, [(10, 1)]) = r 10 := zu_e1 _ _
  have q19 : zq_ev r (0, [(11, 1)]) = r 11 := zu_e1 _ _
  obtain ⟨hT, hC, hF, hS, -, hK⟩ := hM
  have c := hC.1
  have a1 := zq_all_1 c
  rw [q0] at a1
  have c := zq_all_t c
  have a2 := zq_all_1 c
  rw [q1] at a2
  have c := zq_all_t c
  have a3 := zq_all_1 c
  rw [q2] at a3
  have c := zq_all_t c
  have a4 := zq_all_1 c
  rw [q3] at a4
  have k1 := zj_use x_SL (hK)
  have k1 : ze_SL (zq_ev r (9, [])) (zq_ev r (10, [])) (zq_ev r (0, [(0, 1)])) (zq_ev r (0, [(1, 1)])) (zq_ev r (0, [(2, 1)])) (zq_ev r (0, [(3, 1)])) (zq_ev r (0, [(4, 1)])) (zq_ev r (0, [(5, 1)])) (zq_ev r (0, [(6, 1)])) (zq_ev r (0, [(7, 1)])) (zq_ev r (0, [(8, 1)])) P h := k1
  simp only [q0, q10, q11, q12, q13, q4, q5, q6, q7, q8, q9] at k1
  have k2 := zj_use x_CD (zq_okX_t (hK))
  have k2 : ze_CD (zq_ev r (0, [(0, 1)])) (zq_ev r (0, [(1, 1)])) (zq_ev r (0, [(8, 1)])) (zq_ev r (5, [])) P h := k2
  simp only [q13, q14, q6, q7] at k2
  have k3 := zj_use x_EV (zq_okX_t (zq_okX_t (hK)))
  have k3 : ze_EV (zq_ev r (8, [])) (zq_ev r (0, [(0, 1)])) (zq_ev r (0, [(1, 1)])) (zq_ev r (0, [(2, 1)])) (zq_ev r (0, [(3, 1)])) (zq_ev r (0, [(7, 1)])) (zq_ev r (1, [(8, 1)])) (zq_ev r (0, [(9, 1)])) (zq_ev r (0, [(10, 1)])) (zq_ev r (0, [(11, 1)])) P h := k3
  simp only [q12, q15, q16, q17, q18, q19, q6, q7, q8, q9] at k3
  obtain t1 := ze_y91_l (P := P) (h := h) (g := r 0) (n := r 1) (o := r 2) (W := r 3) (b := r 4) (p := r 5) (a := r 6) (c := r 7) (q := r 8) (w := r 9) (d := r 10) (x := r 11) a1 a2 a3 a4 k1 k2 k3
  obtain ⟨rq, hr⟩ : ∃ rq : Nat → Int, (∀ i, i < 12 → rq i = r i) := ⟨r, fun i hi => rfl⟩
  have v0 : rq 0 = r 0 := hr 0 (by decide)
  have v1 : rq 1 = r 1 := hr 1 (by decide)
  have v2 : rq 2 = r 2 := hr 2 (by decide)
  have v3 : rq 3 = r 3 := hr 3 (by decide)
  have v4 : rq 4 = r 4 := hr 4 (by decide)
  have v5 : rq 5 = r 5 := hr 5 (by decide)
  have v10 : rq 10 = r 10 := hr 10 (by decide)
  have v11 : rq 11 = r 11 := hr 11 (by decide)
  have g0 : zq_ev rq (9, []) = 9 := zu_e0 _ _
  have g1 : zq_ev rq (10, []) = 10 := zu_e0 _ _
  have g2 : zq_ev rq (0, [(0, 1)]) = r 0 := zu_f1 v0
  have g3 : zq_ev rq (0, [(1, 1)]) = r 1 := zu_f1 v1
  have g4 : zq_ev rq (0, [(2, 1)]) = r 2 := zu_f1 v2
  have g5 : zq_ev rq (0, [(3, 1)]) = r 3 := zu_f1 v3
  have g6 : zq_ev rq (0, [(4, 1)]) = r 4 := zu_f1 v4
  have g7 : zq_ev rq (0, [(5, 1)]) = r 5 := zu_f1 v5
  have g8 : zq_ev rq (1, []) = 1 := zu_e0 _ _
  have g9 : zq_ev rq (0, [(10, 1)]) = r 10 := zu_f1 v10
  have g10 : zq_ev rq (0, [(11, 1)]) = r 11 := zu_f1 v11
  exact ⟨_, List.mem_cons_self .., rq, hr, zq_MeS_mk rfl hT (zq_all_nil) zq_fan (zq_fan) rfl (zu_fac ((x_SL _ _ _).mpr (by show ze_SL (zq_ev rq (9, [])) (zq_ev rq (10, [])) (zq_ev rq (0, [(0, 1)])) (zq_ev rq (0, [(1, 1)])) (zq_ev rq (0, [(2, 1)])) (zq_ev rq (0, [(3, 1)])) (zq_ev rq (0, [(4, 1)])) (zq_ev rq (0, [(5, 1)])) (zq_ev rq (1, [])) (zq_ev rq (0, [(10, 1)])) (zq_ev rq (0, [(11, 1)])) P h; simp only [g0, g1, g10, g2, g3, g4, g5, g6, g7, g8, g9]; exact t1)) zq_fan)⟩
noncomputable def ze_z9 : zq_S × List zq_S := (([], [], [(-1, [(6, 1)]), (1, [(6, -1)])], [], [], [], [(222, [(9, []), (10, []), (0, [(0, 1)]), (0, [(1, 1)]), (0, [(2, 1)]), (0, [(3, 1)]), (0, [(4, 1)]), (0, [(5, 1)]), (0, [(6, 1)]), (0, [(7, 1)]), (0, [(8, 1)])]), (224, [(0, [(0, 1)]), (0, [(1, 1)]), (0, [(8, 1)]), (5, [])]), (221, [(8, []), (0, [(0, 1)]), (0, [(1, 1)]), (1, [(8, 1)]), (0, [(9, 1)])])], 10), [([], [], [], [], [], [], [(222, [(9, []), (10, []), (0, [(0, 1)]), (0, [(1, 1)]), (0, [(2, 1)]), (0, [(3, 1)]), (0, [(4, 1)]), (0, [(5, 1)]), (1, []), (0, [(7, 1)]), (0, [(9, 1)])])], 10)])
theorem ze_z9_l {P : zq_Ty} {h : zq_H} {g n o W b p a c q x : Int} (a1 : 0 ≤ a - 1) (a2 : 0 ≤ -a + 1) (k1 : ze_SL 9 10 g n o W b p a c q P h) (k2 : ze_CD g n q 5 P h) (k3 : ze_TT 8 g n (q + 1) x P h) : (ze_SL 9 10 g n o W b p 1 c x P h) := by
  have ea : a = 1 := by omega
  subst ea
  intro r d2 e h2
  have k2 : 5 = ze_c g n q := k2
  obtain ⟨r0, b0, v0⟩ := zt_V (v := ze_v g n) (w := ze_w o W) k3 0 true false
  exact k1 r d2 e (ze_ol_no k2.symm (ze_V_dead v0 0 (ze_on c)) h2)
theorem ze_z9_ok {w : zq_Wd} (x_SL : zj_is w 222 (fun q => ze_SL (q 0) (q 1) (q 2) (q 3) (q 4) (q 5) (q 6) (q 7) (q 8) (q 9) (q 10))) (x_CD : zj_is w 224 (fun q => ze_CD (q 0) (q 1) (q 2) (q 3))) (x_TT : zj_is w 221 (fun q => ze_TT (q 0) (q 1) (q 2) (q 3) (q 4))) : zq_okG1 w ze_z9 := by
  refine ⟨rfl, rfl, zu_fac ⟨rfl, by decide⟩ zq_fan, ?_⟩
  intro r P h H hM
  have q0 : zq_ev r (-1, [(6, 1)]) = r 6 - 1 := zu_e3 _ _ _
  have q1 : zq_ev r (1, [(6, -1)]) = -r 6 + 1 := zu_e5 _ _ _
  have q2 : zq_ev r (9, []) = 9 := zu_e0 _ _
  have q3 : zq_ev r (10, []) = 10 := zu_e0 _ _
  have q4 : zq_ev r (0, [(0, 1)]) = r 0 := zu_e1 _ _
  have q5 : zq_ev r (0, [(1, 1)]) = r 1 := zu_e1 _ _
  have q6 : zq_ev r (0, [(2, 1)]) = r 2 := zu_e1 _ _
  have q7 : zq_ev r (0, [(3, 1)]) = r 3 := zu_e1 _ _
  have q8 : zq_ev r (0, [(4, 1)]) = r 4 := zu_e1 _ _
  have q9 : zq_ev r (0, [(5, 1)]) = r 5 := zu_e1 _ _
  have q10 : zq_ev r (0, [(6, 1)]) = r 6 := zu_e1 _ _
  have q11 : zq_ev r (0, [(7, 1)]) = r 7 := zu_e1 _ _
  have q12 : zq_ev r (0, [(8, 1)]) = r 8 := zu_e1 _ _
  have q13 : zq_ev r (5, []) = 5 := zu_e0 _ _
  have q14 : zq_ev r (8, []) = 8 := zu_e0 _ _
  have q15 : zq_ev r (1, [(8, 1)]) = r 8 + 1 := zu_e2 _ _ _
  have q16 : zq_ev r (0, [(9, 1)]) = r 9 := zu_e1 _ _
  obtain ⟨hT, hC, hF, hS, -, hK⟩ := hM
  have c := hC.1
  have a1 := zq_all_1 c
  rw [q0] at a1
  have c := zq_all_t c
  have a2 := zq_all_1 c
  rw [q1] at a2
  have k1 := zj_use x_SL (hK)
  have k1 : ze_SL (zq_ev r (9, [])) (zq_ev r (10, [])) (zq_ev r (0, [(0, 1)])) (zq_ev r (0, [(1, 1)])) (zq_ev r (0, [(2, 1)])) (zq_ev r (0, [(3, 1)])) (zq_ev r (0, [(4, 1)])) (zq_ev r (0, [(5, 1)])) (zq_ev r (0, [(6, 1)])) (zq_ev r (0, [(7, 1)])) (zq_ev r (0, [(8, 1)])) P h := k1
  simp only [q10, q11, q12, q2, q3, q4, q5, q6, q7, q8, q9] at k1
  have k2 := zj_use x_CD (zq_okX_t (hK))
  have k2 : ze_CD (zq_ev r (0, [(0, 1)])) (zq_ev r (0, [(1, 1)])) (zq_ev r (0, [(8, 1)])) (zq_ev r (5, [])) P h := k2
  simp only [q12, q13, q4, q5] at k2
  have k3 := zj_use x_TT (zq_okX_t (zq_okX_t (hK)))
  have k3 : ze_TT (zq_ev r (8, [])) (zq_ev r (0, [(0, 1)])) (zq_ev r (0, [(1, 1)])) (zq_ev r (1, [(8, 1)])) (zq_ev r (0, [(9, 1)])) P h := k3
  simp only [q14, q15, q16, q4, q5] at k3
  obtain t1 := ze_z9_l (P := P) (h := h) (g := r 0) (n := r 1) (o := r 2) (W := r 3) (b := r 4) (p := r 5) (a := r 6) (c := r 7) (q := r 8) (x := r 9) a1 a2 k1 k2 k3
  obtain ⟨rq, hr⟩ : ∃ rq : Nat → Int, (∀ i, i < 10 → rq i = r i) := ⟨r, fun i hi => rfl⟩
  have v0 : rq 0 = r 0 := hr 0 (by decide)
  have v1 : rq 1 = r 1 := hr 1 (by decide)
  have v2 : rq 2 = r 2 := hr 2 (by decide)
  have v3 : rq 3 = r 3 := hr 3 (by decide)
  have v4 : rq 4 = r 4 := hr 4 (by decide)
  have v5 : rq 5 = r 5 := hr 5 (by decide)
  have v7 : rq 7 = r 7 := hr 7 (by decide)
  have v9 : rq 9 = r 9 := hr 9 (by decide)
  have g0 : zq_ev rq (9, []) = 9 := zu_e0 _ _
  have g1 : zq_ev rq (10, []) = 10 := zu_e0 _ _
  have g2 : zq_ev rq (0, [(0, 1)]) = r 0 := zu_f1 v0
  have g3 : zq_ev rq (0, [(1, 1)]) = r 1 := zu_f1 v1
  have g4 : zq_ev rq (0, [(2, 1)]) = r 2 := zu_f1 v2
  have g5 : zq_ev rq (0, [(3, 1)]) = r 3 := zu_f1 v3
  have g6 : zq_ev rq (0, [(4, 1)]) = r 4 := zu_f1 v4
  have g7 : zq_ev rq (0, [(5, 1)]) = r 5 := zu_f1 v5
  have g8 : zq_ev rq (1, []) = 1 := zu_e0 _ _
  have g9 : zq_ev rq (0, [(7, 1)]) = r 7 := zu_f1 v7
  have g10 : zq_ev rq (0, [(9, 1)]) = r 9 := zu_f1 v9
  exact ⟨_, List.mem_cons_self .., rq, hr, zq_MeS_mk rfl hT (zq_all_nil) zq_fan (zq_fan) rfl (zu_fac ((x_SL _ _ _).mpr (by show ze_SL (zq_ev rq (9, [])) (zq_ev rq (10, [])) (zq_ev rq (0, [(0, 1)])) (zq_ev rq (0, [(1, 1)])) (zq_ev rq (0, [(2, 1)])) (zq_ev rq (0, [(3, 1)])) (zq_ev rq (0, [(4, 1)])) (zq_ev rq (0, [(5, 1)])) (zq_ev rq (1, [])) (zq_ev rq (0, [(7, 1)])) (zq_ev rq (0, [(9, 1)])) P h; simp only [g0, g1, g10, g2, g3, g4, g5, g6, g7, g8, g9]; exact t1)) zq_fan)⟩
noncomputable def ze_zt9 : zq_S × List zq_S := (([], [], [], [], [], [], [(223, [(9, []), (10, []), (0, [(0, 1)]), (0, [(1, 1)]), (0, [(2, 1)]), (0, [(3, 1)])]), (224, [(0, [(0, 1)]), (0, [(1, 1)]), (0, [(3, 1)]), (5, [])]), (221, [(8, []), (0, [(0, 1)]), (0, [(1, 1)]), (1, [(3, 1)]), (0, [(4, 1)])])], 5), [([], [], [], [], [], [], [(223, [(9, []), (10, []), (0, [(0, 1)]), (0, [(1, 1)]), (0, [(2, 1)]), (0, [(4, 1)])])], 5)])
theorem ze_zt9_l {P : zq_Ty} {h : zq_H} {g n p q x : Int} (k1 : ze_TL 9 10 g n p q P h) (k2 : ze_CD g n q 5 P h) (k3 : ze_TT 8 g n (q + 1) x P h) : (ze_TL 9 10 g n p x P h) := by
  intro e h2
  have k2 : 5 = ze_c g n q := k2
  exact k1 e (zt_ol_go k2.symm k3 h2)
theorem ze_zt9_ok {w : zq_Wd} (x_TL : zj_is w 223 (fun q => ze_TL (q 0) (q 1) (q 2) (q 3) (q 4) (q 5))) (x_CD : zj_is w 224 (fun q => ze_CD (q 0) (q 1) (q 2) (q 3))) (x_TT : zj_is w 221 (fun q => ze_TT (q 0) (q 1) (q 2) (q 3) (q 4))) : zq_okG1 w ze_zt9 := by
  refine ⟨rfl, rfl, zu_fac ⟨rfl, by decide⟩ zq_fan, ?_⟩
  intro r P h H hM
  have q0 : zq_ev r (9, []) = 9 := zu_e0 _ _
  have q1 : zq_ev r (10, []) = 10 := zu_e0 _ _
  have q2 : zq_ev r (0, [(0, 1)]) = r 0 := zu_e1 _ _
  have q3 : zq_ev r (0, [(1, 1)]) = r 1 := zu_e1 _ _
  have q4 : zq_ev r (0, [(2, 1)]) = r 2 := zu_e1 _ _
  have q5 : zq_ev r (0, [(3, 1)]) = r 3 := zu_e1 _ _
  have q6 : zq_ev r (5, []) = 5 := zu_e0 _ _
  have q7 : zq_ev r (8, []) = 8 := zu_e0 _ _
  have q8 : zq_ev r (1, [(3, 1)]) = r 3 + 1 := zu_e2 _ _ _
  have q9 : zq_ev r (0, [(4, 1)]) = r 4 := zu_e1 _ _
  obtain ⟨hT, hC, hF, hS, -, hK⟩ := hM
  have c := hC.1
  have k1 := zj_use x_TL (hK)
  have k1 : ze_TL (zq_ev r (9, [])) (zq_ev r (10, [])) (zq_ev r (0, [(0, 1)])) (zq_ev r (0, [(1, 1)])) (zq_ev r (0, [(2, 1)])) (zq_ev r (0, [(3, 1)])) P h := k1
  simp only [q0, q1, q2, q3, q4, q5] at k1
  have k2 := zj_use x_CD (zq_okX_t (hK))
  have k2 : ze_CD (zq_ev r (0, [(0, 1)])) (zq_ev r (0, [(1, 1)])) (zq_ev r (0, [(3, 1)])) (zq_ev r (5, [])) P h := k2
  simp only [q2, q3, q5, q6] at k2
  have k3 := zj_use x_TT (zq_okX_t (zq_okX_t (hK)))
  have k3 : ze_TT (zq_ev r (8, [])) (zq_ev r (0, [(0, 1)])) (zq_ev r (0, [(1, 1)])) (zq_ev r (1, [(3, 1)])) (zq_ev r (0, [(4, 1)])) P h := k3
  simp only [q2, q3, q7, q8, q9] at k3
  obtain t1 := ze_zt9_l (P := P) (h := h) (g := r 0) (n := r 1) (p := r 2) (q := r 3) (x := r 4) k1 k2 k3
  obtain ⟨rq, hr⟩ : ∃ rq : Nat → Int, (∀ i, i < 5 → rq i = r i) := ⟨r, fun i hi => rfl⟩
  have v0 : rq 0 = r 0 := hr 0 (by decide)
  have v1 : rq 1 = r 1 := hr 1 (by decide)
  have v2 : rq 2 = r 2 := hr 2 (by decide)
  have v4 : rq 4 = r 4 := hr 4 (by decide)
  have g0 : zq_ev rq (9, []) = 9 := zu_e0 _ _
  have g1 : zq_ev rq (10, []) = 10 := zu_e0 _ _
  have g2 : zq_ev rq (0, [(0, 1)]) = r 0 := zu_f1 v0
  have g3 : zq_ev rq (0, [(1, 1)]) = r 1 := zu_f1 v1
  have g4 : zq_ev rq (0, [(2, 1)]) = r 2 := zu_f1 v2
  have g5 : zq_ev rq (0, [(4, 1)]) = r 4 := zu_f1 v4
  exact ⟨_, List.mem_cons_self .., rq, hr, zq_MeS_mk rfl hT (zq_all_nil) zq_fan (zq_fan) rfl (zu_fac ((x_TL _ _ _).mpr (by show ze_TL (zq_ev rq (9, [])) (zq_ev rq (10, [])) (zq_ev rq (0, [(0, 1)])) (zq_ev rq (0, [(1, 1)])) (zq_ev rq (0, [(2, 1)])) (zq_ev rq (0, [(4, 1)])) P h; simp only [g0, g1, g2, g3, g4, g5]; exact t1)) zq_fan)⟩
