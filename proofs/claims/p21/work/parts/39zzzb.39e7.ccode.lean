/-! THE CLASS'S CODE BEING LAID: facts -/
noncomputable def zc_cm : zq_S × List zq_S := (([], [], [(0, [(6, 1)]), (0, [(5, 1), (6, -1)])], [], [((0, [(0, 1)]), (0, [(6, 1)]), (0, [(7, 1)]))], [], [(105, [(0, [(0, 1)]), (0, [(1, 1)]), (0, [(2, 1)]), (0, [(3, 1)]), (0, [(4, 1)]), (0, [(5, 1)])])], 8), [([], [], [], [], [], [], [(239, [(0, [(3, 1)]), (0, [(4, 1)]), (0, [(6, 1)]), (0, [(7, 1)])])], 8)])
theorem zc_cm_l {P : zq_Ty} {h : zq_H} {co va pl g n t i c : Int} (a1 : 0 ≤ i) (a2 : 0 ≤ t - i) (s1 : 0 ≤ co ∧ P (co).toNat ≠ none ∧ h (co).toNat i = c) (k1 : zu_LXC co va pl g n t P h) : (zc_CM g n i c P h) := by
  have hx := zu_LX_cur k1 rfl a1 (show i ≤ t by omega)
  rw [s1.2.2] at hx
  exact zc_cur_c hx
theorem zc_cm_ok {w : zq_Wd} (x_LXC : zj_is w 105 (fun q => zu_LXC (q 0) (q 1) (q 2) (q 3) (q 4) (q 5))) (x_CM : zj_is w 239 (fun q => zc_CM (q 0) (q 1) (q 2) (q 3))) : zq_okG1 w zc_cm := by
  refine ⟨rfl, rfl, zu_fac ⟨rfl, by decide⟩ zq_fan, ?_⟩
  intro r P h H hM
  have q0 : zq_ev r (0, [(6, 1)]) = r 6 := zu_e1 _ _
  have q1 : zq_ev r (0, [(5, 1), (6, -1)]) = r 5 - r 6 := by simp only [zq_ev, zq_ts] <;> omega
  have q2 : zq_ev r (0, [(0, 1)]) = r 0 := zu_e1 _ _
  have q3 : zq_ev r (0, [(7, 1)]) = r 7 := zu_e1 _ _
  have q4 : zq_ev r (0, [(1, 1)]) = r 1 := zu_e1 _ _
  have q5 : zq_ev r (0, [(2, 1)]) = r 2 := zu_e1 _ _
  have q6 : zq_ev r (0, [(3, 1)]) = r 3 := zu_e1 _ _
  have q7 : zq_ev r (0, [(4, 1)]) = r 4 := zu_e1 _ _
  have q8 : zq_ev r (0, [(5, 1)]) = r 5 := zu_e1 _ _
  obtain ⟨hT, hC, hF, hS, -, hK⟩ := hM
  have c := hC.1
  have a1 := zq_all_1 c
  rw [q0] at a1
  have c := zq_all_t c
  have a2 := zq_all_1 c
  rw [q1] at a2
  have s1 := zq_okS_1 (hS)
  simp only [q0, q2, q3] at s1
  have k1 := zj_use x_LXC (hK)
  have k1 : zu_LXC (zq_ev r (0, [(0, 1)])) (zq_ev r (0, [(1, 1)])) (zq_ev r (0, [(2, 1)])) (zq_ev r (0, [(3, 1)])) (zq_ev r (0, [(4, 1)])) (zq_ev r (0, [(5, 1)])) P h := k1
  simp only [q2, q4, q5, q6, q7, q8] at k1
  obtain t1 := zc_cm_l (P := P) (h := h) (co := r 0) (va := r 1) (pl := r 2) (g := r 3) (n := r 4) (t := r 5) (i := r 6) (c := r 7) a1 a2 s1 k1
  obtain ⟨rq, hr⟩ : ∃ rq : Nat → Int, (∀ i, i < 8 → rq i = r i) := ⟨r, fun i hi => rfl⟩
  have v3 : rq 3 = r 3 := hr 3 (by decide)
  have v4 : rq 4 = r 4 := hr 4 (by decide)
  have v6 : rq 6 = r 6 := hr 6 (by decide)
  have v7 : rq 7 = r 7 := hr 7 (by decide)
  have g0 : zq_ev rq (0, [(3, 1)]) = r 3 := zu_f1 v3
  have g1 : zq_ev rq (0, [(4, 1)]) = r 4 := zu_f1 v4
  have g2 : zq_ev rq (0, [(6, 1)]) = r 6 := zu_f1 v6
  have g3 : zq_ev rq (0, [(7, 1)]) = r 7 := zu_f1 v7
  exact ⟨_, List.mem_cons_self .., rq, hr, zq_MeS_mk rfl hT (zq_all_nil) zq_fan (zq_fan) rfl (zu_fac ((x_CM _ _ _).mpr (by show zc_CM (zq_ev rq (0, [(3, 1)])) (zq_ev rq (0, [(4, 1)])) (zq_ev rq (0, [(6, 1)])) (zq_ev rq (0, [(7, 1)])) P h; simp only [g0, g1, g2, g3]; exact t1)) zq_fan)⟩
noncomputable def zc_vl : zq_S × List zq_S := (([], [], [(0, [(6, 1)]), (0, [(5, 1), (6, -1)]), (1000, [(8, -1)]), (-30, [(7, 1)]), (30, [(7, -1)])], [], [((0, [(0, 1)]), (0, [(6, 1)]), (0, [(7, 1)])), ((0, [(1, 1)]), (0, [(6, 1)]), (0, [(8, 1)]))], [], [(105, [(0, [(0, 1)]), (0, [(1, 1)]), (0, [(2, 1)]), (0, [(3, 1)]), (0, [(4, 1)]), (0, [(5, 1)])])], 9), [([], [], [], [], [], [], [(225, [(0, [(3, 1)]), (0, [(4, 1)]), (0, [(6, 1)]), (0, [(8, 1)])])], 9)])
theorem zc_vl_l {P : zq_Ty} {h : zq_H} {co va pl g n t i c v : Int} (a1 : 0 ≤ i) (a2 : 0 ≤ t - i) (a3 : 0 ≤ -v + 1000) (a4 : 0 ≤ c - 30) (a5 : 0 ≤ -c + 30) (s1 : 0 ≤ co ∧ P (co).toNat ≠ none ∧ h (co).toNat i = c) (s2 : 0 ≤ va ∧ P (va).toNat ≠ none ∧ h (va).toNat i = v) (k1 : zu_LXC co va pl g n t P h) : (ze_VL g n i v P h) := by
  have hx := zu_LX_cur k1 rfl a1 (show i ≤ t by omega)
  rw [s1.2.2] at hx
  rw [s2.2.2, zu_mp30 (by omega)] at hx
  exact (zc_cur_v hx rfl (by omega)).symm
theorem zc_vl_ok {w : zq_Wd} (x_LXC : zj_is w 105 (fun q => zu_LXC (q 0) (q 1) (q 2) (q 3) (q 4) (q 5))) (x_VL : zj_is w 225 (fun q => ze_VL (q 0) (q 1) (q 2) (q 3))) : zq_okG1 w zc_vl := by
  refine ⟨rfl, rfl, zu_fac ⟨rfl, by decide⟩ zq_fan, ?_⟩
  intro r P h H hM
  have q0 : zq_ev r (0, [(6, 1)]) = r 6 := zu_e1 _ _
  have q1 : zq_ev r (0, [(5, 1), (6, -1)]) = r 5 - r 6 := by simp only [zq_ev, zq_ts] <;> omega
  have q2 : zq_ev r (1000, [(8, -1)]) = -r 8 + 1000 := zu_e5 _ _ _
  have q3 : zq_ev r (-30, [(7, 1)]) = r 7 - 30 := zu_e3 _ _ _
  have q4 : zq_ev r (30, [(7, -1)]) = -r 7 + 30 := zu_e5 _ _ _
  have q5 : zq_ev r (0, [(0, 1)]) = r 0 := zu_e1 _ _
  have q6 : zq_ev r (0, [(7, 1)]) = r 7 := zu_e1 _ _
  have q7 : zq_ev r (0, [(1, 1)]) = r 1 := zu_e1 _ _
  have q8 : zq_ev r (0, [(8, 1)]) = r 8 := zu_e1 _ _
  have q9 : zq_ev r (0, [(2, 1)]) = r 2 := zu_e1 _ _
  have q10 : zq_ev r (0, [(3, 1)]) = r 3 := zu_e1 _ _
  have q11 : zq_ev r (0, [(4, 1)]) = r 4 := zu_e1 _ _
  have q12 : zq_ev r (0, [(5, 1)]) = r 5 := zu_e1 _ _
  obtain ⟨hT, hC, hF, hS, -, hK⟩ := hM
  have c := hC.1
  have a1 := zq_all_1 c
  rw [q0] at a1
  have c := zq_all_t c
  have a2 := zq_all_1 c
  rw [q1] at a2
  have c := zq_all_t c
  have a3 := zq_all_1 c
  rw [q2] at a3
  have c := zq_all_t c
  have a4 := zq_all_1 c
  rw [q3] at a4
  have c := zq_all_t c
  have a5 := zq_all_1 c
  rw [q4] at a5
  have s1 := zq_okS_1 (hS)
  simp only [q0, q5, q6] at s1
  have s2 := zq_okS_1 (zq_okS_t (hS))
  simp only [q0, q7, q8] at s2
  have k1 := zj_use x_LXC (hK)
  have k1 : zu_LXC (zq_ev r (0, [(0, 1)])) (zq_ev r (0, [(1, 1)])) (zq_ev r (0, [(2, 1)])) (zq_ev r (0, [(3, 1)])) (zq_ev r (0, [(4, 1)])) (zq_ev r (0, [(5, 1)])) P h := k1
  simp only [q10, q11, q12, q5, q7, q9] at k1
  obtain t1 := zc_vl_l (P := P) (h := h) (co := r 0) (va := r 1) (pl := r 2) (g := r 3) (n := r 4) (t := r 5) (i := r 6) (c := r 7) (v := r 8) a1 a2 a3 a4 a5 s1 s2 k1
  obtain ⟨rq, hr⟩ : ∃ rq : Nat → Int, (∀ i, i < 9 → rq i = r i) := ⟨r, fun i hi => rfl⟩
  have v3 : rq 3 = r 3 := hr 3 (by decide)
  have v4 : rq 4 = r 4 := hr 4 (by decide)
  have v6 : rq 6 = r 6 := hr 6 (by decide)
  have v8 : rq 8 = r 8 := hr 8 (by decide)
  have g0 : zq_ev rq (0, [(3, 1)]) = r 3 := zu_f1 v3
  have g1 : zq_ev rq (0, [(4, 1)]) = r 4 := zu_f1 v4
  have g2 : zq_ev rq (0, [(6, 1)]) = r 6 := zu_f1 v6
  have g3 : zq_ev rq (0, [(8, 1)]) = r 8 := zu_f1 v8
  exact ⟨_, List.mem_cons_self .., rq, hr, zq_MeS_mk rfl hT (zq_all_nil) zq_fan (zq_fan) rfl (zu_fac ((x_VL _ _ _).mpr (by show ze_VL (zq_ev rq (0, [(3, 1)])) (zq_ev rq (0, [(4, 1)])) (zq_ev rq (0, [(6, 1)])) (zq_ev rq (0, [(8, 1)])) P h; simp only [g0, g1, g2, g3]; exact t1)) zq_fan)⟩
noncomputable def zc_a0 : zq_S × List zq_S := (([], [], [(0, [(0, 1)])], [((0, [(0, 1)]), 33)], [], [], [], 1), [([], [], [], [], [], [], [(240, [(0, [(0, 1)]), (0, []), (0, [])])], 1)])
theorem zc_a0_l {P : zq_Ty} {h : zq_H} {a : Int} (a1 : 0 ≤ a) (b1 : 0 ≤ a → P (a).toNat = some 33) : (zc_CA a 0 0 P h) := by
  exact ⟨⟨a1, b1 a1⟩, by omega, fun j x y => by omega⟩
theorem zc_a0_ok {w : zq_Wd} (x_CA : zj_is w 240 (fun q => zc_CA (q 0) (q 1) (q 2))) : zq_okG1 w zc_a0 := by
  refine ⟨rfl, rfl, zu_fac ⟨rfl, by decide⟩ zq_fan, ?_⟩
  intro r P h H hM
  have q0 : zq_ev r (0, [(0, 1)]) = r 0 := zu_e1 _ _
  obtain ⟨hT, hC, hF, hS, -, hK⟩ := hM
  have c := hC.1
  have a1 := zq_all_1 c
  rw [q0] at a1
  have b1 : 0 ≤ r 0 → P (r 0).toNat = some 33 := fun z => by
    have z1 : 0 ≤ zq_ev r (0, [(0, 1)]) := by rw [q0]; exact z
    have z2 := zq_okF_1 (hF) z1
    simp only [q0] at z2
    exact z2
  obtain t1 := zc_a0_l (P := P) (h := h) (a := r 0) a1 b1
  obtain ⟨rq, hr⟩ : ∃ rq : Nat → Int, (∀ i, i < 1 → rq i = r i) := ⟨r, fun i hi => rfl⟩
  have v0 : rq 0 = r 0 := hr 0 (by decide)
  have g0 : zq_ev rq (0, [(0, 1)]) = r 0 := zu_f1 v0
  have g1 : zq_ev rq (0, []) = 0 := zu_e0 _ _
  exact ⟨_, List.mem_cons_self .., rq, hr, zq_MeS_mk rfl hT (zq_all_nil) zq_fan (zq_fan) rfl (zu_fac ((x_CA _ _ _).mpr (by show zc_CA (zq_ev rq (0, [(0, 1)])) (zq_ev rq (0, [])) (zq_ev rq (0, [])) P h; simp only [g0, g1]; exact t1)) zq_fan)⟩
noncomputable def zc_ae : zq_S × List zq_S := (([], [], [(2147483648, [(3, 1)]), (2147483647, [(3, -1)]), (447, [(1, -1)])], [], [((0, [(0, 1)]), (0, [(1, 1)]), (0, [(3, 1)]))], [], [(240, [(0, [(0, 1)]), (0, [(1, 1)]), (0, [(2, 1)])])], 4), [([], [], [], [], [], [], [(240, [(0, [(0, 1)]), (1, [(1, 1)]), (0, [(4, 1)])]), (241, [(0, [(2, 1)]), (0, [(4, 1)]), (0, []), (0, [(1, 1)])]), (134, [(0, [(4, 1)]), (0, [(1, 1)]), (0, [(3, 1)])])], 5)])
theorem zc_ae_l {P : zq_Ty} {h : zq_H} {a s Y v : Int} (a1 : 0 ≤ v + 2147483648) (a2 : 0 ≤ -v + 2147483647) (a3 : 0 ≤ -s + 447) (s1 : 0 ≤ a ∧ P (a).toNat ≠ none ∧ h (a).toNat s = v) (k1 : zc_CA a s Y P h) : (∃ Z : Int, zc_CA a (s + 1) Z P h ∧ zc_AG Y Z 0 s P h ∧ zn_DG Z s v P h) := by
  obtain ⟨z1, z2, z3⟩ := k1
  have hi : zn_in v := by unfold zn_in; omega
  refine ⟨zn_up Y s v, ⟨z1, by omega, fun j x y => ?_⟩, fun j x y => zn_up_ne z2.1 x (by omega) hi, (zn_up_same hi).symm⟩
  by_cases e : j = s
  · rw [e, zn_up_same hi]; exact s1.2.2
  · rw [zn_up_ne z2.1 x (by omega) hi]; exact z3 j x (by omega)
theorem zc_ae_ok {w : zq_Wd} (x_CA : zj_is w 240 (fun q => zc_CA (q 0) (q 1) (q 2))) (x_AG : zj_is w 241 (fun q => zc_AG (q 0) (q 1) (q 2) (q 3))) (x_DG : zj_is w 134 (fun q => zn_DG (q 0) (q 1) (q 2))) : zq_okG1 w zc_ae := by
  refine ⟨rfl, rfl, zu_fac ⟨rfl, by decide⟩ zq_fan, ?_⟩
  intro r P h H hM
  have q0 : zq_ev r (2147483648, [(3, 1)]) = r 3 + 2147483648 := zu_e2 _ _ _
  have q1 : zq_ev r (2147483647, [(3, -1)]) = -r 3 + 2147483647 := zu_e5 _ _ _
  have q2 : zq_ev r (447, [(1, -1)]) = -r 1 + 447 := zu_e5 _ _ _
  have q3 : zq_ev r (0, [(0, 1)]) = r 0 := zu_e1 _ _
  have q4 : zq_ev r (0, [(1, 1)]) = r 1 := zu_e1 _ _
  have q5 : zq_ev r (0, [(3, 1)]) = r 3 := zu_e1 _ _
  have q6 : zq_ev r (0, [(2, 1)]) = r 2 := zu_e1 _ _
  obtain ⟨hT, hC, hF, hS, -, hK⟩ := hM
  have c := hC.1
  have a1 := zq_all_1 c
  rw [q0] at a1
  have c := zq_all_t c
  have a2 := zq_all_1 c
  rw [q1] at a2
  have c := zq_all_t c
  have a3 := zq_all_1 c
  rw [q2] at a3
  have s1 := zq_okS_1 (hS)
  simp only [q3, q4, q5] at s1
  have k1 := zj_use x_CA (hK)
  have k1 : zc_CA (zq_ev r (0, [(0, 1)])) (zq_ev r (0, [(1, 1)])) (zq_ev r (0, [(2, 1)])) P h := k1
  simp only [q3, q4, q6] at k1
  obtain ⟨y_0, t1, t2, t3⟩ := zc_ae_l (P := P) (h := h) (a := r 0) (s := r 1) (Y := r 2) (v := r 3) a1 a2 a3 s1 k1
  obtain ⟨rq, hr, w4⟩ : ∃ rq : Nat → Int, (∀ i, i < 4 → rq i = r i) ∧ rq 4 = y_0 := ⟨zq_up r 4 y_0, fun i hi => by rw [zu_up_ne (by omega)], rfl⟩
  have v0 : rq 0 = r 0 := hr 0 (by decide)
  have v1 : rq 1 = r 1 := hr 1 (by decide)
  have v2 : rq 2 = r 2 := hr 2 (by decide)
  have v3 : rq 3 = r 3 := hr 3 (by decide)
  have g0 : zq_ev rq (0, [(4, 1)]) = y_0 := zu_f1 w4
  have g1 : zq_ev rq (0, [(1, 1)]) = r 1 := zu_f1 v1
  have g2 : zq_ev rq (0, [(3, 1)]) = r 3 := zu_f1 v3
  have g3 : zq_ev rq (0, [(2, 1)]) = r 2 := zu_f1 v2
  have g4 : zq_ev rq (0, []) = 0 := zu_e0 _ _
  have g5 : zq_ev rq (0, [(0, 1)]) = r 0 := zu_f1 v0
  have g6 : zq_ev rq (1, [(1, 1)]) = r 1 + 1 := zu_f2 v1 _
  exact ⟨_, List.mem_cons_self .., rq, hr, zq_MeS_mk rfl hT (zq_all_nil) zq_fan (zq_fan) rfl (zu_fac ((x_CA _ _ _).mpr (by show zc_CA (zq_ev rq (0, [(0, 1)])) (zq_ev rq (1, [(1, 1)])) (zq_ev rq (0, [(4, 1)])) P h; simp only [g0, g5, g6]; exact t1)) (zu_fac ((x_AG _ _ _).mpr (by show zc_AG (zq_ev rq (0, [(2, 1)])) (zq_ev rq (0, [(4, 1)])) (zq_ev rq (0, [])) (zq_ev rq (0, [(1, 1)])) P h; simp only [g0, g1, g3, g4]; exact t2)) (zu_fac ((x_DG _ _ _).mpr (by show zn_DG (zq_ev rq (0, [(4, 1)])) (zq_ev rq (0, [(1, 1)])) (zq_ev rq (0, [(3, 1)])) P h; simp only [g0, g1, g2]; exact t3)) zq_fan)))⟩
noncomputable def zc_ah : zq_S × List zq_S := (([], [], [(0, [(3, 1)]), (-1, [(1, 1), (3, -1)])], [], [], [], [(240, [(0, [(0, 1)]), (0, [(1, 1)]), (0, [(2, 1)])])], 4), [([], [], [], [], [], [], [(242, [(0, [(0, 1)]), (0, [(1, 1)]), (0, [(2, 1)]), (0, [(3, 1)])])], 4)])
theorem zc_ah_l {P : zq_Ty} {h : zq_H} {a s Y p : Int} (a1 : 0 ≤ p) (a2 : 0 ≤ s - p - 1) (k1 : zc_CA a s Y P h) : (zc_CH a s Y p P h) := by
  obtain ⟨z1, z2, z3⟩ := k1
  exact ⟨z1, a1, by omega, fun j x y _ => z3 j x y⟩
theorem zc_ah_ok {w : zq_Wd} (x_CA : zj_is w 240 (fun q => zc_CA (q 0) (q 1) (q 2))) (x_CH : zj_is w 242 (fun q => zc_CH (q 0) (q 1) (q 2) (q 3))) : zq_okG1 w zc_ah := by
  refine ⟨rfl, rfl, zu_fac ⟨rfl, by decide⟩ zq_fan, ?_⟩
  intro r P h H hM
  have q0 : zq_ev r (0, [(3, 1)]) = r 3 := zu_e1 _ _
  have q1 : zq_ev r (-1, [(1, 1), (3, -1)]) = r 1 - r 3 - 1 := by simp only [zq_ev, zq_ts] <;> omega
  have q2 : zq_ev r (0, [(0, 1)]) = r 0 := zu_e1 _ _
  have q3 : zq_ev r (0, [(1, 1)]) = r 1 := zu_e1 _ _
  have q4 : zq_ev r (0, [(2, 1)]) = r 2 := zu_e1 _ _
  obtain ⟨hT, hC, hF, hS, -, hK⟩ := hM
  have c := hC.1
  have a1 := zq_all_1 c
  rw [q0] at a1
  have c := zq_all_t c
  have a2 := zq_all_1 c
  rw [q1] at a2
  have k1 := zj_use x_CA (hK)
  have k1 : zc_CA (zq_ev r (0, [(0, 1)])) (zq_ev r (0, [(1, 1)])) (zq_ev r (0, [(2, 1)])) P h := k1
  simp only [q2, q3, q4] at k1
  obtain t1 := zc_ah_l (P := P) (h := h) (a := r 0) (s := r 1) (Y := r 2) (p := r 3) a1 a2 k1
  obtain ⟨rq, hr⟩ : ∃ rq : Nat → Int, (∀ i, i < 4 → rq i = r i) := ⟨r, fun i hi => rfl⟩
  have v0 : rq 0 = r 0 := hr 0 (by decide)
  have v1 : rq 1 = r 1 := hr 1 (by decide)
  have v2 : rq 2 = r 2 := hr 2 (by decide)
  have v3 : rq 3 = r 3 := hr 3 (by decide)
  have g0 : zq_ev rq (0, [(0, 1)]) = r 0 := zu_f1 v0
  have g1 : zq_ev rq (0, [(1, 1)]) = r 1 := zu_f1 v1
  have g2 : zq_ev rq (0, [(2, 1)]) = r 2 := zu_f1 v2
  have g3 : zq_ev rq (0, [(3, 1)]) = r 3 := zu_f1 v3
  exact ⟨_, List.mem_cons_self .., rq, hr, zq_MeS_mk rfl hT (zq_all_nil) zq_fan (zq_fan) rfl (zu_fac ((x_CH _ _ _).mpr (by show zc_CH (zq_ev rq (0, [(0, 1)])) (zq_ev rq (0, [(1, 1)])) (zq_ev rq (0, [(2, 1)])) (zq_ev rq (0, [(3, 1)])) P h; simp only [g0, g1, g2, g3]; exact t1)) zq_fan)⟩
noncomputable def zc_aa : zq_S × List zq_S := (([], [], [(2147483648, [(4, 1)]), (2147483647, [(4, -1)])], [], [((0, [(0, 1)]), (0, [(3, 1)]), (0, [(4, 1)]))], [], [(242, [(0, [(0, 1)]), (0, [(1, 1)]), (0, [(2, 1)]), (0, [(3, 1)])])], 5), [([], [], [], [], [], [], [(240, [(0, [(0, 1)]), (0, [(1, 1)]), (0, [(5, 1)])]), (241, [(0, [(2, 1)]), (0, [(5, 1)]), (0, []), (0, [(3, 1)])]), (241, [(0, [(2, 1)]), (0, [(5, 1)]), (1, [(3, 1)]), (0, [(1, 1)])]), (134, [(0, [(5, 1)]), (0, [(3, 1)]), (0, [(4, 1)])])], 6)])
theorem zc_aa_l {P : zq_Ty} {h : zq_H} {a s Y p v : Int} (a1 : 0 ≤ v + 2147483648) (a2 : 0 ≤ -v + 2147483647) (s1 : 0 ≤ a ∧ P (a).toNat ≠ none ∧ h (a).toNat p = v) (k1 : zc_CH a s Y p P h) : (∃ Z : Int, zc_CA a s Z P h ∧ zc_AG Y Z 0 p P h ∧ zc_AG Y Z (p + 1) s P h ∧ zn_DG Z p v P h) := by
  obtain ⟨z1, z0, z2, z3⟩ := k1
  have hi : zn_in v := by unfold zn_in; omega
  refine ⟨zn_up Y p v, ⟨z1, by omega, fun j x y => ?_⟩, fun j x y => zn_up_ne z0 x (by omega) hi, fun j x y => zn_up_ne z0 (by omega) (by omega) hi, (zn_up_same hi).symm⟩
  by_cases e : j = p
  · rw [e, zn_up_same hi]; exact s1.2.2
  · rw [zn_up_ne z0 x (by omega) hi]; exact z3 j x y e
theorem zc_aa_ok {w : zq_Wd} (x_CH : zj_is w 242 (fun q => zc_CH (q 0) (q 1) (q 2) (q 3))) (x_CA : zj_is w 240 (fun q => zc_CA (q 0) (q 1) (q 2))) (x_AG : zj_is w 241 (fun q => zc_AG (q 0) (q 1) (q 2) (q 3))) (x_DG : zj_is w 134 (fun q => zn_DG (q 0) (q 1) (q 2))) : zq_okG1 w zc_aa := by
  refine ⟨rfl, rfl, zu_fac ⟨rfl, by decide⟩ zq_fan, ?_⟩
  intro r P h H hM
  have q0 : zq_ev r (2147483648, [(4, 1)]) = r 4 + 2147483648 := zu_e2 _ _ _
  have q1 : zq_ev r (2147483647, [(4, -1)]) = -r 4 + 2147483647 := zu_e5 _ _ _
  have q2 : zq_ev r (0, [(0, 1)]) = r 0 := zu_e1 _ _
  have q3 : zq_ev r (0, [(3, 1)]) = r 3 := zu_e1 _ _
  have q4 : zq_ev r (0, [(4, 1)]) = r 4 := zu_e1 _ _
  have q5 : zq_ev r (0, [(1, 1)]) = r 1 := zu_e1 _ _
  have q6 : zq_ev r (0, [(2, 1)]) = r 2 := zu_e1 _ _
  obtain ⟨hT, hC, hF, hS, -, hK⟩ := hM
  have c := hC.1
  have a1 := zq_all_1 c
  rw [q0] at a1
  have c := zq_all_t c
  have a2 := zq_all_1 c
  rw [q1] at a2
  have s1 := zq_okS_1 (hS)
  simp only [q2, q3, q4] at s1
  have k1 := zj_use x_CH (hK)
  have k1 : zc_CH (zq_ev r (0, [(0, 1)])) (zq_ev r (0, [(1, 1)])) (zq_ev r (0, [(2, 1)])) (zq_ev r (0, [(3, 1)])) P h := k1
  simp only [q2, q3, q5, q6] at k1
  obtain ⟨y_0, t1, t2, t3, t4⟩ := zc_aa_l (P := P) (h := h) (a := r 0) (s := r 1) (Y := r 2) (p := r 3) (v := r 4) a1 a2 s1 k1
  obtain ⟨rq, hr, w5⟩ : ∃ rq : Nat → Int, (∀ i, i < 5 → rq i = r i) ∧ rq 5 = y_0 := ⟨zq_up r 5 y_0, fun i hi => by rw [zu_up_ne (by omega)], rfl⟩
  have v0 : rq 0 = r 0 := hr 0 (by decide)
  have v1 : rq 1 = r 1 := hr 1 (by decide)
  have v2 : rq 2 = r 2 := hr 2 (by decide)
  have v3 : rq 3 = r 3 := hr 3 (by decide)
  have v4 : rq 4 = r 4 := hr 4 (by decide)
  have g0 : zq_ev rq (0, [(5, 1)]) = y_0 := zu_f1 w5
  have g1 : zq_ev rq (0, [(3, 1)]) = r 3 := zu_f1 v3
  have g2 : zq_ev rq (0, [(4, 1)]) = r 4 := zu_f1 v4
  have g3 : zq_ev rq (0, [(2, 1)]) = r 2 := zu_f1 v2
  have g4 : zq_ev rq (1, [(3, 1)]) = r 3 + 1 := zu_f2 v3 _
  have g5 : zq_ev rq (0, [(1, 1)]) = r 1 := zu_f1 v1
  have g6 : zq_ev rq (0, []) = 0 := zu_e0 _ _
  have g7 : zq_ev rq (0, [(0, 1)]) = r 0 := zu_f1 v0
  exact ⟨_, List.mem_cons_self .., rq, hr, zq_MeS_mk rfl hT (zq_all_nil) zq_fan (zq_fan) rfl (zu_fac ((x_CA _ _ _).mpr (by show zc_CA (zq_ev rq (0, [(0, 1)])) (zq_ev rq (0, [(1, 1)])) (zq_ev rq (0, [(5, 1)])) P h; simp only [g0, g5, g7]; exact t1)) (zu_fac ((x_AG _ _ _).mpr (by show zc_AG (zq_ev rq (0, [(2, 1)])) (zq_ev rq (0, [(5, 1)])) (zq_ev rq (0, [])) (zq_ev rq (0, [(3, 1)])) P h; simp only [g0, g1, g3, g6]; exact t2)) (zu_fac ((x_AG _ _ _).mpr (by show zc_AG (zq_ev rq (0, [(2, 1)])) (zq_ev rq (0, [(5, 1)])) (zq_ev rq (1, [(3, 1)])) (zq_ev rq (0, [(1, 1)])) P h; simp only [g0, g3, g4, g5]; exact t3)) (zu_fac ((x_DG _ _ _).mpr (by show zn_DG (zq_ev rq (0, [(5, 1)])) (zq_ev rq (0, [(3, 1)])) (zq_ev rq (0, [(4, 1)])) P h; simp only [g0, g1, g2]; exact t4)) zq_fan))))⟩
noncomputable def zc_ar : zq_S × List zq_S := (([], [], [(0, [(3, 1)]), (-1, [(1, 1), (3, -1)])], [], [((0, [(0, 1)]), (0, [(3, 1)]), (0, [(4, 1)]))], [], [(240, [(0, [(0, 1)]), (0, [(1, 1)]), (0, [(2, 1)])]), (134, [(0, [(2, 1)]), (0, [(3, 1)]), (0, [(5, 1)])])], 6), [([], [], [(0, [(4, 1), (5, -1)]), (0, [(4, -1), (5, 1)])], [], [], [], [], 6)])
theorem zc_ar_l {P : zq_Ty} {h : zq_H} {a s Y j x v : Int} (a1 : 0 ≤ j) (a2 : 0 ≤ s - j - 1) (s1 : 0 ≤ a ∧ P (a).toNat ≠ none ∧ h (a).toNat j = x) (k1 : zc_CA a s Y P h) (k2 : zn_DG Y j v P h) : (0 ≤ x - v ∧ 0 ≤ -x + v) := by
  obtain ⟨z1, z2, z3⟩ := k1
  have e := z3 j a1 (by omega)
  rw [s1.2.2] at e
  have k2 : v = zn_dg Y j := k2
  exact ⟨by omega, by omega⟩
theorem zc_ar_ok {w : zq_Wd} (x_CA : zj_is w 240 (fun q => zc_CA (q 0) (q 1) (q 2))) (x_DG : zj_is w 134 (fun q => zn_DG (q 0) (q 1) (q 2))) : zq_okG1 w zc_ar := by
  refine ⟨rfl, rfl, zu_fac ⟨rfl, by decide⟩ zq_fan, ?_⟩
  intro r P h H hM
  have q0 : zq_ev r (0, [(3, 1)]) = r 3 := zu_e1 _ _
  have q1 : zq_ev r (-1, [(1, 1), (3, -1)]) = r 1 - r 3 - 1 := by simp only [zq_ev, zq_ts] <;> omega
  have q2 : zq_ev r (0, [(0, 1)]) = r 0 := zu_e1 _ _
  have q3 : zq_ev r (0, [(4, 1)]) = r 4 := zu_e1 _ _
  have q4 : zq_ev r (0, [(1, 1)]) = r 1 := zu_e1 _ _
  have q5 : zq_ev r (0, [(2, 1)]) = r 2 := zu_e1 _ _
  have q6 : zq_ev r (0, [(5, 1)]) = r 5 := zu_e1 _ _
  obtain ⟨hT, hC, hF, hS, -, hK⟩ := hM
  have c := hC.1
  have a1 := zq_all_1 c
  rw [q0] at a1
  have c := zq_all_t c
  have a2 := zq_all_1 c
  rw [q1] at a2
  have s1 := zq_okS_1 (hS)
  simp only [q0, q2, q3] at s1
  have k1 := zj_use x_CA (hK)
  have k1 : zc_CA (zq_ev r (0, [(0, 1)])) (zq_ev r (0, [(1, 1)])) (zq_ev r (0, [(2, 1)])) P h := k1
  simp only [q2, q4, q5] at k1
  have k2 := zj_use x_DG (zq_okX_t (hK))
  have k2 : zn_DG (zq_ev r (0, [(2, 1)])) (zq_ev r (0, [(3, 1)])) (zq_ev r (0, [(5, 1)])) P h := k2
  simp only [q0, q5, q6] at k2
  obtain ⟨c1, c2⟩ := zc_ar_l (P := P) (h := h) (a := r 0) (s := r 1) (Y := r 2) (j := r 3) (x := r 4) (v := r 5) a1 a2 s1 k1 k2
  obtain ⟨rq, hr⟩ : ∃ rq : Nat → Int, (∀ i, i < 6 → rq i = r i) := ⟨r, fun i hi => rfl⟩
  have v4 : rq 4 = r 4 := hr 4 (by decide)
  have v5 : rq 5 = r 5 := hr 5 (by decide)
  have g0 : zq_ev rq (0, [(4, -1), (5, 1)]) = -r 4 + r 5 := by simp only [zq_ev, zq_ts, v4, v5] <;> omega
  have g1 : zq_ev rq (0, [(4, 1), (5, -1)]) = r 4 - r 5 := by simp only [zq_ev, zq_ts, v4, v5] <;> omega
  exact ⟨_, List.mem_cons_self .., rq, hr, zq_MeS_mk rfl hT (zq_all_cons (by rw [g1]; exact c1) (zq_all_cons (by rw [g0]; exact c2) (zq_all_nil))) zq_fan (zq_fan) rfl zq_fan⟩
noncomputable def zc_z0 : zq_S × List zq_S := (([], [], [(0, [(0, 1)]), (0, [(0, -1)])], [], [], [], [], 1), [([], [], [(0, [(0, 1)]), (0, [(0, -1)])], [], [], [], [], 1)])
theorem zc_z0_l {P : zq_Ty} {h : zq_H} {q : Int} (a1 : 0 ≤ q) (a2 : 0 ≤ -q) : (0 ≤ q ∧ 0 ≤ -q) := by
  exact ⟨a1, by omega⟩
theorem zc_z0_ok {w : zq_Wd}  : zq_okG1 w zc_z0 := by
  refine ⟨rfl, rfl, zu_fac ⟨rfl, by decide⟩ zq_fan, ?_⟩
  intro r P h H hM
  have q0 : zq_ev r (0, [(0, 1)]) = r 0 := zu_e1 _ _
  have q1 : zq_ev r (0, [(0, -1)]) = -r 0 := zu_e4 _ _
  obtain ⟨hT, hC, hF, hS, -, hK⟩ := hM
  have c := hC.1
  have a1 := zq_all_1 c
  rw [q0] at a1
  have c := zq_all_t c
  have a2 := zq_all_1 c
  rw [q1] at a2
  obtain ⟨c1, c2⟩ := zc_z0_l (P := P) (h := h) (q := r 0) a1 a2
  obtain ⟨rq, hr⟩ : ∃ rq : Nat → Int, (∀ i, i < 1 → rq i = r i) := ⟨r, fun i hi => rfl⟩
  have v0 : rq 0 = r 0 := hr 0 (by decide)
  have g0 : zq_ev rq (0, [(0, -1)]) = -r 0 := zu_f4 v0
  have g1 : zq_ev rq (0, [(0, 1)]) = r 0 := zu_f1 v0
  exact ⟨_, List.mem_cons_self .., rq, hr, zq_MeS_mk rfl hT (zq_all_cons (by rw [g1]; exact c1) (zq_all_cons (by rw [g0]; exact c2) (zq_all_nil))) zq_fan (zq_fan) rfl zq_fan⟩
noncomputable def zc_g0 : zq_S × List zq_S := (([], [], [], [], [], [], [], 3), [([], [], [], [], [], [], [(241, [(0, [(0, 1)]), (0, [(0, 1)]), (0, [(1, 1)]), (0, [(2, 1)])])], 3)])
theorem zc_g0_l {P : zq_Ty} {h : zq_H} {Y l u : Int}  : (zc_AG Y Y l u P h) := by
  exact fun j x y => rfl
theorem zc_g0_ok {w : zq_Wd} (x_AG : zj_is w 241 (fun q => zc_AG (q 0) (q 1) (q 2) (q 3))) : zq_okG1 w zc_g0 := by
  refine ⟨rfl, rfl, zu_fac ⟨rfl, by decide⟩ zq_fan, ?_⟩
  intro r P h H hM
  obtain ⟨hT, hC, hF, hS, -, hK⟩ := hM
  have c := hC.1
  obtain t1 := zc_g0_l (P := P) (h := h) (Y := r 0) (l := r 1) (u := r 2) 
  obtain ⟨rq, hr⟩ : ∃ rq : Nat → Int, (∀ i, i < 3 → rq i = r i) := ⟨r, fun i hi => rfl⟩
  have v0 : rq 0 = r 0 := hr 0 (by decide)
  have v1 : rq 1 = r 1 := hr 1 (by decide)
  have v2 : rq 2 = r 2 := hr 2 (by decide)
  have g0 : zq_ev rq (0, [(0, 1)]) = r 0 := zu_f1 v0
  have g1 : zq_ev rq (0, [(1, 1)]) = r 1 := zu_f1 v1
  have g2 : zq_ev rq (0, [(2, 1)]) = r 2 := zu_f1 v2
  exact ⟨_, List.mem_cons_self .., rq, hr, zq_MeS_mk rfl hT (zq_all_nil) zq_fan (zq_fan) rfl (zu_fac ((x_AG _ _ _).mpr (by show zc_AG (zq_ev rq (0, [(0, 1)])) (zq_ev rq (0, [(0, 1)])) (zq_ev rq (0, [(1, 1)])) (zq_ev rq (0, [(2, 1)])) P h; simp only [g0, g1, g2]; exact t1)) zq_fan)⟩
noncomputable def zc_gg : zq_S × List zq_S := (([], [], [(0, [(4, -1), (5, 1)])], [], [], [], [(241, [(0, [(0, 1)]), (0, [(1, 1)]), (0, [(3, 1)]), (0, [(4, 1)])]), (241, [(0, [(1, 1)]), (0, [(2, 1)]), (0, [(3, 1)]), (0, [(5, 1)])])], 6), [([], [], [], [], [], [], [(241, [(0, [(0, 1)]), (0, [(2, 1)]), (0, [(3, 1)]), (0, [(4, 1)])])], 6)])
theorem zc_gg_l {P : zq_Ty} {h : zq_H} {X Y Z l u w : Int} (a1 : 0 ≤ -u + w) (k1 : zc_AG X Y l u P h) (k2 : zc_AG Y Z l w P h) : (zc_AG X Z l u P h) := by
  exact fun j x y => (k2 j x (by omega)).trans (k1 j x y)
theorem zc_gg_ok {w : zq_Wd} (x_AG : zj_is w 241 (fun q => zc_AG (q 0) (q 1) (q 2) (q 3))) : zq_okG1 w zc_gg := by
  refine ⟨rfl, rfl, zu_fac ⟨rfl, by decide⟩ zq_fan, ?_⟩
  intro r P h H hM
  have q0 : zq_ev r (0, [(4, -1), (5, 1)]) = -r 4 + r 5 := by simp only [zq_ev, zq_ts] <;> omega
  have q1 : zq_ev r (0, [(0, 1)]) = r 0 := zu_e1 _ _
  have q2 : zq_ev r (0, [(1, 1)]) = r 1 := zu_e1 _ _
  have q3 : zq_ev r (0, [(3, 1)]) = r 3 := zu_e1 _ _
  have q4 : zq_ev r (0, [(4, 1)]) = r 4 := zu_e1 _ _
  have q5 : zq_ev r (0, [(2, 1)]) = r 2 := zu_e1 _ _
  have q6 : zq_ev r (0, [(5, 1)]) = r 5 := zu_e1 _ _
  obtain ⟨hT, hC, hF, hS, -, hK⟩ := hM
  have c := hC.1
  have a1 := zq_all_1 c
  rw [q0] at a1
  have k1 := zj_use x_AG (hK)
  have k1 : zc_AG (zq_ev r (0, [(0, 1)])) (zq_ev r (0, [(1, 1)])) (zq_ev r (0, [(3, 1)])) (zq_ev r (0, [(4, 1)])) P h := k1
  simp only [q1, q2, q3, q4] at k1
  have k2 := zj_use x_AG (zq_okX_t (hK))
  have k2 : zc_AG (zq_ev r (0, [(1, 1)])) (zq_ev r (0, [(2, 1)])) (zq_ev r (0, [(3, 1)])) (zq_ev r (0, [(5, 1)])) P h := k2
  simp only [q2, q3, q5, q6] at k2
  obtain t1 := zc_gg_l (P := P) (h := h) (X := r 0) (Y := r 1) (Z := r 2) (l := r 3) (u := r 4) (w := r 5) a1 k1 k2
  obtain ⟨rq, hr⟩ : ∃ rq : Nat → Int, (∀ i, i < 6 → rq i = r i) := ⟨r, fun i hi => rfl⟩
  have v0 : rq 0 = r 0 := hr 0 (by decide)
  have v2 : rq 2 = r 2 := hr 2 (by decide)
  have v3 : rq 3 = r 3 := hr 3 (by decide)
  have v4 : rq 4 = r 4 := hr 4 (by decide)
  have g0 : zq_ev rq (0, [(0, 1)]) = r 0 := zu_f1 v0
  have g1 : zq_ev rq (0, [(2, 1)]) = r 2 := zu_f1 v2
  have g2 : zq_ev rq (0, [(3, 1)]) = r 3 := zu_f1 v3
  have g3 : zq_ev rq (0, [(4, 1)]) = r 4 := zu_f1 v4
  exact ⟨_, List.mem_cons_self .., rq, hr, zq_MeS_mk rfl hT (zq_all_nil) zq_fan (zq_fan) rfl (zu_fac ((x_AG _ _ _).mpr (by show zc_AG (zq_ev rq (0, [(0, 1)])) (zq_ev rq (0, [(2, 1)])) (zq_ev rq (0, [(3, 1)])) (zq_ev rq (0, [(4, 1)])) P h; simp only [g0, g1, g2, g3]; exact t1)) zq_fan)⟩
noncomputable def zc_gs : zq_S × List zq_S := (([], [], [(0, [(2, -1), (4, 1)]), (0, [(3, 1), (5, -1)])], [], [], [], [(241, [(0, [(0, 1)]), (0, [(1, 1)]), (0, [(2, 1)]), (0, [(3, 1)])])], 6), [([], [], [], [], [], [], [(241, [(0, [(0, 1)]), (0, [(1, 1)]), (0, [(4, 1)]), (0, [(5, 1)])])], 6)])
theorem zc_gs_l {P : zq_Ty} {h : zq_H} {X Y l u m w : Int} (a1 : 0 ≤ -l + m) (a2 : 0 ≤ u - w) (k1 : zc_AG X Y l u P h) : (zc_AG X Y m w P h) := by
  exact fun j x y => k1 j (by omega) (by omega)
theorem zc_gs_ok {w : zq_Wd} (x_AG : zj_is w 241 (fun q => zc_AG (q 0) (q 1) (q 2) (q 3))) : zq_okG1 w zc_gs := by
  refine ⟨rfl, rfl, zu_fac ⟨rfl, by decide⟩ zq_fan, ?_⟩
  intro r P h H hM
  have q0 : zq_ev r (0, [(2, -1), (4, 1)]) = -r 2 + r 4 := by simp only [zq_ev, zq_ts] <;> omega
  have q1 : zq_ev r (0, [(3, 1), (5, -1)]) = r 3 - r 5 := by simp only [zq_ev, zq_ts] <;> omega
  have q2 : zq_ev r (0, [(0, 1)]) = r 0 := zu_e1 _ _
  have q3 : zq_ev r (0, [(1, 1)]) = r 1 := zu_e1 _ _
  have q4 : zq_ev r (0, [(2, 1)]) = r 2 := zu_e1 _ _
  have q5 : zq_ev r (0, [(3, 1)]) = r 3 := zu_e1 _ _
  obtain ⟨hT, hC, hF, hS, -, hK⟩ := hM
  have c := hC.1
  have a1 := zq_all_1 c
  rw [q0] at a1
  have c := zq_all_t c
  have a2 := zq_all_1 c
  rw [q1] at a2
  have k1 := zj_use x_AG (hK)
  have k1 : zc_AG (zq_ev r (0, [(0, 1)])) (zq_ev r (0, [(1, 1)])) (zq_ev r (0, [(2, 1)])) (zq_ev r (0, [(3, 1)])) P h := k1
  simp only [q2, q3, q4, q5] at k1
  obtain t1 := zc_gs_l (P := P) (h := h) (X := r 0) (Y := r 1) (l := r 2) (u := r 3) (m := r 4) (w := r 5) a1 a2 k1
  obtain ⟨rq, hr⟩ : ∃ rq : Nat → Int, (∀ i, i < 6 → rq i = r i) := ⟨r, fun i hi => rfl⟩
  have v0 : rq 0 = r 0 := hr 0 (by decide)
  have v1 : rq 1 = r 1 := hr 1 (by decide)
  have v4 : rq 4 = r 4 := hr 4 (by decide)
  have v5 : rq 5 = r 5 := hr 5 (by decide)
  have g0 : zq_ev rq (0, [(0, 1)]) = r 0 := zu_f1 v0
  have g1 : zq_ev rq (0, [(1, 1)]) = r 1 := zu_f1 v1
  have g2 : zq_ev rq (0, [(4, 1)]) = r 4 := zu_f1 v4
  have g3 : zq_ev rq (0, [(5, 1)]) = r 5 := zu_f1 v5
  exact ⟨_, List.mem_cons_self .., rq, hr, zq_MeS_mk rfl hT (zq_all_nil) zq_fan (zq_fan) rfl (zu_fac ((x_AG _ _ _).mpr (by show zc_AG (zq_ev rq (0, [(0, 1)])) (zq_ev rq (0, [(1, 1)])) (zq_ev rq (0, [(4, 1)])) (zq_ev rq (0, [(5, 1)])) P h; simp only [g0, g1, g2, g3]; exact t1)) zq_fan)⟩
noncomputable def zc_gd : zq_S × List zq_S := (([], [], [(0, [(2, -1), (4, 1)]), (-1, [(3, 1), (4, -1)])], [], [], [], [(241, [(0, [(0, 1)]), (0, [(1, 1)]), (0, [(2, 1)]), (0, [(3, 1)])]), (134, [(0, [(0, 1)]), (0, [(4, 1)]), (0, [(5, 1)])])], 6), [([], [], [], [], [], [], [(134, [(0, [(1, 1)]), (0, [(4, 1)]), (0, [(5, 1)])])], 6)])
theorem zc_gd_l {P : zq_Ty} {h : zq_H} {Y Z l u j v : Int} (a1 : 0 ≤ -l + j) (a2 : 0 ≤ u - j - 1) (k1 : zc_AG Y Z l u P h) (k2 : zn_DG Y j v P h) : (zn_DG Z j v P h) := by
  exact (show v = zn_dg Y j from k2).trans (k1 j (by omega) (by omega)).symm
theorem zc_gd_ok {w : zq_Wd} (x_AG : zj_is w 241 (fun q => zc_AG (q 0) (q 1) (q 2) (q 3))) (x_DG : zj_is w 134 (fun q => zn_DG (q 0) (q 1) (q 2))) : zq_okG1 w zc_gd := by
  refine ⟨rfl, rfl, zu_fac ⟨rfl, by decide⟩ zq_fan, ?_⟩
  intro r P h H hM
  have q0 : zq_ev r (0, [(2, -1), (4, 1)]) = -r 2 + r 4 := by simp only [zq_ev, zq_ts] <;> omega
  have q1 : zq_ev r (-1, [(3, 1), (4, -1)]) = r 3 - r 4 - 1 := by simp only [zq_ev, zq_ts] <;> omega
  have q2 : zq_ev r (0, [(0, 1)]) = r 0 := zu_e1 _ _
  have q3 : zq_ev r (0, [(1, 1)]) = r 1 := zu_e1 _ _
  have q4 : zq_ev r (0, [(2, 1)]) = r 2 := zu_e1 _ _
  have q5 : zq_ev r (0, [(3, 1)]) = r 3 := zu_e1 _ _
  have q6 : zq_ev r (0, [(4, 1)]) = r 4 := zu_e1 _ _
  have q7 : zq_ev r (0, [(5, 1)]) = r 5 := zu_e1 _ _
  obtain ⟨hT, hC, hF, hS, -, hK⟩ := hM
  have c := hC.1
  have a1 := zq_all_1 c
  rw [q0] at a1
  have c := zq_all_t c
  have a2 := zq_all_1 c
  rw [q1] at a2
  have k1 := zj_use x_AG (hK)
  have k1 : zc_AG (zq_ev r (0, [(0, 1)])) (zq_ev r (0, [(1, 1)])) (zq_ev r (0, [(2, 1)])) (zq_ev r (0, [(3, 1)])) P h := k1
  simp only [q2, q3, q4, q5] at k1
  have k2 := zj_use x_DG (zq_okX_t (hK))
  have k2 : zn_DG (zq_ev r (0, [(0, 1)])) (zq_ev r (0, [(4, 1)])) (zq_ev r (0, [(5, 1)])) P h := k2
  simp only [q2, q6, q7] at k2
  obtain t1 := zc_gd_l (P := P) (h := h) (Y := r 0) (Z := r 1) (l := r 2) (u := r 3) (j := r 4) (v := r 5) a1 a2 k1 k2
  obtain ⟨rq, hr⟩ : ∃ rq : Nat → Int, (∀ i, i < 6 → rq i = r i) := ⟨r, fun i hi => rfl⟩
  have v1 : rq 1 = r 1 := hr 1 (by decide)
  have v4 : rq 4 = r 4 := hr 4 (by decide)
  have v5 : rq 5 = r 5 := hr 5 (by decide)
  have g0 : zq_ev rq (0, [(1, 1)]) = r 1 := zu_f1 v1
  have g1 : zq_ev rq (0, [(4, 1)]) = r 4 := zu_f1 v4
  have g2 : zq_ev rq (0, [(5, 1)]) = r 5 := zu_f1 v5
  exact ⟨_, List.mem_cons_self .., rq, hr, zq_MeS_mk rfl hT (zq_all_nil) zq_fan (zq_fan) rfl (zu_fac ((x_DG _ _ _).mpr (by show zn_DG (zq_ev rq (0, [(1, 1)])) (zq_ev rq (0, [(4, 1)])) (zq_ev rq (0, [(5, 1)])) P h; simp only [g0, g1, g2]; exact t1)) zq_fan)⟩
noncomputable def zc_uP : zq_S × List zq_S := (([], [], [(0, [(5, 1), (11, -1)]), (0, [(6, -1), (12, 1)])], [], [], [], [(241, [(0, [(9, 1)]), (0, [(10, 1)]), (0, [(11, 1)]), (0, [(12, 1)])]), (243, [(0, [(0, 1)]), (0, [(1, 1)]), (0, [(2, 1)]), (0, [(9, 1)]), (0, [(3, 1)]), (0, [(4, 1)]), (0, [(5, 1)]), (0, [(6, 1)]), (0, [(7, 1)]), (0, [(8, 1)])])], 13), [([], [], [], [], [], [], [(243, [(0, [(0, 1)]), (0, [(1, 1)]), (0, [(2, 1)]), (0, [(10, 1)]), (0, [(3, 1)]), (0, [(4, 1)]), (0, [(5, 1)]), (0, [(6, 1)]), (0, [(7, 1)]), (0, [(8, 1)])])], 13)])
theorem zc_uP_l {P : zq_Ty} {h : zq_H} {o g n k d s t i j Y Z l u : Int} (a1 : 0 ≤ s - l) (a2 : 0 ≤ -t + u) (k1 : zc_AG Y Z l u P h) (k2 : zc_P o g n Y k d s t i j P h) : (zc_P o g n Z k d s t i j P h) := by
  exact zp_P_up k2 (fun q x y => k1 q (by omega) (by omega))
theorem zc_uP_ok {w : zq_Wd} (x_AG : zj_is w 241 (fun q => zc_AG (q 0) (q 1) (q 2) (q 3))) (x_P : zj_is w 243 (fun q => zc_P (q 0) (q 1) (q 2) (q 3) (q 4) (q 5) (q 6) (q 7) (q 8) (q 9))) : zq_okG1 w zc_uP := by
  refine ⟨rfl, rfl, zu_fac ⟨rfl, by decide⟩ zq_fan, ?_⟩
  intro r P h H hM
  have q0 : zq_ev r (0, [(5, 1), (11, -1)]) = r 5 - r 11 := by simp only [zq_ev, zq_ts] <;> omega
  have q1 : zq_ev r (0, [(6, -1), (12, 1)]) = -r 6 + r 12 := by simp only [zq_ev, zq_ts] <;> omega
  have q2 : zq_ev r (0, [(9, 1)]) = r 9 := zu_e1 _ _
  have q3 : zq_ev r (0, [(10, 1)]) = r 10 := zu_e1 _ _
  have q4 : zq_ev r (0, [(11, 1)]) = r 11 := zu_e1 _ _
  have q5 : zq_ev r (0, [(12, 1)]) = r 12 := zu_e1 _ _
  have q6 : zq_ev r (0, [(0, 1)]) = r 0 := zu_e1 _ _
  have q7 : zq_ev r (0, [(1, 1)]) = r 1 := zu_e1 _ _
  have q8 : zq_ev r (0, [(2, 1)]) = r 2 := zu_e1 _ _
  have q9 : zq_ev r (0, [(3, 1)]) = r 3 := zu_e1 _ _
  have q10 : zq_ev r (0, [(4, 1)]) = r 4 := zu_e1 _ _
  have q11 : zq_ev r (0, [(5, 1)]) = r 5 := zu_e1 _ _
  have q12 : zq_ev r (0, [(6, 1)]) = r 6 := zu_e1 _ _
  have q13 : zq_ev r (0, [(7, 1)]) = r 7 := zu_e1 _ _
  have q14 : zq_ev r (0, [(8, 1)]) = r 8 := zu_e1 _ _
  obtain ⟨hT, hC, hF, hS, -, hK⟩ := hM
  have c := hC.1
  have a1 := zq_all_1 c
  rw [q0] at a1
  have c := zq_all_t c
  have a2 := zq_all_1 c
  rw [q1] at a2
  have k1 := zj_use x_AG (hK)
  have k1 : zc_AG (zq_ev r (0, [(9, 1)])) (zq_ev r (0, [(10, 1)])) (zq_ev r (0, [(11, 1)])) (zq_ev r (0, [(12, 1)])) P h := k1
  simp only [q2, q3, q4, q5] at k1
  have k2 := zj_use x_P (zq_okX_t (hK))
  have k2 : zc_P (zq_ev r (0, [(0, 1)])) (zq_ev r (0, [(1, 1)])) (zq_ev r (0, [(2, 1)])) (zq_ev r (0, [(9, 1)])) (zq_ev r (0, [(3, 1)])) (zq_ev r (0, [(4, 1)])) (zq_ev r (0, [(5, 1)])) (zq_ev r (0, [(6, 1)])) (zq_ev r (0, [(7, 1)])) (zq_ev r (0, [(8, 1)])) P h := k2
  simp only [q10, q11, q12, q13, q14, q2, q6, q7, q8, q9] at k2
  obtain t1 := zc_uP_l (P := P) (h := h) (o := r 0) (g := r 1) (n := r 2) (k := r 3) (d := r 4) (s := r 5) (t := r 6) (i := r 7) (j := r 8) (Y := r 9) (Z := r 10) (l := r 11) (u := r 12) a1 a2 k1 k2
  obtain ⟨rq, hr⟩ : ∃ rq : Nat → Int, (∀ i, i < 13 → rq i = r i) := ⟨r, fun i hi => rfl⟩
  have v0 : rq 0 = r 0 := hr 0 (by decide)
  have v1 : rq 1 = r 1 := hr 1 (by decide)
  have v2 : rq 2 = r 2 := hr 2 (by decide)
  have v3 : rq 3 = r 3 := hr 3 (by decide)
  have v4 : rq 4 = r 4 := hr 4 (by decide)
  have v5 : rq 5 = r 5 := hr 5 (by decide)
  have v6 : rq 6 = r 6 := hr 6 (by decide)
  have v7 : rq 7 = r 7 := hr 7 (by decide)
  have v8 : rq 8 = r 8 := hr 8 (by decide)
  have v10 : rq 10 = r 10 := hr 10 (by decide)
  have g0 : zq_ev rq (0, [(0, 1)]) = r 0 := zu_f1 v0
  have g1 : zq_ev rq (0, [(1, 1)]) = r 1 := zu_f1 v1
  have g2 : zq_ev rq (0, [(2, 1)]) = r 2 := zu_f1 v2
  have g3 : zq_ev rq (0, [(10, 1)]) = r 10 := zu_f1 v10
  have g4 : zq_ev rq (0, [(3, 1)]) = r 3 := zu_f1 v3
  have g5 : zq_ev rq (0, [(4, 1)]) = r 4 := zu_f1 v4
  have g6 : zq_ev rq (0, [(5, 1)]) = r 5 := zu_f1 v5
  have g7 : zq_ev rq (0, [(6, 1)]) = r 6 := zu_f1 v6
  have g8 : zq_ev rq (0, [(7, 1)]) = r 7 := zu_f1 v7
  have g9 : zq_ev rq (0, [(8, 1)]) = r 8 := zu_f1 v8
  exact ⟨_, List.mem_cons_self .., rq, hr, zq_MeS_mk rfl hT (zq_all_nil) zq_fan (zq_fan) rfl (zu_fac ((x_P _ _ _).mpr (by show zc_P (zq_ev rq (0, [(0, 1)])) (zq_ev rq (0, [(1, 1)])) (zq_ev rq (0, [(2, 1)])) (zq_ev rq (0, [(10, 1)])) (zq_ev rq (0, [(3, 1)])) (zq_ev rq (0, [(4, 1)])) (zq_ev rq (0, [(5, 1)])) (zq_ev rq (0, [(6, 1)])) (zq_ev rq (0, [(7, 1)])) (zq_ev rq (0, [(8, 1)])) P h; simp only [g0, g1, g2, g3, g4, g5, g6, g7, g8, g9]; exact t1)) zq_fan)⟩
noncomputable def zc_uT : zq_S × List zq_S := (([], [], [(0, [(5, 1), (11, -1)]), (0, [(6, -1), (12, 1)])], [], [], [], [(241, [(0, [(9, 1)]), (0, [(10, 1)]), (0, [(11, 1)]), (0, [(12, 1)])]), (244, [(0, [(0, 1)]), (0, [(1, 1)]), (0, [(2, 1)]), (0, [(9, 1)]), (0, [(3, 1)]), (0, [(4, 1)]), (0, [(5, 1)]), (0, [(6, 1)]), (0, [(7, 1)]), (0, [(8, 1)])])], 13), [([], [], [], [], [], [], [(244, [(0, [(0, 1)]), (0, [(1, 1)]), (0, [(2, 1)]), (0, [(10, 1)]), (0, [(3, 1)]), (0, [(4, 1)]), (0, [(5, 1)]), (0, [(6, 1)]), (0, [(7, 1)]), (0, [(8, 1)])])], 13)])
theorem zc_uT_l {P : zq_Ty} {h : zq_H} {o g n k d s t i j Y Z l u : Int} (a1 : 0 ≤ s - l) (a2 : 0 ≤ -t + u) (k1 : zc_AG Y Z l u P h) (k2 : zc_T o g n Y k d s t i j P h) : (zc_T o g n Z k d s t i j P h) := by
  exact zp_T_up k2 (fun q x y => k1 q (by omega) (by omega))
theorem zc_uT_ok {w : zq_Wd} (x_AG : zj_is w 241 (fun q => zc_AG (q 0) (q 1) (q 2) (q 3))) (x_T : zj_is w 244 (fun q => zc_T (q 0) (q 1) (q 2) (q 3) (q 4) (q 5) (q 6) (q 7) (q 8) (q 9))) : zq_okG1 w zc_uT := by
  refine ⟨rfl, rfl, zu_fac ⟨rfl, by decide⟩ zq_fan, ?_⟩
  intro r P h H hM
  have q0 : zq_ev r (0, [(5, 1), (11, -1)]) = r 5 - r 11 := by simp only [zq_ev, zq_ts] <;> omega
  have q1 : zq_ev r (0, [(6, -1), (12, 1)]) = -r 6 + r 12 := by simp only [zq_ev, zq_ts] <;> omega
  have q2 : zq_ev r (0, [(9, 1)]) = r 9 := zu_e1 _ _
  have q3 : zq_ev r (0, [(10, 1)]) = r 10 := zu_e1 _ _
  have q4 : zq_ev r (0, [(11, 1)]) = r 11 := zu_e1 _ _
  have q5 : zq_ev r (0, [(12, 1)]) = r 12 := zu_e1 _ _
  have q6 : zq_ev r (0, [(0, 1)]) = r 0 := zu_e1 _ _
  have q7 : zq_ev r (0, [(1, 1)]) = r 1 := zu_e1 _ _
  have q8 : zq_ev r (0, [(2, 1)]) = r 2 := zu_e1 _ _
  have q9 : zq_ev r (0, [(3, 1)]) = r 3 := zu_e1 _ _
  have q10 : zq_ev r (0, [(4, 1)]) = r 4 := zu_e1 _ _
  have q11 : zq_ev r (0, [(5, 1)]) = r 5 := zu_e1 _ _
  have q12 : zq_ev r (0, [(6, 1)]) = r 6 := zu_e1 _ _
  have q13 : zq_ev r (0, [(7, 1)]) = r 7 := zu_e1 _ _
  have q14 : zq_ev r (0, [(8, 1)]) = r 8 := zu_e1 _ _
  obtain ⟨hT, hC, hF, hS, -, hK⟩ := hM
  have c := hC.1
  have a1 := zq_all_1 c
  rw [q0] at a1
  have c := zq_all_t c
  have a2 := zq_all_1 c
  rw [q1] at a2
  have k1 := zj_use x_AG (hK)
  have k1 : zc_AG (zq_ev r (0, [(9, 1)])) (zq_ev r (0, [(10, 1)])) (zq_ev r (0, [(11, 1)])) (zq_ev r (0, [(12, 1)])) P h := k1
  simp only [q2, q3, q4, q5] at k1
  have k2 := zj_use x_T (zq_okX_t (hK))
  have k2 : zc_T (zq_ev r (0, [(0, 1)])) (zq_ev r (0, [(1, 1)])) (zq_ev r (0, [(2, 1)])) (zq_ev r (0, [(9, 1)])) (zq_ev r (0, [(3, 1)])) (zq_ev r (0, [(4, 1)])) (zq_ev r (0, [(5, 1)])) (zq_ev r (0, [(6, 1)])) (zq_ev r (0, [(7, 1)])) (zq_ev r (0, [(8, 1)])) P h := k2
  simp only [q10, q11, q12, q13, q14, q2, q6, q7, q8, q9] at k2
  obtain t1 := zc_uT_l (P := P) (h := h) (o := r 0) (g := r 1) (n := r 2) (k := r 3) (d := r 4) (s := r 5) (t := r 6) (i := r 7) (j := r 8) (Y := r 9) (Z := r 10) (l := r 11) (u := r 12) a1 a2 k1 k2
  obtain ⟨rq, hr⟩ : ∃ rq : Nat → Int, (∀ i, i < 13 → rq i = r i) := ⟨r, fun i hi => rfl⟩
  have v0 : rq 0 = r 0 := hr 0 (by decide)
  have v1 : rq 1 = r 1 := hr 1 (by decide)
  have v2 : rq 2 = r 2 := hr 2 (by decide)
  have v3 : rq 3 = r 3 := hr 3 (by decide)
  have v4 : rq 4 = r 4 := hr 4 (by decide)
  have v5 : rq 5 = r 5 := hr 5 (by decide)
  have v6 : rq 6 = r 6 := hr 6 (by decide)
  have v7 : rq 7 = r 7 := hr 7 (by decide)
  have v8 : rq 8 = r 8 := hr 8 (by decide)
  have v10 : rq 10 = r 10 := hr 10 (by decide)
  have g0 : zq_ev rq (0, [(0, 1)]) = r 0 := zu_f1 v0
  have g1 : zq_ev rq (0, [(1, 1)]) = r 1 := zu_f1 v1
  have g2 : zq_ev rq (0, [(2, 1)]) = r 2 := zu_f1 v2
  have g3 : zq_ev rq (0, [(10, 1)]) = r 10 := zu_f1 v10
  have g4 : zq_ev rq (0, [(3, 1)]) = r 3 := zu_f1 v3
  have g5 : zq_ev rq (0, [(4, 1)]) = r 4 := zu_f1 v4
  have g6 : zq_ev rq (0, [(5, 1)]) = r 5 := zu_f1 v5
  have g7 : zq_ev rq (0, [(6, 1)]) = r 6 := zu_f1 v6
  have g8 : zq_ev rq (0, [(7, 1)]) = r 7 := zu_f1 v7
  have g9 : zq_ev rq (0, [(8, 1)]) = r 8 := zu_f1 v8
  exact ⟨_, List.mem_cons_self .., rq, hr, zq_MeS_mk rfl hT (zq_all_nil) zq_fan (zq_fan) rfl (zu_fac ((x_T _ _ _).mpr (by show zc_T (zq_ev rq (0, [(0, 1)])) (zq_ev rq (0, [(1, 1)])) (zq_ev rq (0, [(2, 1)])) (zq_ev rq (0, [(10, 1)])) (zq_ev rq (0, [(3, 1)])) (zq_ev rq (0, [(4, 1)])) (zq_ev rq (0, [(5, 1)])) (zq_ev rq (0, [(6, 1)])) (zq_ev rq (0, [(7, 1)])) (zq_ev rq (0, [(8, 1)])) P h; simp only [g0, g1, g2, g3, g4, g5, g6, g7, g8, g9]; exact t1)) zq_fan)⟩
noncomputable def zc_uQ0 : zq_S × List zq_S := (([], [], [(0, [(4, 1), (12, -1)]), (0, [(5, -1), (13, 1)])], [], [], [], [(241, [(0, [(10, 1)]), (0, [(11, 1)]), (0, [(12, 1)]), (0, [(13, 1)])]), (245, [(0, [(0, 1)]), (0, [(1, 1)]), (0, [(2, 1)]), (0, [(10, 1)]), (0, [(3, 1)]), (0, [(4, 1)]), (0, [(5, 1)]), (0, [(6, 1)]), (0, [(7, 1)]), (0, [(8, 1)]), (0, [(9, 1)])])], 14), [([], [], [], [], [], [], [(245, [(0, [(0, 1)]), (0, [(1, 1)]), (0, [(2, 1)]), (0, [(11, 1)]), (0, [(3, 1)]), (0, [(4, 1)]), (0, [(5, 1)]), (0, [(6, 1)]), (0, [(7, 1)]), (0, [(8, 1)]), (0, [(9, 1)])])], 14)])
theorem zc_uQ0_l {P : zq_Ty} {h : zq_H} {o g n d s t i j A S Y Z l u : Int} (a1 : 0 ≤ s - l) (a2 : 0 ≤ -t + u) (k1 : zc_AG Y Z l u P h) (k2 : zc_Q0m o g n Y d s t i j A S P h) : (zc_Q0m o g n Z d s t i j A S P h) := by
  exact zp_Q0_up k2 (fun q x y => k1 q (by omega) (by omega))
theorem zc_uQ0_ok {w : zq_Wd} (x_AG : zj_is w 241 (fun q => zc_AG (q 0) (q 1) (q 2) (q 3))) (x_Q0 : zj_is w 245 (fun q => zc_Q0m (q 0) (q 1) (q 2) (q 3) (q 4) (q 5) (q 6) (q 7) (q 8) (q 9) (q 10))) : zq_okG1 w zc_uQ0 := by
  refine ⟨rfl, rfl, zu_fac ⟨rfl, by decide⟩ zq_fan, ?_⟩
  intro r P h H hM
  have q0 : zq_ev r (0, [(4, 1), (12, -1)]) = r 4 - r 12 := by simp only [zq_ev, zq_ts] <;> omega
  have q1 : zq_ev r (0, [(5, -1), (13, 1)]) = -r 5 + r 13 := by simp only [zq_ev, zq_ts] <;> omega
  have q2 : zq_ev r (0, [(10, 1)]) = r 10 := zu_e1 _ _
  have q3 : zq_ev r (0, [(11, 1)]) = r 11 := zu_e1 _ _
  have q4 : zq_ev r (0, [(12, 1)]) = r 12 := zu_e1 _ _
  have q5 : zq_ev r (0, [(13, 1)]) = r 13 := zu_e1 _ _
  have q6 : zq_ev r (0, [(0, 1)]) = r 0 := zu_e1 _ _
  have q7 : zq_ev r (0, [(1, 1)]) = r 1 := zu_e1 _ _
  have q8 : zq_ev r (0, [(2, 1)]) = r 2 := zu_e1 _ _
  have q9 : zq_ev r (0, [(3, 1)]) = r 3 := zu_e1 _ _
  have q10 : zq_ev r (0, [(4, 1)]) = r 4 := zu_e1 _ _
  have q11 : zq_ev r (0, [(5, 1)]) = r 5 := zu_e1 _ _
  have q12 : zq_ev r (0, [(6, 1)]) = r 6 := zu_e1 _ _
  have q13 : zq_ev r (0, [(7, 1)]) = r 7 := zu_e1 _ _
  have q14 : zq_ev r (0, [(8, 1)]) = r 8 := zu_e1 _ _
  have q15 : zq_ev r (0, [(9, 1)]) = r 9 := zu_e1 _ _
  obtain ⟨hT, hC, hF, hS, -, hK⟩ := hM
  have c := hC.1
  have a1 := zq_all_1 c
  rw [q0] at a1
  have c := zq_all_t c
  have a2 := zq_all_1 c
  rw [q1] at a2
  have k1 := zj_use x_AG (hK)
  have k1 : zc_AG (zq_ev r (0, [(10, 1)])) (zq_ev r (0, [(11, 1)])) (zq_ev r (0, [(12, 1)])) (zq_ev r (0, [(13, 1)])) P h := k1
  simp only [q2, q3, q4, q5] at k1
  have k2 := zj_use x_Q0 (zq_okX_t (hK))
  have k2 : zc_Q0m (zq_ev r (0, [(0, 1)])) (zq_ev r (0, [(1, 1)])) (zq_ev r (0, [(2, 1)])) (zq_ev r (0, [(10, 1)])) (zq_ev r (0, [(3, 1)])) (zq_ev r (0, [(4, 1)])) (zq_ev r (0, [(5, 1)])) (zq_ev r (0, [(6, 1)])) (zq_ev r (0, [(7, 1)])) (zq_ev r (0, [(8, 1)])) (zq_ev r (0, [(9, 1)])) P h := k2
  simp only [q10, q11, q12, q13, q14, q15, q2, q6, q7, q8, q9] at k2
  obtain t1 := zc_uQ0_l (P := P) (h := h) (o := r 0) (g := r 1) (n := r 2) (d := r 3) (s := r 4) (t := r 5) (i := r 6) (j := r 7) (A := r 8) (S := r 9) (Y := r 10) (Z := r 11) (l := r 12) (u := r 13) a1 a2 k1 k2
  obtain ⟨rq, hr⟩ : ∃ rq : Nat → Int, (∀ i, i < 14 → rq i = r i) := ⟨r, fun i hi => rfl⟩
  have v0 : rq 0 = r 0 := hr 0 (by decide)
  have v1 : rq 1 = r 1 := hr 1 (by decide)
  have v2 : rq 2 = r 2 := hr 2 (by decide)
  have v3 : rq 3 = r 3 := hr 3 (by decide)
  have v4 : rq 4 = r 4 := hr 4 (by decide)
  have v5 : rq 5 = r 5 := hr 5 (by decide)
  have v6 : rq 6 = r 6 := hr 6 (by decide)
  have v7 : rq 7 = r 7 := hr 7 (by decide)
  have v8 : rq 8 = r 8 := hr 8 (by decide)
  have v9 : rq 9 = r 9 := hr 9 (by decide)
  have v11 : rq 11 = r 11 := hr 11 (by decide)
  have g0 : zq_ev rq (0, [(0, 1)]) = r 0 := zu_f1 v0
  have g1 : zq_ev rq (0, [(1, 1)]) = r 1 := zu_f1 v1
  have g2 : zq_ev rq (0, [(2, 1)]) = r 2 := zu_f1 v2
  have g3 : zq_ev rq (0, [(11, 1)]) = r 11 := zu_f1 v11
  have g4 : zq_ev rq (0, [(3, 1)]) = r 3 := zu_f1 v3
  have g5 : zq_ev rq (0, [(4, 1)]) = r 4 := zu_f1 v4
  have g6 : zq_ev rq (0, [(5, 1)]) = r 5 := zu_f1 v5
  have g7 : zq_ev rq (0, [(6, 1)]) = r 6 := zu_f1 v6
  have g8 : zq_ev rq (0, [(7, 1)]) = r 7 := zu_f1 v7
  have g9 : zq_ev rq (0, [(8, 1)]) = r 8 := zu_f1 v8
  have g10 : zq_ev rq (0, [(9, 1)]) = r 9 := zu_f1 v9
  exact ⟨_, List.mem_cons_self .., rq, hr, zq_MeS_mk rfl hT (zq_all_nil) zq_fan (zq_fan) rfl (zu_fac ((x_Q0 _ _ _).mpr (by show zc_Q0m (zq_ev rq (0, [(0, 1)])) (zq_ev rq (0, [(1, 1)])) (zq_ev rq (0, [(2, 1)])) (zq_ev rq (0, [(11, 1)])) (zq_ev rq (0, [(3, 1)])) (zq_ev rq (0, [(4, 1)])) (zq_ev rq (0, [(5, 1)])) (zq_ev rq (0, [(6, 1)])) (zq_ev rq (0, [(7, 1)])) (zq_ev rq (0, [(8, 1)])) (zq_ev rq (0, [(9, 1)])) P h; simp only [g0, g1, g10, g2, g3, g4, g5, g6, g7, g8, g9]; exact t1)) zq_fan)⟩
noncomputable def zc_uQ1 : zq_S × List zq_S := (([], [], [(0, [(4, 1), (11, -1)]), (0, [(5, -1), (12, 1)])], [], [], [], [(241, [(0, [(9, 1)]), (0, [(10, 1)]), (0, [(11, 1)]), (0, [(12, 1)])]), (246, [(0, [(0, 1)]), (0, [(1, 1)]), (0, [(2, 1)]), (0, [(9, 1)]), (0, [(3, 1)]), (0, [(4, 1)]), (0, [(5, 1)]), (0, [(6, 1)]), (0, [(7, 1)]), (0, [(8, 1)])])], 13), [([], [], [], [], [], [], [(246, [(0, [(0, 1)]), (0, [(1, 1)]), (0, [(2, 1)]), (0, [(10, 1)]), (0, [(3, 1)]), (0, [(4, 1)]), (0, [(5, 1)]), (0, [(6, 1)]), (0, [(7, 1)]), (0, [(8, 1)])])], 13)])
theorem zc_uQ1_l {P : zq_Ty} {h : zq_H} {o g n d s t i j A Y Z l u : Int} (a1 : 0 ≤ s - l) (a2 : 0 ≤ -t + u) (k1 : zc_AG Y Z l u P h) (k2 : zc_Q1m o g n Y d s t i j A P h) : (zc_Q1m o g n Z d s t i j A P h) := by
  exact zp_Q1_up k2 (fun q x y => k1 q (by omega) (by omega))
theorem zc_uQ1_ok {w : zq_Wd} (x_AG : zj_is w 241 (fun q => zc_AG (q 0) (q 1) (q 2) (q 3))) (x_Q1 : zj_is w 246 (fun q => zc_Q1m (q 0) (q 1) (q 2) (q 3) (q 4) (q 5) (q 6) (q 7) (q 8) (q 9))) : zq_okG1 w zc_uQ1 := by
  refine ⟨rfl, rfl, zu_fac ⟨rfl, by decide⟩ zq_fan, ?_⟩
  intro r P h H hM
  have q0 : zq_ev r (0, [(4, 1), (11, -1)]) = r 4 - r 11 := by simp only [zq_ev, zq_ts] <;> omega
  have q1 : zq_ev r (0, [(5, -1), (12, 1)]) = -r 5 + r 12 := by simp only [zq_ev, zq_ts] <;> omega
  have q2 : zq_ev r (0, [(9, 1)]) = r 9 := zu_e1 _ _
  have q3 : zq_ev r (0, [(10, 1)]) = r 10 := zu_e1 _ _
  have q4 : zq_ev r (0, [(11, 1)]) = r 11 := zu_e1 _ _
  have q5 : zq_ev r (0, [(12, 1)]) = r 12 := zu_e1 _ _
  have q6 : zq_ev r (0, [(0, 1)]) = r 0 := zu_e1 _ _
  have q7 : zq_ev r (0, [(1, 1)]) = r 1 := zu_e1 _ _
  have q8 : zq_ev r (0, [(2, 1)]) = r 2 := zu_e1 _ _
  have q9 : zq_ev r (0, [(3, 1)]) = r 3 := zu_e1 _ _
  have q10 : zq_ev r (0, [(4, 1)]) = r 4 := zu_e1 _ _
  have q11 : zq_ev r (0, [(5, 1)]) = r 5 := zu_e1 _ _
  have q12 : zq_ev r (0, [(6, 1)]) = r 6 := zu_e1 _ _
  have q13 : zq_ev r (0, [(7, 1)]) = r 7 := zu_e1 _ _
  have q14 : zq_ev r (0, [(8, 1)]) = r 8 := zu_e1 _ _
  obtain ⟨hT, hC, hF, hS, -, hK⟩ := hM
  have c := hC.1
  have a1 := zq_all_1 c
  rw [q0] at a1
  have c := zq_all_t c
  have a2 := zq_all_1 c
  rw [q1] at a2
  have k1 := zj_use x_AG (hK)
  have k1 : zc_AG (zq_ev r (0, [(9, 1)])) (zq_ev r (0, [(10, 1)])) (zq_ev r (0, [(11, 1)])) (zq_ev r (0, [(12, 1)])) P h := k1
  simp only [q2, q3, q4, q5] at k1
  have k2 := zj_use x_Q1 (zq_okX_t (hK))
  have k2 : zc_Q1m (zq_ev r (0, [(0, 1)])) (zq_ev r (0, [(1, 1)])) (zq_ev r (0, [(2, 1)])) (zq_ev r (0, [(9, 1)])) (zq_ev r (0, [(3, 1)])) (zq_ev r (0, [(4, 1)])) (zq_ev r (0, [(5, 1)])) (zq_ev r (0, [(6, 1)])) (zq_ev r (0, [(7, 1)])) (zq_ev r (0, [(8, 1)])) P h := k2
  simp only [q10, q11, q12, q13, q14, q2, q6, q7, q8, q9] at k2
  obtain t1 := zc_uQ1_l (P := P) (h := h) (o := r 0) (g := r 1) (n := r 2) (d := r 3) (s := r 4) (t := r 5) (i := r 6) (j := r 7) (A := r 8) (Y := r 9) (Z := r 10) (l := r 11) (u := r 12) a1 a2 k1 k2
  obtain ⟨rq, hr⟩ : ∃ rq : Nat → Int, (∀ i, i < 13 → rq i = r i) := ⟨r, fun i hi => rfl⟩
  have v0 : rq 0 = r 0 := hr 0 (by decide)
  have v1 : rq 1 = r 1 := hr 1 (by decide)
  have v2 : rq 2 = r 2 := hr 2 (by decide)
  have v3 : rq 3 = r 3 := hr 3 (by decide)
  have v4 : rq 4 = r 4 := hr 4 (by decide)
  have v5 : rq 5 = r 5 := hr 5 (by decide)
  have v6 : rq 6 = r 6 := hr 6 (by decide)
  have v7 : rq 7 = r 7 := hr 7 (by decide)
  have v8 : rq 8 = r 8 := hr 8 (by decide)
  have v10 : rq 10 = r 10 := hr 10 (by decide)
  have g0 : zq_ev rq (0, [(0, 1)]) = r 0 := zu_f1 v0
  have g1 : zq_ev rq (0, [(1, 1)]) = r 1 := zu_f1 v1
  have g2 : zq_ev rq (0, [(2, 1)]) = r 2 := zu_f1 v2
  have g3 : zq_ev rq (0, [(10, 1)]) = r 10 := zu_f1 v10
  have g4 : zq_ev rq (0, [(3, 1)]) = r 3 := zu_f1 v3
  have g5 : zq_ev rq (0, [(4, 1)]) = r 4 := zu_f1 v4
  have g6 : zq_ev rq (0, [(5, 1)]) = r 5 := zu_f1 v5
  have g7 : zq_ev rq (0, [(6, 1)]) = r 6 := zu_f1 v6
  have g8 : zq_ev rq (0, [(7, 1)]) = r 7 := zu_f1 v7
  have g9 : zq_ev rq (0, [(8, 1)]) = r 8 := zu_f1 v8
  exact ⟨_, List.mem_cons_self .., rq, hr, zq_MeS_mk rfl hT (zq_all_nil) zq_fan (zq_fan) rfl (zu_fac ((x_Q1 _ _ _).mpr (by show zc_Q1m (zq_ev rq (0, [(0, 1)])) (zq_ev rq (0, [(1, 1)])) (zq_ev rq (0, [(2, 1)])) (zq_ev rq (0, [(10, 1)])) (zq_ev rq (0, [(3, 1)])) (zq_ev rq (0, [(4, 1)])) (zq_ev rq (0, [(5, 1)])) (zq_ev rq (0, [(6, 1)])) (zq_ev rq (0, [(7, 1)])) (zq_ev rq (0, [(8, 1)])) P h; simp only [g0, g1, g2, g3, g4, g5, g6, g7, g8, g9]; exact t1)) zq_fan)⟩
noncomputable def zc_uQ1n : zq_S × List zq_S := (([], [], [(0, [(4, 1), (11, -1)]), (0, [(5, -1), (12, 1)])], [], [], [], [(241, [(0, [(9, 1)]), (0, [(10, 1)]), (0, [(11, 1)]), (0, [(12, 1)])]), (250, [(0, [(0, 1)]), (0, [(1, 1)]), (0, [(2, 1)]), (0, [(9, 1)]), (0, [(3, 1)]), (0, [(4, 1)]), (0, [(5, 1)]), (0, [(6, 1)]), (0, [(7, 1)]), (0, [(8, 1)])])], 13), [([], [], [], [], [], [], [(250, [(0, [(0, 1)]), (0, [(1, 1)]), (0, [(2, 1)]), (0, [(10, 1)]), (0, [(3, 1)]), (0, [(4, 1)]), (0, [(5, 1)]), (0, [(6, 1)]), (0, [(7, 1)]), (0, [(8, 1)])])], 13)])
theorem zc_uQ1n_l {P : zq_Ty} {h : zq_H} {o g n d s t i j A Y Z l u : Int} (a1 : 0 ≤ s - l) (a2 : 0 ≤ -t + u) (k1 : zc_AG Y Z l u P h) (k2 : zc_Q1n o g n Y d s t i j A P h) : (zc_Q1n o g n Z d s t i j A P h) := by
  exact zc_Q1n_up k2 (fun q x y => k1 q (by omega) (by omega))
theorem zc_uQ1n_ok {w : zq_Wd} (x_AG : zj_is w 241 (fun q => zc_AG (q 0) (q 1) (q 2) (q 3))) (x_Q1n : zj_is w 250 (fun q => zc_Q1n (q 0) (q 1) (q 2) (q 3) (q 4) (q 5) (q 6) (q 7) (q 8) (q 9))) : zq_okG1 w zc_uQ1n := by
  refine ⟨rfl, rfl, zu_fac ⟨rfl, by decide⟩ zq_fan, ?_⟩
  intro r P h H hM
  have q0 : zq_ev r (0, [(4, 1), (11, -1)]) = r 4 - r 11 := by simp only [zq_ev, zq_ts] <;> omega
  have q1 : zq_ev r (0, [(5, -1), (12, 1)]) = -r 5 + r 12 := by simp only [zq_ev, zq_ts] <;> omega
  have q2 : zq_ev r (0, [(9, 1)]) = r 9 := zu_e1 _ _
  have q3 : zq_ev r (0, [(10, 1)]) = r 10 := zu_e1 _ _
  have q4 : zq_ev r (0, [(11, 1)]) = r 11 := zu_e1 _ _
  have q5 : zq_ev r (0, [(12, 1)]) = r 12 := zu_e1 _ _
  have q6 : zq_ev r (0, [(0, 1)]) = r 0 := zu_e1 _ _
  have q7 : zq_ev r (0, [(1, 1)]) = r 1 := zu_e1 _ _
  have q8 : zq_ev r (0, [(2, 1)]) = r 2 := zu_e1 _ _
  have q9 : zq_ev r (0, [(3, 1)]) = r 3 := zu_e1 _ _
  have q10 : zq_ev r (0, [(4, 1)]) = r 4 := zu_e1 _ _
  have q11 : zq_ev r (0, [(5, 1)]) = r 5 := zu_e1 _ _
  have q12 : zq_ev r (0, [(6, 1)]) = r 6 := zu_e1 _ _
  have q13 : zq_ev r (0, [(7, 1)]) = r 7 := zu_e1 _ _
  have q14 : zq_ev r (0, [(8, 1)]) = r 8 := zu_e1 _ _
  obtain ⟨hT, hC, hF, hS, -, hK⟩ := hM
  have c := hC.1
  have a1 := zq_all_1 c
  rw [q0] at a1
  have c := zq_all_t c
  have a2 := zq_all_1 c
  rw [q1] at a2
  have k1 := zj_use x_AG (hK)
  have k1 : zc_AG (zq_ev r (0, [(9, 1)])) (zq_ev r (0, [(10, 1)])) (zq_ev r (0, [(11, 1)])) (zq_ev r (0, [(12, 1)])) P h := k1
  simp only [q2, q3, q4, q5] at k1
  have k2 := zj_use x_Q1n (zq_okX_t (hK))
  have k2 : zc_Q1n (zq_ev r (0, [(0, 1)])) (zq_ev r (0, [(1, 1)])) (zq_ev r (0, [(2, 1)])) (zq_ev r (0, [(9, 1)])) (zq_ev r (0, [(3, 1)])) (zq_ev r (0, [(4, 1)])) (zq_ev r (0, [(5, 1)])) (zq_ev r (0, [(6, 1)])) (zq_ev r (0, [(7, 1)])) (zq_ev r (0, [(8, 1)])) P h := k2
  simp only [q10, q11, q12, q13, q14, q2, q6, q7, q8, q9] at k2
  obtain t1 := zc_uQ1n_l (P := P) (h := h) (o := r 0) (g := r 1) (n := r 2) (d := r 3) (s := r 4) (t := r 5) (i := r 6) (j := r 7) (A := r 8) (Y := r 9) (Z := r 10) (l := r 11) (u := r 12) a1 a2 k1 k2
  obtain ⟨rq, hr⟩ : ∃ rq : Nat → Int, (∀ i, i < 13 → rq i = r i) := ⟨r, fun i hi => rfl⟩
  have v0 : rq 0 = r 0 := hr 0 (by decide)
  have v1 : rq 1 = r 1 := hr 1 (by decide)
  have v2 : rq 2 = r 2 := hr 2 (by decide)
  have v3 : rq 3 = r 3 := hr 3 (by decide)
  have v4 : rq 4 = r 4 := hr 4 (by decide)
  have v5 : rq 5 = r 5 := hr 5 (by decide)
  have v6 : rq 6 = r 6 := hr 6 (by decide)
  have v7 : rq 7 = r 7 := hr 7 (by decide)
  have v8 : rq 8 = r 8 := hr 8 (by decide)
  have v10 : rq 10 = r 10 := hr 10 (by decide)
  have g0 : zq_ev rq (0, [(0, 1)]) = r 0 := zu_f1 v0
  have g1 : zq_ev rq (0, [(1, 1)]) = r 1 := zu_f1 v1
  have g2 : zq_ev rq (0, [(2, 1)]) = r 2 := zu_f1 v2
  have g3 : zq_ev rq (0, [(10, 1)]) = r 10 := zu_f1 v10
  have g4 : zq_ev rq (0, [(3, 1)]) = r 3 := zu_f1 v3
  have g5 : zq_ev rq (0, [(4, 1)]) = r 4 := zu_f1 v4
  have g6 : zq_ev rq (0, [(5, 1)]) = r 5 := zu_f1 v5
  have g7 : zq_ev rq (0, [(6, 1)]) = r 6 := zu_f1 v6
  have g8 : zq_ev rq (0, [(7, 1)]) = r 7 := zu_f1 v7
  have g9 : zq_ev rq (0, [(8, 1)]) = r 8 := zu_f1 v8
  exact ⟨_, List.mem_cons_self .., rq, hr, zq_MeS_mk rfl hT (zq_all_nil) zq_fan (zq_fan) rfl (zu_fac ((x_Q1n _ _ _).mpr (by show zc_Q1n (zq_ev rq (0, [(0, 1)])) (zq_ev rq (0, [(1, 1)])) (zq_ev rq (0, [(2, 1)])) (zq_ev rq (0, [(10, 1)])) (zq_ev rq (0, [(3, 1)])) (zq_ev rq (0, [(4, 1)])) (zq_ev rq (0, [(5, 1)])) (zq_ev rq (0, [(6, 1)])) (zq_ev rq (0, [(7, 1)])) (zq_ev rq (0, [(8, 1)])) P h; simp only [g0, g1, g2, g3, g4, g5, g6, g7, g8, g9]; exact t1)) zq_fan)⟩
noncomputable def zc_uQ2 : zq_S × List zq_S := (([], [], [(0, [(4, 1), (10, -1)]), (0, [(5, -1), (11, 1)])], [], [], [], [(241, [(0, [(8, 1)]), (0, [(9, 1)]), (0, [(10, 1)]), (0, [(11, 1)])]), (251, [(0, [(0, 1)]), (0, [(1, 1)]), (0, [(2, 1)]), (0, [(8, 1)]), (0, [(3, 1)]), (0, [(4, 1)]), (0, [(5, 1)]), (0, [(6, 1)]), (0, [(7, 1)])])], 12), [([], [], [], [], [], [], [(251, [(0, [(0, 1)]), (0, [(1, 1)]), (0, [(2, 1)]), (0, [(9, 1)]), (0, [(3, 1)]), (0, [(4, 1)]), (0, [(5, 1)]), (0, [(6, 1)]), (0, [(7, 1)])])], 12)])
theorem zc_uQ2_l {P : zq_Ty} {h : zq_H} {o g n d s t i j Y Z l u : Int} (a1 : 0 ≤ s - l) (a2 : 0 ≤ -t + u) (k1 : zc_AG Y Z l u P h) (k2 : zc_Q2m o g n Y d s t i j P h) : (zc_Q2m o g n Z d s t i j P h) := by
  exact zp_Q2_up k2 (fun q x y => k1 q (by omega) (by omega))
theorem zc_uQ2_ok {w : zq_Wd} (x_AG : zj_is w 241 (fun q => zc_AG (q 0) (q 1) (q 2) (q 3))) (x_Q2 : zj_is w 251 (fun q => zc_Q2m (q 0) (q 1) (q 2) (q 3) (q 4) (q 5) (q 6) (q 7) (q 8))) : zq_okG1 w zc_uQ2 := by
  refine ⟨rfl, rfl, zu_fac ⟨rfl, by decide⟩ zq_fan, ?_⟩
  intro r P h H hM
  have q0 : zq_ev r (0, [(4, 1), (10, -1)]) = r 4 - r 10 := by simp only [zq_ev, zq_ts] <;> omega
  have q1 : zq_ev r (0, [(5, -1), (11, 1)]) = -r 5 + r 11 := by simp only [zq_ev, zq_ts] <;> omega
  have q2 : zq_ev r (0, [(8, 1)]) = r 8 := zu_e1 _ _
  have q3 : zq_ev r (0, [(9, 1)]) = r 9 := zu_e1 _ _
  have q4 : zq_ev r (0, [(10, 1)]) = r 10 := zu_e1 _ _
  have q5 : zq_ev r (0, [(11, 1)]) = r 11 := zu_e1 _ _
  have q6 : zq_ev r (0, [(0, 1)]) = r 0 := zu_e1 _ _
  have q7 : zq_ev r (0, [(1, 1)]) = r 1 := zu_e1 _ _
  have q8 : zq_ev r (0, [(2, 1)]) = r 2 := zu_e1 _ _
  have q9 : zq_ev r (0, [(3, 1)]) = r 3 := zu_e1 _ _
  have q10 : zq_ev r (0, [(4, 1)]) = r 4 := zu_e1 _ _
  have q11 : zq_ev r (0, [(5, 1)]) = r 5 := zu_e1 _ _
  have q12 : zq_ev r (0, [(6, 1)]) = r 6 := zu_e1 _ _
  have q13 : zq_ev r (0, [(7, 1)]) = r 7 := zu_e1 _ _
  obtain ⟨hT, hC, hF, hS, -, hK⟩ := hM
  have c := hC.1
  have a1 := zq_all_1 c
  rw [q0] at a1
  have c := zq_all_t c
  have a2 := zq_all_1 c
  rw [q1] at a2
  have k1 := zj_use x_AG (hK)
  have k1 : zc_AG (zq_ev r (0, [(8, 1)])) (zq_ev r (0, [(9, 1)])) (zq_ev r (0, [(10, 1)])) (zq_ev r (0, [(11, 1)])) P h := k1
  simp only [q2, q3, q4, q5] at k1
  have k2 := zj_use x_Q2 (zq_okX_t (hK))
  have k2 : zc_Q2m (zq_ev r (0, [(0, 1)])) (zq_ev r (0, [(1, 1)])) (zq_ev r (0, [(2, 1)])) (zq_ev r (0, [(8, 1)])) (zq_ev r (0, [(3, 1)])) (zq_ev r (0, [(4, 1)])) (zq_ev r (0, [(5, 1)])) (zq_ev r (0, [(6, 1)])) (zq_ev r (0, [(7, 1)])) P h := k2
  simp only [q10, q11, q12, q13, q2, q6, q7, q8, q9] at k2
  obtain t1 := zc_uQ2_l (P := P) (h := h) (o := r 0) (g := r 1) (n := r 2) (d := r 3) (s := r 4) (t := r 5) (i := r 6) (j := r 7) (Y := r 8) (Z := r 9) (l := r 10) (u := r 11) a1 a2 k1 k2
  obtain ⟨rq, hr⟩ : ∃ rq : Nat → Int, (∀ i, i < 12 → rq i = r i) := ⟨r, fun i hi => rfl⟩
  have v0 : rq 0 = r 0 := hr 0 (by decide)
  have v1 : rq 1 = r 1 := hr 1 (by decide)
  have v2 : rq 2 = r 2 := hr 2 (by decide)
  have v3 : rq 3 = r 3 := hr 3 (by decide)
  have v4 : rq 4 = r 4 := hr 4 (by decide)
  have v5 : rq 5 = r 5 := hr 5 (by decide)
  have v6 : rq 6 = r 6 := hr 6 (by decide)
  have v7 : rq 7 = r 7 := hr 7 (by decide)
  have v9 : rq 9 = r 9 := hr 9 (by decide)
  have g0 : zq_ev rq (0, [(0, 1)]) = r 0 := zu_f1 v0
  have g1 : zq_ev rq (0, [(1, 1)]) = r 1 := zu_f1 v1
  have g2 : zq_ev rq (0, [(2, 1)]) = r 2 := zu_f1 v2
  have g3 : zq_ev rq (0, [(9, 1)]) = r 9 := zu_f1 v9
  have g4 : zq_ev rq (0, [(3, 1)]) = r 3 := zu_f1 v3
  have g5 : zq_ev rq (0, [(4, 1)]) = r 4 := zu_f1 v4
  have g6 : zq_ev rq (0, [(5, 1)]) = r 5 := zu_f1 v5
  have g7 : zq_ev rq (0, [(6, 1)]) = r 6 := zu_f1 v6
  have g8 : zq_ev rq (0, [(7, 1)]) = r 7 := zu_f1 v7
  exact ⟨_, List.mem_cons_self .., rq, hr, zq_MeS_mk rfl hT (zq_all_nil) zq_fan (zq_fan) rfl (zu_fac ((x_Q2 _ _ _).mpr (by show zc_Q2m (zq_ev rq (0, [(0, 1)])) (zq_ev rq (0, [(1, 1)])) (zq_ev rq (0, [(2, 1)])) (zq_ev rq (0, [(9, 1)])) (zq_ev rq (0, [(3, 1)])) (zq_ev rq (0, [(4, 1)])) (zq_ev rq (0, [(5, 1)])) (zq_ev rq (0, [(6, 1)])) (zq_ev rq (0, [(7, 1)])) P h; simp only [g0, g1, g2, g3, g4, g5, g6, g7, g8]; exact t1)) zq_fan)⟩
noncomputable def zc_uD : zq_S × List zq_S := (([], [], [(0, [(4, 1), (10, -1)]), (0, [(5, -1), (11, 1)])], [], [], [], [(241, [(0, [(8, 1)]), (0, [(9, 1)]), (0, [(10, 1)]), (0, [(11, 1)])]), (247, [(0, [(0, 1)]), (0, [(1, 1)]), (0, [(2, 1)]), (0, [(8, 1)]), (0, [(3, 1)]), (0, [(4, 1)]), (0, [(5, 1)]), (0, [(6, 1)]), (0, [(7, 1)])])], 12), [([], [], [], [], [], [], [(247, [(0, [(0, 1)]), (0, [(1, 1)]), (0, [(2, 1)]), (0, [(9, 1)]), (0, [(3, 1)]), (0, [(4, 1)]), (0, [(5, 1)]), (0, [(6, 1)]), (0, [(7, 1)])])], 12)])
theorem zc_uD_l {P : zq_Ty} {h : zq_H} {o g n d s t i j Y Z l u : Int} (a1 : 0 ≤ s - l) (a2 : 0 ≤ -t + u) (k1 : zc_AG Y Z l u P h) (k2 : zc_D o g n Y d s t i j P h) : (zc_D o g n Z d s t i j P h) := by
  exact zp_D_up k2 (fun q x y => k1 q (by omega) (by omega))
theorem zc_uD_ok {w : zq_Wd} (x_AG : zj_is w 241 (fun q => zc_AG (q 0) (q 1) (q 2) (q 3))) (x_D : zj_is w 247 (fun q => zc_D (q 0) (q 1) (q 2) (q 3) (q 4) (q 5) (q 6) (q 7) (q 8))) : zq_okG1 w zc_uD := by
  refine ⟨rfl, rfl, zu_fac ⟨rfl, by decide⟩ zq_fan, ?_⟩
  intro r P h H hM
  have q0 : zq_ev r (0, [(4, 1), (10, -1)]) = r 4 - r 10 := by simp only [zq_ev, zq_ts] <;> omega
  have q1 : zq_ev r (0, [(5, -1), (11, 1)]) = -r 5 + r 11 := by simp only [zq_ev, zq_ts] <;> omega
  have q2 : zq_ev r (0, [(8, 1)]) = r 8 := zu_e1 _ _
  have q3 : zq_ev r (0, [(9, 1)]) = r 9 := zu_e1 _ _
  have q4 : zq_ev r (0, [(10, 1)]) = r 10 := zu_e1 _ _
  have q5 : zq_ev r (0, [(11, 1)]) = r 11 := zu_e1 _ _
  have q6 : zq_ev r (0, [(0, 1)]) = r 0 := zu_e1 _ _
  have q7 : zq_ev r (0, [(1, 1)]) = r 1 := zu_e1 _ _
  have q8 : zq_ev r (0, [(2, 1)]) = r 2 := zu_e1 _ _
  have q9 : zq_ev r (0, [(3, 1)]) = r 3 := zu_e1 _ _
  have q10 : zq_ev r (0, [(4, 1)]) = r 4 := zu_e1 _ _
  have q11 : zq_ev r (0, [(5, 1)]) = r 5 := zu_e1 _ _
  have q12 : zq_ev r (0, [(6, 1)]) = r 6 := zu_e1 _ _
  have q13 : zq_ev r (0, [(7, 1)]) = r 7 := zu_e1 _ _
  obtain ⟨hT, hC, hF, hS, -, hK⟩ := hM
  have c := hC.1
  have a1 := zq_all_1 c
  rw [q0] at a1
  have c := zq_all_t c
  have a2 := zq_all_1 c
  rw [q1] at a2
  have k1 := zj_use x_AG (hK)
  have k1 : zc_AG (zq_ev r (0, [(8, 1)])) (zq_ev r (0, [(9, 1)])) (zq_ev r (0, [(10, 1)])) (zq_ev r (0, [(11, 1)])) P h := k1
  simp only [q2, q3, q4, q5] at k1
  have k2 := zj_use x_D (zq_okX_t (hK))
  have k2 : zc_D (zq_ev r (0, [(0, 1)])) (zq_ev r (0, [(1, 1)])) (zq_ev r (0, [(2, 1)])) (zq_ev r (0, [(8, 1)])) (zq_ev r (0, [(3, 1)])) (zq_ev r (0, [(4, 1)])) (zq_ev r (0, [(5, 1)])) (zq_ev r (0, [(6, 1)])) (zq_ev r (0, [(7, 1)])) P h := k2
  simp only [q10, q11, q12, q13, q2, q6, q7, q8, q9] at k2
  obtain t1 := zc_uD_l (P := P) (h := h) (o := r 0) (g := r 1) (n := r 2) (d := r 3) (s := r 4) (t := r 5) (i := r 6) (j := r 7) (Y := r 8) (Z := r 9) (l := r 10) (u := r 11) a1 a2 k1 k2
  obtain ⟨rq, hr⟩ : ∃ rq : Nat → Int, (∀ i, i < 12 → rq i = r i) := ⟨r, fun i hi => rfl⟩
  have v0 : rq 0 = r 0 := hr 0 (by decide)
  have v1 : rq 1 = r 1 := hr 1 (by decide)
  have v2 : rq 2 = r 2 := hr 2 (by decide)
  have v3 : rq 3 = r 3 := hr 3 (by decide)
  have v4 : rq 4 = r 4 := hr 4 (by decide)
  have v5 : rq 5 = r 5 := hr 5 (by decide)
  have v6 : rq 6 = r 6 := hr 6 (by decide)
  have v7 : rq 7 = r 7 := hr 7 (by decide)
  have v9 : rq 9 = r 9 := hr 9 (by decide)
  have g0 : zq_ev rq (0, [(0, 1)]) = r 0 := zu_f1 v0
  have g1 : zq_ev rq (0, [(1, 1)]) = r 1 := zu_f1 v1
  have g2 : zq_ev rq (0, [(2, 1)]) = r 2 := zu_f1 v2
  have g3 : zq_ev rq (0, [(9, 1)]) = r 9 := zu_f1 v9
  have g4 : zq_ev rq (0, [(3, 1)]) = r 3 := zu_f1 v3
  have g5 : zq_ev rq (0, [(4, 1)]) = r 4 := zu_f1 v4
  have g6 : zq_ev rq (0, [(5, 1)]) = r 5 := zu_f1 v5
  have g7 : zq_ev rq (0, [(6, 1)]) = r 6 := zu_f1 v6
  have g8 : zq_ev rq (0, [(7, 1)]) = r 7 := zu_f1 v7
  exact ⟨_, List.mem_cons_self .., rq, hr, zq_MeS_mk rfl hT (zq_all_nil) zq_fan (zq_fan) rfl (zu_fac ((x_D _ _ _).mpr (by show zc_D (zq_ev rq (0, [(0, 1)])) (zq_ev rq (0, [(1, 1)])) (zq_ev rq (0, [(2, 1)])) (zq_ev rq (0, [(9, 1)])) (zq_ev rq (0, [(3, 1)])) (zq_ev rq (0, [(4, 1)])) (zq_ev rq (0, [(5, 1)])) (zq_ev rq (0, [(6, 1)])) (zq_ev rq (0, [(7, 1)])) P h; simp only [g0, g1, g2, g3, g4, g5, g6, g7, g8]; exact t1)) zq_fan)⟩
noncomputable def zc_uO : zq_S × List zq_S := (([], [], [(0, [(4, 1), (10, -1)]), (0, [(5, -1), (11, 1)])], [], [], [], [(241, [(0, [(8, 1)]), (0, [(9, 1)]), (0, [(10, 1)]), (0, [(11, 1)])]), (248, [(0, [(0, 1)]), (0, [(1, 1)]), (0, [(2, 1)]), (0, [(8, 1)]), (0, [(3, 1)]), (0, [(4, 1)]), (0, [(5, 1)]), (0, [(6, 1)]), (0, [(7, 1)])])], 12), [([], [], [], [], [], [], [(248, [(0, [(0, 1)]), (0, [(1, 1)]), (0, [(2, 1)]), (0, [(9, 1)]), (0, [(3, 1)]), (0, [(4, 1)]), (0, [(5, 1)]), (0, [(6, 1)]), (0, [(7, 1)])])], 12)])
theorem zc_uO_l {P : zq_Ty} {h : zq_H} {o g n d s t i j Y Z l u : Int} (a1 : 0 ≤ s - l) (a2 : 0 ≤ -t + u) (k1 : zc_AG Y Z l u P h) (k2 : zc_O o g n Y d s t i j P h) : (zc_O o g n Z d s t i j P h) := by
  exact zp_O_up k2 (fun q x y => k1 q (by omega) (by omega))
theorem zc_uO_ok {w : zq_Wd} (x_AG : zj_is w 241 (fun q => zc_AG (q 0) (q 1) (q 2) (q 3))) (x_O : zj_is w 248 (fun q => zc_O (q 0) (q 1) (q 2) (q 3) (q 4) (q 5) (q 6) (q 7) (q 8))) : zq_okG1 w zc_uO := by
  refine ⟨rfl, rfl, zu_fac ⟨rfl, by decide⟩ zq_fan, ?_⟩
  intro r P h H hM
  have q0 : zq_ev r (0, [(4, 1), (10, -1)]) = r 4 - r 10 := by simp only [zq_ev, zq_ts] <;> omega
  have q1 : zq_ev r (0, [(5, -1), (11, 1)]) = -r 5 + r 11 := by simp only [zq_ev, zq_ts] <;> omega
  have q2 : zq_ev r (0, [(8, 1)]) = r 8 := zu_e1 _ _
  have q3 : zq_ev r (0, [(9, 1)]) = r 9 := zu_e1 _ _
  have q4 : zq_ev r (0, [(10, 1)]) = r 10 := zu_e1 _ _
  have q5 : zq_ev r (0, [(11, 1)]) = r 11 := zu_e1 _ _
  have q6 : zq_ev r (0, [(0, 1)]) = r 0 := zu_e1 _ _
  have q7 : zq_ev r (0, [(1, 1)]) = r 1 := zu_e1 _ _
  have q8 : zq_ev r (0, [(2, 1)]) = r 2 := zu_e1 _ _
  have q9 : zq_ev r (0, [(3, 1)]) = r 3 := zu_e1 _ _
  have q10 : zq_ev r (0, [(4, 1)]) = r 4 := zu_e1 _ _
  have q11 : zq_ev r (0, [(5, 1)]) = r 5 := zu_e1 _ _
  have q12 : zq_ev r (0, [(6, 1)]) = r 6 := zu_e1 _ _
  have q13 : zq_ev r (0, [(7, 1)]) = r 7 := zu_e1 _ _
  obtain ⟨hT, hC, hF, hS, -, hK⟩ := hM
  have c := hC.1
  have a1 := zq_all_1 c
  rw [q0] at a1
  have c := zq_all_t c
  have a2 := zq_all_1 c
  rw [q1] at a2
  have k1 := zj_use x_AG (hK)
  have k1 : zc_AG (zq_ev r (0, [(8, 1)])) (zq_ev r (0, [(9, 1)])) (zq_ev r (0, [(10, 1)])) (zq_ev r (0, [(11, 1)])) P h := k1
  simp only [q2, q3, q4, q5] at k1
  have k2 := zj_use x_O (zq_okX_t (hK))
  have k2 : zc_O (zq_ev r (0, [(0, 1)])) (zq_ev r (0, [(1, 1)])) (zq_ev r (0, [(2, 1)])) (zq_ev r (0, [(8, 1)])) (zq_ev r (0, [(3, 1)])) (zq_ev r (0, [(4, 1)])) (zq_ev r (0, [(5, 1)])) (zq_ev r (0, [(6, 1)])) (zq_ev r (0, [(7, 1)])) P h := k2
  simp only [q10, q11, q12, q13, q2, q6, q7, q8, q9] at k2
  obtain t1 := zc_uO_l (P := P) (h := h) (o := r 0) (g := r 1) (n := r 2) (d := r 3) (s := r 4) (t := r 5) (i := r 6) (j := r 7) (Y := r 8) (Z := r 9) (l := r 10) (u := r 11) a1 a2 k1 k2
  obtain ⟨rq, hr⟩ : ∃ rq : Nat → Int, (∀ i, i < 12 → rq i = r i) := ⟨r, fun i hi => rfl⟩
  have v0 : rq 0 = r 0 := hr 0 (by decide)
  have v1 : rq 1 = r 1 := hr 1 (by decide)
  have v2 : rq 2 = r 2 := hr 2 (by decide)
  have v3 : rq 3 = r 3 := hr 3 (by decide)
  have v4 : rq 4 = r 4 := hr 4 (by decide)
  have v5 : rq 5 = r 5 := hr 5 (by decide)
  have v6 : rq 6 = r 6 := hr 6 (by decide)
  have v7 : rq 7 = r 7 := hr 7 (by decide)
  have v9 : rq 9 = r 9 := hr 9 (by decide)
  have g0 : zq_ev rq (0, [(0, 1)]) = r 0 := zu_f1 v0
  have g1 : zq_ev rq (0, [(1, 1)]) = r 1 := zu_f1 v1
  have g2 : zq_ev rq (0, [(2, 1)]) = r 2 := zu_f1 v2
  have g3 : zq_ev rq (0, [(9, 1)]) = r 9 := zu_f1 v9
  have g4 : zq_ev rq (0, [(3, 1)]) = r 3 := zu_f1 v3
  have g5 : zq_ev rq (0, [(4, 1)]) = r 4 := zu_f1 v4
  have g6 : zq_ev rq (0, [(5, 1)]) = r 5 := zu_f1 v5
  have g7 : zq_ev rq (0, [(6, 1)]) = r 6 := zu_f1 v6
  have g8 : zq_ev rq (0, [(7, 1)]) = r 7 := zu_f1 v7
  exact ⟨_, List.mem_cons_self .., rq, hr, zq_MeS_mk rfl hT (zq_all_nil) zq_fan (zq_fan) rfl (zu_fac ((x_O _ _ _).mpr (by show zc_O (zq_ev rq (0, [(0, 1)])) (zq_ev rq (0, [(1, 1)])) (zq_ev rq (0, [(2, 1)])) (zq_ev rq (0, [(9, 1)])) (zq_ev rq (0, [(3, 1)])) (zq_ev rq (0, [(4, 1)])) (zq_ev rq (0, [(5, 1)])) (zq_ev rq (0, [(6, 1)])) (zq_ev rq (0, [(7, 1)])) P h; simp only [g0, g1, g2, g3, g4, g5, g6, g7, g8]; exact t1)) zq_fan)⟩
noncomputable def zc_p1 : zq_S × List zq_S := (([], [], [(0, [(5, 1)]), (-1, [(4, 1)])], [], [], [], [(239, [(0, [(1, 1)]), (0, [(2, 1)]), (0, [(6, 1)]), (30, [])]), (225, [(0, [(1, 1)]), (0, [(2, 1)]), (0, [(6, 1)]), (0, [(7, 1)])]), (134, [(0, [(3, 1)]), (0, [(5, 1)]), (1, [(7, 16)])])], 8), [([], [], [], [], [], [], [(243, [(0, [(0, 1)]), (0, [(1, 1)]), (0, [(2, 1)]), (0, [(3, 1)]), (0, []), (0, [(4, 1)]), (0, [(5, 1)]), (1, [(5, 1)]), (0, [(6, 1)]), (1, [(6, 1)])])], 8)])
theorem zc_p1_l {P : zq_Ty} {h : zq_H} {o g n Y d s i x : Int} (a1 : 0 ≤ s) (a2 : 0 ≤ d - 1) (k1 : zc_CM g n i 30 P h) (k2 : ze_VL g n i x P h) (k3 : zn_DG Y s (16 * x + 1) P h) : (zc_P o g n Y 0 d s (s + 1) i (i + 1) P h) := by
  have hd : 1 ≤ d.toNat := by omega
  have k3 : 16 * x + 1 = zn_dg Y s := k3
  exact zp_num (x := x) a1 hd (zc_mp_c (by decide) k1 rfl) (show x = ze_v g n i from k2).symm (by rw [← k3]; omega)
theorem zc_p1_ok {w : zq_Wd} (x_CM : zj_is w 239 (fun q => zc_CM (q 0) (q 1) (q 2) (q 3))) (x_VL : zj_is w 225 (fun q => ze_VL (q 0) (q 1) (q 2) (q 3))) (x_DG : zj_is w 134 (fun q => zn_DG (q 0) (q 1) (q 2))) (x_P : zj_is w 243 (fun q => zc_P (q 0) (q 1) (q 2) (q 3) (q 4) (q 5) (q 6) (q 7) (q 8) (q 9))) : zq_okG1 w zc_p1 := by
  refine ⟨rfl, rfl, zu_fac ⟨rfl, by decide⟩ zq_fan, ?_⟩
  intro r P h H hM
  have q0 : zq_ev r (0, [(5, 1)]) = r 5 := zu_e1 _ _
  have q1 : zq_ev r (-1, [(4, 1)]) = r 4 - 1 := zu_e3 _ _ _
  have q2 : zq_ev r (0, [(1, 1)]) = r 1 := zu_e1 _ _
  have q3 : zq_ev r (0, [(2, 1)]) = r 2 := zu_e1 _ _
  have q4 : zq_ev r (0, [(6, 1)]) = r 6 := zu_e1 _ _
  have q5 : zq_ev r (30, []) = 30 := zu_e0 _ _
  have q6 : zq_ev r (0, [(7, 1)]) = r 7 := zu_e1 _ _
  have q7 : zq_ev r (0, [(3, 1)]) = r 3 := zu_e1 _ _
  have q8 : zq_ev r (1, [(7, 16)]) = 16 * r 7 + 1 := by simp only [zq_ev, zq_ts] <;> omega
  obtain ⟨hT, hC, hF, hS, -, hK⟩ := hM
  have c := hC.1
  have a1 := zq_all_1 c
  rw [q0] at a1
  have c := zq_all_t c
  have a2 := zq_all_1 c
  rw [q1] at a2
  have k1 := zj_use x_CM (hK)
  have k1 : zc_CM (zq_ev r (0, [(1, 1)])) (zq_ev r (0, [(2, 1)])) (zq_ev r (0, [(6, 1)])) (zq_ev r (30, [])) P h := k1
  simp only [q2, q3, q4, q5] at k1
  have k2 := zj_use x_VL (zq_okX_t (hK))
  have k2 : ze_VL (zq_ev r (0, [(1, 1)])) (zq_ev r (0, [(2, 1)])) (zq_ev r (0, [(6, 1)])) (zq_ev r (0, [(7, 1)])) P h := k2
  simp only [q2, q3, q4, q6] at k2
  have k3 := zj_use x_DG (zq_okX_t (zq_okX_t (hK)))
  have k3 : zn_DG (zq_ev r (0, [(3, 1)])) (zq_ev r (0, [(5, 1)])) (zq_ev r (1, [(7, 16)])) P h := k3
  simp only [q0, q7, q8] at k3
  obtain t1 := zc_p1_l (P := P) (h := h) (o := r 0) (g := r 1) (n := r 2) (Y := r 3) (d := r 4) (s := r 5) (i := r 6) (x := r 7) a1 a2 k1 k2 k3
  obtain ⟨rq, hr⟩ : ∃ rq : Nat → Int, (∀ i, i < 8 → rq i = r i) := ⟨r, fun i hi => rfl⟩
  have v0 : rq 0 = r 0 := hr 0 (by decide)
  have v1 : rq 1 = r 1 := hr 1 (by decide)
  have v2 : rq 2 = r 2 := hr 2 (by decide)
  have v3 : rq 3 = r 3 := hr 3 (by decide)
  have v4 : rq 4 = r 4 := hr 4 (by decide)
  have v5 : rq 5 = r 5 := hr 5 (by decide)
  have v6 : rq 6 = r 6 := hr 6 (by decide)
  have g0 : zq_ev rq (0, [(0, 1)]) = r 0 := zu_f1 v0
  have g1 : zq_ev rq (0, [(1, 1)]) = r 1 := zu_f1 v1
  have g2 : zq_ev rq (0, [(2, 1)]) = r 2 := zu_f1 v2
  have g3 : zq_ev rq (0, [(3, 1)]) = r 3 := zu_f1 v3
  have g4 : zq_ev rq (0, []) = 0 := zu_e0 _ _
  have g5 : zq_ev rq (0, [(4, 1)]) = r 4 := zu_f1 v4
  have g6 : zq_ev rq (0, [(5, 1)]) = r 5 := zu_f1 v5
  have g7 : zq_ev rq (1, [(5, 1)]) = r 5 + 1 := zu_f2 v5 _
  have g8 : zq_ev rq (0, [(6, 1)]) = r 6 := zu_f1 v6
  have g9 : zq_ev rq (1, [(6, 1)]) = r 6 + 1 := zu_f2 v6 _
  exact ⟨_, List.mem_cons_self .., rq, hr, zq_MeS_mk rfl hT (zq_all_nil) zq_fan (zq_fan) rfl (zu_fac ((x_P _ _ _).mpr (by show zc_P (zq_ev rq (0, [(0, 1)])) (zq_ev rq (0, [(1, 1)])) (zq_ev rq (0, [(2, 1)])) (zq_ev rq (0, [(3, 1)])) (zq_ev rq (0, [])) (zq_ev rq (0, [(4, 1)])) (zq_ev rq (0, [(5, 1)])) (zq_ev rq (1, [(5, 1)])) (zq_ev rq (0, [(6, 1)])) (zq_ev rq (1, [(6, 1)])) P h; simp only [g0, g1, g2, g3, g4, g5, g6, g7, g8, g9]; exact t1)) zq_fan)⟩
noncomputable def zc_p2 : zq_S × List zq_S := (([], [], [(0, [(4, 1)]), (-1, [(3, 1)]), (0, [(6, 1)]), (7, [(6, -1)])], [], [], [], [(239, [(0, [(0, 1)]), (0, [(1, 1)]), (0, [(5, 1)]), (0, [(6, 1)])]), (134, [(0, [(2, 1)]), (0, [(4, 1)]), (2, [(6, 16)])])], 7), [([], [], [], [], [], [], [(243, [(0, []), (0, [(0, 1)]), (0, [(1, 1)]), (0, [(2, 1)]), (0, []), (0, [(3, 1)]), (0, [(4, 1)]), (1, [(4, 1)]), (0, [(5, 1)]), (1, [(5, 1)])])], 7)])
theorem zc_p2_l {P : zq_Ty} {h : zq_H} {g n Y d s i c : Int} (a1 : 0 ≤ s) (a2 : 0 ≤ d - 1) (a3 : 0 ≤ c) (a4 : 0 ≤ -c + 7) (k1 : zc_CM g n i c P h) (k2 : zn_DG Y s (16 * c + 2) P h) : (zc_P 0 g n Y 0 d s (s + 1) i (i + 1) P h) := by
  have hd : 1 ≤ d.toNat := by omega
  have k2 : 16 * c + 2 = zn_dg Y s := k2
  have e : ze_c g n i = c + 8 := (show ze_c g n i = zu_mp c from k1).trans (zc_mp8 (by omega) (by omega))
  exact zp_word a1 hd (Or.inl ⟨rfl, by omega, by omega⟩) (by rw [← k2, e]; omega)
theorem zc_p2_ok {w : zq_Wd} (x_CM : zj_is w 239 (fun q => zc_CM (q 0) (q 1) (q 2) (q 3))) (x_DG : zj_is w 134 (fun q => zn_DG (q 0) (q 1) (q 2))) (x_P : zj_is w 243 (fun q => zc_P (q 0) (q 1) (q 2) (q 3) (q 4) (q 5) (q 6) (q 7) (q 8) (q 9))) : zq_okG1 w zc_p2 := by
  refine ⟨rfl, rfl, zu_fac ⟨rfl, by decide⟩ zq_fan, ?_⟩
  intro r P h H hM
  have q0 : zq_ev r (0, [(4, 1)]) = r 4 := zu_e1 _ _
  have q1 : zq_ev r (-1, [(3, 1)]) = r 3 - 1 := zu_e3 _ _ _
  have q2 : zq_ev r (0, [(6, 1)]) = r 6 := zu_e1 _ _
  have q3 : zq_ev r (7, [(6, -1)]) = -r 6 + 7 := zu_e5 _ _ _
  have q4 : zq_ev r (0, [(0, 1)]) = r 0 := zu_e1 _ _
  have q5 : zq_ev r (0, [(1, 1)]) = r 1 := zu_e1 _ _
  have q6 : zq_ev r (0, [(5, 1)]) = r 5 := zu_e1 _ _
  have q7 : zq_ev r (0, [(2, 1)]) = r 2 := zu_e1 _ _
  have q8 : zq_ev r (2, [(6, 16)]) = 16 * r 6 + 2 := by simp only [zq_ev, zq_ts] <;> omega
  obtain ⟨hT, hC, hF, hS, -, hK⟩ := hM
  have c := hC.1
  have a1 := zq_all_1 c
  rw [q0] at a1
  have c := zq_all_t c
  have a2 := zq_all_1 c
  rw [q1] at a2
  have c := zq_all_t c
  have a3 := zq_all_1 c
  rw [q2] at a3
  have c := zq_all_t c
  have a4 := zq_all_1 c
  rw [q3] at a4
  have k1 := zj_use x_CM (hK)
  have k1 : zc_CM (zq_ev r (0, [(0, 1)])) (zq_ev r (0, [(1, 1)])) (zq_ev r (0, [(5, 1)])) (zq_ev r (0, [(6, 1)])) P h := k1
  simp only [q2, q4, q5, q6] at k1
  have k2 := zj_use x_DG (zq_okX_t (hK))
  have k2 : zn_DG (zq_ev r (0, [(2, 1)])) (zq_ev r (0, [(4, 1)])) (zq_ev r (2, [(6, 16)])) P h := k2
  simp only [q0, q7, q8] at k2
  obtain t1 := zc_p2_l (P := P) (h := h) (g := r 0) (n := r 1) (Y := r 2) (d := r 3) (s := r 4) (i := r 5) (c := r 6) a1 a2 a3 a4 k1 k2
  obtain ⟨rq, hr⟩ : ∃ rq : Nat → Int, (∀ i, i < 7 → rq i = r i) := ⟨r, fun i hi => rfl⟩
  have v0 : rq 0 = r 0 := hr 0 (by decide)
  have v1 : rq 1 = r 1 := hr 1 (by decide)
  have v2 : rq 2 = r 2 := hr 2 (by decide)
  have v3 : rq 3 = r 3 := hr 3 (by decide)
  have v4 : rq 4 = r 4 := hr 4 (by decide)
  have v5 : rq 5 = r 5 := hr 5 (by decide)
  have g0 : zq_ev rq (0, []) = 0 := zu_e0 _ _
  have g1 : zq_ev rq (0, [(0, 1)]) = r 0 := zu_f1 v0
  have g2 : zq_ev rq (0, [(1, 1)]) = r 1 := zu_f1 v1
  have g3 : zq_ev rq (0, [(2, 1)]) = r 2 := zu_f1 v2
  have g4 : zq_ev rq (0, [(3, 1)]) = r 3 := zu_f1 v3
  have g5 : zq_ev rq (0, [(4, 1)]) = r 4 := zu_f1 v4
  have g6 : zq_ev rq (1, [(4, 1)]) = r 4 + 1 := zu_f2 v4 _
  have g7 : zq_ev rq (0, [(5, 1)]) = r 5 := zu_f1 v5
  have g8 : zq_ev rq (1, [(5, 1)]) = r 5 + 1 := zu_f2 v5 _
  exact ⟨_, List.mem_cons_self .., rq, hr, zq_MeS_mk rfl hT (zq_all_nil) zq_fan (zq_fan) rfl (zu_fac ((x_P _ _ _).mpr (by show zc_P (zq_ev rq (0, [])) (zq_ev rq (0, [(0, 1)])) (zq_ev rq (0, [(1, 1)])) (zq_ev rq (0, [(2, 1)])) (zq_ev rq (0, [])) (zq_ev rq (0, [(3, 1)])) (zq_ev rq (0, [(4, 1)])) (zq_ev rq (1, [(4, 1)])) (zq_ev rq (0, [(5, 1)])) (zq_ev rq (1, [(5, 1)])) P h; simp only [g0, g1, g2, g3, g4, g5, g6, g7, g8]; exact t1)) zq_fan)⟩
noncomputable def zc_p3 : zq_S × List zq_S := (([], [], [(0, [(4, 1)]), (-1, [(3, 1)]), (-8, [(6, 1)]), (11, [(6, -1)])], [], [], [], [(239, [(0, [(0, 1)]), (0, [(1, 1)]), (0, [(5, 1)]), (0, [(6, 1)])]), (134, [(0, [(2, 1)]), (0, [(4, 1)]), (2, [(6, 16)])])], 7), [([], [], [], [], [], [], [(243, [(1, []), (0, [(0, 1)]), (0, [(1, 1)]), (0, [(2, 1)]), (0, []), (0, [(3, 1)]), (0, [(4, 1)]), (1, [(4, 1)]), (0, [(5, 1)]), (1, [(5, 1)])])], 7)])
theorem zc_p3_l {P : zq_Ty} {h : zq_H} {g n Y d s i c : Int} (a1 : 0 ≤ s) (a2 : 0 ≤ d - 1) (a3 : 0 ≤ c - 8) (a4 : 0 ≤ -c + 11) (k1 : zc_CM g n i c P h) (k2 : zn_DG Y s (16 * c + 2) P h) : (zc_P 1 g n Y 0 d s (s + 1) i (i + 1) P h) := by
  have hd : 1 ≤ d.toNat := by omega
  have k2 : 16 * c + 2 = zn_dg Y s := k2
  have e : ze_c g n i = c + 8 := (show ze_c g n i = zu_mp c from k1).trans (zc_mp8 (by omega) (by omega))
  exact zp_word a1 hd (Or.inr ⟨rfl, by omega, by omega⟩) (by rw [← k2, e]; omega)
theorem zc_p3_ok {w : zq_Wd} (x_CM : zj_is w 239 (fun q => zc_CM (q 0) (q 1) (q 2) (q 3))) (x_DG : zj_is w 134 (fun q => zn_DG (q 0) (q 1) (q 2))) (x_P : zj_is w 243 (fun q => zc_P (q 0) (q 1) (q 2) (q 3) (q 4) (q 5) (q 6) (q 7) (q 8) (q 9))) : zq_okG1 w zc_p3 := by
  refine ⟨rfl, rfl, zu_fac ⟨rfl, by decide⟩ zq_fan, ?_⟩
  intro r P h H hM
  have q0 : zq_ev r (0, [(4, 1)]) = r 4 := zu_e1 _ _
  have q1 : zq_ev r (-1, [(3, 1)]) = r 3 - 1 := zu_e3 _ _ _
  have q2 : zq_ev r (-8, [(6, 1)]) = r 6 - 8 := zu_e3 _ _ _
  have q3 : zq_ev r (11, [(6, -1)]) = -r 6 + 11 := zu_e5 _ _ _
  have q4 : zq_ev r (0, [(0, 1)]) = r 0 := zu_e1 _ _
  have q5 : zq_ev r (0, [(1, 1)]) = r 1 := zu_e1 _ _
  have q6 : zq_ev r (0, [(5, 1)]) = r 5 := zu_e1 _ _
  have q7 : zq_ev r (0, [(6, 1)]) = r 6 := zu_e1 _ _
  have q8 : zq_ev r (0, [(2, 1)]) = r 2 := zu_e1 _ _
  have q9 : zq_ev r (2, [(6, 16)]) = 16 * r 6 + 2 := by simp only [zq_ev, zq_ts] <;> omega
  obtain ⟨hT, hC, hF, hS, -, hK⟩ := hM
  have c := hC.1
  have a1 := zq_all_1 c
  rw [q0] at a1
  have c := zq_all_t c
  have a2 := zq_all_1 c
  rw [q1] at a2
  have c := zq_all_t c
  have a3 := zq_all_1 c
  rw [q2] at a3
  have c := zq_all_t c
  have a4 := zq_all_1 c
  rw [q3] at a4
  have k1 := zj_use x_CM (hK)
  have k1 : zc_CM (zq_ev r (0, [(0, 1)])) (zq_ev r (0, [(1, 1)])) (zq_ev r (0, [(5, 1)])) (zq_ev r (0, [(6, 1)])) P h := k1
  simp only [q4, q5, q6, q7] at k1
  have k2 := zj_use x_DG (zq_okX_t (hK))
  have k2 : zn_DG (zq_ev r (0, [(2, 1)])) (zq_ev r (0, [(4, 1)])) (zq_ev r (2, [(6, 16)])) P h := k2
  simp only [q0, q8, q9] at k2
  obtain t1 := zc_p3_l (P := P) (h := h) (g := r 0) (n := r 1) (Y := r 2) (d := r 3) (s := r 4) (i := r 5) (c := r 6) a1 a2 a3 a4 k1 k2
  obtain ⟨rq, hr⟩ : ∃ rq : Nat → Int, (∀ i, i < 7 → rq i = r i) := ⟨r, fun i hi => rfl⟩
  have v0 : rq 0 = r 0 := hr 0 (by decide)
  have v1 : rq 1 = r 1 := hr 1 (by decide)
  have v2 : rq 2 = r 2 := hr 2 (by decide)
  have v3 : rq 3 = r 3 := hr 3 (by decide)
  have v4 : rq 4 = r 4 := hr 4 (by decide)
  have v5 : rq 5 = r 5 := hr 5 (by decide)
  have g0 : zq_ev rq (1, []) = 1 := zu_e0 _ _
  have g1 : zq_ev rq (0, [(0, 1)]) = r 0 := zu_f1 v0
  have g2 : zq_ev rq (0, [(1, 1)]) = r 1 := zu_f1 v1
  have g3 : zq_ev rq (0, [(2, 1)]) = r 2 := zu_f1 v2
  have g4 : zq_ev rq (0, []) = 0 := zu_e0 _ _
  have g5 : zq_ev rq (0, [(3, 1)]) = r 3 := zu_f1 v3
  have g6 : zq_ev rq (0, [(4, 1)]) = r 4 := zu_f1 v4
  have g7 : zq_ev rq (1, [(4, 1)]) = r 4 + 1 := zu_f2 v4 _
  have g8 : zq_ev rq (0, [(5, 1)]) = r 5 := zu_f1 v5
  have g9 : zq_ev rq (1, [(5, 1)]) = r 5 + 1 := zu_f2 v5 _
  exact ⟨_, List.mem_cons_self .., rq, hr, zq_MeS_mk rfl hT (zq_all_nil) zq_fan (zq_fan) rfl (zu_fac ((x_P _ _ _).mpr (by show zc_P (zq_ev rq (1, [])) (zq_ev rq (0, [(0, 1)])) (zq_ev rq (0, [(1, 1)])) (zq_ev rq (0, [(2, 1)])) (zq_ev rq (0, [])) (zq_ev rq (0, [(3, 1)])) (zq_ev rq (0, [(4, 1)])) (zq_ev rq (1, [(4, 1)])) (zq_ev rq (0, [(5, 1)])) (zq_ev rq (1, [(5, 1)])) P h; simp only [g0, g1, g2, g3, g4, g5, g6, g7, g8, g9]; exact t1)) zq_fan)⟩
noncomputable def zc_p4b : zq_S × List zq_S := (([], [], [(0, [(4, 1)]), (-1, [(3, 1)]), (5, [(6, -1)]), (0, [(6, 1)])], [], [], [], [(239, [(0, [(0, 1)]), (0, [(1, 1)]), (0, [(5, 1)]), (12, [])]), (225, [(0, [(0, 1)]), (0, [(1, 1)]), (1, [(5, 1)]), (0, [(6, 1)])]), (134, [(0, [(2, 1)]), (0, [(4, 1)]), (194, [(6, 16)])])], 7), [([], [], [], [], [], [], [(243, [(1, []), (0, [(0, 1)]), (0, [(1, 1)]), (0, [(2, 1)]), (0, []), (0, [(3, 1)]), (0, [(4, 1)]), (1, [(4, 1)]), (0, [(5, 1)]), (2, [(5, 1)])])], 7)])
theorem zc_p4b_l {P : zq_Ty} {h : zq_H} {g n Y d s i x : Int} (a1 : 0 ≤ s) (a2 : 0 ≤ d - 1) (a3 : 0 ≤ -x + 5) (a4 : 0 ≤ x) (k1 : zc_CM g n i 12 P h) (k2 : ze_VL g n (i + 1) x P h) (k3 : zn_DG Y s (16 * x + 194) P h) : (zc_P 1 g n Y 0 d s (s + 1) i (i + 2) P h) := by
  have hd : 1 ≤ d.toNat := by omega
  have k3 : 16 * x + 194 = zn_dg Y s := k3
  exact zp_wordk (f := 12) (x := x) a1 hd rfl (Or.inl ⟨zc_mp_c (by decide) k1 rfl, rfl, by omega⟩) a4 (show x = ze_v g n (i + 1) from k2).symm (by rw [← k3]; omega)
theorem zc_p4b_ok {w : zq_Wd} (x_CM : zj_is w 239 (fun q => zc_CM (q 0) (q 1) (q 2) (q 3))) (x_VL : zj_is w 225 (fun q => ze_VL (q 0) (q 1) (q 2) (q 3))) (x_DG : zj_is w 134 (fun q => zn_DG (q 0) (q 1) (q 2))) (x_P : zj_is w 243 (fun q => zc_P (q 0) (q 1) (q 2) (q 3) (q 4) (q 5) (q 6) (q 7) (q 8) (q 9))) : zq_okG1 w zc_p4b := by
  refine ⟨rfl, rfl, zu_fac ⟨rfl, by decide⟩ zq_fan, ?_⟩
  intro r P h H hM
  have q0 : zq_ev r (0, [(4, 1)]) = r 4 := zu_e1 _ _
  have q1 : zq_ev r (-1, [(3, 1)]) = r 3 - 1 := zu_e3 _ _ _
  have q2 : zq_ev r (5, [(6, -1)]) = -r 6 + 5 := zu_e5 _ _ _
  have q3 : zq_ev r (0, [(6, 1)]) = r 6 := zu_e1 _ _
  have q4 : zq_ev r (0, [(0, 1)]) = r 0 := zu_e1 _ _
  have q5 : zq_ev r (0, [(1, 1)]) = r 1 := zu_e1 _ _
  have q6 : zq_ev r (0, [(5, 1)]) = r 5 := zu_e1 _ _
  have q7 : zq_ev r (12, []) = 12 := zu_e0 _ _
  have q8 : zq_ev r (1, [(5, 1)]) = r 5 + 1 := zu_e2 _ _ _
  have q9 : zq_ev r (0, [(2, 1)]) = r 2 := zu_e1 _ _
  have q10 : zq_ev r (194, [(6, 16)]) = 16 * r 6 + 194 := by simp only [zq_ev, zq_ts] <;> omega
  obtain ⟨hT, hC, hF, hS, -, hK⟩ := hM
  have c := hC.1
  have a1 := zq_all_1 c
  rw [q0] at a1
  have c := zq_all_t c
  have a2 := zq_all_1 c
  rw [q1] at a2
  have c := zq_all_t c
  have a3 := zq_all_1 c
  rw [q2] at a3
  have c := zq_all_t c
  have a4 := zq_all_1 c
  rw [q3] at a4
  have k1 := zj_use x_CM (hK)
  have k1 : zc_CM (zq_ev r (0, [(0, 1)])) (zq_ev r (0, [(1, 1)])) (zq_ev r (0, [(5, 1)])) (zq_ev r (12, [])) P h := k1
  simp only [q4, q5, q6, q7] at k1
  have k2 := zj_use x_VL (zq_okX_t (hK))
  have k2 : ze_VL (zq_ev r (0, [(0, 1)])) (zq_ev r (0, [(1, 1)])) (zq_ev r (1, [(5, 1)])) (zq_ev r (0, [(6, 1)])) P h := k2
  simp only [q3, q4, q5, q8] at k2
  have k3 := zj_use x_DG (zq_okX_t (zq_okX_t (hK)))
  have k3 : zn_DG (zq_ev r (0, [(2, 1)])) (zq_ev r (0, [(4, 1)])) (zq_ev r (194, [(6, 16)])) P h := k3
  simp only [q0, q10, q9] at k3
  obtain t1 := zc_p4b_l (P := P) (h := h) (g := r 0) (n := r 1) (Y := r 2) (d := r 3) (s := r 4) (i := r 5) (x := r 6) a1 a2 a3 a4 k1 k2 k3
  obtain ⟨rq, hr⟩ : ∃ rq : Nat → Int, (∀ i, i < 7 → rq i = r i) := ⟨r, fun i hi => rfl⟩
  have v0 : rq 0 = r 0 := hr 0 (by decide)
  have v1 : rq 1 = r 1 := hr 1 (by decide)
  have v2 : rq 2 = r 2 := hr 2 (by decide)
  have v3 : rq 3 = r 3 := hr 3 (by decide)
  have v4 : rq 4 = r 4 := hr 4 (by decide)
  have v5 : rq 5 = r 5 := hr 5 (by decide)
  have g0 : zq_ev rq (1, []) = 1 := zu_e0 _ _
  have g1 : zq_ev rq (0, [(0, 1)]) = r 0 := zu_f1 v0
  have g2 : zq_ev rq (0, [(1, 1)]) = r 1 := zu_f1 v1
  have g3 : zq_ev rq (0, [(2, 1)]) = r 2 := zu_f1 v2
  have g4 : zq_ev rq (0, []) = 0 := zu_e0 _ _
  have g5 : zq_ev rq (0, [(3, 1)]) = r 3 := zu_f1 v3
  have g6 : zq_ev rq (0, [(4, 1)]) = r 4 := zu_f1 v4
  have g7 : zq_ev rq (1, [(4, 1)]) = r 4 + 1 := zu_f2 v4 _
  have g8 : zq_ev rq (0, [(5, 1)]) = r 5 := zu_f1 v5
  have g9 : zq_ev rq (2, [(5, 1)]) = r 5 + 2 := zu_f2 v5 _
  exact ⟨_, List.mem_cons_self .., rq, hr, zq_MeS_mk rfl hT (zq_all_nil) zq_fan (zq_fan) rfl (zu_fac ((x_P _ _ _).mpr (by show zc_P (zq_ev rq (1, [])) (zq_ev rq (0, [(0, 1)])) (zq_ev rq (0, [(1, 1)])) (zq_ev rq (0, [(2, 1)])) (zq_ev rq (0, [])) (zq_ev rq (0, [(3, 1)])) (zq_ev rq (0, [(4, 1)])) (zq_ev rq (1, [(4, 1)])) (zq_ev rq (0, [(5, 1)])) (zq_ev rq (2, [(5, 1)])) P h; simp only [g0, g1, g2, g3, g4, g5, g6, g7, g8, g9]; exact t1)) zq_fan)⟩
noncomputable def zc_p4q : zq_S × List zq_S := (([], [], [(0, [(4, 1)]), (-1, [(3, 1)]), (3, [(6, -1)]), (0, [(6, 1)])], [], [], [], [(239, [(0, [(0, 1)]), (0, [(1, 1)]), (0, [(5, 1)]), (13, [])]), (225, [(0, [(0, 1)]), (0, [(1, 1)]), (1, [(5, 1)]), (0, [(6, 1)])]), (134, [(0, [(2, 1)]), (0, [(4, 1)]), (290, [(6, 16)])])], 7), [([], [], [], [], [], [], [(243, [(1, []), (0, [(0, 1)]), (0, [(1, 1)]), (0, [(2, 1)]), (0, []), (0, [(3, 1)]), (0, [(4, 1)]), (1, [(4, 1)]), (0, [(5, 1)]), (2, [(5, 1)])])], 7)])
theorem zc_p4q_l {P : zq_Ty} {h : zq_H} {g n Y d s i x : Int} (a1 : 0 ≤ s) (a2 : 0 ≤ d - 1) (a3 : 0 ≤ -x + 3) (a4 : 0 ≤ x) (k1 : zc_CM g n i 13 P h) (k2 : ze_VL g n (i + 1) x P h) (k3 : zn_DG Y s (16 * x + 290) P h) : (zc_P 1 g n Y 0 d s (s + 1) i (i + 2) P h) := by
  have hd : 1 ≤ d.toNat := by omega
  have k3 : 16 * x + 290 = zn_dg Y s := k3
  exact zp_wordk (f := 18) (x := x) a1 hd rfl (Or.inr ⟨zc_mp_c (by decide) k1 rfl, rfl, by omega⟩) a4 (show x = ze_v g n (i + 1) from k2).symm (by rw [← k3]; omega)
theorem zc_p4q_ok {w : zq_Wd} (x_CM : zj_is w 239 (fun q => zc_CM (q 0) (q 1) (q 2) (q 3))) (x_VL : zj_is w 225 (fun q => ze_VL (q 0) (q 1) (q 2) (q 3))) (x_DG : zj_is w 134 (fun q => zn_DG (q 0) (q 1) (q 2))) (x_P : zj_is w 243 (fun q => zc_P (q 0) (q 1) (q 2) (q 3) (q 4) (q 5) (q 6) (q 7) (q 8) (q 9))) : zq_okG1 w zc_p4q := by
  refine ⟨rfl, rfl, zu_fac ⟨rfl, by decide⟩ zq_fan, ?_⟩
  intro r P h H hM
  have q0 : zq_ev r (0, [(4, 1)]) = r 4 := zu_e1 _ _
  have q1 : zq_ev r (-1, [(3, 1)]) = r 3 - 1 := zu_e3 _ _ _
  have q2 : zq_ev r (3, [(6, -1)]) = -r 6 + 3 := zu_e5 _ _ _
  have q3 : zq_ev r (0, [(6, 1)]) = r 6 := zu_e1 _ _
  have q4 : zq_ev r (0, [(0, 1)]) = r 0 := zu_e1 _ _
  have q5 : zq_ev r (0, [(1, 1)]) = r 1 := zu_e1 _ _
  have q6 : zq_ev r (0, [(5, 1)]) = r 5 := zu_e1 _ _
  have q7 : zq_ev r (13, []) = 13 := zu_e0 _ _
  have q8 : zq_ev r (1, [(5, 1)]) = r 5 + 1 := zu_e2 _ _ _
  have q9 : zq_ev r (0, [(2, 1)]) = r 2 := zu_e1 _ _
  have q10 : zq_ev r (290, [(6, 16)]) = 16 * r 6 + 290 := by simp only [zq_ev, zq_ts] <;> omega
  obtain ⟨hT, hC, hF, hS, -, hK⟩ := hM
  have c := hC.1
  have a1 := zq_all_1 c
  rw [q0] at a1
  have c := zq_all_t c
  have a2 := zq_all_1 c
  rw [q1] at a2
  have c := zq_all_t c
  have a3 := zq_all_1 c
  rw [q2] at a3
  have c := zq_all_t c
  have a4 := zq_all_1 c
  rw [q3] at a4
  have k1 := zj_use x_CM (hK)
  have k1 : zc_CM (zq_ev r (0, [(0, 1)])) (zq_ev r (0, [(1, 1)])) (zq_ev r (0, [(5, 1)])) (zq_ev r (13, [])) P h := k1
  simp only [q4, q5, q6, q7] at k1
  have k2 := zj_use x_VL (zq_okX_t (hK))
  have k2 : ze_VL (zq_ev r (0, [(0, 1)])) (zq_ev r (0, [(1, 1)])) (zq_ev r (1, [(5, 1)])) (zq_ev r (0, [(6, 1)])) P h := k2
  simp only [q3, q4, q5, q8] at k2
  have k3 := zj_use x_DG (zq_okX_t (zq_okX_t (hK)))
  have k3 : zn_DG (zq_ev r (0, [(2, 1)])) (zq_ev r (0, [(4, 1)])) (zq_ev r (290, [(6, 16)])) P h := k3
  simp only [q0, q10, q9] at k3
  obtain t1 := zc_p4q_l (P := P) (h := h) (g := r 0) (n := r 1) (Y := r 2) (d := r 3) (s := r 4) (i := r 5) (x := r 6) a1 a2 a3 a4 k1 k2 k3
  obtain ⟨rq, hr⟩ : ∃ rq : Nat → Int, (∀ i, i < 7 → rq i = r i) := ⟨r, fun i hi => rfl⟩
  have v0 : rq 0 = r 0 := hr 0 (by decide)
  have v1 : rq 1 = r 1 := hr 1 (by decide)
  have v2 : rq 2 = r 2 := hr 2 (by decide)
  have v3 : rq 3 = r 3 := hr 3 (by decide)
  have v4 : rq 4 = r 4 := hr 4 (by decide)
  have v5 : rq 5 = r 5 := hr 5 (by decide)
  have g0 : zq_ev rq (1, []) = 1 := zu_e0 _ _
  have g1 : zq_ev rq (0, [(0, 1)]) = r 0 := zu_f1 v0
  have g2 : zq_ev rq (0, [(1, 1)]) = r 1 := zu_f1 v1
  have g3 : zq_ev rq (0, [(2, 1)]) = r 2 := zu_f1 v2
  have g4 : zq_ev rq (0, []) = 0 := zu_e0 _ _
  have g5 : zq_ev rq (0, [(3, 1)]) = r 3 := zu_f1 v3
  have g6 : zq_ev rq (0, [(4, 1)]) = r 4 := zu_f1 v4
  have g7 : zq_ev rq (1, [(4, 1)]) = r 4 + 1 := zu_f2 v4 _
  have g8 : zq_ev rq (0, [(5, 1)]) = r 5 := zu_f1 v5
  have g9 : zq_ev rq (2, [(5, 1)]) = r 5 + 2 := zu_f2 v5 _
  exact ⟨_, List.mem_cons_self .., rq, hr, zq_MeS_mk rfl hT (zq_all_nil) zq_fan (zq_fan) rfl (zu_fac ((x_P _ _ _).mpr (by show zc_P (zq_ev rq (1, [])) (zq_ev rq (0, [(0, 1)])) (zq_ev rq (0, [(1, 1)])) (zq_ev rq (0, [(2, 1)])) (zq_ev rq (0, [])) (zq_ev rq (0, [(3, 1)])) (zq_ev rq (0, [(4, 1)])) (zq_ev rq (1, [(4, 1)])) (zq_ev rq (0, [(5, 1)])) (zq_ev rq (2, [(5, 1)])) P h; simp only [g0, g1, g2, g3, g4, g5, g6, g7, g8, g9]; exact t1)) zq_fan)⟩
noncomputable def zc_p5 : zq_S × List zq_S := (([], [], [], [], [], [], [(239, [(0, [(1, 1)]), (0, [(2, 1)]), (0, [(7, 1)]), (123, [])]), (243, [(0, [(0, 1)]), (0, [(1, 1)]), (0, [(2, 1)]), (0, [(3, 1)]), (4, []), (0, [(4, 1)]), (0, [(5, 1)]), (0, [(6, 1)]), (1, [(7, 1)]), (0, [(8, 1)])])], 9), [([], [], [], [], [], [], [(243, [(0, [(0, 1)]), (0, [(1, 1)]), (0, [(2, 1)]), (0, [(3, 1)]), (0, []), (0, [(4, 1)]), (0, [(5, 1)]), (0, [(6, 1)]), (0, [(7, 1)]), (1, [(8, 1)])])], 9)])
theorem zc_p5_l {P : zq_Ty} {h : zq_H} {o g n Y d s t i j : Int} (k1 : zc_CM g n i 123 P h) (k2 : zc_P o g n Y 4 d s t (i + 1) j P h) : (zc_P o g n Y 0 d s t i (j + 1) P h) := by
  exact zp_brk (zc_mp_c (by decide) k1 rfl) k2
theorem zc_p5_ok {w : zq_Wd} (x_CM : zj_is w 239 (fun q => zc_CM (q 0) (q 1) (q 2) (q 3))) (x_P : zj_is w 243 (fun q => zc_P (q 0) (q 1) (q 2) (q 3) (q 4) (q 5) (q 6) (q 7) (q 8) (q 9))) : zq_okG1 w zc_p5 := by
  refine ⟨rfl, rfl, zu_fac ⟨rfl, by decide⟩ zq_fan, ?_⟩
  intro r P h H hM
  have q0 : zq_ev r (0, [(1, 1)]) = r 1 := zu_e1 _ _
  have q1 : zq_ev r (0, [(2, 1)]) = r 2 := zu_e1 _ _
  have q2 : zq_ev r (0, [(7, 1)]) = r 7 := zu_e1 _ _
  have q3 : zq_ev r (123, []) = 123 := zu_e0 _ _
  have q4 : zq_ev r (0, [(0, 1)]) = r 0 := zu_e1 _ _
  have q5 : zq_ev r (0, [(3, 1)]) = r 3 := zu_e1 _ _
  have q6 : zq_ev r (4, []) = 4 := zu_e0 _ _
  have q7 : zq_ev r (0, [(4, 1)]) = r 4 := zu_e1 _ _
  have q8 : zq_ev r (0, [(5, 1)]) = r 5 := zu_e1 _ _
  have q9 : zq_ev r (0, [(6, 1)]) = r 6 := zu_e1 _ _
  have q10 : zq_ev r (1, [(7, 1)]) = r 7 + 1 := zu_e2 _ _ _
  have q11 : zq_ev r (0, [(8, 1)]) = r 8 := zu_e1 _ _
  obtain ⟨hT, hC, hF, hS, -, hK⟩ := hM
  have c := hC.1
  have k1 := zj_use x_CM (hK)
  have k1 : zc_CM (zq_ev r (0, [(1, 1)])) (zq_ev r (0, [(2, 1)])) (zq_ev r (0, [(7, 1)])) (zq_ev r (123, [])) P h := k1
  simp only [q0, q1, q2, q3] at k1
  have k2 := zj_use x_P (zq_okX_t (hK))
  have k2 : zc_P (zq_ev r (0, [(0, 1)])) (zq_ev r (0, [(1, 1)])) (zq_ev r (0, [(2, 1)])) (zq_ev r (0, [(3, 1)])) (zq_ev r (4, [])) (zq_ev r (0, [(4, 1)])) (zq_ev r (0, [(5, 1)])) (zq_ev r (0, [(6, 1)])) (zq_ev r (1, [(7, 1)])) (zq_ev r (0, [(8, 1)])) P h := k2
  simp only [q0, q1, q10, q11, q4, q5, q6, q7, q8, q9] at k2
  obtain t1 := zc_p5_l (P := P) (h := h) (o := r 0) (g := r 1) (n := r 2) (Y := r 3) (d := r 4) (s := r 5) (t := r 6) (i := r 7) (j := r 8) k1 k2
  obtain ⟨rq, hr⟩ : ∃ rq : Nat → Int, (∀ i, i < 9 → rq i = r i) := ⟨r, fun i hi => rfl⟩
  have v0 : rq 0 = r 0 := hr 0 (by decide)
  have v1 : rq 1 = r 1 := hr 1 (by decide)
  have v2 : rq 2 = r 2 := hr 2 (by decide)
  have v3 : rq 3 = r 3 := hr 3 (by decide)
  have v4 : rq 4 = r 4 := hr 4 (by decide)
  have v5 : rq 5 = r 5 := hr 5 (by decide)
  have v6 : rq 6 = r 6 := hr 6 (by decide)
  have v7 : rq 7 = r 7 := hr 7 (by decide)
  have v8 : rq 8 = r 8 := hr 8 (by decide)
  have g0 : zq_ev rq (0, [(0, 1)]) = r 0 := zu_f1 v0
  have g1 : zq_ev rq (0, [(1, 1)]) = r 1 := zu_f1 v1
  have g2 : zq_ev rq (0, [(2, 1)]) = r 2 := zu_f1 v2
  have g3 : zq_ev rq (0, [(3, 1)]) = r 3 := zu_f1 v3
  have g4 : zq_ev rq (0, []) = 0 := zu_e0 _ _
  have g5 : zq_ev rq (0, [(4, 1)]) = r 4 := zu_f1 v4
  have g6 : zq_ev rq (0, [(5, 1)]) = r 5 := zu_f1 v5
  have g7 : zq_ev rq (0, [(6, 1)]) = r 6 := zu_f1 v6
  have g8 : zq_ev rq (0, [(7, 1)]) = r 7 := zu_f1 v7
  have g9 : zq_ev rq (1, [(8, 1)]) = r 8 + 1 := zu_f2 v8 _
  exact ⟨_, List.mem_cons_self .., rq, hr, zq_MeS_mk rfl hT (zq_all_nil) zq_fan (zq_fan) rfl (zu_fac ((x_P _ _ _).mpr (by show zc_P (zq_ev rq (0, [(0, 1)])) (zq_ev rq (0, [(1, 1)])) (zq_ev rq (0, [(2, 1)])) (zq_ev rq (0, [(3, 1)])) (zq_ev rq (0, [])) (zq_ev rq (0, [(4, 1)])) (zq_ev rq (0, [(5, 1)])) (zq_ev rq (0, [(6, 1)])) (zq_ev rq (0, [(7, 1)])) (zq_ev rq (1, [(8, 1)])) P h; simp only [g0, g1, g2, g3, g4, g5, g6, g7, g8, g9]; exact t1)) zq_fan)⟩
noncomputable def zc_q0 : zq_S × List zq_S := (([], [], [(0, [(5, 1)])], [], [], [], [], 7), [([], [], [], [], [], [], [(245, [(0, [(0, 1)]), (0, [(1, 1)]), (0, [(2, 1)]), (0, [(3, 1)]), (0, [(4, 1)]), (0, [(5, 1)]), (0, [(5, 1)]), (0, [(6, 1)]), (0, [(6, 1)]), (-1, []), (-1, [])])], 7)])
theorem zc_q0_l {P : zq_Ty} {h : zq_H} {o g n Y d s i : Int} (a1 : 0 ≤ s) : (zc_Q0m o g n Y d s s i i (-1) (-1) P h) := by
  show zp_Q0 o g n Y d.toNat s s i i (zc_ma (-1)) (zc_ms (-1))
  rw [show zc_ma (-1) = 0 by decide, show zc_ms (-1) = 0 by decide]
  exact zp_Q0_0 a1
theorem zc_q0_ok {w : zq_Wd} (x_Q0 : zj_is w 245 (fun q => zc_Q0m (q 0) (q 1) (q 2) (q 3) (q 4) (q 5) (q 6) (q 7) (q 8) (q 9) (q 10))) : zq_okG1 w zc_q0 := by
  refine ⟨rfl, rfl, zu_fac ⟨rfl, by decide⟩ zq_fan, ?_⟩
  intro r P h H hM
  have q0 : zq_ev r (0, [(5, 1)]) = r 5 := zu_e1 _ _
  obtain ⟨hT, hC, hF, hS, -, hK⟩ := hM
  have c := hC.1
  have a1 := zq_all_1 c
  rw [q0] at a1
  obtain t1 := zc_q0_l (P := P) (h := h) (o := r 0) (g := r 1) (n := r 2) (Y := r 3) (d := r 4) (s := r 5) (i := r 6) a1
  obtain ⟨rq, hr⟩ : ∃ rq : Nat → Int, (∀ i, i < 7 → rq i = r i) := ⟨r, fun i hi => rfl⟩
  have v0 : rq 0 = r 0 := hr 0 (by decide)
  have v1 : rq 1 = r 1 := hr 1 (by decide)
  have v2 : rq 2 = r 2 := hr 2 (by decide)
  have v3 : rq 3 = r 3 := hr 3 (by decide)
  have v4 : rq 4 = r 4 := hr 4 (by decide)
  have v5 : rq 5 = r 5 := hr 5 (by decide)
  have v6 : rq 6 = r 6 := hr 6 (by decide)
  have g0 : zq_ev rq (0, [(0, 1)]) = r 0 := zu_f1 v0
  have g1 : zq_ev rq (0, [(1, 1)]) = r 1 := zu_f1 v1
  have g2 : zq_ev rq (0, [(2, 1)]) = r 2 := zu_f1 v2
  have g3 : zq_ev rq (0, [(3, 1)]) = r 3 := zu_f1 v3
  have g4 : zq_ev rq (0, [(4, 1)]) = r 4 := zu_f1 v4
  have g5 : zq_ev rq (0, [(5, 1)]) = r 5 := zu_f1 v5
  have g6 : zq_ev rq (0, [(6, 1)]) = r 6 := zu_f1 v6
  have g7 : zq_ev rq (-1, []) = -1 := zu_e0 _ _
  exact ⟨_, List.mem_cons_self .., rq, hr, zq_MeS_mk rfl hT (zq_all_nil) zq_fan (zq_fan) rfl (zu_fac ((x_Q0 _ _ _).mpr (by show zc_Q0m (zq_ev rq (0, [(0, 1)])) (zq_ev rq (0, [(1, 1)])) (zq_ev rq (0, [(2, 1)])) (zq_ev rq (0, [(3, 1)])) (zq_ev rq (0, [(4, 1)])) (zq_ev rq (0, [(5, 1)])) (zq_ev rq (0, [(5, 1)])) (zq_ev rq (0, [(6, 1)])) (zq_ev rq (0, [(6, 1)])) (zq_ev rq (-1, [])) (zq_ev rq (-1, [])) P h; simp only [g0, g1, g2, g3, g4, g5, g6, g7]; exact t1)) zq_fan)⟩
noncomputable def zc_qn : zq_S × List zq_S := (([], [], [(-1, [(4, 1), (5, -1)]), (0, [(5, 1)])], [], [], [], [(245, [(0, [(0, 1)]), (0, [(1, 1)]), (0, [(2, 1)]), (0, [(3, 1)]), (0, [(4, 1)]), (0, [(6, 1)]), (0, [(7, 1)]), (0, [(9, 1)]), (0, [(10, 1)]), (0, [(12, 1)]), (-1, [])]), (243, [(0, [(0, 1)]), (0, [(1, 1)]), (0, [(2, 1)]), (0, [(3, 1)]), (0, []), (0, [(5, 1)]), (0, [(7, 1)]), (0, [(8, 1)]), (0, [(10, 1)]), (0, [(11, 1)])])], 13), [([], [], [], [], [], [], [(246, [(0, [(0, 1)]), (0, [(1, 1)]), (0, [(2, 1)]), (0, [(3, 1)]), (0, [(4, 1)]), (0, [(6, 1)]), (0, [(8, 1)]), (0, [(9, 1)]), (0, [(11, 1)]), (0, [(12, 1)])])], 13)])
theorem zc_qn_l {P : zq_Ty} {h : zq_H} {o g n Y d e s t u i j l A : Int} (a1 : 0 ≤ d - e - 1) (a2 : 0 ≤ e) (k1 : zc_Q0m o g n Y d s t i j A (-1) P h) (k2 : zc_P o g n Y 0 e t u j l P h) : (zc_Q1m o g n Y d s u i l A P h) := by
  have k1 : zp_Q0 o g n Y d.toNat s t i j (zc_ma A) (zc_ms (-1)) := k1
  rw [show zc_ms (-1) = 0 by decide] at k1
  exact zp_Q1_n k1 k2 (by omega)
theorem zc_qn_ok {w : zq_Wd} (x_Q0 : zj_is w 245 (fun q => zc_Q0m (q 0) (q 1) (q 2) (q 3) (q 4) (q 5) (q 6) (q 7) (q 8) (q 9) (q 10))) (x_P : zj_is w 243 (fun q => zc_P (q 0) (q 1) (q 2) (q 3) (q 4) (q 5) (q 6) (q 7) (q 8) (q 9))) (x_Q1 : zj_is w 246 (fun q => zc_Q1m (q 0) (q 1) (q 2) (q 3) (q 4) (q 5) (q 6) (q 7) (q 8) (q 9))) : zq_okG1 w zc_qn := by
  refine ⟨rfl, rfl, zu_fac ⟨rfl, by decide⟩ zq_fan, ?_⟩
  intro r P h H hM
  have q0 : zq_ev r (-1, [(4, 1), (5, -1)]) = r 4 - r 5 - 1 := by simp only [zq_ev, zq_ts] <;> omega
  have q1 : zq_ev r (0, [(5, 1)]) = r 5 := zu_e1 _ _
  have q2 : zq_ev r (0, [(0, 1)]) = r 0 := zu_e1 _ _
  have q3 : zq_ev r (0, [(1, 1)]) = r 1 := zu_e1 _ _
  have q4 : zq_ev r (0, [(2, 1)]) = r 2 := zu_e1 _ _
  have q5 : zq_ev r (0, [(3, 1)]) = r 3 := zu_e1 _ _
  have q6 : zq_ev r (0, [(4, 1)]) = r 4 := zu_e1 _ _
  have q7 : zq_ev r (0, [(6, 1)]) = r 6 := zu_e1 _ _
  have q8 : zq_ev r (0, [(7, 1)]) = r 7 := zu_e1 _ _
  have q9 : zq_ev r (0, [(9, 1)]) = r 9 := zu_e1 _ _
  have q10 : zq_ev r (0, [(10, 1)]) = r 10 := zu_e1 _ _
  have q11 : zq_ev r (0, [(12, 1)]) = r 12 := zu_e1 _ _
  have q12 : zq_ev r (-1, []) = -1 := zu_e0 _ _
  have q13 : zq_ev r (0, []) = 0 := zu_e0 _ _
  have q14 : zq_ev r (0, [(8, 1)]) = r 8 := zu_e1 _ _
  have q15 : zq_ev r (0, [(11, 1)]) = r 11 := zu_e1 _ _
  obtain ⟨hT, hC, hF, hS, -, hK⟩ := hM
  have c := hC.1
  have a1 := zq_all_1 c
  rw [q0] at a1
  have c := zq_all_t c
  have a2 := zq_all_1 c
  rw [q1] at a2
  have k1 := zj_use x_Q0 (hK)
  have k1 : zc_Q0m (zq_ev r (0, [(0, 1)])) (zq_ev r (0, [(1, 1)])) (zq_ev r (0, [(2, 1)])) (zq_ev r (0, [(3, 1)])) (zq_ev r (0, [(4, 1)])) (zq_ev r (0, [(6, 1)])) (zq_ev r (0, [(7, 1)])) (zq_ev r (0, [(9, 1)])) (zq_ev r (0, [(10, 1)])) (zq_ev r (0, [(12, 1)])) (zq_ev r (-1, [])) P h := k1
  simp only [q10, q11, q12, q2, q3, q4, q5, q6, q7, q8, q9] at k1
  have k2 := zj_use x_P (zq_okX_t (hK))
  have k2 : zc_P (zq_ev r (0, [(0, 1)])) (zq_ev r (0, [(1, 1)])) (zq_ev r (0, [(2, 1)])) (zq_ev r (0, [(3, 1)])) (zq_ev r (0, [])) (zq_ev r (0, [(5, 1)])) (zq_ev r (0, [(7, 1)])) (zq_ev r (0, [(8, 1)])) (zq_ev r (0, [(10, 1)])) (zq_ev r (0, [(11, 1)])) P h := k2
  simp only [q1, q10, q13, q14, q15, q2, q3, q4, q5, q8] at k2
  obtain t1 := zc_qn_l (P := P) (h := h) (o := r 0) (g := r 1) (n := r 2) (Y := r 3) (d := r 4) (e := r 5) (s := r 6) (t := r 7) (u := r 8) (i := r 9) (j := r 10) (l := r 11) (A := r 12) a1 a2 k1 k2
  obtain ⟨rq, hr⟩ : ∃ rq : Nat → Int, (∀ i, i < 13 → rq i = r i) := ⟨r, fun i hi => rfl⟩
  have v0 : rq 0 = r 0 := hr 0 (by decide)
  have v1 : rq 1 = r 1 := hr 1 (by decide)
  have v2 : rq 2 = r 2 := hr 2 (by decide)
  have v3 : rq 3 = r 3 := hr 3 (by decide)
  have v4 : rq 4 = r 4 := hr 4 (by decide)
  have v6 : rq 6 = r 6 := hr 6 (by decide)
  have v8 : rq 8 = r 8 := hr 8 (by decide)
  have v9 : rq 9 = r 9 := hr 9 (by decide)
  have v11 : rq 11 = r 11 := hr 11 (by decide)
  have v12 : rq 12 = r 12 := hr 12 (by decide)
  have g0 : zq_ev rq (0, [(0, 1)]) = r 0 := zu_f1 v0
  have g1 : zq_ev rq (0, [(1, 1)]) = r 1 := zu_f1 v1
  have g2 : zq_ev rq (0, [(2, 1)]) = r 2 := zu_f1 v2
  have g3 : zq_ev rq (0, [(3, 1)]) = r 3 := zu_f1 v3
  have g4 : zq_ev rq (0, [(4, 1)]) = r 4 := zu_f1 v4
  have g5 : zq_ev rq (0, [(6, 1)]) = r 6 := zu_f1 v6
  have g6 : zq_ev rq (0, [(8, 1)]) = r 8 := zu_f1 v8
  have g7 : zq_ev rq (0, [(9, 1)]) = r 9 := zu_f1 v9
  have g8 : zq_ev rq (0, [(11, 1)]) = r 11 := zu_f1 v11
  have g9 : zq_ev rq (0, [(12, 1)]) = r 12 := zu_f1 v12
  exact ⟨_, List.mem_cons_self .., rq, hr, zq_MeS_mk rfl hT (zq_all_nil) zq_fan (zq_fan) rfl (zu_fac ((x_Q1 _ _ _).mpr (by show zc_Q1m (zq_ev rq (0, [(0, 1)])) (zq_ev rq (0, [(1, 1)])) (zq_ev rq (0, [(2, 1)])) (zq_ev rq (0, [(3, 1)])) (zq_ev rq (0, [(4, 1)])) (zq_ev rq (0, [(6, 1)])) (zq_ev rq (0, [(8, 1)])) (zq_ev rq (0, [(9, 1)])) (zq_ev rq (0, [(11, 1)])) (zq_ev rq (0, [(12, 1)])) P h; simp only [g0, g1, g2, g3, g4, g5, g6, g7, g8, g9]; exact t1)) zq_fan)⟩
noncomputable def zc_qs : zq_S × List zq_S := (([], [], [(-2, [(4, 1), (5, -1)]), (0, [(5, 1)]), (-8, [(13, 1)]), (10, [(13, -1)])], [], [], [], [(245, [(0, [(0, 1)]), (0, [(1, 1)]), (0, [(2, 1)]), (0, [(3, 1)]), (0, [(4, 1)]), (0, [(6, 1)]), (0, [(7, 1)]), (0, [(9, 1)]), (0, [(10, 1)]), (0, [(12, 1)]), (0, [(13, 1)])]), (243, [(0, [(0, 1)]), (0, [(1, 1)]), (0, [(2, 1)]), (0, [(3, 1)]), (0, []), (0, [(5, 1)]), (0, [(7, 1)]), (0, [(8, 1)]), (0, [(10, 1)]), (0, [(11, 1)])]), (134, [(0, [(3, 1)]), (0, [(8, 1)]), (0, [(13, 1)])])], 14), [([], [], [], [], [], [], [(246, [(0, [(0, 1)]), (0, [(1, 1)]), (0, [(2, 1)]), (0, [(3, 1)]), (0, [(4, 1)]), (0, [(6, 1)]), (1, [(8, 1)]), (0, [(9, 1)]), (0, [(11, 1)]), (0, [(12, 1)])])], 14)])
theorem zc_qs_l {P : zq_Ty} {h : zq_H} {o g n Y d e s t u i j l A S : Int} (a1 : 0 ≤ d - e - 2) (a2 : 0 ≤ e) (a3 : 0 ≤ S - 8) (a4 : 0 ≤ -S + 10) (k1 : zc_Q0m o g n Y d s t i j A S P h) (k2 : zc_P o g n Y 0 e t u j l P h) (k3 : zn_DG Y u S P h) : (zc_Q1m o g n Y d s (u + 1) i l A P h) := by
  have k1 : zp_Q0 o g n Y d.toNat s t i j (zc_ma A) (zc_ms S) := k1
  exact zp_Q1_s k1 (zc_ms_b (by omega) (by omega)) k2 (by omega) (show S = zn_dg Y u from k3).symm
theorem zc_qs_ok {w : zq_Wd} (x_Q0 : zj_is w 245 (fun q => zc_Q0m (q 0) (q 1) (q 2) (q 3) (q 4) (q 5) (q 6) (q 7) (q 8) (q 9) (q 10))) (x_P : zj_is w 243 (fun q => zc_P (q 0) (q 1) (q 2) (q 3) (q 4) (q 5) (q 6) (q 7) (q 8) (q 9))) (x_DG : zj_is w 134 (fun q => zn_DG (q 0) (q 1) (q 2))) (x_Q1 : zj_is w 246 (fun q => zc_Q1m (q 0) (q 1) (q 2) (q 3) (q 4) (q 5) (q 6) (q 7) (q 8) (q 9))) : zq_okG1 w zc_qs := by
  refine ⟨rfl, rfl, zu_fac ⟨rfl, by decide⟩ zq_fan, ?_⟩
  intro r P h H hM
  have q0 : zq_ev r (-2, [(4, 1), (5, -1)]) = r 4 - r 5 - 2 := by simp only [zq_ev, zq_ts] <;> omega
  have q1 : zq_ev r (0, [(5, 1)]) = r 5 := zu_e1 _ _
  have q2 : zq_ev r (-8, [(13, 1)]) = r 13 - 8 := zu_e3 _ _ _
  have q3 : zq_ev r (10, [(13, -1)]) = -r 13 + 10 := zu_e5 _ _ _
  have q4 : zq_ev r (0, [(0, 1)]) = r 0 := zu_e1 _ _
  have q5 : zq_ev r (0, [(1, 1)]) = r 1 := zu_e1 _ _
  have q6 : zq_ev r (0, [(2, 1)]) = r 2 := zu_e1 _ _
  have q7 : zq_ev r (0, [(3, 1)]) = r 3 := zu_e1 _ _
  have q8 : zq_ev r (0, [(4, 1)]) = r 4 := zu_e1 _ _
  have q9 : zq_ev r (0, [(6, 1)]) = r 6 := zu_e1 _ _
  have q10 : zq_ev r (0, [(7, 1)]) = r 7 := zu_e1 _ _
  have q11 : zq_ev r (0, [(9, 1)]) = r 9 := zu_e1 _ _
  have q12 : zq_ev r (0, [(10, 1)]) = r 10 := zu_e1 _ _
  have q13 : zq_ev r (0, [(12, 1)]) = r 12 := zu_e1 _ _
  have q14 : zq_ev r (0, [(13, 1)]) = r 13 := zu_e1 _ _
  have q15 : zq_ev r (0, []) = 0 := zu_e0 _ _
  have q16 : zq_ev r (0, [(8, 1)]) = r 8 := zu_e1 _ _
  have q17 : zq_ev r (0, [(11, 1)]) = r 11 := zu_e1 _ _
  obtain ⟨hT, hC, hF, hS, -, hK⟩ := hM
  have c := hC.1
  have a1 := zq_all_1 c
  rw [q0] at a1
  have c := zq_all_t c
  have a2 := zq_all_1 c
  rw [q1] at a2
  have c := zq_all_t c
  have a3 := zq_all_1 c
  rw [q2] at a3
  have c := zq_all_t c
  have a4 := zq_all_1 c
  rw [q3] at a4
  have k1 := zj_use x_Q0 (hK)
  have k1 : zc_Q0m (zq_ev r (0, [(0, 1)])) (zq_ev r (0, [(1, 1)])) (zq_ev r (0, [(2, 1)])) (zq_ev r (0, [(3, 1)])) (zq_ev r (0, [(4, 1)])) (zq_ev r (0, [(6, 1)])) (zq_ev r (0, [(7, 1)])) (zq_ev r (0, [(9, 1)])) (zq_ev r (0, [(10, 1)])) (zq_ev r (0, [(12, 1)])) (zq_ev r (0, [(13, 1)])) P h := k1
  simp only [q10, q11, q12, q13, q14, q4, q5, q6, q7, q8, q9] at k1
  have k2 := zj_use x_P (zq_okX_t (hK))
  have k2 : zc_P (zq_ev r (0, [(0, 1)])) (zq_ev r (0, [(1, 1)])) (zq_ev r (0, [(2, 1)])) (zq_ev r (0, [(3, 1)])) (zq_ev r (0, [])) (zq_ev r (0, [(5, 1)])) (zq_ev r (0, [(7, 1)])) (zq_ev r (0, [(8, 1)])) (zq_ev r (0, [(10, 1)])) (zq_ev r (0, [(11, 1)])) P h := k2
  simp only [q1, q10, q12, q15, q16, q17, q4, q5, q6, q7] at k2
  have k3 := zj_use x_DG (zq_okX_t (zq_okX_t (hK)))
  have k3 : zn_DG (zq_ev r (0, [(3, 1)])) (zq_ev r (0, [(8, 1)])) (zq_ev r (0, [(13, 1)])) P h := k3
  simp only [q14, q16, q7] at k3
  obtain t1 := zc_qs_l (P := P) (h := h) (o := r 0) (g := r 1) (n := r 2) (Y := r 3) (d := r 4) (e := r 5) (s := r 6) (t := r 7) (u := r 8) (i := r 9) (j := r 10) (l := r 11) (A := r 12) (S := r 13) a1 a2 a3 a4 k1 k2 k3
  obtain ⟨rq, hr⟩ : ∃ rq : Nat → Int, (∀ i, i < 14 → rq i = r i) := ⟨r, fun i hi => rfl⟩
  have v0 : rq 0 = r 0 := hr 0 (by decide)
  have v1 : rq 1 = r 1 := hr 1 (by decide)
  have v2 : rq 2 = r 2 := hr 2 (by decide)
  have v3 : rq 3 = r 3 := hr 3 (by decide)
  have v4 : rq 4 = r 4 := hr 4 (by decide)
  have v6 : rq 6 = r 6 := hr 6 (by decide)
  have v8 : rq 8 = r 8 := hr 8 (by decide)
  have v9 : rq 9 = r 9 := hr 9 (by decide)
  have v11 : rq 11 = r 11 := hr 11 (by decide)
  have v12 : rq 12 = r 12 := hr 12 (by decide)
  have g0 : zq_ev rq (0, [(0, 1)]) = r 0 := zu_f1 v0
  have g1 : zq_ev rq (0, [(1, 1)]) = r 1 := zu_f1 v1
  have g2 : zq_ev rq (0, [(2, 1)]) = r 2 := zu_f1 v2
  have g3 : zq_ev rq (0, [(3, 1)]) = r 3 := zu_f1 v3
  have g4 : zq_ev rq (0, [(4, 1)]) = r 4 := zu_f1 v4
  have g5 : zq_ev rq (0, [(6, 1)]) = r 6 := zu_f1 v6
  have g6 : zq_ev rq (1, [(8, 1)]) = r 8 + 1 := zu_f2 v8 _
  have g7 : zq_ev rq (0, [(9, 1)]) = r 9 := zu_f1 v9
  have g8 : zq_ev rq (0, [(11, 1)]) = r 11 := zu_f1 v11
  have g9 : zq_ev rq (0, [(12, 1)]) = r 12 := zu_f1 v12
  exact ⟨_, List.mem_cons_self .., rq, hr, zq_MeS_mk rfl hT (zq_all_nil) zq_fan (zq_fan) rfl (zu_fac ((x_Q1 _ _ _).mpr (by show zc_Q1m (zq_ev rq (0, [(0, 1)])) (zq_ev rq (0, [(1, 1)])) (zq_ev rq (0, [(2, 1)])) (zq_ev rq (0, [(3, 1)])) (zq_ev rq (0, [(4, 1)])) (zq_ev rq (0, [(6, 1)])) (zq_ev rq (1, [(8, 1)])) (zq_ev rq (0, [(9, 1)])) (zq_ev rq (0, [(11, 1)])) (zq_ev rq (0, [(12, 1)])) P h; simp only [g0, g1, g2, g3, g4, g5, g6, g7, g8, g9]; exact t1)) zq_fan)⟩
noncomputable def zc_qm8 : zq_S × List zq_S := (([], [], [], [], [], [], [(246, [(0, [(0, 1)]), (0, [(1, 1)]), (0, [(2, 1)]), (0, [(3, 1)]), (0, [(4, 1)]), (0, [(5, 1)]), (0, [(6, 1)]), (0, [(7, 1)]), (0, [(8, 1)]), (0, [(9, 1)])]), (239, [(0, [(1, 1)]), (0, [(2, 1)]), (0, [(8, 1)]), (74, [])])], 10), [([], [], [], [], [], [], [(245, [(0, [(0, 1)]), (0, [(1, 1)]), (0, [(2, 1)]), (0, [(3, 1)]), (0, [(4, 1)]), (0, [(5, 1)]), (0, [(6, 1)]), (0, [(7, 1)]), (1, [(8, 1)]), (0, [(9, 1)]), (8, [])])], 10)])
theorem zc_qm8_l {P : zq_Ty} {h : zq_H} {o g n Y d s t i j A : Int} (k1 : zc_Q1m o g n Y d s t i j A P h) (k2 : zc_CM g n j 74 P h) : (zc_Q0m o g n Y d s t i (j + 1) A 8 P h) := by
  have k1 : zp_Q1 o g n Y d.toNat s t i j (zc_ma A) := k1
  show zp_Q0 o g n Y d.toNat s t i (j + 1) (zc_ma A) (zc_ms 8)
  rw [show zc_ms 8 = 142 by decide]
  exact zp_Q0_s k1 (Or.inl rfl) (zc_mp_c (by decide) k2 rfl)
theorem zc_qm8_ok {w : zq_Wd} (x_Q1 : zj_is w 246 (fun q => zc_Q1m (q 0) (q 1) (q 2) (q 3) (q 4) (q 5) (q 6) (q 7) (q 8) (q 9))) (x_CM : zj_is w 239 (fun q => zc_CM (q 0) (q 1) (q 2) (q 3))) (x_Q0 : zj_is w 245 (fun q => zc_Q0m (q 0) (q 1) (q 2) (q 3) (q 4) (q 5) (q 6) (q 7) (q 8) (q 9) (q 10))) : zq_okG1 w zc_qm8 := by
  refine ⟨rfl, rfl, zu_fac ⟨rfl, by decide⟩ zq_fan, ?_⟩
  intro r P h H hM
  have q0 : zq_ev r (0, [(0, 1)]) = r 0 := zu_e1 _ _
  have q1 : zq_ev r (0, [(1, 1)]) = r 1 := zu_e1 _ _
  have q2 : zq_ev r (0, [(2, 1)]) = r 2 := zu_e1 _ _
  have q3 : zq_ev r (0, [(3, 1)]) = r 3 := zu_e1 _ _
  have q4 : zq_ev r (0, [(4, 1)]) = r 4 := zu_e1 _ _
  have q5 : zq_ev r (0, [(5, 1)]) = r 5 := zu_e1 _ _
  have q6 : zq_ev r (0, [(6, 1)]) = r 6 := zu_e1 _ _
  have q7 : zq_ev r (0, [(7, 1)]) = r 7 := zu_e1 _ _
  have q8 : zq_ev r (0, [(8, 1)]) = r 8 := zu_e1 _ _
  have q9 : zq_ev r (0, [(9, 1)]) = r 9 := zu_e1 _ _
  have q10 : zq_ev r (74, []) = 74 := zu_e0 _ _
  obtain ⟨hT, hC, hF, hS, -, hK⟩ := hM
  have c := hC.1
  have k1 := zj_use x_Q1 (hK)
  have k1 : zc_Q1m (zq_ev r (0, [(0, 1)])) (zq_ev r (0, [(1, 1)])) (zq_ev r (0, [(2, 1)])) (zq_ev r (0, [(3, 1)])) (zq_ev r (0, [(4, 1)])) (zq_ev r (0, [(5, 1)])) (zq_ev r (0, [(6, 1)])) (zq_ev r (0, [(7, 1)])) (zq_ev r (0, [(8, 1)])) (zq_ev r (0, [(9, 1)])) P h := k1
  simp only [q0, q1, q2, q3, q4, q5, q6, q7, q8, q9] at k1
  have k2 := zj_use x_CM (zq_okX_t (hK))
  have k2 : zc_CM (zq_ev r (0, [(1, 1)])) (zq_ev r (0, [(2, 1)])) (zq_ev r (0, [(8, 1)])) (zq_ev r (74, [])) P h := k2
  simp only [q1, q10, q2, q8] at k2
  obtain t1 := zc_qm8_l (P := P) (h := h) (o := r 0) (g := r 1) (n := r 2) (Y := r 3) (d := r 4) (s := r 5) (t := r 6) (i := r 7) (j := r 8) (A := r 9) k1 k2
  obtain ⟨rq, hr⟩ : ∃ rq : Nat → Int, (∀ i, i < 10 → rq i = r i) := ⟨r, fun i hi => rfl⟩
  have v0 : rq 0 = r 0 := hr 0 (by decide)
  have v1 : rq 1 = r 1 := hr 1 (by decide)
  have v2 : rq 2 = r 2 := hr 2 (by decide)
  have v3 : rq 3 = r 3 := hr 3 (by decide)
  have v4 : rq 4 = r 4 := hr 4 (by decide)
  have v5 : rq 5 = r 5 := hr 5 (by decide)
  have v6 : rq 6 = r 6 := hr 6 (by decide)
  have v7 : rq 7 = r 7 := hr 7 (by decide)
  have v8 : rq 8 = r 8 := hr 8 (by decide)
  have v9 : rq 9 = r 9 := hr 9 (by decide)
  have g0 : zq_ev rq (0, [(0, 1)]) = r 0 := zu_f1 v0
  have g1 : zq_ev rq (0, [(1, 1)]) = r 1 := zu_f1 v1
  have g2 : zq_ev rq (0, [(2, 1)]) = r 2 := zu_f1 v2
  have g3 : zq_ev rq (0, [(3, 1)]) = r 3 := zu_f1 v3
  have g4 : zq_ev rq (0, [(4, 1)]) = r 4 := zu_f1 v4
  have g5 : zq_ev rq (0, [(5, 1)]) = r 5 := zu_f1 v5
  have g6 : zq_ev rq (0, [(6, 1)]) = r 6 := zu_f1 v6
  have g7 : zq_ev rq (0, [(7, 1)]) = r 7 := zu_f1 v7
  have g8 : zq_ev rq (1, [(8, 1)]) = r 8 + 1 := zu_f2 v8 _
  have g9 : zq_ev rq (0, [(9, 1)]) = r 9 := zu_f1 v9
  have g10 : zq_ev rq (8, []) = 8 := zu_e0 _ _
  exact ⟨_, List.mem_cons_self .., rq, hr, zq_MeS_mk rfl hT (zq_all_nil) zq_fan (zq_fan) rfl (zu_fac ((x_Q0 _ _ _).mpr (by show zc_Q0m (zq_ev rq (0, [(0, 1)])) (zq_ev rq (0, [(1, 1)])) (zq_ev rq (0, [(2, 1)])) (zq_ev rq (0, [(3, 1)])) (zq_ev rq (0, [(4, 1)])) (zq_ev rq (0, [(5, 1)])) (zq_ev rq (0, [(6, 1)])) (zq_ev rq (0, [(7, 1)])) (zq_ev rq (1, [(8, 1)])) (zq_ev rq (0, [(9, 1)])) (zq_ev rq (8, [])) P h; simp only [g0, g1, g10, g2, g3, g4, g5, g6, g7, g8, g9]; exact t1)) zq_fan)⟩
noncomputable def zc_qm9 : zq_S × List zq_S := (([], [], [], [], [], [], [(246, [(0, [(0, 1)]), (0, [(1, 1)]), (0, [(2, 1)]), (0, [(3, 1)]), (0, [(4, 1)]), (0, [(5, 1)]), (0, [(6, 1)]), (0, [(7, 1)]), (0, [(8, 1)]), (0, [(9, 1)])]), (239, [(0, [(1, 1)]), (0, [(2, 1)]), (0, [(8, 1)]), (79, [])])], 10), [([], [], [], [], [], [], [(245, [(0, [(0, 1)]), (0, [(1, 1)]), (0, [(2, 1)]), (0, [(3, 1)]), (0, [(4, 1)]), (0, [(5, 1)]), (0, [(6, 1)]), (0, [(7, 1)]), (1, [(8, 1)]), (0, [(9, 1)]), (9, [])])], 10)])
theorem zc_qm9_l {P : zq_Ty} {h : zq_H} {o g n Y d s t i j A : Int} (k1 : zc_Q1m o g n Y d s t i j A P h) (k2 : zc_CM g n j 79 P h) : (zc_Q0m o g n Y d s t i (j + 1) A 9 P h) := by
  have k1 : zp_Q1 o g n Y d.toNat s t i j (zc_ma A) := k1
  show zp_Q0 o g n Y d.toNat s t i (j + 1) (zc_ma A) (zc_ms 9)
  rw [show zc_ms 9 = 147 by decide]
  exact zp_Q0_s k1 (Or.inr (Or.inl rfl)) (zc_mp_c (by decide) k2 rfl)
theorem zc_qm9_ok {w : zq_Wd} (x_Q1 : zj_is w 246 (fun q => zc_Q1m (q 0) (q 1) (q 2) (q 3) (q 4) (q 5) (q 6) (q 7) (q 8) (q 9))) (x_CM : zj_is w 239 (fun q => zc_CM (q 0) (q 1) (q 2) (q 3))) (x_Q0 : zj_is w 245 (fun q => zc_Q0m (q 0) (q 1) (q 2) (q 3) (q 4) (q 5) (q 6) (q 7) (q 8) (q 9) (q 10))) : zq_okG1 w zc_qm9 := by
  refine ⟨rfl, rfl, zu_fac ⟨rfl, by decide⟩ zq_fan, ?_⟩
  intro r P h H hM
  have q0 : zq_ev r (0, [(0, 1)]) = r 0 := zu_e1 _ _
  have q1 : zq_ev r (0, [(1, 1)]) = r 1 := zu_e1 _ _
  have q2 : zq_ev r (0, [(2, 1)]) = r 2 := zu_e1 _ _
  have q3 : zq_ev r (0, [(3, 1)]) = r 3 := zu_e1 _ _
  have q4 : zq_ev r (0, [(4, 1)]) = r 4 := zu_e1 _ _
  have q5 : zq_ev r (0, [(5, 1)]) = r 5 := zu_e1 _ _
  have q6 : zq_ev r (0, [(6, 1)]) = r 6 := zu_e1 _ _
  have q7 : zq_ev r (0, [(7, 1)]) = r 7 := zu_e1 _ _
  have q8 : zq_ev r (0, [(8, 1)]) = r 8 := zu_e1 _ _
  have q9 : zq_ev r (0, [(9, 1)]) = r 9 := zu_e1 _ _
  have q10 : zq_ev r (79, []) = 79 := zu_e0 _ _
  obtain ⟨hT, hC, hF, hS, -, hK⟩ := hM
  have c := hC.1
  have k1 := zj_use x_Q1 (hK)
  have k1 : zc_Q1m (zq_ev r (0, [(0, 1)])) (zq_ev r (0, [(1, 1)])) (zq_ev r (0, [(2, 1)])) (zq_ev r (0, [(3, 1)])) (zq_ev r (0, [(4, 1)])) (zq_ev r (0, [(5, 1)])) (zq_ev r (0, [(6, 1)])) (zq_ev r (0, [(7, 1)])) (zq_ev r (0, [(8, 1)])) (zq_ev r (0, [(9, 1)])) P h := k1
  simp only [q0, q1, q2, q3, q4, q5, q6, q7, q8, q9] at k1
  have k2 := zj_use x_CM (zq_okX_t (hK))
  have k2 : zc_CM (zq_ev r (0, [(1, 1)])) (zq_ev r (0, [(2, 1)])) (zq_ev r (0, [(8, 1)])) (zq_ev r (79, [])) P h := k2
  simp only [q1, q10, q2, q8] at k2
  obtain t1 := zc_qm9_l (P := P) (h := h) (o := r 0) (g := r 1) (n := r 2) (Y := r 3) (d := r 4) (s := r 5) (t := r 6) (i := r 7) (j := r 8) (A := r 9) k1 k2
  obtain ⟨rq, hr⟩ : ∃ rq : Nat → Int, (∀ i, i < 10 → rq i = r i) := ⟨r, fun i hi => rfl⟩
  have v0 : rq 0 = r 0 := hr 0 (by decide)
  have v1 : rq 1 = r 1 := hr 1 (by decide)
  have v2 : rq 2 = r 2 := hr 2 (by decide)
  have v3 : rq 3 = r 3 := hr 3 (by decide)
  have v4 : rq 4 = r 4 := hr 4 (by decide)
  have v5 : rq 5 = r 5 := hr 5 (by decide)
  have v6 : rq 6 = r 6 := hr 6 (by decide)
  have v7 : rq 7 = r 7 := hr 7 (by decide)
  have v8 : rq 8 = r 8 := hr 8 (by decide)
  have v9 : rq 9 = r 9 := hr 9 (by decide)
  have g0 : zq_ev rq (0, [(0, 1)]) = r 0 := zu_f1 v0
  have g1 : zq_ev rq (0, [(1, 1)]) = r 1 := zu_f1 v1
  have g2 : zq_ev rq (0, [(2, 1)]) = r 2 := zu_f1 v2
  have g3 : zq_ev rq (0, [(3, 1)]) = r 3 := zu_f1 v3
  have g4 : zq_ev rq (0, [(4, 1)]) = r 4 := zu_f1 v4
  have g5 : zq_ev rq (0, [(5, 1)]) = r 5 := zu_f1 v5
  have g6 : zq_ev rq (0, [(6, 1)]) = r 6 := zu_f1 v6
  have g7 : zq_ev rq (0, [(7, 1)]) = r 7 := zu_f1 v7
  have g8 : zq_ev rq (1, [(8, 1)]) = r 8 + 1 := zu_f2 v8 _
  have g9 : zq_ev rq (0, [(9, 1)]) = r 9 := zu_f1 v9
  have g10 : zq_ev rq (9, []) = 9 := zu_e0 _ _
  exact ⟨_, List.mem_cons_self .., rq, hr, zq_MeS_mk rfl hT (zq_all_nil) zq_fan (zq_fan) rfl (zu_fac ((x_Q0 _ _ _).mpr (by show zc_Q0m (zq_ev rq (0, [(0, 1)])) (zq_ev rq (0, [(1, 1)])) (zq_ev rq (0, [(2, 1)])) (zq_ev rq (0, [(3, 1)])) (zq_ev rq (0, [(4, 1)])) (zq_ev rq (0, [(5, 1)])) (zq_ev rq (0, [(6, 1)])) (zq_ev rq (0, [(7, 1)])) (zq_ev rq (1, [(8, 1)])) (zq_ev rq (0, [(9, 1)])) (zq_ev rq (9, [])) P h; simp only [g0, g1, g10, g2, g3, g4, g5, g6, g7, g8, g9]; exact t1)) zq_fan)⟩
noncomputable def zc_qm10 : zq_S × List zq_S := (([], [], [], [], [], [], [(246, [(0, [(0, 1)]), (0, [(1, 1)]), (0, [(2, 1)]), (0, [(3, 1)]), (0, [(4, 1)]), (0, [(5, 1)]), (0, [(6, 1)]), (0, [(7, 1)]), (0, [(8, 1)]), (0, [(9, 1)])]), (239, [(0, [(1, 1)]), (0, [(2, 1)]), (0, [(8, 1)]), (69, [])])], 10), [([], [], [], [], [], [], [(245, [(0, [(0, 1)]), (0, [(1, 1)]), (0, [(2, 1)]), (0, [(3, 1)]), (0, [(4, 1)]), (0, [(5, 1)]), (0, [(6, 1)]), (0, [(7, 1)]), (1, [(8, 1)]), (0, [(9, 1)]), (10, [])])], 10)])
theorem zc_qm10_l {P : zq_Ty} {h : zq_H} {o g n Y d s t i j A : Int} (k1 : zc_Q1m o g n Y d s t i j A P h) (k2 : zc_CM g n j 69 P h) : (zc_Q0m o g n Y d s t i (j + 1) A 10 P h) := by
  have k1 : zp_Q1 o g n Y d.toNat s t i j (zc_ma A) := k1
  show zp_Q0 o g n Y d.toNat s t i (j + 1) (zc_ma A) (zc_ms 10)
  rw [show zc_ms 10 = 137 by decide]
  exact zp_Q0_s k1 (Or.inr (Or.inr rfl)) (zc_mp_c (by decide) k2 rfl)
theorem zc_qm10_ok {w : zq_Wd} (x_Q1 : zj_is w 246 (fun q => zc_Q1m (q 0) (q 1) (q 2) (q 3) (q 4) (q 5) (q 6) (q 7) (q 8) (q 9))) (x_CM : zj_is w 239 (fun q => zc_CM (q 0) (q 1) (q 2) (q 3))) (x_Q0 : zj_is w 245 (fun q => zc_Q0m (q 0) (q 1) (q 2) (q 3) (q 4) (q 5) (q 6) (q 7) (q 8) (q 9) (q 10))) : zq_okG1 w zc_qm10 := by
  refine ⟨rfl, rfl, zu_fac ⟨rfl, by decide⟩ zq_fan, ?_⟩
  intro r P h H hM
  have q0 : zq_ev r (0, [(0, 1)]) = r 0 := zu_e1 _ _
  have q1 : zq_ev r (0, [(1, 1)]) = r 1 := zu_e1 _ _
  have q2 : zq_ev r (0, [(2, 1)]) = r 2 := zu_e1 _ _
  have q3 : zq_ev r (0, [(3, 1)]) = r 3 := zu_e1 _ _
  have q4 : zq_ev r (0, [(4, 1)]) = r 4 := zu_e1 _ _
  have q5 : zq_ev r (0, [(5, 1)]) = r 5 := zu_e1 _ _
  have q6 : zq_ev r (0, [(6, 1)]) = r 6 := zu_e1 _ _
  have q7 : zq_ev r (0, [(7, 1)]) = r 7 := zu_e1 _ _
  have q8 : zq_ev r (0, [(8, 1)]) = r 8 := zu_e1 _ _
  have q9 : zq_ev r (0, [(9, 1)]) = r 9 := zu_e1 _ _
  have q10 : zq_ev r (69, []) = 69 := zu_e0 _ _
  obtain ⟨hT, hC, hF, hS, -, hK⟩ := hM
  have c := hC.1
  have k1 := zj_use x_Q1 (hK)
  have k1 : zc_Q1m (zq_ev r (0, [(0, 1)])) (zq_ev r (0, [(1, 1)])) (zq_ev r (0, [(2, 1)])) (zq_ev r (0, [(3, 1)])) (zq_ev r (0, [(4, 1)])) (zq_ev r (0, [(5, 1)])) (zq_ev r (0, [(6, 1)])) (zq_ev r (0, [(7, 1)])) (zq_ev r (0, [(8, 1)])) (zq_ev r (0, [(9, 1)])) P h := k1
  simp only [q0, q1, q2, q3, q4, q5, q6, q7, q8, q9] at k1
  have k2 := zj_use x_CM (zq_okX_t (hK))
  have k2 : zc_CM (zq_ev r (0, [(1, 1)])) (zq_ev r (0, [(2, 1)])) (zq_ev r (0, [(8, 1)])) (zq_ev r (69, [])) P h := k2
  simp only [q1, q10, q2, q8] at k2
  obtain t1 := zc_qm10_l (P := P) (h := h) (o := r 0) (g := r 1) (n := r 2) (Y := r 3) (d := r 4) (s := r 5) (t := r 6) (i := r 7) (j := r 8) (A := r 9) k1 k2
  obtain ⟨rq, hr⟩ : ∃ rq : Nat → Int, (∀ i, i < 10 → rq i = r i) := ⟨r, fun i hi => rfl⟩
  have v0 : rq 0 = r 0 := hr 0 (by decide)
  have v1 : rq 1 = r 1 := hr 1 (by decide)
  have v2 : rq 2 = r 2 := hr 2 (by decide)
  have v3 : rq 3 = r 3 := hr 3 (by decide)
  have v4 : rq 4 = r 4 := hr 4 (by decide)
  have v5 : rq 5 = r 5 := hr 5 (by decide)
  have v6 : rq 6 = r 6 := hr 6 (by decide)
  have v7 : rq 7 = r 7 := hr 7 (by decide)
  have v8 : rq 8 = r 8 := hr 8 (by decide)
  have v9 : rq 9 = r 9 := hr 9 (by decide)
  have g0 : zq_ev rq (0, [(0, 1)]) = r 0 := zu_f1 v0
  have g1 : zq_ev rq (0, [(1, 1)]) = r 1 := zu_f1 v1
  have g2 : zq_ev rq (0, [(2, 1)]) = r 2 := zu_f1 v2
  have g3 : zq_ev rq (0, [(3, 1)]) = r 3 := zu_f1 v3
  have g4 : zq_ev rq (0, [(4, 1)]) = r 4 := zu_f1 v4
  have g5 : zq_ev rq (0, [(5, 1)]) = r 5 := zu_f1 v5
  have g6 : zq_ev rq (0, [(6, 1)]) = r 6 := zu_f1 v6
  have g7 : zq_ev rq (0, [(7, 1)]) = r 7 := zu_f1 v7
  have g8 : zq_ev rq (1, [(8, 1)]) = r 8 + 1 := zu_f2 v8 _
  have g9 : zq_ev rq (0, [(9, 1)]) = r 9 := zu_f1 v9
  have g10 : zq_ev rq (10, []) = 10 := zu_e0 _ _
  exact ⟨_, List.mem_cons_self .., rq, hr, zq_MeS_mk rfl hT (zq_all_nil) zq_fan (zq_fan) rfl (zu_fac ((x_Q0 _ _ _).mpr (by show zc_Q0m (zq_ev rq (0, [(0, 1)])) (zq_ev rq (0, [(1, 1)])) (zq_ev rq (0, [(2, 1)])) (zq_ev rq (0, [(3, 1)])) (zq_ev rq (0, [(4, 1)])) (zq_ev rq (0, [(5, 1)])) (zq_ev rq (0, [(6, 1)])) (zq_ev rq (0, [(7, 1)])) (zq_ev rq (1, [(8, 1)])) (zq_ev rq (0, [(9, 1)])) (zq_ev rq (10, [])) P h; simp only [g0, g1, g10, g2, g3, g4, g5, g6, g7, g8, g9]; exact t1)) zq_fan)⟩
noncomputable def zc_qxa : zq_S × List zq_S := (([], [], [(0, [(10, 1)]), (68, [(10, -1)])], [], [], [], [(246, [(0, [(0, 1)]), (0, [(1, 1)]), (0, [(2, 1)]), (0, [(3, 1)]), (0, [(4, 1)]), (0, [(5, 1)]), (0, [(6, 1)]), (0, [(7, 1)]), (0, [(8, 1)]), (0, [(9, 1)])]), (239, [(0, [(1, 1)]), (0, [(2, 1)]), (0, [(8, 1)]), (0, [(10, 1)])])], 11), [([], [], [], [], [], [], [(250, [(0, [(0, 1)]), (0, [(1, 1)]), (0, [(2, 1)]), (0, [(3, 1)]), (0, [(4, 1)]), (0, [(5, 1)]), (0, [(6, 1)]), (0, [(7, 1)]), (0, [(8, 1)]), (0, [(9, 1)])])], 11)])
theorem zc_qxa_l {P : zq_Ty} {h : zq_H} {o g n Y d s t i j A c : Int} (a1 : 0 ≤ c) (a2 : 0 ≤ -c + 68) (k1 : zc_Q1m o g n Y d s t i j A P h) (k2 : zc_CM g n j c P h) : (zc_Q1n o g n Y d s t i j A P h) := by
  have k1 : zp_Q1 o g n Y d.toNat s t i j (zc_ma A) := k1
  have hc : ze_c g n j ≤ 136 := by
    rw [show ze_c g n j = zu_mp c from k2]
    by_cases h32 : c < 32
    · have := (zu_mp_in 0 31 0 50 (by decide +kernel) (c := c) (by omega) (by omega) (by omega)).2; omega
    · rw [zu_mp_hi (by omega)]; omega
  have hm : ze_mul (ze_c g n j) = false := by unfold ze_mul; rw [decide_eq_false (by omega), decide_eq_false (by omega), decide_eq_false (by omega)]; rfl
  exact ⟨k1, hm⟩
theorem zc_qxa_ok {w : zq_Wd} (x_Q1 : zj_is w 246 (fun q => zc_Q1m (q 0) (q 1) (q 2) (q 3) (q 4) (q 5) (q 6) (q 7) (q 8) (q 9))) (x_CM : zj_is w 239 (fun q => zc_CM (q 0) (q 1) (q 2) (q 3))) (x_Q1n : zj_is w 250 (fun q => zc_Q1n (q 0) (q 1) (q 2) (q 3) (q 4) (q 5) (q 6) (q 7) (q 8) (q 9))) : zq_okG1 w zc_qxa := by
  refine ⟨rfl, rfl, zu_fac ⟨rfl, by decide⟩ zq_fan, ?_⟩
  intro r P h H hM
  have q0 : zq_ev r (0, [(10, 1)]) = r 10 := zu_e1 _ _
  have q1 : zq_ev r (68, [(10, -1)]) = -r 10 + 68 := zu_e5 _ _ _
  have q2 : zq_ev r (0, [(0, 1)]) = r 0 := zu_e1 _ _
  have q3 : zq_ev r (0, [(1, 1)]) = r 1 := zu_e1 _ _
  have q4 : zq_ev r (0, [(2, 1)]) = r 2 := zu_e1 _ _
  have q5 : zq_ev r (0, [(3, 1)]) = r 3 := zu_e1 _ _
  have q6 : zq_ev r (0, [(4, 1)]) = r 4 := zu_e1 _ _
  have q7 : zq_ev r (0, [(5, 1)]) = r 5 := zu_e1 _ _
  have q8 : zq_ev r (0, [(6, 1)]) = r 6 := zu_e1 _ _
  have q9 : zq_ev r (0, [(7, 1)]) = r 7 := zu_e1 _ _
  have q10 : zq_ev r (0, [(8, 1)]) = r 8 := zu_e1 _ _
  have q11 : zq_ev r (0, [(9, 1)]) = r 9 := zu_e1 _ _
  obtain ⟨hT, hC, hF, hS, -, hK⟩ := hM
  have c := hC.1
  have a1 := zq_all_1 c
  rw [q0] at a1
  have c := zq_all_t c
  have a2 := zq_all_1 c
  rw [q1] at a2
  have k1 := zj_use x_Q1 (hK)
  have k1 : zc_Q1m (zq_ev r (0, [(0, 1)])) (zq_ev r (0, [(1, 1)])) (zq_ev r (0, [(2, 1)])) (zq_ev r (0, [(3, 1)])) (zq_ev r (0, [(4, 1)])) (zq_ev r (0, [(5, 1)])) (zq_ev r (0, [(6, 1)])) (zq_ev r (0, [(7, 1)])) (zq_ev r (0, [(8, 1)])) (zq_ev r (0, [(9, 1)])) P h := k1
  simp only [q10, q11, q2, q3, q4, q5, q6, q7, q8, q9] at k1
  have k2 := zj_use x_CM (zq_okX_t (hK))
  have k2 : zc_CM (zq_ev r (0, [(1, 1)])) (zq_ev r (0, [(2, 1)])) (zq_ev r (0, [(8, 1)])) (zq_ev r (0, [(10, 1)])) P h := k2
  simp only [q0, q10, q3, q4] at k2
  obtain t1 := zc_qxa_l (P := P) (h := h) (o := r 0) (g := r 1) (n := r 2) (Y := r 3) (d := r 4) (s := r 5) (t := r 6) (i := r 7) (j := r 8) (A := r 9) (c := r 10) a1 a2 k1 k2
  obtain ⟨rq, hr⟩ : ∃ rq : Nat → Int, (∀ i, i < 11 → rq i = r i) := ⟨r, fun i hi => rfl⟩
  have v0 : rq 0 = r 0 := hr 0 (by decide)
  have v1 : rq 1 = r 1 := hr 1 (by decide)
  have v2 : rq 2 = r 2 := hr 2 (by decide)
  have v3 : rq 3 = r 3 := hr 3 (by decide)
  have v4 : rq 4 = r 4 := hr 4 (by decide)
  have v5 : rq 5 = r 5 := hr 5 (by decide)
  have v6 : rq 6 = r 6 := hr 6 (by decide)
  have v7 : rq 7 = r 7 := hr 7 (by decide)
  have v8 : rq 8 = r 8 := hr 8 (by decide)
  have v9 : rq 9 = r 9 := hr 9 (by decide)
  have g0 : zq_ev rq (0, [(0, 1)]) = r 0 := zu_f1 v0
  have g1 : zq_ev rq (0, [(1, 1)]) = r 1 := zu_f1 v1
  have g2 : zq_ev rq (0, [(2, 1)]) = r 2 := zu_f1 v2
  have g3 : zq_ev rq (0, [(3, 1)]) = r 3 := zu_f1 v3
  have g4 : zq_ev rq (0, [(4, 1)]) = r 4 := zu_f1 v4
  have g5 : zq_ev rq (0, [(5, 1)]) = r 5 := zu_f1 v5
  have g6 : zq_ev rq (0, [(6, 1)]) = r 6 := zu_f1 v6
  have g7 : zq_ev rq (0, [(7, 1)]) = r 7 := zu_f1 v7
  have g8 : zq_ev rq (0, [(8, 1)]) = r 8 := zu_f1 v8
  have g9 : zq_ev rq (0, [(9, 1)]) = r 9 := zu_f1 v9
  exact ⟨_, List.mem_cons_self .., rq, hr, zq_MeS_mk rfl hT (zq_all_nil) zq_fan (zq_fan) rfl (zu_fac ((x_Q1n _ _ _).mpr (by show zc_Q1n (zq_ev rq (0, [(0, 1)])) (zq_ev rq (0, [(1, 1)])) (zq_ev rq (0, [(2, 1)])) (zq_ev rq (0, [(3, 1)])) (zq_ev rq (0, [(4, 1)])) (zq_ev rq (0, [(5, 1)])) (zq_ev rq (0, [(6, 1)])) (zq_ev rq (0, [(7, 1)])) (zq_ev rq (0, [(8, 1)])) (zq_ev rq (0, [(9, 1)])) P h; simp only [g0, g1, g2, g3, g4, g5, g6, g7, g8, g9]; exact t1)) zq_fan)⟩
noncomputable def zc_qxb : zq_S × List zq_S := (([], [], [(-70, [(10, 1)]), (73, [(10, -1)])], [], [], [], [(246, [(0, [(0, 1)]), (0, [(1, 1)]), (0, [(2, 1)]), (0, [(3, 1)]), (0, [(4, 1)]), (0, [(5, 1)]), (0, [(6, 1)]), (0, [(7, 1)]), (0, [(8, 1)]), (0, [(9, 1)])]), (239, [(0, [(1, 1)]), (0, [(2, 1)]), (0, [(8, 1)]), (0, [(10, 1)])])], 11), [([], [], [], [], [], [], [(250, [(0, [(0, 1)]), (0, [(1, 1)]), (0, [(2, 1)]), (0, [(3, 1)]), (0, [(4, 1)]), (0, [(5, 1)]), (0, [(6, 1)]), (0, [(7, 1)]), (0, [(8, 1)]), (0, [(9, 1)])])], 11)])
theorem zc_qxb_l {P : zq_Ty} {h : zq_H} {o g n Y d s t i j A c : Int} (a1 : 0 ≤ c - 70) (a2 : 0 ≤ -c + 73) (k1 : zc_Q1m o g n Y d s t i j A P h) (k2 : zc_CM g n j c P h) : (zc_Q1n o g n Y d s t i j A P h) := by
  have k1 : zp_Q1 o g n Y d.toNat s t i j (zc_ma A) := k1
  have hc : ze_c g n j = c + 68 := by rw [show ze_c g n j = zu_mp c from k2, zu_mp_hi (by omega)]
  have hm : ze_mul (ze_c g n j) = false := by unfold ze_mul; rw [decide_eq_false (by omega), decide_eq_false (by omega), decide_eq_false (by omega)]; rfl
  exact ⟨k1, hm⟩
theorem zc_qxb_ok {w : zq_Wd} (x_Q1 : zj_is w 246 (fun q => zc_Q1m (q 0) (q 1) (q 2) (q 3) (q 4) (q 5) (q 6) (q 7) (q 8) (q 9))) (x_CM : zj_is w 239 (fun q => zc_CM (q 0) (q 1) (q 2) (q 3))) (x_Q1n : zj_is w 250 (fun q => zc_Q1n (q 0) (q 1) (q 2) (q 3) (q 4) (q 5) (q 6) (q 7) (q 8) (q 9))) : zq_okG1 w zc_qxb := by
  refine ⟨rfl, rfl, zu_fac ⟨rfl, by decide⟩ zq_fan, ?_⟩
  intro r P h H hM
  have q0 : zq_ev r (-70, [(10, 1)]) = r 10 - 70 := zu_e3 _ _ _
  have q1 : zq_ev r (73, [(10, -1)]) = -r 10 + 73 := zu_e5 _ _ _
  have q2 : zq_ev r (0, [(0, 1)]) = r 0 := zu_e1 _ _
  have q3 : zq_ev r (0, [(1, 1)]) = r 1 := zu_e1 _ _
  have q4 : zq_ev r (0, [(2, 1)]) = r 2 := zu_e1 _ _
  have q5 : zq_ev r (0, [(3, 1)]) = r 3 := zu_e1 _ _
  have q6 : zq_ev r (0, [(4, 1)]) = r 4 := zu_e1 _ _
  have q7 : zq_ev r (0, [(5, 1)]) = r 5 := zu_e1 _ _
  have q8 : zq_ev r (0, [(6, 1)]) = r 6 := zu_e1 _ _
  have q9 : zq_ev r (0, [(7, 1)]) = r 7 := zu_e1 _ _
  have q10 : zq_ev r (0, [(8, 1)]) = r 8 := zu_e1 _ _
  have q11 : zq_ev r (0, [(9, 1)]) = r 9 := zu_e1 _ _
  have q12 : zq_ev r (0, [(10, 1)]) = r 10 := zu_e1 _ _
  obtain ⟨hT, hC, hF, hS, -, hK⟩ := hM
  have c := hC.1
  have a1 := zq_all_1 c
  rw [q0] at a1
  have c := zq_all_t c
  have a2 := zq_all_1 c
  rw [q1] at a2
  have k1 := zj_use x_Q1 (hK)
  have k1 : zc_Q1m (zq_ev r (0, [(0, 1)])) (zq_ev r (0, [(1, 1)])) (zq_ev r (0, [(2, 1)])) (zq_ev r (0, [(3, 1)])) (zq_ev r (0, [(4, 1)])) (zq_ev r (0, [(5, 1)])) (zq_ev r (0, [(6, 1)])) (zq_ev r (0, [(7, 1)])) (zq_ev r (0, [(8, 1)])) (zq_ev r (0, [(9, 1)])) P h := k1
  simp only [q10, q11, q2, q3, q4, q5, q6, q7, q8, q9] at k1
  have k2 := zj_use x_CM (zq_okX_t (hK))
  have k2 : zc_CM (zq_ev r (0, [(1, 1)])) (zq_ev r (0, [(2, 1)])) (zq_ev r (0, [(8, 1)])) (zq_ev r (0, [(10, 1)])) P h := k2
  simp only [q10, q12, q3, q4] at k2
  obtain t1 := zc_qxb_l (P := P) (h := h) (o := r 0) (g := r 1) (n := r 2) (Y := r 3) (d := r 4) (s := r 5) (t := r 6) (i := r 7) (j := r 8) (A := r 9) (c := r 10) a1 a2 k1 k2
  obtain ⟨rq, hr⟩ : ∃ rq : Nat → Int, (∀ i, i < 11 → rq i = r i) := ⟨r, fun i hi => rfl⟩
  have v0 : rq 0 = r 0 := hr 0 (by decide)
  have v1 : rq 1 = r 1 := hr 1 (by decide)
  have v2 : rq 2 = r 2 := hr 2 (by decide)
  have v3 : rq 3 = r 3 := hr 3 (by decide)
  have v4 : rq 4 = r 4 := hr 4 (by decide)
  have v5 : rq 5 = r 5 := hr 5 (by decide)
  have v6 : rq 6 = r 6 := hr 6 (by decide)
  have v7 : rq 7 = r 7 := hr 7 (by decide)
  have v8 : rq 8 = r 8 := hr 8 (by decide)
  have v9 : rq 9 = r 9 := hr 9 (by decide)
  have g0 : zq_ev rq (0, [(0, 1)]) = r 0 := zu_f1 v0
  have g1 : zq_ev rq (0, [(1, 1)]) = r 1 := zu_f1 v1
  have g2 : zq_ev rq (0, [(2, 1)]) = r 2 := zu_f1 v2
  have g3 : zq_ev rq (0, [(3, 1)]) = r 3 := zu_f1 v3
  have g4 : zq_ev rq (0, [(4, 1)]) = r 4 := zu_f1 v4
  have g5 : zq_ev rq (0, [(5, 1)]) = r 5 := zu_f1 v5
  have g6 : zq_ev rq (0, [(6, 1)]) = r 6 := zu_f1 v6
  have g7 : zq_ev rq (0, [(7, 1)]) = r 7 := zu_f1 v7
  have g8 : zq_ev rq (0, [(8, 1)]) = r 8 := zu_f1 v8
  have g9 : zq_ev rq (0, [(9, 1)]) = r 9 := zu_f1 v9
  exact ⟨_, List.mem_cons_self .., rq, hr, zq_MeS_mk rfl hT (zq_all_nil) zq_fan (zq_fan) rfl (zu_fac ((x_Q1n _ _ _).mpr (by show zc_Q1n (zq_ev rq (0, [(0, 1)])) (zq_ev rq (0, [(1, 1)])) (zq_ev rq (0, [(2, 1)])) (zq_ev rq (0, [(3, 1)])) (zq_ev rq (0, [(4, 1)])) (zq_ev rq (0, [(5, 1)])) (zq_ev rq (0, [(6, 1)])) (zq_ev rq (0, [(7, 1)])) (zq_ev rq (0, [(8, 1)])) (zq_ev rq (0, [(9, 1)])) P h; simp only [g0, g1, g2, g3, g4, g5, g6, g7, g8, g9]; exact t1)) zq_fan)⟩
noncomputable def zc_qxc : zq_S × List zq_S := (([], [], [(-75, [(10, 1)]), (78, [(10, -1)])], [], [], [], [(246, [(0, [(0, 1)]), (0, [(1, 1)]), (0, [(2, 1)]), (0, [(3, 1)]), (0, [(4, 1)]), (0, [(5, 1)]), (0, [(6, 1)]), (0, [(7, 1)]), (0, [(8, 1)]), (0, [(9, 1)])]), (239, [(0, [(1, 1)]), (0, [(2, 1)]), (0, [(8, 1)]), (0, [(10, 1)])])], 11), [([], [], [], [], [], [], [(250, [(0, [(0, 1)]), (0, [(1, 1)]), (0, [(2, 1)]), (0, [(3, 1)]), (0, [(4, 1)]), (0, [(5, 1)]), (0, [(6, 1)]), (0, [(7, 1)]), (0, [(8, 1)]), (0, [(9, 1)])])], 11)])
theorem zc_qxc_l {P : zq_Ty} {h : zq_H} {o g n Y d s t i j A c : Int} (a1 : 0 ≤ c - 75) (a2 : 0 ≤ -c + 78) (k1 : zc_Q1m o g n Y d s t i j A P h) (k2 : zc_CM g n j c P h) : (zc_Q1n o g n Y d s t i j A P h) := by
  have k1 : zp_Q1 o g n Y d.toNat s t i j (zc_ma A) := k1
  have hc : ze_c g n j = c + 68 := by rw [show ze_c g n j = zu_mp c from k2, zu_mp_hi (by omega)]
  have hm : ze_mul (ze_c g n j) = false := by unfold ze_mul; rw [decide_eq_false (by omega), decide_eq_false (by omega), decide_eq_false (by omega)]; rfl
  exact ⟨k1, hm⟩
theorem zc_qxc_ok {w : zq_Wd} (x_Q1 : zj_is w 246 (fun q => zc_Q1m (q 0) (q 1) (q 2) (q 3) (q 4) (q 5) (q 6) (q 7) (q 8) (q 9))) (x_CM : zj_is w 239 (fun q => zc_CM (q 0) (q 1) (q 2) (q 3))) (x_Q1n : zj_is w 250 (fun q => zc_Q1n (q 0) (q 1) (q 2) (q 3) (q 4) (q 5) (q 6) (q 7) (q 8) (q 9))) : zq_okG1 w zc_qxc := by
  refine ⟨rfl, rfl, zu_fac ⟨rfl, by decide⟩ zq_fan, ?_⟩
  intro r P h H hM
  have q0 : zq_ev r (-75, [(10, 1)]) = r 10 - 75 := zu_e3 _ _ _
  have q1 : zq_ev r (78, [(10, -1)]) = -r 10 + 78 := zu_e5 _ _ _
  have q2 : zq_ev r (0, [(0, 1)]) = r 0 := zu_e1 _ _
  have q3 : zq_ev r (0, [(1, 1)]) = r 1 := zu_e1 _ _
  have q4 : zq_ev r (0, [(2, 1)]) = r 2 := zu_e1 _ _
  have q5 : zq_ev r (0, [(3, 1)]) = r 3 := zu_e1 _ _
  have q6 : zq_ev r (0, [(4, 1)]) = r 4 := zu_e1 _ _
  have q7 : zq_ev r (0, [(5, 1)]) = r 5 := zu_e1 _ _
  have q8 : zq_ev r (0, [(6, 1)]) = r 6 := zu_e1 _ _
  have q9 : zq_ev r (0, [(7, 1)]) = r 7 := zu_e1 _ _
  have q10 : zq_ev r (0, [(8, 1)]) = r 8 := zu_e1 _ _
  have q11 : zq_ev r (0, [(9, 1)]) = r 9 := zu_e1 _ _
  have q12 : zq_ev r (0, [(10, 1)]) = r 10 := zu_e1 _ _
  obtain ⟨hT, hC, hF, hS, -, hK⟩ := hM
  have c := hC.1
  have a1 := zq_all_1 c
  rw [q0] at a1
  have c := zq_all_t c
  have a2 := zq_all_1 c
  rw [q1] at a2
  have k1 := zj_use x_Q1 (hK)
  have k1 : zc_Q1m (zq_ev r (0, [(0, 1)])) (zq_ev r (0, [(1, 1)])) (zq_ev r (0, [(2, 1)])) (zq_ev r (0, [(3, 1)])) (zq_ev r (0, [(4, 1)])) (zq_ev r (0, [(5, 1)])) (zq_ev r (0, [(6, 1)])) (zq_ev r (0, [(7, 1)])) (zq_ev r (0, [(8, 1)])) (zq_ev r (0, [(9, 1)])) P h := k1
  simp only [q10, q11, q2, q3, q4, q5, q6, q7, q8, q9] at k1
  have k2 := zj_use x_CM (zq_okX_t (hK))
  have k2 : zc_CM (zq_ev r (0, [(1, 1)])) (zq_ev r (0, [(2, 1)])) (zq_ev r (0, [(8, 1)])) (zq_ev r (0, [(10, 1)])) P h := k2
  simp only [q10, q12, q3, q4] at k2
  obtain t1 := zc_qxc_l (P := P) (h := h) (o := r 0) (g := r 1) (n := r 2) (Y := r 3) (d := r 4) (s := r 5) (t := r 6) (i := r 7) (j := r 8) (A := r 9) (c := r 10) a1 a2 k1 k2
  obtain ⟨rq, hr⟩ : ∃ rq : Nat → Int, (∀ i, i < 11 → rq i = r i) := ⟨r, fun i hi => rfl⟩
  have v0 : rq 0 = r 0 := hr 0 (by decide)
  have v1 : rq 1 = r 1 := hr 1 (by decide)
  have v2 : rq 2 = r 2 := hr 2 (by decide)
  have v3 : rq 3 = r 3 := hr 3 (by decide)
  have v4 : rq 4 = r 4 := hr 4 (by decide)
  have v5 : rq 5 = r 5 := hr 5 (by decide)
  have v6 : rq 6 = r 6 := hr 6 (by decide)
  have v7 : rq 7 = r 7 := hr 7 (by decide)
  have v8 : rq 8 = r 8 := hr 8 (by decide)
  have v9 : rq 9 = r 9 := hr 9 (by decide)
  have g0 : zq_ev rq (0, [(0, 1)]) = r 0 := zu_f1 v0
  have g1 : zq_ev rq (0, [(1, 1)]) = r 1 := zu_f1 v1
  have g2 : zq_ev rq (0, [(2, 1)]) = r 2 := zu_f1 v2
  have g3 : zq_ev rq (0, [(3, 1)]) = r 3 := zu_f1 v3
  have g4 : zq_ev rq (0, [(4, 1)]) = r 4 := zu_f1 v4
  have g5 : zq_ev rq (0, [(5, 1)]) = r 5 := zu_f1 v5
  have g6 : zq_ev rq (0, [(6, 1)]) = r 6 := zu_f1 v6
  have g7 : zq_ev rq (0, [(7, 1)]) = r 7 := zu_f1 v7
  have g8 : zq_ev rq (0, [(8, 1)]) = r 8 := zu_f1 v8
  have g9 : zq_ev rq (0, [(9, 1)]) = r 9 := zu_f1 v9
  exact ⟨_, List.mem_cons_self .., rq, hr, zq_MeS_mk rfl hT (zq_all_nil) zq_fan (zq_fan) rfl (zu_fac ((x_Q1n _ _ _).mpr (by show zc_Q1n (zq_ev rq (0, [(0, 1)])) (zq_ev rq (0, [(1, 1)])) (zq_ev rq (0, [(2, 1)])) (zq_ev rq (0, [(3, 1)])) (zq_ev rq (0, [(4, 1)])) (zq_ev rq (0, [(5, 1)])) (zq_ev rq (0, [(6, 1)])) (zq_ev rq (0, [(7, 1)])) (zq_ev rq (0, [(8, 1)])) (zq_ev rq (0, [(9, 1)])) P h; simp only [g0, g1, g2, g3, g4, g5, g6, g7, g8, g9]; exact t1)) zq_fan)⟩
noncomputable def zc_qxd : zq_S × List zq_S := (([], [], [(-80, [(10, 1)])], [], [], [], [(246, [(0, [(0, 1)]), (0, [(1, 1)]), (0, [(2, 1)]), (0, [(3, 1)]), (0, [(4, 1)]), (0, [(5, 1)]), (0, [(6, 1)]), (0, [(7, 1)]), (0, [(8, 1)]), (0, [(9, 1)])]), (239, [(0, [(1, 1)]), (0, [(2, 1)]), (0, [(8, 1)]), (0, [(10, 1)])])], 11), [([], [], [], [], [], [], [(250, [(0, [(0, 1)]), (0, [(1, 1)]), (0, [(2, 1)]), (0, [(3, 1)]), (0, [(4, 1)]), (0, [(5, 1)]), (0, [(6, 1)]), (0, [(7, 1)]), (0, [(8, 1)]), (0, [(9, 1)])])], 11)])
theorem zc_qxd_l {P : zq_Ty} {h : zq_H} {o g n Y d s t i j A c : Int} (a1 : 0 ≤ c - 80) (k1 : zc_Q1m o g n Y d s t i j A P h) (k2 : zc_CM g n j c P h) : (zc_Q1n o g n Y d s t i j A P h) := by
  have k1 : zp_Q1 o g n Y d.toNat s t i j (zc_ma A) := k1
  have hc : 148 ≤ ze_c g n j := by rw [show ze_c g n j = zu_mp c from k2, zu_mp_hi (by omega)]; omega
  have hm : ze_mul (ze_c g n j) = false := by unfold ze_mul; rw [decide_eq_false (by omega), decide_eq_false (by omega), decide_eq_false (by omega)]; rfl
  exact ⟨k1, hm⟩
theorem zc_qxd_ok {w : zq_Wd} (x_Q1 : zj_is w 246 (fun q => zc_Q1m (q 0) (q 1) (q 2) (q 3) (q 4) (q 5) (q 6) (q 7) (q 8) (q 9))) (x_CM : zj_is w 239 (fun q => zc_CM (q 0) (q 1) (q 2) (q 3))) (x_Q1n : zj_is w 250 (fun q => zc_Q1n (q 0) (q 1) (q 2) (q 3) (q 4) (q 5) (q 6) (q 7) (q 8) (q 9))) : zq_okG1 w zc_qxd := by
  refine ⟨rfl, rfl, zu_fac ⟨rfl, by decide⟩ zq_fan, ?_⟩
  intro r P h H hM
  have q0 : zq_ev r (-80, [(10, 1)]) = r 10 - 80 := zu_e3 _ _ _
  have q1 : zq_ev r (0, [(0, 1)]) = r 0 := zu_e1 _ _
  have q2 : zq_ev r (0, [(1, 1)]) = r 1 := zu_e1 _ _
  have q3 : zq_ev r (0, [(2, 1)]) = r 2 := zu_e1 _ _
  have q4 : zq_ev r (0, [(3, 1)]) = r 3 := zu_e1 _ _
  have q5 : zq_ev r (0, [(4, 1)]) = r 4 := zu_e1 _ _
  have q6 : zq_ev r (0, [(5, 1)]) = r 5 := zu_e1 _ _
  have q7 : zq_ev r (0, [(6, 1)]) = r 6 := zu_e1 _ _
  have q8 : zq_ev r (0, [(7, 1)]) = r 7 := zu_e1 _ _
  have q9 : zq_ev r (0, [(8, 1)]) = r 8 := zu_e1 _ _
  have q10 : zq_ev r (0, [(9, 1)]) = r 9 := zu_e1 _ _
  have q11 : zq_ev r (0, [(10, 1)]) = r 10 := zu_e1 _ _
  obtain ⟨hT, hC, hF, hS, -, hK⟩ := hM
  have c := hC.1
  have a1 := zq_all_1 c
  rw [q0] at a1
  have k1 := zj_use x_Q1 (hK)
  have k1 : zc_Q1m (zq_ev r (0, [(0, 1)])) (zq_ev r (0, [(1, 1)])) (zq_ev r (0, [(2, 1)])) (zq_ev r (0, [(3, 1)])) (zq_ev r (0, [(4, 1)])) (zq_ev r (0, [(5, 1)])) (zq_ev r (0, [(6, 1)])) (zq_ev r (0, [(7, 1)])) (zq_ev r (0, [(8, 1)])) (zq_ev r (0, [(9, 1)])) P h := k1
  simp only [q1, q10, q2, q3, q4, q5, q6, q7, q8, q9] at k1
  have k2 := zj_use x_CM (zq_okX_t (hK))
  have k2 : zc_CM (zq_ev r (0, [(1, 1)])) (zq_ev r (0, [(2, 1)])) (zq_ev r (0, [(8, 1)])) (zq_ev r (0, [(10, 1)])) P h := k2
  simp only [q11, q2, q3, q9] at k2
  obtain t1 := zc_qxd_l (P := P) (h := h) (o := r 0) (g := r 1) (n := r 2) (Y := r 3) (d := r 4) (s := r 5) (t := r 6) (i := r 7) (j := r 8) (A := r 9) (c := r 10) a1 k1 k2
  obtain ⟨rq, hr⟩ : ∃ rq : Nat → Int, (∀ i, i < 11 → rq i = r i) := ⟨r, fun i hi => rfl⟩
  have v0 : rq 0 = r 0 := hr 0 (by decide)
  have v1 : rq 1 = r 1 := hr 1 (by decide)
  have v2 : rq 2 = r 2 := hr 2 (by decide)
  have v3 : rq 3 = r 3 := hr 3 (by decide)
  have v4 : rq 4 = r 4 := hr 4 (by decide)
  have v5 : rq 5 = r 5 := hr 5 (by decide)
  have v6 : rq 6 = r 6 := hr 6 (by decide)
  have v7 : rq 7 = r 7 := hr 7 (by decide)
  have v8 : rq 8 = r 8 := hr 8 (by decide)
  have v9 : rq 9 = r 9 := hr 9 (by decide)
  have g0 : zq_ev rq (0, [(0, 1)]) = r 0 := zu_f1 v0
  have g1 : zq_ev rq (0, [(1, 1)]) = r 1 := zu_f1 v1
  have g2 : zq_ev rq (0, [(2, 1)]) = r 2 := zu_f1 v2
  have g3 : zq_ev rq (0, [(3, 1)]) = r 3 := zu_f1 v3
  have g4 : zq_ev rq (0, [(4, 1)]) = r 4 := zu_f1 v4
  have g5 : zq_ev rq (0, [(5, 1)]) = r 5 := zu_f1 v5
  have g6 : zq_ev rq (0, [(6, 1)]) = r 6 := zu_f1 v6
  have g7 : zq_ev rq (0, [(7, 1)]) = r 7 := zu_f1 v7
  have g8 : zq_ev rq (0, [(8, 1)]) = r 8 := zu_f1 v8
  have g9 : zq_ev rq (0, [(9, 1)]) = r 9 := zu_f1 v9
  exact ⟨_, List.mem_cons_self .., rq, hr, zq_MeS_mk rfl hT (zq_all_nil) zq_fan (zq_fan) rfl (zu_fac ((x_Q1n _ _ _).mpr (by show zc_Q1n (zq_ev rq (0, [(0, 1)])) (zq_ev rq (0, [(1, 1)])) (zq_ev rq (0, [(2, 1)])) (zq_ev rq (0, [(3, 1)])) (zq_ev rq (0, [(4, 1)])) (zq_ev rq (0, [(5, 1)])) (zq_ev rq (0, [(6, 1)])) (zq_ev rq (0, [(7, 1)])) (zq_ev rq (0, [(8, 1)])) (zq_ev rq (0, [(9, 1)])) P h; simp only [g0, g1, g2, g3, g4, g5, g6, g7, g8, g9]; exact t1)) zq_fan)⟩
noncomputable def zc_q2z : zq_S × List zq_S := (([], [], [], [], [], [], [(250, [(0, [(0, 1)]), (0, [(1, 1)]), (0, [(2, 1)]), (0, [(3, 1)]), (0, [(4, 1)]), (0, [(5, 1)]), (0, [(6, 1)]), (0, [(7, 1)]), (0, [(8, 1)]), (-1, [])])], 9), [([], [], [], [], [], [], [(251, [(0, [(0, 1)]), (0, [(1, 1)]), (0, [(2, 1)]), (0, [(3, 1)]), (0, [(4, 1)]), (0, [(5, 1)]), (0, [(6, 1)]), (0, [(7, 1)]), (0, [(8, 1)])])], 9)])
theorem zc_q2z_l {P : zq_Ty} {h : zq_H} {o g n Y d s t i j : Int} (k1 : zc_Q1n o g n Y d s t i j (-1) P h) : (zc_Q2m o g n Y d s t i j P h) := by
  obtain ⟨k1, hm⟩ := k1
  rw [show zc_ma (-1) = 0 by decide] at k1
  exact zp_Q2_0 k1 hm
theorem zc_q2z_ok {w : zq_Wd} (x_Q1n : zj_is w 250 (fun q => zc_Q1n (q 0) (q 1) (q 2) (q 3) (q 4) (q 5) (q 6) (q 7) (q 8) (q 9))) (x_Q2 : zj_is w 251 (fun q => zc_Q2m (q 0) (q 1) (q 2) (q 3) (q 4) (q 5) (q 6) (q 7) (q 8))) : zq_okG1 w zc_q2z := by
  refine ⟨rfl, rfl, zu_fac ⟨rfl, by decide⟩ zq_fan, ?_⟩
  intro r P h H hM
  have q0 : zq_ev r (0, [(0, 1)]) = r 0 := zu_e1 _ _
  have q1 : zq_ev r (0, [(1, 1)]) = r 1 := zu_e1 _ _
  have q2 : zq_ev r (0, [(2, 1)]) = r 2 := zu_e1 _ _
  have q3 : zq_ev r (0, [(3, 1)]) = r 3 := zu_e1 _ _
  have q4 : zq_ev r (0, [(4, 1)]) = r 4 := zu_e1 _ _
  have q5 : zq_ev r (0, [(5, 1)]) = r 5 := zu_e1 _ _
  have q6 : zq_ev r (0, [(6, 1)]) = r 6 := zu_e1 _ _
  have q7 : zq_ev r (0, [(7, 1)]) = r 7 := zu_e1 _ _
  have q8 : zq_ev r (0, [(8, 1)]) = r 8 := zu_e1 _ _
  have q9 : zq_ev r (-1, []) = -1 := zu_e0 _ _
  obtain ⟨hT, hC, hF, hS, -, hK⟩ := hM
  have c := hC.1
  have k1 := zj_use x_Q1n (hK)
  have k1 : zc_Q1n (zq_ev r (0, [(0, 1)])) (zq_ev r (0, [(1, 1)])) (zq_ev r (0, [(2, 1)])) (zq_ev r (0, [(3, 1)])) (zq_ev r (0, [(4, 1)])) (zq_ev r (0, [(5, 1)])) (zq_ev r (0, [(6, 1)])) (zq_ev r (0, [(7, 1)])) (zq_ev r (0, [(8, 1)])) (zq_ev r (-1, [])) P h := k1
  simp only [q0, q1, q2, q3, q4, q5, q6, q7, q8, q9] at k1
  obtain t1 := zc_q2z_l (P := P) (h := h) (o := r 0) (g := r 1) (n := r 2) (Y := r 3) (d := r 4) (s := r 5) (t := r 6) (i := r 7) (j := r 8) k1
  obtain ⟨rq, hr⟩ : ∃ rq : Nat → Int, (∀ i, i < 9 → rq i = r i) := ⟨r, fun i hi => rfl⟩
  have v0 : rq 0 = r 0 := hr 0 (by decide)
  have v1 : rq 1 = r 1 := hr 1 (by decide)
  have v2 : rq 2 = r 2 := hr 2 (by decide)
  have v3 : rq 3 = r 3 := hr 3 (by decide)
  have v4 : rq 4 = r 4 := hr 4 (by decide)
  have v5 : rq 5 = r 5 := hr 5 (by decide)
  have v6 : rq 6 = r 6 := hr 6 (by decide)
  have v7 : rq 7 = r 7 := hr 7 (by decide)
  have v8 : rq 8 = r 8 := hr 8 (by decide)
  have g0 : zq_ev rq (0, [(0, 1)]) = r 0 := zu_f1 v0
  have g1 : zq_ev rq (0, [(1, 1)]) = r 1 := zu_f1 v1
  have g2 : zq_ev rq (0, [(2, 1)]) = r 2 := zu_f1 v2
  have g3 : zq_ev rq (0, [(3, 1)]) = r 3 := zu_f1 v3
  have g4 : zq_ev rq (0, [(4, 1)]) = r 4 := zu_f1 v4
  have g5 : zq_ev rq (0, [(5, 1)]) = r 5 := zu_f1 v5
  have g6 : zq_ev rq (0, [(6, 1)]) = r 6 := zu_f1 v6
  have g7 : zq_ev rq (0, [(7, 1)]) = r 7 := zu_f1 v7
  have g8 : zq_ev rq (0, [(8, 1)]) = r 8 := zu_f1 v8
  exact ⟨_, List.mem_cons_self .., rq, hr, zq_MeS_mk rfl hT (zq_all_nil) zq_fan (zq_fan) rfl (zu_fac ((x_Q2 _ _ _).mpr (by show zc_Q2m (zq_ev rq (0, [(0, 1)])) (zq_ev rq (0, [(1, 1)])) (zq_ev rq (0, [(2, 1)])) (zq_ev rq (0, [(3, 1)])) (zq_ev rq (0, [(4, 1)])) (zq_ev rq (0, [(5, 1)])) (zq_ev rq (0, [(6, 1)])) (zq_ev rq (0, [(7, 1)])) (zq_ev rq (0, [(8, 1)])) P h; simp only [g0, g1, g2, g3, g4, g5, g6, g7, g8]; exact t1)) zq_fan)⟩
noncomputable def zc_q2b : zq_S × List zq_S := (([], [], [(-6, [(9, 1)]), (7, [(9, -1)])], [], [], [], [(250, [(0, [(0, 1)]), (0, [(1, 1)]), (0, [(2, 1)]), (0, [(3, 1)]), (0, [(4, 1)]), (0, [(5, 1)]), (0, [(6, 1)]), (0, [(7, 1)]), (0, [(8, 1)]), (0, [(9, 1)])]), (134, [(0, [(3, 1)]), (0, [(6, 1)]), (0, [(9, 1)])])], 10), [([], [], [], [], [], [], [(251, [(0, [(0, 1)]), (0, [(1, 1)]), (0, [(2, 1)]), (0, [(3, 1)]), (0, [(4, 1)]), (0, [(5, 1)]), (1, [(6, 1)]), (0, [(7, 1)]), (0, [(8, 1)])])], 10)])
theorem zc_q2b_l {P : zq_Ty} {h : zq_H} {o g n Y d s t i j A : Int} (a1 : 0 ≤ A - 6) (a2 : 0 ≤ -A + 7) (k1 : zc_Q1n o g n Y d s t i j A P h) (k2 : zn_DG Y t A P h) : (zc_Q2m o g n Y d s (t + 1) i j P h) := by
  obtain ⟨k1, hm⟩ := k1
  exact zp_Q2_b k1 (zc_ma_b (by omega) (by omega)) hm (show A = zn_dg Y t from k2).symm
theorem zc_q2b_ok {w : zq_Wd} (x_Q1n : zj_is w 250 (fun q => zc_Q1n (q 0) (q 1) (q 2) (q 3) (q 4) (q 5) (q 6) (q 7) (q 8) (q 9))) (x_DG : zj_is w 134 (fun q => zn_DG (q 0) (q 1) (q 2))) (x_Q2 : zj_is w 251 (fun q => zc_Q2m (q 0) (q 1) (q 2) (q 3) (q 4) (q 5) (q 6) (q 7) (q 8))) : zq_okG1 w zc_q2b := by
  refine ⟨rfl, rfl, zu_fac ⟨rfl, by decide⟩ zq_fan, ?_⟩
  intro r P h H hM
  have q0 : zq_ev r (-6, [(9, 1)]) = r 9 - 6 := zu_e3 _ _ _
  have q1 : zq_ev r (7, [(9, -1)]) = -r 9 + 7 := zu_e5 _ _ _
  have q2 : zq_ev r (0, [(0, 1)]) = r 0 := zu_e1 _ _
  have q3 : zq_ev r (0, [(1, 1)]) = r 1 := zu_e1 _ _
  have q4 : zq_ev r (0, [(2, 1)]) = r 2 := zu_e1 _ _
  have q5 : zq_ev r (0, [(3, 1)]) = r 3 := zu_e1 _ _
  have q6 : zq_ev r (0, [(4, 1)]) = r 4 := zu_e1 _ _
  have q7 : zq_ev r (0, [(5, 1)]) = r 5 := zu_e1 _ _
  have q8 : zq_ev r (0, [(6, 1)]) = r 6 := zu_e1 _ _
  have q9 : zq_ev r (0, [(7, 1)]) = r 7 := zu_e1 _ _
  have q10 : zq_ev r (0, [(8, 1)]) = r 8 := zu_e1 _ _
  have q11 : zq_ev r (0, [(9, 1)]) = r 9 := zu_e1 _ _
  obtain ⟨hT, hC, hF, hS, -, hK⟩ := hM
  have c := hC.1
  have a1 := zq_all_1 c
  rw [q0] at a1
  have c := zq_all_t c
  have a2 := zq_all_1 c
  rw [q1] at a2
  have k1 := zj_use x_Q1n (hK)
  have k1 : zc_Q1n (zq_ev r (0, [(0, 1)])) (zq_ev r (0, [(1, 1)])) (zq_ev r (0, [(2, 1)])) (zq_ev r (0, [(3, 1)])) (zq_ev r (0, [(4, 1)])) (zq_ev r (0, [(5, 1)])) (zq_ev r (0, [(6, 1)])) (zq_ev r (0, [(7, 1)])) (zq_ev r (0, [(8, 1)])) (zq_ev r (0, [(9, 1)])) P h := k1
  simp only [q10, q11, q2, q3, q4, q5, q6, q7, q8, q9] at k1
  have k2 := zj_use x_DG (zq_okX_t (hK))
  have k2 : zn_DG (zq_ev r (0, [(3, 1)])) (zq_ev r (0, [(6, 1)])) (zq_ev r (0, [(9, 1)])) P h := k2
  simp only [q11, q5, q8] at k2
  obtain t1 := zc_q2b_l (P := P) (h := h) (o := r 0) (g := r 1) (n := r 2) (Y := r 3) (d := r 4) (s := r 5) (t := r 6) (i := r 7) (j := r 8) (A := r 9) a1 a2 k1 k2
  obtain ⟨rq, hr⟩ : ∃ rq : Nat → Int, (∀ i, i < 10 → rq i = r i) := ⟨r, fun i hi => rfl⟩
  have v0 : rq 0 = r 0 := hr 0 (by decide)
  have v1 : rq 1 = r 1 := hr 1 (by decide)
  have v2 : rq 2 = r 2 := hr 2 (by decide)
  have v3 : rq 3 = r 3 := hr 3 (by decide)
  have v4 : rq 4 = r 4 := hr 4 (by decide)
  have v5 : rq 5 = r 5 := hr 5 (by decide)
  have v6 : rq 6 = r 6 := hr 6 (by decide)
  have v7 : rq 7 = r 7 := hr 7 (by decide)
  have v8 : rq 8 = r 8 := hr 8 (by decide)
  have g0 : zq_ev rq (0, [(0, 1)]) = r 0 := zu_f1 v0
  have g1 : zq_ev rq (0, [(1, 1)]) = r 1 := zu_f1 v1
  have g2 : zq_ev rq (0, [(2, 1)]) = r 2 := zu_f1 v2
  have g3 : zq_ev rq (0, [(3, 1)]) = r 3 := zu_f1 v3
  have g4 : zq_ev rq (0, [(4, 1)]) = r 4 := zu_f1 v4
  have g5 : zq_ev rq (0, [(5, 1)]) = r 5 := zu_f1 v5
  have g6 : zq_ev rq (1, [(6, 1)]) = r 6 + 1 := zu_f2 v6 _
  have g7 : zq_ev rq (0, [(7, 1)]) = r 7 := zu_f1 v7
  have g8 : zq_ev rq (0, [(8, 1)]) = r 8 := zu_f1 v8
  exact ⟨_, List.mem_cons_self .., rq, hr, zq_MeS_mk rfl hT (zq_all_nil) zq_fan (zq_fan) rfl (zu_fac ((x_Q2 _ _ _).mpr (by show zc_Q2m (zq_ev rq (0, [(0, 1)])) (zq_ev rq (0, [(1, 1)])) (zq_ev rq (0, [(2, 1)])) (zq_ev rq (0, [(3, 1)])) (zq_ev rq (0, [(4, 1)])) (zq_ev rq (0, [(5, 1)])) (zq_ev rq (1, [(6, 1)])) (zq_ev rq (0, [(7, 1)])) (zq_ev rq (0, [(8, 1)])) P h; simp only [g0, g1, g2, g3, g4, g5, g6, g7, g8]; exact t1)) zq_fan)⟩
noncomputable def zc_qa6 : zq_S × List zq_S := (([], [], [], [], [], [], [(251, [(0, [(0, 1)]), (0, [(1, 1)]), (0, [(2, 1)]), (0, [(3, 1)]), (0, [(4, 1)]), (0, [(5, 1)]), (0, [(6, 1)]), (0, [(7, 1)]), (0, [(8, 1)])]), (239, [(0, [(1, 1)]), (0, [(2, 1)]), (0, [(8, 1)]), (75, [])])], 9), [([], [], [], [], [], [], [(245, [(0, [(0, 1)]), (0, [(1, 1)]), (0, [(2, 1)]), (0, [(3, 1)]), (0, [(4, 1)]), (0, [(5, 1)]), (0, [(6, 1)]), (0, [(7, 1)]), (1, [(8, 1)]), (6, []), (-1, [])])], 9)])
theorem zc_qa6_l {P : zq_Ty} {h : zq_H} {o g n Y d s t i j : Int} (k1 : zc_Q2m o g n Y d s t i j P h) (k2 : zc_CM g n j 75 P h) : (zc_Q0m o g n Y d s t i (j + 1) 6 (-1) P h) := by
  show zp_Q0 o g n Y d.toNat s t i (j + 1) (zc_ma 6) (zc_ms (-1))
  rw [show zc_ma 6 = 143 by decide, show zc_ms (-1) = 0 by decide]
  exact zp_Q0_2 k1 (Or.inl rfl) (zc_mp_c (by decide) k2 rfl)
theorem zc_qa6_ok {w : zq_Wd} (x_Q2 : zj_is w 251 (fun q => zc_Q2m (q 0) (q 1) (q 2) (q 3) (q 4) (q 5) (q 6) (q 7) (q 8))) (x_CM : zj_is w 239 (fun q => zc_CM (q 0) (q 1) (q 2) (q 3))) (x_Q0 : zj_is w 245 (fun q => zc_Q0m (q 0) (q 1) (q 2) (q 3) (q 4) (q 5) (q 6) (q 7) (q 8) (q 9) (q 10))) : zq_okG1 w zc_qa6 := by
  refine ⟨rfl, rfl, zu_fac ⟨rfl, by decide⟩ zq_fan, ?_⟩
  intro r P h H hM
  have q0 : zq_ev r (0, [(0, 1)]) = r 0 := zu_e1 _ _
  have q1 : zq_ev r (0, [(1, 1)]) = r 1 := zu_e1 _ _
  have q2 : zq_ev r (0, [(2, 1)]) = r 2 := zu_e1 _ _
  have q3 : zq_ev r (0, [(3, 1)]) = r 3 := zu_e1 _ _
  have q4 : zq_ev r (0, [(4, 1)]) = r 4 := zu_e1 _ _
  have q5 : zq_ev r (0, [(5, 1)]) = r 5 := zu_e1 _ _
  have q6 : zq_ev r (0, [(6, 1)]) = r 6 := zu_e1 _ _
  have q7 : zq_ev r (0, [(7, 1)]) = r 7 := zu_e1 _ _
  have q8 : zq_ev r (0, [(8, 1)]) = r 8 := zu_e1 _ _
  have q9 : zq_ev r (75, []) = 75 := zu_e0 _ _
  obtain ⟨hT, hC, hF, hS, -, hK⟩ := hM
  have c := hC.1
  have k1 := zj_use x_Q2 (hK)
  have k1 : zc_Q2m (zq_ev r (0, [(0, 1)])) (zq_ev r (0, [(1, 1)])) (zq_ev r (0, [(2, 1)])) (zq_ev r (0, [(3, 1)])) (zq_ev r (0, [(4, 1)])) (zq_ev r (0, [(5, 1)])) (zq_ev r (0, [(6, 1)])) (zq_ev r (0, [(7, 1)])) (zq_ev r (0, [(8, 1)])) P h := k1
  simp only [q0, q1, q2, q3, q4, q5, q6, q7, q8] at k1
  have k2 := zj_use x_CM (zq_okX_t (hK))
  have k2 : zc_CM (zq_ev r (0, [(1, 1)])) (zq_ev r (0, [(2, 1)])) (zq_ev r (0, [(8, 1)])) (zq_ev r (75, [])) P h := k2
  simp only [q1, q2, q8, q9] at k2
  obtain t1 := zc_qa6_l (P := P) (h := h) (o := r 0) (g := r 1) (n := r 2) (Y := r 3) (d := r 4) (s := r 5) (t := r 6) (i := r 7) (j := r 8) k1 k2
  obtain ⟨rq, hr⟩ : ∃ rq : Nat → Int, (∀ i, i < 9 → rq i = r i) := ⟨r, fun i hi => rfl⟩
  have v0 : rq 0 = r 0 := hr 0 (by decide)
  have v1 : rq 1 = r 1 := hr 1 (by decide)
  have v2 : rq 2 = r 2 := hr 2 (by decide)
  have v3 : rq 3 = r 3 := hr 3 (by decide)
  have v4 : rq 4 = r 4 := hr 4 (by decide)
  have v5 : rq 5 = r 5 := hr 5 (by decide)
  have v6 : rq 6 = r 6 := hr 6 (by decide)
  have v7 : rq 7 = r 7 := hr 7 (by decide)
  have v8 : rq 8 = r 8 := hr 8 (by decide)
  have g0 : zq_ev rq (0, [(0, 1)]) = r 0 := zu_f1 v0
  have g1 : zq_ev rq (0, [(1, 1)]) = r 1 := zu_f1 v1
  have g2 : zq_ev rq (0, [(2, 1)]) = r 2 := zu_f1 v2
  have g3 : zq_ev rq (0, [(3, 1)]) = r 3 := zu_f1 v3
  have g4 : zq_ev rq (0, [(4, 1)]) = r 4 := zu_f1 v4
  have g5 : zq_ev rq (0, [(5, 1)]) = r 5 := zu_f1 v5
  have g6 : zq_ev rq (0, [(6, 1)]) = r 6 := zu_f1 v6
  have g7 : zq_ev rq (0, [(7, 1)]) = r 7 := zu_f1 v7
  have g8 : zq_ev rq (1, [(8, 1)]) = r 8 + 1 := zu_f2 v8 _
  have g9 : zq_ev rq (6, []) = 6 := zu_e0 _ _
  have g10 : zq_ev rq (-1, []) = -1 := zu_e0 _ _
  exact ⟨_, List.mem_cons_self .., rq, hr, zq_MeS_mk rfl hT (zq_all_nil) zq_fan (zq_fan) rfl (zu_fac ((x_Q0 _ _ _).mpr (by show zc_Q0m (zq_ev rq (0, [(0, 1)])) (zq_ev rq (0, [(1, 1)])) (zq_ev rq (0, [(2, 1)])) (zq_ev rq (0, [(3, 1)])) (zq_ev rq (0, [(4, 1)])) (zq_ev rq (0, [(5, 1)])) (zq_ev rq (0, [(6, 1)])) (zq_ev rq (0, [(7, 1)])) (zq_ev rq (1, [(8, 1)])) (zq_ev rq (6, [])) (zq_ev rq (-1, [])) P h; simp only [g0, g1, g10, g2, g3, g4, g5, g6, g7, g8, g9]; exact t1)) zq_fan)⟩
noncomputable def zc_qa7 : zq_S × List zq_S := (([], [], [], [], [], [], [(251, [(0, [(0, 1)]), (0, [(1, 1)]), (0, [(2, 1)]), (0, [(3, 1)]), (0, [(4, 1)]), (0, [(5, 1)]), (0, [(6, 1)]), (0, [(7, 1)]), (0, [(8, 1)])]), (239, [(0, [(1, 1)]), (0, [(2, 1)]), (0, [(8, 1)]), (77, [])])], 9), [([], [], [], [], [], [], [(245, [(0, [(0, 1)]), (0, [(1, 1)]), (0, [(2, 1)]), (0, [(3, 1)]), (0, [(4, 1)]), (0, [(5, 1)]), (0, [(6, 1)]), (0, [(7, 1)]), (1, [(8, 1)]), (7, []), (-1, [])])], 9)])
theorem zc_qa7_l {P : zq_Ty} {h : zq_H} {o g n Y d s t i j : Int} (k1 : zc_Q2m o g n Y d s t i j P h) (k2 : zc_CM g n j 77 P h) : (zc_Q0m o g n Y d s t i (j + 1) 7 (-1) P h) := by
  show zp_Q0 o g n Y d.toNat s t i (j + 1) (zc_ma 7) (zc_ms (-1))
  rw [show zc_ma 7 = 145 by decide, show zc_ms (-1) = 0 by decide]
  exact zp_Q0_2 k1 (Or.inr rfl) (zc_mp_c (by decide) k2 rfl)
theorem zc_qa7_ok {w : zq_Wd} (x_Q2 : zj_is w 251 (fun q => zc_Q2m (q 0) (q 1) (q 2) (q 3) (q 4) (q 5) (q 6) (q 7) (q 8))) (x_CM : zj_is w 239 (fun q => zc_CM (q 0) (q 1) (q 2) (q 3))) (x_Q0 : zj_is w 245 (fun q => zc_Q0m (q 0) (q 1) (q 2) (q 3) (q 4) (q 5) (q 6) (q 7) (q 8) (q 9) (q 10))) : zq_okG1 w zc_qa7 := by
  refine ⟨rfl, rfl, zu_fac ⟨rfl, by decide⟩ zq_fan, ?_⟩
  intro r P h H hM
  have q0 : zq_ev r (0, [(0, 1)]) = r 0 := zu_e1 _ _
  have q1 : zq_ev r (0, [(1, 1)]) = r 1 := zu_e1 _ _
  have q2 : zq_ev r (0, [(2, 1)]) = r 2 := zu_e1 _ _
  have q3 : zq_ev r (0, [(3, 1)]) = r 3 := zu_e1 _ _
  have q4 : zq_ev r (0, [(4, 1)]) = r 4 := zu_e1 _ _
  have q5 : zq_ev r (0, [(5, 1)]) = r 5 := zu_e1 _ _
  have q6 : zq_ev r (0, [(6, 1)]) = r 6 := zu_e1 _ _
  have q7 : zq_ev r (0, [(7, 1)]) = r 7 := zu_e1 _ _
  have q8 : zq_ev r (0, [(8, 1)]) = r 8 := zu_e1 _ _
  have q9 : zq_ev r (77, []) = 77 := zu_e0 _ _
  obtain ⟨hT, hC, hF, hS, -, hK⟩ := hM
  have c := hC.1
  have k1 := zj_use x_Q2 (hK)
  have k1 : zc_Q2m (zq_ev r (0, [(0, 1)])) (zq_ev r (0, [(1, 1)])) (zq_ev r (0, [(2, 1)])) (zq_ev r (0, [(3, 1)])) (zq_ev r (0, [(4, 1)])) (zq_ev r (0, [(5, 1)])) (zq_ev r (0, [(6, 1)])) (zq_ev r (0, [(7, 1)])) (zq_ev r (0, [(8, 1)])) P h := k1
  simp only [q0, q1, q2, q3, q4, q5, q6, q7, q8] at k1
  have k2 := zj_use x_CM (zq_okX_t (hK))
  have k2 : zc_CM (zq_ev r (0, [(1, 1)])) (zq_ev r (0, [(2, 1)])) (zq_ev r (0, [(8, 1)])) (zq_ev r (77, [])) P h := k2
  simp only [q1, q2, q8, q9] at k2
  obtain t1 := zc_qa7_l (P := P) (h := h) (o := r 0) (g := r 1) (n := r 2) (Y := r 3) (d := r 4) (s := r 5) (t := r 6) (i := r 7) (j := r 8) k1 k2
  obtain ⟨rq, hr⟩ : ∃ rq : Nat → Int, (∀ i, i < 9 → rq i = r i) := ⟨r, fun i hi => rfl⟩
  have v0 : rq 0 = r 0 := hr 0 (by decide)
  have v1 : rq 1 = r 1 := hr 1 (by decide)
  have v2 : rq 2 = r 2 := hr 2 (by decide)
  have v3 : rq 3 = r 3 := hr 3 (by decide)
  have v4 : rq 4 = r 4 := hr 4 (by decide)
  have v5 : rq 5 = r 5 := hr 5 (by decide)
  have v6 : rq 6 = r 6 := hr 6 (by decide)
  have v7 : rq 7 = r 7 := hr 7 (by decide)
  have v8 : rq 8 = r 8 := hr 8 (by decide)
  have g0 : zq_ev rq (0, [(0, 1)]) = r 0 := zu_f1 v0
  have g1 : zq_ev rq (0, [(1, 1)]) = r 1 := zu_f1 v1
  have g2 : zq_ev rq (0, [(2, 1)]) = r 2 := zu_f1 v2
  have g3 : zq_ev rq (0, [(3, 1)]) = r 3 := zu_f1 v3
  have g4 : zq_ev rq (0, [(4, 1)]) = r 4 := zu_f1 v4
  have g5 : zq_ev rq (0, [(5, 1)]) = r 5 := zu_f1 v5
  have g6 : zq_ev rq (0, [(6, 1)]) = r 6 := zu_f1 v6
  have g7 : zq_ev rq (0, [(7, 1)]) = r 7 := zu_f1 v7
  have g8 : zq_ev rq (1, [(8, 1)]) = r 8 + 1 := zu_f2 v8 _
  have g9 : zq_ev rq (7, []) = 7 := zu_e0 _ _
  have g10 : zq_ev rq (-1, []) = -1 := zu_e0 _ _
  exact ⟨_, List.mem_cons_self .., rq, hr, zq_MeS_mk rfl hT (zq_all_nil) zq_fan (zq_fan) rfl (zu_fac ((x_Q0 _ _ _).mpr (by show zc_Q0m (zq_ev rq (0, [(0, 1)])) (zq_ev rq (0, [(1, 1)])) (zq_ev rq (0, [(2, 1)])) (zq_ev rq (0, [(3, 1)])) (zq_ev rq (0, [(4, 1)])) (zq_ev rq (0, [(5, 1)])) (zq_ev rq (0, [(6, 1)])) (zq_ev rq (0, [(7, 1)])) (zq_ev rq (1, [(8, 1)])) (zq_ev rq (7, [])) (zq_ev rq (-1, [])) P h; simp only [g0, g1, g10, g2, g3, g4, g5, g6, g7, g8, g9]; exact t1)) zq_fan)⟩
noncomputable def zc_qea : zq_S × List zq_S := (([], [], [(0, [(9, 1)]), (74, [(9, -1)])], [], [], [], [(251, [(0, [(0, 1)]), (0, [(1, 1)]), (0, [(2, 1)]), (0, [(3, 1)]), (0, [(4, 1)]), (0, [(5, 1)]), (0, [(6, 1)]), (0, [(7, 1)]), (0, [(8, 1)])]), (239, [(0, [(1, 1)]), (0, [(2, 1)]), (0, [(8, 1)]), (0, [(9, 1)])])], 10), [([], [], [], [], [], [], [(243, [(0, [(0, 1)]), (0, [(1, 1)]), (0, [(2, 1)]), (0, [(3, 1)]), (4, []), (0, [(4, 1)]), (0, [(5, 1)]), (0, [(6, 1)]), (0, [(7, 1)]), (0, [(8, 1)])])], 10)])
theorem zc_qea_l {P : zq_Ty} {h : zq_H} {o g n Y d s t i j c : Int} (a1 : 0 ≤ c) (a2 : 0 ≤ -c + 74) (k1 : zc_Q2m o g n Y d s t i j P h) (k2 : zc_CM g n j c P h) : (zc_P o g n Y 4 d s t i j P h) := by
  have hc : ze_c g n j ≤ 142 := by
    rw [show ze_c g n j = zu_mp c from k2]
    by_cases h32 : c < 32
    · have := (zu_mp_in 0 31 0 50 (by decide +kernel) (c := c) (by omega) (by omega) (by omega)).2; omega
    · rw [zu_mp_hi (by omega)]; omega
  have ha : ze_add (ze_c g n j) = false := by unfold ze_add; rw [decide_eq_false (by omega), decide_eq_false (by omega)]; rfl
  exact zp_P4_2 k1 ha
theorem zc_qea_ok {w : zq_Wd} (x_Q2 : zj_is w 251 (fun q => zc_Q2m (q 0) (q 1) (q 2) (q 3) (q 4) (q 5) (q 6) (q 7) (q 8))) (x_CM : zj_is w 239 (fun q => zc_CM (q 0) (q 1) (q 2) (q 3))) (x_P : zj_is w 243 (fun q => zc_P (q 0) (q 1) (q 2) (q 3) (q 4) (q 5) (q 6) (q 7) (q 8) (q 9))) : zq_okG1 w zc_qea := by
  refine ⟨rfl, rfl, zu_fac ⟨rfl, by decide⟩ zq_fan, ?_⟩
  intro r P h H hM
  have q0 : zq_ev r (0, [(9, 1)]) = r 9 := zu_e1 _ _
  have q1 : zq_ev r (74, [(9, -1)]) = -r 9 + 74 := zu_e5 _ _ _
  have q2 : zq_ev r (0, [(0, 1)]) = r 0 := zu_e1 _ _
  have q3 : zq_ev r (0, [(1, 1)]) = r 1 := zu_e1 _ _
  have q4 : zq_ev r (0, [(2, 1)]) = r 2 := zu_e1 _ _
  have q5 : zq_ev r (0, [(3, 1)]) = r 3 := zu_e1 _ _
  have q6 : zq_ev r (0, [(4, 1)]) = r 4 := zu_e1 _ _
  have q7 : zq_ev r (0, [(5, 1)]) = r 5 := zu_e1 _ _
  have q8 : zq_ev r (0, [(6, 1)]) = r 6 := zu_e1 _ _
  have q9 : zq_ev r (0, [(7, 1)]) = r 7 := zu_e1 _ _
  have q10 : zq_ev r (0, [(8, 1)]) = r 8 := zu_e1 _ _
  obtain ⟨hT, hC, hF, hS, -, hK⟩ := hM
  have c := hC.1
  have a1 := zq_all_1 c
  rw [q0] at a1
  have c := zq_all_t c
  have a2 := zq_all_1 c
  rw [q1] at a2
  have k1 := zj_use x_Q2 (hK)
  have k1 : zc_Q2m (zq_ev r (0, [(0, 1)])) (zq_ev r (0, [(1, 1)])) (zq_ev r (0, [(2, 1)])) (zq_ev r (0, [(3, 1)])) (zq_ev r (0, [(4, 1)])) (zq_ev r (0, [(5, 1)])) (zq_ev r (0, [(6, 1)])) (zq_ev r (0, [(7, 1)])) (zq_ev r (0, [(8, 1)])) P h := k1
  simp only [q10, q2, q3, q4, q5, q6, q7, q8, q9] at k1
  have k2 := zj_use x_CM (zq_okX_t (hK))
  have k2 : zc_CM (zq_ev r (0, [(1, 1)])) (zq_ev r (0, [(2, 1)])) (zq_ev r (0, [(8, 1)])) (zq_ev r (0, [(9, 1)])) P h := k2
  simp only [q0, q10, q3, q4] at k2
  obtain t1 := zc_qea_l (P := P) (h := h) (o := r 0) (g := r 1) (n := r 2) (Y := r 3) (d := r 4) (s := r 5) (t := r 6) (i := r 7) (j := r 8) (c := r 9) a1 a2 k1 k2
  obtain ⟨rq, hr⟩ : ∃ rq : Nat → Int, (∀ i, i < 10 → rq i = r i) := ⟨r, fun i hi => rfl⟩
  have v0 : rq 0 = r 0 := hr 0 (by decide)
  have v1 : rq 1 = r 1 := hr 1 (by decide)
  have v2 : rq 2 = r 2 := hr 2 (by decide)
  have v3 : rq 3 = r 3 := hr 3 (by decide)
  have v4 : rq 4 = r 4 := hr 4 (by decide)
  have v5 : rq 5 = r 5 := hr 5 (by decide)
  have v6 : rq 6 = r 6 := hr 6 (by decide)
  have v7 : rq 7 = r 7 := hr 7 (by decide)
  have v8 : rq 8 = r 8 := hr 8 (by decide)
  have g0 : zq_ev rq (0, [(0, 1)]) = r 0 := zu_f1 v0
  have g1 : zq_ev rq (0, [(1, 1)]) = r 1 := zu_f1 v1
  have g2 : zq_ev rq (0, [(2, 1)]) = r 2 := zu_f1 v2
  have g3 : zq_ev rq (0, [(3, 1)]) = r 3 := zu_f1 v3
  have g4 : zq_ev rq (4, []) = 4 := zu_e0 _ _
  have g5 : zq_ev rq (0, [(4, 1)]) = r 4 := zu_f1 v4
  have g6 : zq_ev rq (0, [(5, 1)]) = r 5 := zu_f1 v5
  have g7 : zq_ev rq (0, [(6, 1)]) = r 6 := zu_f1 v6
  have g8 : zq_ev rq (0, [(7, 1)]) = r 7 := zu_f1 v7
  have g9 : zq_ev rq (0, [(8, 1)]) = r 8 := zu_f1 v8
  exact ⟨_, List.mem_cons_self .., rq, hr, zq_MeS_mk rfl hT (zq_all_nil) zq_fan (zq_fan) rfl (zu_fac ((x_P _ _ _).mpr (by show zc_P (zq_ev rq (0, [(0, 1)])) (zq_ev rq (0, [(1, 1)])) (zq_ev rq (0, [(2, 1)])) (zq_ev rq (0, [(3, 1)])) (zq_ev rq (4, [])) (zq_ev rq (0, [(4, 1)])) (zq_ev rq (0, [(5, 1)])) (zq_ev rq (0, [(6, 1)])) (zq_ev rq (0, [(7, 1)])) (zq_ev rq (0, [(8, 1)])) P h; simp only [g0, g1, g2, g3, g4, g5, g6, g7, g8, g9]; exact t1)) zq_fan)⟩
noncomputable def zc_qeb : zq_S × List zq_S := (([], [], [(-76, [(9, 1)]), (76, [(9, -1)])], [], [], [], [(251, [(0, [(0, 1)]), (0, [(1, 1)]), (0, [(2, 1)]), (0, [(3, 1)]), (0, [(4, 1)]), (0, [(5, 1)]), (0, [(6, 1)]), (0, [(7, 1)]), (0, [(8, 1)])]), (239, [(0, [(1, 1)]), (0, [(2, 1)]), (0, [(8, 1)]), (0, [(9, 1)])])], 10), [([], [], [], [], [], [], [(243, [(0, [(0, 1)]), (0, [(1, 1)]), (0, [(2, 1)]), (0, [(3, 1)]), (4, []), (0, [(4, 1)]), (0, [(5, 1)]), (0, [(6, 1)]), (0, [(7, 1)]), (0, [(8, 1)])])], 10)])
theorem zc_qeb_l {P : zq_Ty} {h : zq_H} {o g n Y d s t i j c : Int} (a1 : 0 ≤ c - 76) (a2 : 0 ≤ -c + 76) (k1 : zc_Q2m o g n Y d s t i j P h) (k2 : zc_CM g n j c P h) : (zc_P o g n Y 4 d s t i j P h) := by
  have hc : ze_c g n j = c + 68 := by rw [show ze_c g n j = zu_mp c from k2, zu_mp_hi (by omega)]
  have ha : ze_add (ze_c g n j) = false := by unfold ze_add; rw [decide_eq_false (by omega), decide_eq_false (by omega)]; rfl
  exact zp_P4_2 k1 ha
theorem zc_qeb_ok {w : zq_Wd} (x_Q2 : zj_is w 251 (fun q => zc_Q2m (q 0) (q 1) (q 2) (q 3) (q 4) (q 5) (q 6) (q 7) (q 8))) (x_CM : zj_is w 239 (fun q => zc_CM (q 0) (q 1) (q 2) (q 3))) (x_P : zj_is w 243 (fun q => zc_P (q 0) (q 1) (q 2) (q 3) (q 4) (q 5) (q 6) (q 7) (q 8) (q 9))) : zq_okG1 w zc_qeb := by
  refine ⟨rfl, rfl, zu_fac ⟨rfl, by decide⟩ zq_fan, ?_⟩
  intro r P h H hM
  have q0 : zq_ev r (-76, [(9, 1)]) = r 9 - 76 := zu_e3 _ _ _
  have q1 : zq_ev r (76, [(9, -1)]) = -r 9 + 76 := zu_e5 _ _ _
  have q2 : zq_ev r (0, [(0, 1)]) = r 0 := zu_e1 _ _
  have q3 : zq_ev r (0, [(1, 1)]) = r 1 := zu_e1 _ _
  have q4 : zq_ev r (0, [(2, 1)]) = r 2 := zu_e1 _ _
  have q5 : zq_ev r (0, [(3, 1)]) = r 3 := zu_e1 _ _
  have q6 : zq_ev r (0, [(4, 1)]) = r 4 := zu_e1 _ _
  have q7 : zq_ev r (0, [(5, 1)]) = r 5 := zu_e1 _ _
  have q8 : zq_ev r (0, [(6, 1)]) = r 6 := zu_e1 _ _
  have q9 : zq_ev r (0, [(7, 1)]) = r 7 := zu_e1 _ _
  have q10 : zq_ev r (0, [(8, 1)]) = r 8 := zu_e1 _ _
  have q11 : zq_ev r (0, [(9, 1)]) = r 9 := zu_e1 _ _
  obtain ⟨hT, hC, hF, hS, -, hK⟩ := hM
  have c := hC.1
  have a1 := zq_all_1 c
  rw [q0] at a1
  have c := zq_all_t c
  have a2 := zq_all_1 c
  rw [q1] at a2
  have k1 := zj_use x_Q2 (hK)
  have k1 : zc_Q2m (zq_ev r (0, [(0, 1)])) (zq_ev r (0, [(1, 1)])) (zq_ev r (0, [(2, 1)])) (zq_ev r (0, [(3, 1)])) (zq_ev r (0, [(4, 1)])) (zq_ev r (0, [(5, 1)])) (zq_ev r (0, [(6, 1)])) (zq_ev r (0, [(7, 1)])) (zq_ev r (0, [(8, 1)])) P h := k1
  simp only [q10, q2, q3, q4, q5, q6, q7, q8, q9] at k1
  have k2 := zj_use x_CM (zq_okX_t (hK))
  have k2 : zc_CM (zq_ev r (0, [(1, 1)])) (zq_ev r (0, [(2, 1)])) (zq_ev r (0, [(8, 1)])) (zq_ev r (0, [(9, 1)])) P h := k2
  simp only [q10, q11, q3, q4] at k2
  obtain t1 := zc_qeb_l (P := P) (h := h) (o := r 0) (g := r 1) (n := r 2) (Y := r 3) (d := r 4) (s := r 5) (t := r 6) (i := r 7) (j := r 8) (c := r 9) a1 a2 k1 k2
  obtain ⟨rq, hr⟩ : ∃ rq : Nat → Int, (∀ i, i < 10 → rq i = r i) := ⟨r, fun i hi => rfl⟩
  have v0 : rq 0 = r 0 := hr 0 (by decide)
  have v1 : rq 1 = r 1 := hr 1 (by decide)
  have v2 : rq 2 = r 2 := hr 2 (by decide)
  have v3 : rq 3 = r 3 := hr 3 (by decide)
  have v4 : rq 4 = r 4 := hr 4 (by decide)
  have v5 : rq 5 = r 5 := hr 5 (by decide)
  have v6 : rq 6 = r 6 := hr 6 (by decide)
  have v7 : rq 7 = r 7 := hr 7 (by decide)
  have v8 : rq 8 = r 8 := hr 8 (by decide)
  have g0 : zq_ev rq (0, [(0, 1)]) = r 0 := zu_f1 v0
  have g1 : zq_ev rq (0, [(1, 1)]) = r 1 := zu_f1 v1
  have g2 : zq_ev rq (0, [(2, 1)]) = r 2 := zu_f1 v2
  have g3 : zq_ev rq (0, [(3, 1)]) = r 3 := zu_f1 v3
  have g4 : zq_ev rq (4, []) = 4 := zu_e0 _ _
  have g5 : zq_ev rq (0, [(4, 1)]) = r 4 := zu_f1 v4
  have g6 : zq_ev rq (0, [(5, 1)]) = r 5 := zu_f1 v5
  have g7 : zq_ev rq (0, [(6, 1)]) = r 6 := zu_f1 v6
  have g8 : zq_ev rq (0, [(7, 1)]) = r 7 := zu_f1 v7
  have g9 : zq_ev rq (0, [(8, 1)]) = r 8 := zu_f1 v8
  exact ⟨_, List.mem_cons_self .., rq, hr, zq_MeS_mk rfl hT (zq_all_nil) zq_fan (zq_fan) rfl (zu_fac ((x_P _ _ _).mpr (by show zc_P (zq_ev rq (0, [(0, 1)])) (zq_ev rq (0, [(1, 1)])) (zq_ev rq (0, [(2, 1)])) (zq_ev rq (0, [(3, 1)])) (zq_ev rq (4, [])) (zq_ev rq (0, [(4, 1)])) (zq_ev rq (0, [(5, 1)])) (zq_ev rq (0, [(6, 1)])) (zq_ev rq (0, [(7, 1)])) (zq_ev rq (0, [(8, 1)])) P h; simp only [g0, g1, g2, g3, g4, g5, g6, g7, g8, g9]; exact t1)) zq_fan)⟩
noncomputable def zc_qec : zq_S × List zq_S := (([], [], [(-78, [(9, 1)])], [], [], [], [(251, [(0, [(0, 1)]), (0, [(1, 1)]), (0, [(2, 1)]), (0, [(3, 1)]), (0, [(4, 1)]), (0, [(5, 1)]), (0, [(6, 1)]), (0, [(7, 1)]), (0, [(8, 1)])]), (239, [(0, [(1, 1)]), (0, [(2, 1)]), (0, [(8, 1)]), (0, [(9, 1)])])], 10), [([], [], [], [], [], [], [(243, [(0, [(0, 1)]), (0, [(1, 1)]), (0, [(2, 1)]), (0, [(3, 1)]), (4, []), (0, [(4, 1)]), (0, [(5, 1)]), (0, [(6, 1)]), (0, [(7, 1)]), (0, [(8, 1)])])], 10)])
theorem zc_qec_l {P : zq_Ty} {h : zq_H} {o g n Y d s t i j c : Int} (a1 : 0 ≤ c - 78) (k1 : zc_Q2m o g n Y d s t i j P h) (k2 : zc_CM g n j c P h) : (zc_P o g n Y 4 d s t i j P h) := by
  have hc : 146 ≤ ze_c g n j := by rw [show ze_c g n j = zu_mp c from k2, zu_mp_hi (by omega)]; omega
  have ha : ze_add (ze_c g n j) = false := by unfold ze_add; rw [decide_eq_false (by omega), decide_eq_false (by omega)]; rfl
  exact zp_P4_2 k1 ha
theorem zc_qec_ok {w : zq_Wd} (x_Q2 : zj_is w 251 (fun q => zc_Q2m (q 0) (q 1) (q 2) (q 3) (q 4) (q 5) (q 6) (q 7) (q 8))) (x_CM : zj_is w 239 (fun q => zc_CM (q 0) (q 1) (q 2) (q 3))) (x_P : zj_is w 243 (fun q => zc_P (q 0) (q 1) (q 2) (q 3) (q 4) (q 5) (q 6) (q 7) (q 8) (q 9))) : zq_okG1 w zc_qec := by
  refine ⟨rfl, rfl, zu_fac ⟨rfl, by decide⟩ zq_fan, ?_⟩
  intro r P h H hM
  have q0 : zq_ev r (-78, [(9, 1)]) = r 9 - 78 := zu_e3 _ _ _
  have q1 : zq_ev r (0, [(0, 1)]) = r 0 := zu_e1 _ _
  have q2 : zq_ev r (0, [(1, 1)]) = r 1 := zu_e1 _ _
  have q3 : zq_ev r (0, [(2, 1)]) = r 2 := zu_e1 _ _
  have q4 : zq_ev r (0, [(3, 1)]) = r 3 := zu_e1 _ _
  have q5 : zq_ev r (0, [(4, 1)]) = r 4 := zu_e1 _ _
  have q6 : zq_ev r (0, [(5, 1)]) = r 5 := zu_e1 _ _
  have q7 : zq_ev r (0, [(6, 1)]) = r 6 := zu_e1 _ _
  have q8 : zq_ev r (0, [(7, 1)]) = r 7 := zu_e1 _ _
  have q9 : zq_ev r (0, [(8, 1)]) = r 8 := zu_e1 _ _
  have q10 : zq_ev r (0, [(9, 1)]) = r 9 := zu_e1 _ _
  obtain ⟨hT, hC, hF, hS, -, hK⟩ := hM
  have c := hC.1
  have a1 := zq_all_1 c
  rw [q0] at a1
  have k1 := zj_use x_Q2 (hK)
  have k1 : zc_Q2m (zq_ev r (0, [(0, 1)])) (zq_ev r (0, [(1, 1)])) (zq_ev r (0, [(2, 1)])) (zq_ev r (0, [(3, 1)])) (zq_ev r (0, [(4, 1)])) (zq_ev r (0, [(5, 1)])) (zq_ev r (0, [(6, 1)])) (zq_ev r (0, [(7, 1)])) (zq_ev r (0, [(8, 1)])) P h := k1
  simp only [q1, q2, q3, q4, q5, q6, q7, q8, q9] at k1
  have k2 := zj_use x_CM (zq_okX_t (hK))
  have k2 : zc_CM (zq_ev r (0, [(1, 1)])) (zq_ev r (0, [(2, 1)])) (zq_ev r (0, [(8, 1)])) (zq_ev r (0, [(9, 1)])) P h := k2
  simp only [q10, q2, q3, q9] at k2
  obtain t1 := zc_qec_l (P := P) (h := h) (o := r 0) (g := r 1) (n := r 2) (Y := r 3) (d := r 4) (s := r 5) (t := r 6) (i := r 7) (j := r 8) (c := r 9) a1 k1 k2
  obtain ⟨rq, hr⟩ : ∃ rq : Nat → Int, (∀ i, i < 10 → rq i = r i) := ⟨r, fun i hi => rfl⟩
  have v0 : rq 0 = r 0 := hr 0 (by decide)
  have v1 : rq 1 = r 1 := hr 1 (by decide)
  have v2 : rq 2 = r 2 := hr 2 (by decide)
  have v3 : rq 3 = r 3 := hr 3 (by decide)
  have v4 : rq 4 = r 4 := hr 4 (by decide)
  have v5 : rq 5 = r 5 := hr 5 (by decide)
  have v6 : rq 6 = r 6 := hr 6 (by decide)
  have v7 : rq 7 = r 7 := hr 7 (by decide)
  have v8 : rq 8 = r 8 := hr 8 (by decide)
  have g0 : zq_ev rq (0, [(0, 1)]) = r 0 := zu_f1 v0
  have g1 : zq_ev rq (0, [(1, 1)]) = r 1 := zu_f1 v1
  have g2 : zq_ev rq (0, [(2, 1)]) = r 2 := zu_f1 v2
  have g3 : zq_ev rq (0, [(3, 1)]) = r 3 := zu_f1 v3
  have g4 : zq_ev rq (4, []) = 4 := zu_e0 _ _
  have g5 : zq_ev rq (0, [(4, 1)]) = r 4 := zu_f1 v4
  have g6 : zq_ev rq (0, [(5, 1)]) = r 5 := zu_f1 v5
  have g7 : zq_ev rq (0, [(6, 1)]) = r 6 := zu_f1 v6
  have g8 : zq_ev rq (0, [(7, 1)]) = r 7 := zu_f1 v7
  have g9 : zq_ev rq (0, [(8, 1)]) = r 8 := zu_f1 v8
  exact ⟨_, List.mem_cons_self .., rq, hr, zq_MeS_mk rfl hT (zq_all_nil) zq_fan (zq_fan) rfl (zu_fac ((x_P _ _ _).mpr (by show zc_P (zq_ev rq (0, [(0, 1)])) (zq_ev rq (0, [(1, 1)])) (zq_ev rq (0, [(2, 1)])) (zq_ev rq (0, [(3, 1)])) (zq_ev rq (4, [])) (zq_ev rq (0, [(4, 1)])) (zq_ev rq (0, [(5, 1)])) (zq_ev rq (0, [(6, 1)])) (zq_ev rq (0, [(7, 1)])) (zq_ev rq (0, [(8, 1)])) P h; simp only [g0, g1, g2, g3, g4, g5, g6, g7, g8, g9]; exact t1)) zq_fan)⟩
noncomputable def zc_cs11 : zq_S × List zq_S := (([], [], [], [], [], [], [(239, [(0, [(0, 1)]), (0, [(1, 1)]), (0, [(2, 1)]), (92, [])])], 3), [([], [], [], [], [], [], [(252, [(0, [(0, 1)]), (0, [(1, 1)]), (0, [(2, 1)]), (11, [])])], 3)])
theorem zc_cs11_l {P : zq_Ty} {h : zq_H} {g n j : Int} (k1 : zc_CM g n j 92 P h) : (zc_CS g n j 11 P h) := by
  exact Or.inl ⟨rfl, zc_mp_c (by decide) k1 rfl⟩
theorem zc_cs11_ok {w : zq_Wd} (x_CM : zj_is w 239 (fun q => zc_CM (q 0) (q 1) (q 2) (q 3))) (x_CS : zj_is w 252 (fun q => zc_CS (q 0) (q 1) (q 2) (q 3))) : zq_okG1 w zc_cs11 := by
  refine ⟨rfl, rfl, zu_fac ⟨rfl, by decide⟩ zq_fan, ?_⟩
  intro r P h H hM
  have q0 : zq_ev r (0, [(0, 1)]) = r 0 := zu_e1 _ _
  have q1 : zq_ev r (0, [(1, 1)]) = r 1 := zu_e1 _ _
  have q2 : zq_ev r (0, [(2, 1)]) = r 2 := zu_e1 _ _
  have q3 : zq_ev r (92, []) = 92 := zu_e0 _ _
  obtain ⟨hT, hC, hF, hS, -, hK⟩ := hM
  have c := hC.1
  have k1 := zj_use x_CM (hK)
  have k1 : zc_CM (zq_ev r (0, [(0, 1)])) (zq_ev r (0, [(1, 1)])) (zq_ev r (0, [(2, 1)])) (zq_ev r (92, [])) P h := k1
  simp only [q0, q1, q2, q3] at k1
  obtain t1 := zc_cs11_l (P := P) (h := h) (g := r 0) (n := r 1) (j := r 2) k1
  obtain ⟨rq, hr⟩ : ∃ rq : Nat → Int, (∀ i, i < 3 → rq i = r i) := ⟨r, fun i hi => rfl⟩
  have v0 : rq 0 = r 0 := hr 0 (by decide)
  have v1 : rq 1 = r 1 := hr 1 (by decide)
  have v2 : rq 2 = r 2 := hr 2 (by decide)
  have g0 : zq_ev rq (0, [(0, 1)]) = r 0 := zu_f1 v0
  have g1 : zq_ev rq (0, [(1, 1)]) = r 1 := zu_f1 v1
  have g2 : zq_ev rq (0, [(2, 1)]) = r 2 := zu_f1 v2
  have g3 : zq_ev rq (11, []) = 11 := zu_e0 _ _
  exact ⟨_, List.mem_cons_self .., rq, hr, zq_MeS_mk rfl hT (zq_all_nil) zq_fan (zq_fan) rfl (zu_fac ((x_CS _ _ _).mpr (by show zc_CS (zq_ev rq (0, [(0, 1)])) (zq_ev rq (0, [(1, 1)])) (zq_ev rq (0, [(2, 1)])) (zq_ev rq (11, [])) P h; simp only [g0, g1, g2, g3]; exact t1)) zq_fan)⟩
noncomputable def zc_cs12 : zq_S × List zq_S := (([], [], [], [], [], [], [(239, [(0, [(0, 1)]), (0, [(1, 1)]), (0, [(2, 1)]), (94, [])])], 3), [([], [], [], [], [], [], [(252, [(0, [(0, 1)]), (0, [(1, 1)]), (0, [(2, 1)]), (12, [])])], 3)])
theorem zc_cs12_l {P : zq_Ty} {h : zq_H} {g n j : Int} (k1 : zc_CM g n j 94 P h) : (zc_CS g n j 12 P h) := by
  exact Or.inr (Or.inl ⟨rfl, zc_mp_c (by decide) k1 rfl⟩)
theorem zc_cs12_ok {w : zq_Wd} (x_CM : zj_is w 239 (fun q => zc_CM (q 0) (q 1) (q 2) (q 3))) (x_CS : zj_is w 252 (fun q => zc_CS (q 0) (q 1) (q 2) (q 3))) : zq_okG1 w zc_cs12 := by
  refine ⟨rfl, rfl, zu_fac ⟨rfl, by decide⟩ zq_fan, ?_⟩
  intro r P h H hM
  have q0 : zq_ev r (0, [(0, 1)]) = r 0 := zu_e1 _ _
  have q1 : zq_ev r (0, [(1, 1)]) = r 1 := zu_e1 _ _
  have q2 : zq_ev r (0, [(2, 1)]) = r 2 := zu_e1 _ _
  have q3 : zq_ev r (94, []) = 94 := zu_e0 _ _
  obtain ⟨hT, hC, hF, hS, -, hK⟩ := hM
  have c := hC.1
  have k1 := zj_use x_CM (hK)
  have k1 : zc_CM (zq_ev r (0, [(0, 1)])) (zq_ev r (0, [(1, 1)])) (zq_ev r (0, [(2, 1)])) (zq_ev r (94, [])) P h := k1
  simp only [q0, q1, q2, q3] at k1
  obtain t1 := zc_cs12_l (P := P) (h := h) (g := r 0) (n := r 1) (j := r 2) k1
  obtain ⟨rq, hr⟩ : ∃ rq : Nat → Int, (∀ i, i < 3 → rq i = r i) := ⟨r, fun i hi => rfl⟩
  have v0 : rq 0 = r 0 := hr 0 (by decide)
  have v1 : rq 1 = r 1 := hr 1 (by decide)
  have v2 : rq 2 = r 2 := hr 2 (by decide)
  have g0 : zq_ev rq (0, [(0, 1)]) = r 0 := zu_f1 v0
  have g1 : zq_ev rq (0, [(1, 1)]) = r 1 := zu_f1 v1
  have g2 : zq_ev rq (0, [(2, 1)]) = r 2 := zu_f1 v2
  have g3 : zq_ev rq (12, []) = 12 := zu_e0 _ _
  exact ⟨_, List.mem_cons_self .., rq, hr, zq_MeS_mk rfl hT (zq_all_nil) zq_fan (zq_fan) rfl (zu_fac ((x_CS _ _ _).mpr (by show zc_CS (zq_ev rq (0, [(0, 1)])) (zq_ev rq (0, [(1, 1)])) (zq_ev rq (0, [(2, 1)])) (zq_ev rq (12, [])) P h; simp only [g0, g1, g2, g3]; exact t1)) zq_fan)⟩
noncomputable def zc_cs13 : zq_S × List zq_S := (([], [], [], [], [], [], [(239, [(0, [(0, 1)]), (0, [(1, 1)]), (0, [(2, 1)]), (93, [])])], 3), [([], [], [], [], [], [], [(252, [(0, [(0, 1)]), (0, [(1, 1)]), (0, [(2, 1)]), (13, [])])], 3)])
theorem zc_cs13_l {P : zq_Ty} {h : zq_H} {g n j : Int} (k1 : zc_CM g n j 93 P h) : (zc_CS g n j 13 P h) := by
  exact Or.inr (Or.inr ⟨rfl, zc_mp_c (by decide) k1 rfl⟩)
theorem zc_cs13_ok {w : zq_Wd} (x_CM : zj_is w 239 (fun q => zc_CM (q 0) (q 1) (q 2) (q 3))) (x_CS : zj_is w 252 (fun q => zc_CS (q 0) (q 1) (q 2) (q 3))) : zq_okG1 w zc_cs13 := by
  refine ⟨rfl, rfl, zu_fac ⟨rfl, by decide⟩ zq_fan, ?_⟩
  intro r P h H hM
  have q0 : zq_ev r (0, [(0, 1)]) = r 0 := zu_e1 _ _
  have q1 : zq_ev r (0, [(1, 1)]) = r 1 := zu_e1 _ _
  have q2 : zq_ev r (0, [(2, 1)]) = r 2 := zu_e1 _ _
  have q3 : zq_ev r (93, []) = 93 := zu_e0 _ _
  obtain ⟨hT, hC, hF, hS, -, hK⟩ := hM
  have c := hC.1
  have k1 := zj_use x_CM (hK)
  have k1 : zc_CM (zq_ev r (0, [(0, 1)])) (zq_ev r (0, [(1, 1)])) (zq_ev r (0, [(2, 1)])) (zq_ev r (93, [])) P h := k1
  simp only [q0, q1, q2, q3] at k1
  obtain t1 := zc_cs13_l (P := P) (h := h) (g := r 0) (n := r 1) (j := r 2) k1
  obtain ⟨rq, hr⟩ : ∃ rq : Nat → Int, (∀ i, i < 3 → rq i = r i) := ⟨r, fun i hi => rfl⟩
  have v0 : rq 0 = r 0 := hr 0 (by decide)
  have v1 : rq 1 = r 1 := hr 1 (by decide)
  have v2 : rq 2 = r 2 := hr 2 (by decide)
  have g0 : zq_ev rq (0, [(0, 1)]) = r 0 := zu_f1 v0
  have g1 : zq_ev rq (0, [(1, 1)]) = r 1 := zu_f1 v1
  have g2 : zq_ev rq (0, [(2, 1)]) = r 2 := zu_f1 v2
  have g3 : zq_ev rq (13, []) = 13 := zu_e0 _ _
  exact ⟨_, List.mem_cons_self .., rq, hr, zq_MeS_mk rfl hT (zq_all_nil) zq_fan (zq_fan) rfl (zu_fac ((x_CS _ _ _).mpr (by show zc_CS (zq_ev rq (0, [(0, 1)])) (zq_ev rq (0, [(1, 1)])) (zq_ev rq (0, [(2, 1)])) (zq_ev rq (13, [])) P h; simp only [g0, g1, g2, g3]; exact t1)) zq_fan)⟩
noncomputable def zc_nba : zq_S × List zq_S := (([], [], [(0, [(3, 1)]), (71, [(3, -1)])], [], [], [], [(239, [(0, [(0, 1)]), (0, [(1, 1)]), (0, [(2, 1)]), (0, [(3, 1)])])], 4), [([], [], [], [], [], [], [(253, [(0, [(0, 1)]), (0, [(1, 1)]), (0, [(2, 1)])])], 4)])
theorem zc_nba_l {P : zq_Ty} {h : zq_H} {g n j c : Int} (a1 : 0 ≤ c) (a2 : 0 ≤ -c + 71) (k1 : zc_CM g n j c P h) : (zc_NB g n j P h) := by
  have hc : ze_c g n j ≤ 139 := by
    rw [show ze_c g n j = zu_mp c from k1]
    by_cases h32 : c < 32
    · have := (zu_mp_in 0 31 0 50 (by decide +kernel) (c := c) (by omega) (by omega) (by omega)).2; omega
    · rw [zu_mp_hi (by omega)]; omega
  show ze_c g n j ≠ 140
  omega
theorem zc_nba_ok {w : zq_Wd} (x_CM : zj_is w 239 (fun q => zc_CM (q 0) (q 1) (q 2) (q 3))) (x_NB : zj_is w 253 (fun q => zc_NB (q 0) (q 1) (q 2))) : zq_okG1 w zc_nba := by
  refine ⟨rfl, rfl, zu_fac ⟨rfl, by decide⟩ zq_fan, ?_⟩
  intro r P h H hM
  have q0 : zq_ev r (0, [(3, 1)]) = r 3 := zu_e1 _ _
  have q1 : zq_ev r (71, [(3, -1)]) = -r 3 + 71 := zu_e5 _ _ _
  have q2 : zq_ev r (0, [(0, 1)]) = r 0 := zu_e1 _ _
  have q3 : zq_ev r (0, [(1, 1)]) = r 1 := zu_e1 _ _
  have q4 : zq_ev r (0, [(2, 1)]) = r 2 := zu_e1 _ _
  obtain ⟨hT, hC, hF, hS, -, hK⟩ := hM
  have c := hC.1
  have a1 := zq_all_1 c
  rw [q0] at a1
  have c := zq_all_t c
  have a2 := zq_all_1 c
  rw [q1] at a2
  have k1 := zj_use x_CM (hK)
  have k1 : zc_CM (zq_ev r (0, [(0, 1)])) (zq_ev r (0, [(1, 1)])) (zq_ev r (0, [(2, 1)])) (zq_ev r (0, [(3, 1)])) P h := k1
  simp only [q0, q2, q3, q4] at k1
  obtain t1 := zc_nba_l (P := P) (h := h) (g := r 0) (n := r 1) (j := r 2) (c := r 3) a1 a2 k1
  obtain ⟨rq, hr⟩ : ∃ rq : Nat → Int, (∀ i, i < 4 → rq i = r i) := ⟨r, fun i hi => rfl⟩
  have v0 : rq 0 = r 0 := hr 0 (by decide)
  have v1 : rq 1 = r 1 := hr 1 (by decide)
  have v2 : rq 2 = r 2 := hr 2 (by decide)
  have g0 : zq_ev rq (0, [(0, 1)]) = r 0 := zu_f1 v0
  have g1 : zq_ev rq (0, [(1, 1)]) = r 1 := zu_f1 v1
  have g2 : zq_ev rq (0, [(2, 1)]) = r 2 := zu_f1 v2
  exact ⟨_, List.mem_cons_self .., rq, hr, zq_MeS_mk rfl hT (zq_all_nil) zq_fan (zq_fan) rfl (zu_fac ((x_NB _ _ _).mpr (by show zc_NB (zq_ev rq (0, [(0, 1)])) (zq_ev rq (0, [(1, 1)])) (zq_ev rq (0, [(2, 1)])) P h; simp only [g0, g1, g2]; exact t1)) zq_fan)⟩
noncomputable def zc_nbb : zq_S × List zq_S := (([], [], [(-73, [(3, 1)])], [], [], [], [(239, [(0, [(0, 1)]), (0, [(1, 1)]), (0, [(2, 1)]), (0, [(3, 1)])])], 4), [([], [], [], [], [], [], [(253, [(0, [(0, 1)]), (0, [(1, 1)]), (0, [(2, 1)])])], 4)])
theorem zc_nbb_l {P : zq_Ty} {h : zq_H} {g n j c : Int} (a1 : 0 ≤ c - 73) (k1 : zc_CM g n j c P h) : (zc_NB g n j P h) := by
  have hc : 141 ≤ ze_c g n j := by rw [show ze_c g n j = zu_mp c from k1, zu_mp_hi (by omega)]; omega
  show ze_c g n j ≠ 140
  omega
theorem zc_nbb_ok {w : zq_Wd} (x_CM : zj_is w 239 (fun q => zc_CM (q 0) (q 1) (q 2) (q 3))) (x_NB : zj_is w 253 (fun q => zc_NB (q 0) (q 1) (q 2))) : zq_okG1 w zc_nbb := by
  refine ⟨rfl, rfl, zu_fac ⟨rfl, by decide⟩ zq_fan, ?_⟩
  intro r P h H hM
  have q0 : zq_ev r (-73, [(3, 1)]) = r 3 - 73 := zu_e3 _ _ _
  have q1 : zq_ev r (0, [(0, 1)]) = r 0 := zu_e1 _ _
  have q2 : zq_ev r (0, [(1, 1)]) = r 1 := zu_e1 _ _
  have q3 : zq_ev r (0, [(2, 1)]) = r 2 := zu_e1 _ _
  have q4 : zq_ev r (0, [(3, 1)]) = r 3 := zu_e1 _ _
  obtain ⟨hT, hC, hF, hS, -, hK⟩ := hM
  have c := hC.1
  have a1 := zq_all_1 c
  rw [q0] at a1
  have k1 := zj_use x_CM (hK)
  have k1 : zc_CM (zq_ev r (0, [(0, 1)])) (zq_ev r (0, [(1, 1)])) (zq_ev r (0, [(2, 1)])) (zq_ev r (0, [(3, 1)])) P h := k1
  simp only [q1, q2, q3, q4] at k1
  obtain t1 := zc_nbb_l (P := P) (h := h) (g := r 0) (n := r 1) (j := r 2) (c := r 3) a1 k1
  obtain ⟨rq, hr⟩ : ∃ rq : Nat → Int, (∀ i, i < 4 → rq i = r i) := ⟨r, fun i hi => rfl⟩
  have v0 : rq 0 = r 0 := hr 0 (by decide)
  have v1 : rq 1 = r 1 := hr 1 (by decide)
  have v2 : rq 2 = r 2 := hr 2 (by decide)
  have g0 : zq_ev rq (0, [(0, 1)]) = r 0 := zu_f1 v0
  have g1 : zq_ev rq (0, [(1, 1)]) = r 1 := zu_f1 v1
  have g2 : zq_ev rq (0, [(2, 1)]) = r 2 := zu_f1 v2
  exact ⟨_, List.mem_cons_self .., rq, hr, zq_MeS_mk rfl hT (zq_all_nil) zq_fan (zq_fan) rfl (zu_fac ((x_NB _ _ _).mpr (by show zc_NB (zq_ev rq (0, [(0, 1)])) (zq_ev rq (0, [(1, 1)])) (zq_ev rq (0, [(2, 1)])) P h; simp only [g0, g1, g2]; exact t1)) zq_fan)⟩
noncomputable def zc_tc : zq_S × List zq_S := (([], [], [(0, [(4, 1), (5, -1)]), (-1, [(4, 1), (6, -1)]), (0, [(5, 1)]), (0, [(6, 1)])], [], [], [], [(253, [(0, [(1, 1)]), (0, [(2, 1)]), (0, [(10, 1)])]), (243, [(0, [(0, 1)]), (0, [(1, 1)]), (0, [(2, 1)]), (0, [(3, 1)]), (4, []), (0, [(5, 1)]), (0, [(7, 1)]), (0, [(8, 1)]), (0, [(10, 1)]), (0, [(11, 1)])]), (252, [(0, [(1, 1)]), (0, [(2, 1)]), (0, [(11, 1)]), (0, [(13, 1)])]), (243, [(0, [(0, 1)]), (0, [(1, 1)]), (0, [(2, 1)]), (0, [(3, 1)]), (4, []), (0, [(6, 1)]), (0, [(8, 1)]), (0, [(9, 1)]), (1, [(11, 1)]), (0, [(12, 1)])]), (134, [(0, [(3, 1)]), (0, [(9, 1)]), (0, [(13, 1)])])], 14), [([], [], [], [], [], [], [(244, [(0, [(0, 1)]), (0, [(1, 1)]), (0, [(2, 1)]), (0, [(3, 1)]), (5, []), (0, [(4, 1)]), (0, [(7, 1)]), (1, [(9, 1)]), (0, [(10, 1)]), (0, [(12, 1)])])], 14)])
theorem zc_tc_l {P : zq_Ty} {h : zq_H} {o g n Y d e f s t u i j l p : Int} (a1 : 0 ≤ d - e) (a2 : 0 ≤ d - f - 1) (a3 : 0 ≤ e) (a4 : 0 ≤ f) (k1 : zc_NB g n i P h) (k2 : zc_P o g n Y 4 e s t i j P h) (k3 : zc_CS g n j p P h) (k4 : zc_P o g n Y 4 f t u (j + 1) l P h) (k5 : zn_DG Y u p P h) : (zc_T o g n Y 5 d s (u + 1) i l P h) := by
  have k1 : ze_c g n i ≠ 140 := k1
  have hq : (ze_c g n j = 160 ∧ p = 11) ∨ (ze_c g n j = 162 ∧ p = 12) ∨ (ze_c g n j = 161 ∧ p = 13) := by
    rcases (show (p = 11 ∧ ze_c g n j = 160) ∨ (p = 12 ∧ ze_c g n j = 162) ∨ (p = 13 ∧ ze_c g n j = 161) from k3) with ⟨x, y⟩ | ⟨x, y⟩ | ⟨x, y⟩
    · exact Or.inl ⟨y, x⟩
    · exact Or.inr (Or.inl ⟨y, x⟩)
    · exact Or.inr (Or.inr ⟨y, x⟩)
  exact zp_cmp k1 k2 hq k4 (show p = zn_dg Y u from k5).symm (by omega) (by omega)
theorem zc_tc_ok {w : zq_Wd} (x_NB : zj_is w 253 (fun q => zc_NB (q 0) (q 1) (q 2))) (x_P : zj_is w 243 (fun q => zc_P (q 0) (q 1) (q 2) (q 3) (q 4) (q 5) (q 6) (q 7) (q 8) (q 9))) (x_CS : zj_is w 252 (fun q => zc_CS (q 0) (q 1) (q 2) (q 3))) (x_DG : zj_is w 134 (fun q => zn_DG (q 0) (q 1) (q 2))) (x_T : zj_is w 244 (fun q => zc_T (q 0) (q 1) (q 2) (q 3) (q 4) (q 5) (q 6) (q 7) (q 8) (q 9))) : zq_okG1 w zc_tc := by
  refine ⟨rfl, rfl, zu_fac ⟨rfl, by decide⟩ zq_fan, ?_⟩
  intro r P h H hM
  have q0 : zq_ev r (0, [(4, 1), (5, -1)]) = r 4 - r 5 := by simp only [zq_ev, zq_ts] <;> omega
  have q1 : zq_ev r (-1, [(4, 1), (6, -1)]) = r 4 - r 6 - 1 := by simp only [zq_ev, zq_ts] <;> omega
  have q2 : zq_ev r (0, [(5, 1)]) = r 5 := zu_e1 _ _
  have q3 : zq_ev r (0, [(6, 1)]) = r 6 := zu_e1 _ _
  have q4 : zq_ev r (0, [(1, 1)]) = r 1 := zu_e1 _ _
  have q5 : zq_ev r (0, [(2, 1)]) = r 2 := zu_e1 _ _
  have q6 : zq_ev r (0, [(10, 1)]) = r 10 := zu_e1 _ _
  have q7 : zq_ev r (0, [(0, 1)]) = r 0 := zu_e1 _ _
  have q8 : zq_ev r (0, [(3, 1)]) = r 3 := zu_e1 _ _
  have q9 : zq_ev r (4, []) = 4 := zu_e0 _ _
  have q10 : zq_ev r (0, [(7, 1)]) = r 7 := zu_e1 _ _
  have q11 : zq_ev r (0, [(8, 1)]) = r 8 := zu_e1 _ _
  have q12 : zq_ev r (0, [(11, 1)]) = r 11 := zu_e1 _ _
  have q13 : zq_ev r (0, [(13, 1)]) = r 13 := zu_e1 _ _
  have q14 : zq_ev r (0, [(9, 1)]) = r 9 := zu_e1 _ _
  have q15 : zq_ev r (1, [(11, 1)]) = r 11 + 1 := zu_e2 _ _ _
  have q16 : zq_ev r (0, [(12, 1)]) = r 12 := zu_e1 _ _
  obtain ⟨hT, hC, hF, hS, -, hK⟩ := hM
  have c := hC.1
  have a1 := zq_all_1 c
  rw [q0] at a1
  have c := zq_all_t c
  have a2 := zq_all_1 c
  rw [q1] at a2
  have c := zq_all_t c
  have a3 := zq_all_1 c
  rw [q2] at a3
  have c := zq_all_t c
  have a4 := zq_all_1 c
  rw [q3] at a4
  have k1 := zj_use x_NB (hK)
  have k1 : zc_NB (zq_ev r (0, [(1, 1)])) (zq_ev r (0, [(2, 1)])) (zq_ev r (0, [(10, 1)])) P h := k1
  simp only [q4, q5, q6] at k1
  have k2 := zj_use x_P (zq_okX_t (hK))
  have k2 : zc_P (zq_ev r (0, [(0, 1)])) (zq_ev r (0, [(1, 1)])) (zq_ev r (0, [(2, 1)])) (zq_ev r (0, [(3, 1)])) (zq_ev r (4, [])) (zq_ev r (0, [(5, 1)])) (zq_ev r (0, [(7, 1)])) (zq_ev r (0, [(8, 1)])) (zq_ev r (0, [(10, 1)])) (zq_ev r (0, [(11, 1)])) P h := k2
  simp only [q10, q11, q12, q2, q4, q5, q6, q7, q8, q9] at k2
  have k3 := zj_use x_CS (zq_okX_t (zq_okX_t (hK)))
  have k3 : zc_CS (zq_ev r (0, [(1, 1)])) (zq_ev r (0, [(2, 1)])) (zq_ev r (0, [(11, 1)])) (zq_ev r (0, [(13, 1)])) P h := k3
  simp only [q12, q13, q4, q5] at k3
  have k4 := zj_use x_P (zq_okX_t (zq_okX_t (zq_okX_t (hK))))
  have k4 : zc_P (zq_ev r (0, [(0, 1)])) (zq_ev r (0, [(1, 1)])) (zq_ev r (0, [(2, 1)])) (zq_ev r (0, [(3, 1)])) (zq_ev r (4, [])) (zq_ev r (0, [(6, 1)])) (zq_ev r (0, [(8, 1)])) (zq_ev r (0, [(9, 1)])) (zq_ev r (1, [(11, 1)])) (zq_ev r (0, [(12, 1)])) P h := k4
  simp only [q11, q14, q15, q16, q3, q4, q5, q7, q8, q9] at k4
  have k5 := zj_use x_DG (zq_okX_t (zq_okX_t (zq_okX_t (zq_okX_t (hK)))))
  have k5 : zn_DG (zq_ev r (0, [(3, 1)])) (zq_ev r (0, [(9, 1)])) (zq_ev r (0, [(13, 1)])) P h := k5
  simp only [q13, q14, q8] at k5
  obtain t1 := zc_tc_l (P := P) (h := h) (o := r 0) (g := r 1) (n := r 2) (Y := r 3) (d := r 4) (e := r 5) (f := r 6) (s := r 7) (t := r 8) (u := r 9) (i := r 10) (j := r 11) (l := r 12) (p := r 13) a1 a2 a3 a4 k1 k2 k3 k4 k5
  obtain ⟨rq, hr⟩ : ∃ rq : Nat → Int, (∀ i, i < 14 → rq i = r i) := ⟨r, fun i hi => rfl⟩
  have v0 : rq 0 = r 0 := hr 0 (by decide)
  have v1 : rq 1 = r 1 := hr 1 (by decide)
  have v2 : rq 2 = r 2 := hr 2 (by decide)
  have v3 : rq 3 = r 3 := hr 3 (by decide)
  have v4 : rq 4 = r 4 := hr 4 (by decide)
  have v7 : rq 7 = r 7 := hr 7 (by decide)
  have v9 : rq 9 = r 9 := hr 9 (by decide)
  have v10 : rq 10 = r 10 := hr 10 (by decide)
  have v12 : rq 12 = r 12 := hr 12 (by decide)
  have g0 : zq_ev rq (0, [(0, 1)]) = r 0 := zu_f1 v0
  have g1 : zq_ev rq (0, [(1, 1)]) = r 1 := zu_f1 v1
  have g2 : zq_ev rq (0, [(2, 1)]) = r 2 := zu_f1 v2
  have g3 : zq_ev rq (0, [(3, 1)]) = r 3 := zu_f1 v3
  have g4 : zq_ev rq (5, []) = 5 := zu_e0 _ _
  have g5 : zq_ev rq (0, [(4, 1)]) = r 4 := zu_f1 v4
  have g6 : zq_ev rq (0, [(7, 1)]) = r 7 := zu_f1 v7
  have g7 : zq_ev rq (1, [(9, 1)]) = r 9 + 1 := zu_f2 v9 _
  have g8 : zq_ev rq (0, [(10, 1)]) = r 10 := zu_f1 v10
  have g9 : zq_ev rq (0, [(12, 1)]) = r 12 := zu_f1 v12
  exact ⟨_, List.mem_cons_self .., rq, hr, zq_MeS_mk rfl hT (zq_all_nil) zq_fan (zq_fan) rfl (zu_fac ((x_T _ _ _).mpr (by show zc_T (zq_ev rq (0, [(0, 1)])) (zq_ev rq (0, [(1, 1)])) (zq_ev rq (0, [(2, 1)])) (zq_ev rq (0, [(3, 1)])) (zq_ev rq (5, [])) (zq_ev rq (0, [(4, 1)])) (zq_ev rq (0, [(7, 1)])) (zq_ev rq (1, [(9, 1)])) (zq_ev rq (0, [(10, 1)])) (zq_ev rq (0, [(12, 1)])) P h; simp only [g0, g1, g2, g3, g4, g5, g6, g7, g8, g9]; exact t1)) zq_fan)⟩
noncomputable def zc_tp : zq_S × List zq_S := (([], [], [], [], [], [], [(239, [(0, [(1, 1)]), (0, [(2, 1)]), (0, [(7, 1)]), (72, [])]), (244, [(0, [(0, 1)]), (0, [(1, 1)]), (0, [(2, 1)]), (0, [(3, 1)]), (10, []), (0, [(4, 1)]), (0, [(5, 1)]), (0, [(6, 1)]), (1, [(7, 1)]), (0, [(8, 1)])])], 9), [([], [], [], [], [], [], [(244, [(0, [(0, 1)]), (0, [(1, 1)]), (0, [(2, 1)]), (0, [(3, 1)]), (5, []), (0, [(4, 1)]), (0, [(5, 1)]), (0, [(6, 1)]), (0, [(7, 1)]), (1, [(8, 1)])])], 9)])
theorem zc_tp_l {P : zq_Ty} {h : zq_H} {o g n Y d s t i j : Int} (k1 : zc_CM g n i 72 P h) (k2 : zc_T o g n Y 10 d s t (i + 1) j P h) : (zc_T o g n Y 5 d s t i (j + 1) P h) := by
  exact zp_par (zc_mp_c (by decide) k1 rfl) k2
theorem zc_tp_ok {w : zq_Wd} (x_CM : zj_is w 239 (fun q => zc_CM (q 0) (q 1) (q 2) (q 3))) (x_T : zj_is w 244 (fun q => zc_T (q 0) (q 1) (q 2) (q 3) (q 4) (q 5) (q 6) (q 7) (q 8) (q 9))) : zq_okG1 w zc_tp := by
  refine ⟨rfl, rfl, zu_fac ⟨rfl, by decide⟩ zq_fan, ?_⟩
  intro r P h H hM
  have q0 : zq_ev r (0, [(1, 1)]) = r 1 := zu_e1 _ _
  have q1 : zq_ev r (0, [(2, 1)]) = r 2 := zu_e1 _ _
  have q2 : zq_ev r (0, [(7, 1)]) = r 7 := zu_e1 _ _
  have q3 : zq_ev r (72, []) = 72 := zu_e0 _ _
  have q4 : zq_ev r (0, [(0, 1)]) = r 0 := zu_e1 _ _
  have q5 : zq_ev r (0, [(3, 1)]) = r 3 := zu_e1 _ _
  have q6 : zq_ev r (10, []) = 10 := zu_e0 _ _
  have q7 : zq_ev r (0, [(4, 1)]) = r 4 := zu_e1 _ _
  have q8 : zq_ev r (0, [(5, 1)]) = r 5 := zu_e1 _ _
  have q9 : zq_ev r (0, [(6, 1)]) = r 6 := zu_e1 _ _
  have q10 : zq_ev r (1, [(7, 1)]) = r 7 + 1 := zu_e2 _ _ _
  have q11 : zq_ev r (0, [(8, 1)]) = r 8 := zu_e1 _ _
  obtain ⟨hT, hC, hF, hS, -, hK⟩ := hM
  have c := hC.1
  have k1 := zj_use x_CM (hK)
  have k1 : zc_CM (zq_ev r (0, [(1, 1)])) (zq_ev r (0, [(2, 1)])) (zq_ev r (0, [(7, 1)])) (zq_ev r (72, [])) P h := k1
  simp only [q0, q1, q2, q3] at k1
  have k2 := zj_use x_T (zq_okX_t (hK))
  have k2 : zc_T (zq_ev r (0, [(0, 1)])) (zq_ev r (0, [(1, 1)])) (zq_ev r (0, [(2, 1)])) (zq_ev r (0, [(3, 1)])) (zq_ev r (10, [])) (zq_ev r (0, [(4, 1)])) (zq_ev r (0, [(5, 1)])) (zq_ev r (0, [(6, 1)])) (zq_ev r (1, [(7, 1)])) (zq_ev r (0, [(8, 1)])) P h := k2
  simp only [q0, q1, q10, q11, q4, q5, q6, q7, q8, q9] at k2
  obtain t1 := zc_tp_l (P := P) (h := h) (o := r 0) (g := r 1) (n := r 2) (Y := r 3) (d := r 4) (s := r 5) (t := r 6) (i := r 7) (j := r 8) k1 k2
  obtain ⟨rq, hr⟩ : ∃ rq : Nat → Int, (∀ i, i < 9 → rq i = r i) := ⟨r, fun i hi => rfl⟩
  have v0 : rq 0 = r 0 := hr 0 (by decide)
  have v1 : rq 1 = r 1 := hr 1 (by decide)
  have v2 : rq 2 = r 2 := hr 2 (by decide)
  have v3 : rq 3 = r 3 := hr 3 (by decide)
  have v4 : rq 4 = r 4 := hr 4 (by decide)
  have v5 : rq 5 = r 5 := hr 5 (by decide)
  have v6 : rq 6 = r 6 := hr 6 (by decide)
  have v7 : rq 7 = r 7 := hr 7 (by decide)
  have v8 : rq 8 = r 8 := hr 8 (by decide)
  have g0 : zq_ev rq (0, [(0, 1)]) = r 0 := zu_f1 v0
  have g1 : zq_ev rq (0, [(1, 1)]) = r 1 := zu_f1 v1
  have g2 : zq_ev rq (0, [(2, 1)]) = r 2 := zu_f1 v2
  have g3 : zq_ev rq (0, [(3, 1)]) = r 3 := zu_f1 v3
  have g4 : zq_ev rq (5, []) = 5 := zu_e0 _ _
  have g5 : zq_ev rq (0, [(4, 1)]) = r 4 := zu_f1 v4
  have g6 : zq_ev rq (0, [(5, 1)]) = r 5 := zu_f1 v5
  have g7 : zq_ev rq (0, [(6, 1)]) = r 6 := zu_f1 v6
  have g8 : zq_ev rq (0, [(7, 1)]) = r 7 := zu_f1 v7
  have g9 : zq_ev rq (1, [(8, 1)]) = r 8 + 1 := zu_f2 v8 _
  exact ⟨_, List.mem_cons_self .., rq, hr, zq_MeS_mk rfl hT (zq_all_nil) zq_fan (zq_fan) rfl (zu_fac ((x_T _ _ _).mpr (by show zc_T (zq_ev rq (0, [(0, 1)])) (zq_ev rq (0, [(1, 1)])) (zq_ev rq (0, [(2, 1)])) (zq_ev rq (0, [(3, 1)])) (zq_ev rq (5, [])) (zq_ev rq (0, [(4, 1)])) (zq_ev rq (0, [(5, 1)])) (zq_ev rq (0, [(6, 1)])) (zq_ev rq (0, [(7, 1)])) (zq_ev rq (1, [(8, 1)])) P h; simp only [g0, g1, g2, g3, g4, g5, g6, g7, g8, g9]; exact t1)) zq_fan)⟩
noncomputable def zc_n0 : zq_S × List zq_S := (([], [], [], [], [], [], [], 4), [([], [], [], [], [], [], [(249, [(0, [(0, 1)]), (0, [(1, 1)]), (0, [(2, 1)]), (0, [(3, 1)]), (0, [(3, 1)]), (0, [])])], 4)])
theorem zc_n0_l {P : zq_Ty} {h : zq_H} {o g n i : Int}  : (zc_N o g n i i 0 P h) := by
  exact zp_N_0
theorem zc_n0_ok {w : zq_Wd} (x_N : zj_is w 249 (fun q => zc_N (q 0) (q 1) (q 2) (q 3) (q 4) (q 5))) : zq_okG1 w zc_n0 := by
  refine ⟨rfl, rfl, zu_fac ⟨rfl, by decide⟩ zq_fan, ?_⟩
  intro r P h H hM
  obtain ⟨hT, hC, hF, hS, -, hK⟩ := hM
  have c := hC.1
  obtain t1 := zc_n0_l (P := P) (h := h) (o := r 0) (g := r 1) (n := r 2) (i := r 3) 
  obtain ⟨rq, hr⟩ : ∃ rq : Nat → Int, (∀ i, i < 4 → rq i = r i) := ⟨r, fun i hi => rfl⟩
  have v0 : rq 0 = r 0 := hr 0 (by decide)
  have v1 : rq 1 = r 1 := hr 1 (by decide)
  have v2 : rq 2 = r 2 := hr 2 (by decide)
  have v3 : rq 3 = r 3 := hr 3 (by decide)
  have g0 : zq_ev rq (0, [(0, 1)]) = r 0 := zu_f1 v0
  have g1 : zq_ev rq (0, [(1, 1)]) = r 1 := zu_f1 v1
  have g2 : zq_ev rq (0, [(2, 1)]) = r 2 := zu_f1 v2
  have g3 : zq_ev rq (0, [(3, 1)]) = r 3 := zu_f1 v3
  have g4 : zq_ev rq (0, []) = 0 := zu_e0 _ _
  exact ⟨_, List.mem_cons_self .., rq, hr, zq_MeS_mk rfl hT (zq_all_nil) zq_fan (zq_fan) rfl (zu_fac ((x_N _ _ _).mpr (by show zc_N (zq_ev rq (0, [(0, 1)])) (zq_ev rq (0, [(1, 1)])) (zq_ev rq (0, [(2, 1)])) (zq_ev rq (0, [(3, 1)])) (zq_ev rq (0, [(3, 1)])) (zq_ev rq (0, [])) P h; simp only [g0, g1, g2, g3, g4]; exact t1)) zq_fan)⟩
noncomputable def zc_n1 : zq_S × List zq_S := (([], [], [], [], [], [], [(249, [(0, [(0, 1)]), (0, [(1, 1)]), (0, [(2, 1)]), (0, [(3, 1)]), (0, [(4, 1)]), (0, [(5, 1)])]), (239, [(0, [(1, 1)]), (0, [(2, 1)]), (0, [(4, 1)]), (28, [])])], 6), [([], [], [], [], [], [], [(249, [(0, [(0, 1)]), (0, [(1, 1)]), (0, [(2, 1)]), (0, [(3, 1)]), (1, [(4, 1)]), (1, [(5, -1)])])], 6)])
theorem zc_n1_l {P : zq_Ty} {h : zq_H} {o g n i j a : Int} (k1 : zc_N o g n i j a P h) (k2 : zc_CM g n j 28 P h) : (zc_N o g n i (j + 1) (-a + 1) P h) := by
  have e := zp_N_1 k1 (zc_mp_c (by decide) k2 rfl)
  rw [show 1 - a = -a + 1 by omega] at e
  exact e
theorem zc_n1_ok {w : zq_Wd} (x_N : zj_is w 249 (fun q => zc_N (q 0) (q 1) (q 2) (q 3) (q 4) (q 5))) (x_CM : zj_is w 239 (fun q => zc_CM (q 0) (q 1) (q 2) (q 3))) : zq_okG1 w zc_n1 := by
  refine ⟨rfl, rfl, zu_fac ⟨rfl, by decide⟩ zq_fan, ?_⟩
  intro r P h H hM
  have q0 : zq_ev r (0, [(0, 1)]) = r 0 := zu_e1 _ _
  have q1 : zq_ev r (0, [(1, 1)]) = r 1 := zu_e1 _ _
  have q2 : zq_ev r (0, [(2, 1)]) = r 2 := zu_e1 _ _
  have q3 : zq_ev r (0, [(3, 1)]) = r 3 := zu_e1 _ _
  have q4 : zq_ev r (0, [(4, 1)]) = r 4 := zu_e1 _ _
  have q5 : zq_ev r (0, [(5, 1)]) = r 5 := zu_e1 _ _
  have q6 : zq_ev r (28, []) = 28 := zu_e0 _ _
  obtain ⟨hT, hC, hF, hS, -, hK⟩ := hM
  have c := hC.1
  have k1 := zj_use x_N (hK)
  have k1 : zc_N (zq_ev r (0, [(0, 1)])) (zq_ev r (0, [(1, 1)])) (zq_ev r (0, [(2, 1)])) (zq_ev r (0, [(3, 1)])) (zq_ev r (0, [(4, 1)])) (zq_ev r (0, [(5, 1)])) P h := k1
  simp only [q0, q1, q2, q3, q4, q5] at k1
  have k2 := zj_use x_CM (zq_okX_t (hK))
  have k2 : zc_CM (zq_ev r (0, [(1, 1)])) (zq_ev r (0, [(2, 1)])) (zq_ev r (0, [(4, 1)])) (zq_ev r (28, [])) P h := k2
  simp only [q1, q2, q4, q6] at k2
  obtain t1 := zc_n1_l (P := P) (h := h) (o := r 0) (g := r 1) (n := r 2) (i := r 3) (j := r 4) (a := r 5) k1 k2
  obtain ⟨rq, hr⟩ : ∃ rq : Nat → Int, (∀ i, i < 6 → rq i = r i) := ⟨r, fun i hi => rfl⟩
  have v0 : rq 0 = r 0 := hr 0 (by decide)
  have v1 : rq 1 = r 1 := hr 1 (by decide)
  have v2 : rq 2 = r 2 := hr 2 (by decide)
  have v3 : rq 3 = r 3 := hr 3 (by decide)
  have v4 : rq 4 = r 4 := hr 4 (by decide)
  have v5 : rq 5 = r 5 := hr 5 (by decide)
  have g0 : zq_ev rq (0, [(0, 1)]) = r 0 := zu_f1 v0
  have g1 : zq_ev rq (0, [(1, 1)]) = r 1 := zu_f1 v1
  have g2 : zq_ev rq (0, [(2, 1)]) = r 2 := zu_f1 v2
  have g3 : zq_ev rq (0, [(3, 1)]) = r 3 := zu_f1 v3
  have g4 : zq_ev rq (1, [(4, 1)]) = r 4 + 1 := zu_f2 v4 _
  have g5 : zq_ev rq (1, [(5, -1)]) = -r 5 + 1 := zu_f5 v5 _
  exact ⟨_, List.mem_cons_self .., rq, hr, zq_MeS_mk rfl hT (zq_all_nil) zq_fan (zq_fan) rfl (zu_fac ((x_N _ _ _).mpr (by show zc_N (zq_ev rq (0, [(0, 1)])) (zq_ev rq (0, [(1, 1)])) (zq_ev rq (0, [(2, 1)])) (zq_ev rq (0, [(3, 1)])) (zq_ev rq (1, [(4, 1)])) (zq_ev rq (1, [(5, -1)])) P h; simp only [g0, g1, g2, g3, g4, g5]; exact t1)) zq_fan)⟩
noncomputable def zc_nal : zq_S × List zq_S := (([], [], [(0, [(3, 1)]), (27, [(3, -1)])], [], [], [], [(239, [(0, [(0, 1)]), (0, [(1, 1)]), (0, [(2, 1)]), (0, [(3, 1)])])], 4), [([], [], [], [], [], [], [(254, [(0, [(0, 1)]), (0, [(1, 1)]), (0, [(2, 1)])])], 4)])
theorem zc_nal_l {P : zq_Ty} {h : zq_H} {g n j c : Int} (a1 : 0 ≤ c) (a2 : 0 ≤ -c + 27) (k1 : zc_CM g n j c P h) : (zc_NA g n j P h) := by
  have hc : ze_c g n j ≠ 7 := by
    rw [show ze_c g n j = zu_mp c from k1]
    exact zc_mp_ne 28 7 (by decide +kernel) (by omega) (by omega)
  exact hc
theorem zc_nal_ok {w : zq_Wd} (x_CM : zj_is w 239 (fun q => zc_CM (q 0) (q 1) (q 2) (q 3))) (x_NA : zj_is w 254 (fun q => zc_NA (q 0) (q 1) (q 2))) : zq_okG1 w zc_nal := by
  refine ⟨rfl, rfl, zu_fac ⟨rfl, by decide⟩ zq_fan, ?_⟩
  intro r P h H hM
  have q0 : zq_ev r (0, [(3, 1)]) = r 3 := zu_e1 _ _
  have q1 : zq_ev r (27, [(3, -1)]) = -r 3 + 27 := zu_e5 _ _ _
  have q2 : zq_ev r (0, [(0, 1)]) = r 0 := zu_e1 _ _
  have q3 : zq_ev r (0, [(1, 1)]) = r 1 := zu_e1 _ _
  have q4 : zq_ev r (0, [(2, 1)]) = r 2 := zu_e1 _ _
  obtain ⟨hT, hC, hF, hS, -, hK⟩ := hM
  have c := hC.1
  have a1 := zq_all_1 c
  rw [q0] at a1
  have c := zq_all_t c
  have a2 := zq_all_1 c
  rw [q1] at a2
  have k1 := zj_use x_CM (hK)
  have k1 : zc_CM (zq_ev r (0, [(0, 1)])) (zq_ev r (0, [(1, 1)])) (zq_ev r (0, [(2, 1)])) (zq_ev r (0, [(3, 1)])) P h := k1
  simp only [q0, q2, q3, q4] at k1
  obtain t1 := zc_nal_l (P := P) (h := h) (g := r 0) (n := r 1) (j := r 2) (c := r 3) a1 a2 k1
  obtain ⟨rq, hr⟩ : ∃ rq : Nat → Int, (∀ i, i < 4 → rq i = r i) := ⟨r, fun i hi => rfl⟩
  have v0 : rq 0 = r 0 := hr 0 (by decide)
  have v1 : rq 1 = r 1 := hr 1 (by decide)
  have v2 : rq 2 = r 2 := hr 2 (by decide)
  have g0 : zq_ev rq (0, [(0, 1)]) = r 0 := zu_f1 v0
  have g1 : zq_ev rq (0, [(1, 1)]) = r 1 := zu_f1 v1
  have g2 : zq_ev rq (0, [(2, 1)]) = r 2 := zu_f1 v2
  exact ⟨_, List.mem_cons_self .., rq, hr, zq_MeS_mk rfl hT (zq_all_nil) zq_fan (zq_fan) rfl (zu_fac ((x_NA _ _ _).mpr (by show zc_NA (zq_ev rq (0, [(0, 1)])) (zq_ev rq (0, [(1, 1)])) (zq_ev rq (0, [(2, 1)])) P h; simp only [g0, g1, g2]; exact t1)) zq_fan)⟩
noncomputable def zc_dpl : zq_S × List zq_S := (([], [], [(0, [(9, 1)]), (26, [(9, -1)])], [], [], [], [(247, [(0, [(0, 1)]), (0, [(1, 1)]), (0, [(2, 1)]), (0, [(3, 1)]), (0, [(4, 1)]), (0, [(5, 1)]), (0, [(6, 1)]), (0, [(7, 1)]), (0, [(8, 1)])]), (239, [(0, [(1, 1)]), (0, [(2, 1)]), (0, [(8, 1)]), (0, [(9, 1)])])], 10), [([], [], [], [], [], [], [(244, [(0, [(0, 1)]), (0, [(1, 1)]), (0, [(2, 1)]), (0, [(3, 1)]), (8, []), (0, [(4, 1)]), (0, [(5, 1)]), (0, [(6, 1)]), (0, [(7, 1)]), (0, [(8, 1)])])], 10)])
theorem zc_dpl_l {P : zq_Ty} {h : zq_H} {o g n Y d s t i j c : Int} (a1 : 0 ≤ c) (a2 : 0 ≤ -c + 26) (k1 : zc_D o g n Y d s t i j P h) (k2 : zc_CM g n j c P h) : (zc_T o g n Y 8 d s t i j P h) := by
  have hc : ze_c g n j ≠ 6 := by
    rw [show ze_c g n j = zu_mp c from k2]
    exact zc_mp_ne 27 6 (by decide +kernel) (by omega) (by omega)
  exact zp_D_P k1 hc
theorem zc_dpl_ok {w : zq_Wd} (x_D : zj_is w 247 (fun q => zc_D (q 0) (q 1) (q 2) (q 3) (q 4) (q 5) (q 6) (q 7) (q 8))) (x_CM : zj_is w 239 (fun q => zc_CM (q 0) (q 1) (q 2) (q 3))) (x_T : zj_is w 244 (fun q => zc_T (q 0) (q 1) (q 2) (q 3) (q 4) (q 5) (q 6) (q 7) (q 8) (q 9))) : zq_okG1 w zc_dpl := by
  refine ⟨rfl, rfl, zu_fac ⟨rfl, by decide⟩ zq_fan, ?_⟩
  intro r P h H hM
  have q0 : zq_ev r (0, [(9, 1)]) = r 9 := zu_e1 _ _
  have q1 : zq_ev r (26, [(9, -1)]) = -r 9 + 26 := zu_e5 _ _ _
  have q2 : zq_ev r (0, [(0, 1)]) = r 0 := zu_e1 _ _
  have q3 : zq_ev r (0, [(1, 1)]) = r 1 := zu_e1 _ _
  have q4 : zq_ev r (0, [(2, 1)]) = r 2 := zu_e1 _ _
  have q5 : zq_ev r (0, [(3, 1)]) = r 3 := zu_e1 _ _
  have q6 : zq_ev r (0, [(4, 1)]) = r 4 := zu_e1 _ _
  have q7 : zq_ev r (0, [(5, 1)]) = r 5 := zu_e1 _ _
  have q8 : zq_ev r (0, [(6, 1)]) = r 6 := zu_e1 _ _
  have q9 : zq_ev r (0, [(7, 1)]) = r 7 := zu_e1 _ _
  have q10 : zq_ev r (0, [(8, 1)]) = r 8 := zu_e1 _ _
  obtain ⟨hT, hC, hF, hS, -, hK⟩ := hM
  have c := hC.1
  have a1 := zq_all_1 c
  rw [q0] at a1
  have c := zq_all_t c
  have a2 := zq_all_1 c
  rw [q1] at a2
  have k1 := zj_use x_D (hK)
  have k1 : zc_D (zq_ev r (0, [(0, 1)])) (zq_ev r (0, [(1, 1)])) (zq_ev r (0, [(2, 1)])) (zq_ev r (0, [(3, 1)])) (zq_ev r (0, [(4, 1)])) (zq_ev r (0, [(5, 1)])) (zq_ev r (0, [(6, 1)])) (zq_ev r (0, [(7, 1)])) (zq_ev r (0, [(8, 1)])) P h := k1
  simp only [q10, q2, q3, q4, q5, q6, q7, q8, q9] at k1
  have k2 := zj_use x_CM (zq_okX_t (hK))
  have k2 : zc_CM (zq_ev r (0, [(1, 1)])) (zq_ev r (0, [(2, 1)])) (zq_ev r (0, [(8, 1)])) (zq_ev r (0, [(9, 1)])) P h := k2
  simp only [q0, q10, q3, q4] at k2
  obtain t1 := zc_dpl_l (P := P) (h := h) (o := r 0) (g := r 1) (n := r 2) (Y := r 3) (d := r 4) (s := r 5) (t := r 6) (i := r 7) (j := r 8) (c := r 9) a1 a2 k1 k2
  obtain ⟨rq, hr⟩ : ∃ rq : Nat → Int, (∀ i, i < 10 → rq i = r i) := ⟨r, fun i hi => rfl⟩
  have v0 : rq 0 = r 0 := hr 0 (by decide)
  have v1 : rq 1 = r 1 := hr 1 (by decide)
  have v2 : rq 2 = r 2 := hr 2 (by decide)
  have v3 : rq 3 = r 3 := hr 3 (by decide)
  have v4 : rq 4 = r 4 := hr 4 (by decide)
  have v5 : rq 5 = r 5 := hr 5 (by decide)
  have v6 : rq 6 = r 6 := hr 6 (by decide)
  have v7 : rq 7 = r 7 := hr 7 (by decide)
  have v8 : rq 8 = r 8 := hr 8 (by decide)
  have g0 : zq_ev rq (0, [(0, 1)]) = r 0 := zu_f1 v0
  have g1 : zq_ev rq (0, [(1, 1)]) = r 1 := zu_f1 v1
  have g2 : zq_ev rq (0, [(2, 1)]) = r 2 := zu_f1 v2
  have g3 : zq_ev rq (0, [(3, 1)]) = r 3 := zu_f1 v3
  have g4 : zq_ev rq (8, []) = 8 := zu_e0 _ _
  have g5 : zq_ev rq (0, [(4, 1)]) = r 4 := zu_f1 v4
  have g6 : zq_ev rq (0, [(5, 1)]) = r 5 := zu_f1 v5
  have g7 : zq_ev rq (0, [(6, 1)]) = r 6 := zu_f1 v6
  have g8 : zq_ev rq (0, [(7, 1)]) = r 7 := zu_f1 v7
  have g9 : zq_ev rq (0, [(8, 1)]) = r 8 := zu_f1 v8
  exact ⟨_, List.mem_cons_self .., rq, hr, zq_MeS_mk rfl hT (zq_all_nil) zq_fan (zq_fan) rfl (zu_fac ((x_T _ _ _).mpr (by show zc_T (zq_ev rq (0, [(0, 1)])) (zq_ev rq (0, [(1, 1)])) (zq_ev rq (0, [(2, 1)])) (zq_ev rq (0, [(3, 1)])) (zq_ev rq (8, [])) (zq_ev rq (0, [(4, 1)])) (zq_ev rq (0, [(5, 1)])) (zq_ev rq (0, [(6, 1)])) (zq_ev rq (0, [(7, 1)])) (zq_ev rq (0, [(8, 1)])) P h; simp only [g0, g1, g2, g3, g4, g5, g6, g7, g8, g9]; exact t1)) zq_fan)⟩
noncomputable def zc_opl : zq_S × List zq_S := (([], [], [(0, [(9, 1)]), (25, [(9, -1)])], [], [], [], [(248, [(0, [(0, 1)]), (0, [(1, 1)]), (0, [(2, 1)]), (0, [(3, 1)]), (0, [(4, 1)]), (0, [(5, 1)]), (0, [(6, 1)]), (0, [(7, 1)]), (0, [(8, 1)])]), (239, [(0, [(1, 1)]), (0, [(2, 1)]), (0, [(8, 1)]), (0, [(9, 1)])])], 10), [([], [], [], [], [], [], [(244, [(0, [(0, 1)]), (0, [(1, 1)]), (0, [(2, 1)]), (0, [(3, 1)]), (10, []), (0, [(4, 1)]), (0, [(5, 1)]), (0, [(6, 1)]), (0, [(7, 1)]), (0, [(8, 1)])])], 10)])
theorem zc_opl_l {P : zq_Ty} {h : zq_H} {o g n Y d s t i j c : Int} (a1 : 0 ≤ c) (a2 : 0 ≤ -c + 25) (k1 : zc_O o g n Y d s t i j P h) (k2 : zc_CM g n j c P h) : (zc_T o g n Y 10 d s t i j P h) := by
  have hc : ze_c g n j ≠ 5 := by
    rw [show ze_c g n j = zu_mp c from k2]
    exact zc_mp_ne 26 5 (by decide +kernel) (by omega) (by omega)
  exact zp_O_P k1 hc
theorem zc_opl_ok {w : zq_Wd} (x_O : zj_is w 248 (fun q => zc_O (q 0) (q 1) (q 2) (q 3) (q 4) (q 5) (q 6) (q 7) (q 8))) (x_CM : zj_is w 239 (fun q => zc_CM (q 0) (q 1) (q 2) (q 3))) (x_T : zj_is w 244 (fun q => zc_T (q 0) (q 1) (q 2) (q 3) (q 4) (q 5) (q 6) (q 7) (q 8) (q 9))) : zq_okG1 w zc_opl := by
  refine ⟨rfl, rfl, zu_fac ⟨rfl, by decide⟩ zq_fan, ?_⟩
  intro r P h H hM
  have q0 : zq_ev r (0, [(9, 1)]) = r 9 := zu_e1 _ _
  have q1 : zq_ev r (25, [(9, -1)]) = -r 9 + 25 := zu_e5 _ _ _
  have q2 : zq_ev r (0, [(0, 1)]) = r 0 := zu_e1 _ _
  have q3 : zq_ev r (0, [(1, 1)]) = r 1 := zu_e1 _ _
  have q4 : zq_ev r (0, [(2, 1)]) = r 2 := zu_e1 _ _
  have q5 : zq_ev r (0, [(3, 1)]) = r 3 := zu_e1 _ _
  have q6 : zq_ev r (0, [(4, 1)]) = r 4 := zu_e1 _ _
  have q7 : zq_ev r (0, [(5, 1)]) = r 5 := zu_e1 _ _
  have q8 : zq_ev r (0, [(6, 1)]) = r 6 := zu_e1 _ _
  have q9 : zq_ev r (0, [(7, 1)]) = r 7 := zu_e1 _ _
  have q10 : zq_ev r (0, [(8, 1)]) = r 8 := zu_e1 _ _
  obtain ⟨hT, hC, hF, hS, -, hK⟩ := hM
  have c := hC.1
  have a1 := zq_all_1 c
  rw [q0] at a1
  have c := zq_all_t c
  have a2 := zq_all_1 c
  rw [q1] at a2
  have k1 := zj_use x_O (hK)
  have k1 : zc_O (zq_ev r (0, [(0, 1)])) (zq_ev r (0, [(1, 1)])) (zq_ev r (0, [(2, 1)])) (zq_ev r (0, [(3, 1)])) (zq_ev r (0, [(4, 1)])) (zq_ev r (0, [(5, 1)])) (zq_ev r (0, [(6, 1)])) (zq_ev r (0, [(7, 1)])) (zq_ev r (0, [(8, 1)])) P h := k1
  simp only [q10, q2, q3, q4, q5, q6, q7, q8, q9] at k1
  have k2 := zj_use x_CM (zq_okX_t (hK))
  have k2 : zc_CM (zq_ev r (0, [(1, 1)])) (zq_ev r (0, [(2, 1)])) (zq_ev r (0, [(8, 1)])) (zq_ev r (0, [(9, 1)])) P h := k2
  simp only [q0, q10, q3, q4] at k2
  obtain t1 := zc_opl_l (P := P) (h := h) (o := r 0) (g := r 1) (n := r 2) (Y := r 3) (d := r 4) (s := r 5) (t := r 6) (i := r 7) (j := r 8) (c := r 9) a1 a2 k1 k2
  obtain ⟨rq, hr⟩ : ∃ rq : Nat → Int, (∀ i, i < 10 → rq i = r i) := ⟨r, fun i hi => rfl⟩
  have v0 : rq 0 = r 0 := hr 0 (by decide)
  have v1 : rq 1 = r 1 := hr 1 (by decide)
  have v2 : rq 2 = r 2 := hr 2 (by decide)
  have v3 : rq 3 = r 3 := hr 3 (by decide)
  have v4 : rq 4 = r 4 := hr 4 (by decide)
  have v5 : rq 5 = r 5 := hr 5 (by decide)
  have v6 : rq 6 = r 6 := hr 6 (by decide)
  have v7 : rq 7 = r 7 := hr 7 (by decide)
  have v8 : rq 8 = r 8 := hr 8 (by decide)
  have g0 : zq_ev rq (0, [(0, 1)]) = r 0 := zu_f1 v0
  have g1 : zq_ev rq (0, [(1, 1)]) = r 1 := zu_f1 v1
  have g2 : zq_ev rq (0, [(2, 1)]) = r 2 := zu_f1 v2
  have g3 : zq_ev rq (0, [(3, 1)]) = r 3 := zu_f1 v3
  have g4 : zq_ev rq (10, []) = 10 := zu_e0 _ _
  have g5 : zq_ev rq (0, [(4, 1)]) = r 4 := zu_f1 v4
  have g6 : zq_ev rq (0, [(5, 1)]) = r 5 := zu_f1 v5
  have g7 : zq_ev rq (0, [(6, 1)]) = r 6 := zu_f1 v6
  have g8 : zq_ev rq (0, [(7, 1)]) = r 7 := zu_f1 v7
  have g9 : zq_ev rq (0, [(8, 1)]) = r 8 := zu_f1 v8
  exact ⟨_, List.mem_cons_self .., rq, hr, zq_MeS_mk rfl hT (zq_all_nil) zq_fan (zq_fan) rfl (zu_fac ((x_T _ _ _).mpr (by show zc_T (zq_ev rq (0, [(0, 1)])) (zq_ev rq (0, [(1, 1)])) (zq_ev rq (0, [(2, 1)])) (zq_ev rq (0, [(3, 1)])) (zq_ev rq (10, [])) (zq_ev rq (0, [(4, 1)])) (zq_ev rq (0, [(5, 1)])) (zq_ev rq (0, [(6, 1)])) (zq_ev rq (0, [(7, 1)])) (zq_ev rq (0, [(8, 1)])) P h; simp only [g0, g1, g2, g3, g4, g5, g6, g7, g8, g9]; exact t1)) zq_fan)⟩
noncomputable def zc_nag : zq_S × List zq_S := (([], [], [(-29, [(3, 1)]), (10000, [(3, -1)])], [], [], [], [(239, [(0, [(0, 1)]), (0, [(1, 1)]), (0, [(2, 1)]), (0, [(3, 1)])])], 4), [([], [], [], [], [], [], [(254, [(0, [(0, 1)]), (0, [(1, 1)]), (0, [(2, 1)])])], 4)])
theorem zc_nag_l {P : zq_Ty} {h : zq_H} {g n j c : Int} (a1 : 0 ≤ c - 29) (a2 : 0 ≤ -c + 10000) (k1 : zc_CM g n j c P h) : (zc_NA g n j P h) := by
  have hc : ze_c g n j ≠ 7 := by
    rw [show ze_c g n j = zu_mp c from k1]
    exact zc_mp_ne 28 7 (by decide +kernel) (by omega) (by omega)
  exact hc
theorem zc_nag_ok {w : zq_Wd} (x_CM : zj_is w 239 (fun q => zc_CM (q 0) (q 1) (q 2) (q 3))) (x_NA : zj_is w 254 (fun q => zc_NA (q 0) (q 1) (q 2))) : zq_okG1 w zc_nag := by
  refine ⟨rfl, rfl, zu_fac ⟨rfl, by decide⟩ zq_fan, ?_⟩
  intro r P h H hM
  have q0 : zq_ev r (-29, [(3, 1)]) = r 3 - 29 := zu_e3 _ _ _
  have q1 : zq_ev r (10000, [(3, -1)]) = -r 3 + 10000 := zu_e5 _ _ _
  have q2 : zq_ev r (0, [(0, 1)]) = r 0 := zu_e1 _ _
  have q3 : zq_ev r (0, [(1, 1)]) = r 1 := zu_e1 _ _
  have q4 : zq_ev r (0, [(2, 1)]) = r 2 := zu_e1 _ _
  have q5 : zq_ev r (0, [(3, 1)]) = r 3 := zu_e1 _ _
  obtain ⟨hT, hC, hF, hS, -, hK⟩ := hM
  have c := hC.1
  have a1 := zq_all_1 c
  rw [q0] at a1
  have c := zq_all_t c
  have a2 := zq_all_1 c
  rw [q1] at a2
  have k1 := zj_use x_CM (hK)
  have k1 : zc_CM (zq_ev r (0, [(0, 1)])) (zq_ev r (0, [(1, 1)])) (zq_ev r (0, [(2, 1)])) (zq_ev r (0, [(3, 1)])) P h := k1
  simp only [q2, q3, q4, q5] at k1
  obtain t1 := zc_nag_l (P := P) (h := h) (g := r 0) (n := r 1) (j := r 2) (c := r 3) a1 a2 k1
  obtain ⟨rq, hr⟩ : ∃ rq : Nat → Int, (∀ i, i < 4 → rq i = r i) := ⟨r, fun i hi => rfl⟩
  have v0 : rq 0 = r 0 := hr 0 (by decide)
  have v1 : rq 1 = r 1 := hr 1 (by decide)
  have v2 : rq 2 = r 2 := hr 2 (by decide)
  have g0 : zq_ev rq (0, [(0, 1)]) = r 0 := zu_f1 v0
  have g1 : zq_ev rq (0, [(1, 1)]) = r 1 := zu_f1 v1
  have g2 : zq_ev rq (0, [(2, 1)]) = r 2 := zu_f1 v2
  exact ⟨_, List.mem_cons_self .., rq, hr, zq_MeS_mk rfl hT (zq_all_nil) zq_fan (zq_fan) rfl (zu_fac ((x_NA _ _ _).mpr (by show zc_NA (zq_ev rq (0, [(0, 1)])) (zq_ev rq (0, [(1, 1)])) (zq_ev rq (0, [(2, 1)])) P h; simp only [g0, g1, g2]; exact t1)) zq_fan)⟩
noncomputable def zc_dpg : zq_S × List zq_S := (([], [], [(-28, [(9, 1)]), (10000, [(9, -1)])], [], [], [], [(247, [(0, [(0, 1)]), (0, [(1, 1)]), (0, [(2, 1)]), (0, [(3, 1)]), (0, [(4, 1)]), (0, [(5, 1)]), (0, [(6, 1)]), (0, [(7, 1)]), (0, [(8, 1)])]), (239, [(0, [(1, 1)]), (0, [(2, 1)]), (0, [(8, 1)]), (0, [(9, 1)])])], 10), [([], [], [], [], [], [], [(244, [(0, [(0, 1)]), (0, [(1, 1)]), (0, [(2, 1)]), (0, [(3, 1)]), (8, []), (0, [(4, 1)]), (0, [(5, 1)]), (0, [(6, 1)]), (0, [(7, 1)]), (0, [(8, 1)])])], 10)])
theorem zc_dpg_l {P : zq_Ty} {h : zq_H} {o g n Y d s t i j c : Int} (a1 : 0 ≤ c - 28) (a2 : 0 ≤ -c + 10000) (k1 : zc_D o g n Y d s t i j P h) (k2 : zc_CM g n j c P h) : (zc_T o g n Y 8 d s t i j P h) := by
  have hc : ze_c g n j ≠ 6 := by
    rw [show ze_c g n j = zu_mp c from k2]
    exact zc_mp_ne 27 6 (by decide +kernel) (by omega) (by omega)
  exact zp_D_P k1 hc
theorem zc_dpg_ok {w : zq_Wd} (x_D : zj_is w 247 (fun q => zc_D (q 0) (q 1) (q 2) (q 3) (q 4) (q 5) (q 6) (q 7) (q 8))) (x_CM : zj_is w 239 (fun q => zc_CM (q 0) (q 1) (q 2) (q 3))) (x_T : zj_is w 244 (fun q => zc_T (q 0) (q 1) (q 2) (q 3) (q 4) (q 5) (q 6) (q 7) (q 8) (q 9))) : zq_okG1 w zc_dpg := by
  refine ⟨rfl, rfl, zu_fac ⟨rfl, by decide⟩ zq_fan, ?_⟩
  intro r P h H hM
  have q0 : zq_ev r (-28, [(9, 1)]) = r 9 - 28 := zu_e3 _ _ _
  have q1 : zq_ev r (10000, [(9, -1)]) = -r 9 + 10000 := zu_e5 _ _ _
  have q2 : zq_ev r (0, [(0, 1)]) = r 0 := zu_e1 _ _
  have q3 : zq_ev r (0, [(1, 1)]) = r 1 := zu_e1 _ _
  have q4 : zq_ev r (0, [(2, 1)]) = r 2 := zu_e1 _ _
  have q5 : zq_ev r (0, [(3, 1)]) = r 3 := zu_e1 _ _
  have q6 : zq_ev r (0, [(4, 1)]) = r 4 := zu_e1 _ _
  have q7 : zq_ev r (0, [(5, 1)]) = r 5 := zu_e1 _ _
  have q8 : zq_ev r (0, [(6, 1)]) = r 6 := zu_e1 _ _
  have q9 : zq_ev r (0, [(7, 1)]) = r 7 := zu_e1 _ _
  have q10 : zq_ev r (0, [(8, 1)]) = r 8 := zu_e1 _ _
  have q11 : zq_ev r (0, [(9, 1)]) = r 9 := zu_e1 _ _
  obtain ⟨hT, hC, hF, hS, -, hK⟩ := hM
  have c := hC.1
  have a1 := zq_all_1 c
  rw [q0] at a1
  have c := zq_all_t c
  have a2 := zq_all_1 c
  rw [q1] at a2
  have k1 := zj_use x_D (hK)
  have k1 : zc_D (zq_ev r (0, [(0, 1)])) (zq_ev r (0, [(1, 1)])) (zq_ev r (0, [(2, 1)])) (zq_ev r (0, [(3, 1)])) (zq_ev r (0, [(4, 1)])) (zq_ev r (0, [(5, 1)])) (zq_ev r (0, [(6, 1)])) (zq_ev r (0, [(7, 1)])) (zq_ev r (0, [(8, 1)])) P h := k1
  simp only [q10, q2, q3, q4, q5, q6, q7, q8, q9] at k1
  have k2 := zj_use x_CM (zq_okX_t (hK))
  have k2 : zc_CM (zq_ev r (0, [(1, 1)])) (zq_ev r (0, [(2, 1)])) (zq_ev r (0, [(8, 1)])) (zq_ev r (0, [(9, 1)])) P h := k2
  simp only [q10, q11, q3, q4] at k2
  obtain t1 := zc_dpg_l (P := P) (h := h) (o := r 0) (g := r 1) (n := r 2) (Y := r 3) (d := r 4) (s := r 5) (t := r 6) (i := r 7) (j := r 8) (c := r 9) a1 a2 k1 k2
  obtain ⟨rq, hr⟩ : ∃ rq : Nat → Int, (∀ i, i < 10 → rq i = r i) := ⟨r, fun i hi => rfl⟩
  have v0 : rq 0 = r 0 := hr 0 (by decide)
  have v1 : rq 1 = r 1 := hr 1 (by decide)
  have v2 : rq 2 = r 2 := hr 2 (by decide)
  have v3 : rq 3 = r 3 := hr 3 (by decide)
  have v4 : rq 4 = r 4 := hr 4 (by decide)
  have v5 : rq 5 = r 5 := hr 5 (by decide)
  have v6 : rq 6 = r 6 := hr 6 (by decide)
  have v7 : rq 7 = r 7 := hr 7 (by decide)
  have v8 : rq 8 = r 8 := hr 8 (by decide)
  have g0 : zq_ev rq (0, [(0, 1)]) = r 0 := zu_f1 v0
  have g1 : zq_ev rq (0, [(1, 1)]) = r 1 := zu_f1 v1
  have g2 : zq_ev rq (0, [(2, 1)]) = r 2 := zu_f1 v2
  have g3 : zq_ev rq (0, [(3, 1)]) = r 3 := zu_f1 v3
  have g4 : zq_ev rq (8, []) = 8 := zu_e0 _ _
  have g5 : zq_ev rq (0, [(4, 1)]) = r 4 := zu_f1 v4
  have g6 : zq_ev rq (0, [(5, 1)]) = r 5 := zu_f1 v5
  have g7 : zq_ev rq (0, [(6, 1)]) = r 6 := zu_f1 v6
  have g8 : zq_ev rq (0, [(7, 1)]) = r 7 := zu_f1 v7
  have g9 : zq_ev rq (0, [(8, 1)]) = r 8 := zu_f1 v8
  exact ⟨_, List.mem_cons_self .., rq, hr, zq_MeS_mk rfl hT (zq_all_nil) zq_fan (zq_fan) rfl (zu_fac ((x_T _ _ _).mpr (by show zc_T (zq_ev rq (0, [(0, 1)])) (zq_ev rq (0, [(1, 1)])) (zq_ev rq (0, [(2, 1)])) (zq_ev rq (0, [(3, 1)])) (zq_ev rq (8, [])) (zq_ev rq (0, [(4, 1)])) (zq_ev rq (0, [(5, 1)])) (zq_ev rq (0, [(6, 1)])) (zq_ev rq (0, [(7, 1)])) (zq_ev rq (0, [(8, 1)])) P h; simp only [g0, g1, g2, g3, g4, g5, g6, g7, g8, g9]; exact t1)) zq_fan)⟩
noncomputable def zc_opg : zq_S × List zq_S := (([], [], [(-27, [(9, 1)]), (10000, [(9, -1)])], [], [], [], [(248, [(0, [(0, 1)]), (0, [(1, 1)]), (0, [(2, 1)]), (0, [(3, 1)]), (0, [(4, 1)]), (0, [(5, 1)]), (0, [(6, 1)]), (0, [(7, 1)]), (0, [(8, 1)])]), (239, [(0, [(1, 1)]), (0, [(2, 1)]), (0, [(8, 1)]), (0, [(9, 1)])])], 10), [([], [], [], [], [], [], [(244, [(0, [(0, 1)]), (0, [(1, 1)]), (0, [(2, 1)]), (0, [(3, 1)]), (10, []), (0, [(4, 1)]), (0, [(5, 1)]), (0, [(6, 1)]), (0, [(7, 1)]), (0, [(8, 1)])])], 10)])
theorem zc_opg_l {P : zq_Ty} {h : zq_H} {o g n Y d s t i j c : Int} (a1 : 0 ≤ c - 27) (a2 : 0 ≤ -c + 10000) (k1 : zc_O o g n Y d s t i j P h) (k2 : zc_CM g n j c P h) : (zc_T o g n Y 10 d s t i j P h) := by
  have hc : ze_c g n j ≠ 5 := by
    rw [show ze_c g n j = zu_mp c from k2]
    exact zc_mp_ne 26 5 (by decide +kernel) (by omega) (by omega)
  exact zp_O_P k1 hc
theorem zc_opg_ok {w : zq_Wd} (x_O : zj_is w 248 (fun q => zc_O (q 0) (q 1) (q 2) (q 3) (q 4) (q 5) (q 6) (q 7) (q 8))) (x_CM : zj_is w 239 (fun q => zc_CM (q 0) (q 1) (q 2) (q 3))) (x_T : zj_is w 244 (fun q => zc_T (q 0) (q 1) (q 2) (q 3) (q 4) (q 5) (q 6) (q 7) (q 8) (q 9))) : zq_okG1 w zc_opg := by
  refine ⟨rfl, rfl, zu_fac ⟨rfl, by decide⟩ zq_fan, ?_⟩
  intro r P h H hM
  have q0 : zq_ev r (-27, [(9, 1)]) = r 9 - 27 := zu_e3 _ _ _
  have q1 : zq_ev r (10000, [(9, -1)]) = -r 9 + 10000 := zu_e5 _ _ _
  have q2 : zq_ev r (0, [(0, 1)]) = r 0 := zu_e1 _ _
  have q3 : zq_ev r (0, [(1, 1)]) = r 1 := zu_e1 _ _
  have q4 : zq_ev r (0, [(2, 1)]) = r 2 := zu_e1 _ _
  have q5 : zq_ev r (0, [(3, 1)]) = r 3 := zu_e1 _ _
  have q6 : zq_ev r (0, [(4, 1)]) = r 4 := zu_e1 _ _
  have q7 : zq_ev r (0, [(5, 1)]) = r 5 := zu_e1 _ _
  have q8 : zq_ev r (0, [(6, 1)]) = r 6 := zu_e1 _ _
  have q9 : zq_ev r (0, [(7, 1)]) = r 7 := zu_e1 _ _
  have q10 : zq_ev r (0, [(8, 1)]) = r 8 := zu_e1 _ _
  have q11 : zq_ev r (0, [(9, 1)]) = r 9 := zu_e1 _ _
  obtain ⟨hT, hC, hF, hS, -, hK⟩ := hM
  have c := hC.1
  have a1 := zq_all_1 c
  rw [q0] at a1
  have c := zq_all_t c
  have a2 := zq_all_1 c
  rw [q1] at a2
  have k1 := zj_use x_O (hK)
  have k1 : zc_O (zq_ev r (0, [(0, 1)])) (zq_ev r (0, [(1, 1)])) (zq_ev r (0, [(2, 1)])) (zq_ev r (0, [(3, 1)])) (zq_ev r (0, [(4, 1)])) (zq_ev r (0, [(5, 1)])) (zq_ev r (0, [(6, 1)])) (zq_ev r (0, [(7, 1)])) (zq_ev r (0, [(8, 1)])) P h := k1
  simp only [q10, q2, q3, q4, q5, q6, q7, q8, q9] at k1
  have k2 := zj_use x_CM (zq_okX_t (hK))
  have k2 : zc_CM (zq_ev r (0, [(1, 1)])) (zq_ev r (0, [(2, 1)])) (zq_ev r (0, [(8, 1)])) (zq_ev r (0, [(9, 1)])) P h := k2
  simp only [q10, q11, q3, q4] at k2
  obtain t1 := zc_opg_l (P := P) (h := h) (o := r 0) (g := r 1) (n := r 2) (Y := r 3) (d := r 4) (s := r 5) (t := r 6) (i := r 7) (j := r 8) (c := r 9) a1 a2 k1 k2
  obtain ⟨rq, hr⟩ : ∃ rq : Nat → Int, (∀ i, i < 10 → rq i = r i) := ⟨r, fun i hi => rfl⟩
  have v0 : rq 0 = r 0 := hr 0 (by decide)
  have v1 : rq 1 = r 1 := hr 1 (by decide)
  have v2 : rq 2 = r 2 := hr 2 (by decide)
  have v3 : rq 3 = r 3 := hr 3 (by decide)
  have v4 : rq 4 = r 4 := hr 4 (by decide)
  have v5 : rq 5 = r 5 := hr 5 (by decide)
  have v6 : rq 6 = r 6 := hr 6 (by decide)
  have v7 : rq 7 = r 7 := hr 7 (by decide)
  have v8 : rq 8 = r 8 := hr 8 (by decide)
  have g0 : zq_ev rq (0, [(0, 1)]) = r 0 := zu_f1 v0
  have g1 : zq_ev rq (0, [(1, 1)]) = r 1 := zu_f1 v1
  have g2 : zq_ev rq (0, [(2, 1)]) = r 2 := zu_f1 v2
  have g3 : zq_ev rq (0, [(3, 1)]) = r 3 := zu_f1 v3
  have g4 : zq_ev rq (10, []) = 10 := zu_e0 _ _
  have g5 : zq_ev rq (0, [(4, 1)]) = r 4 := zu_f1 v4
  have g6 : zq_ev rq (0, [(5, 1)]) = r 5 := zu_f1 v5
  have g7 : zq_ev rq (0, [(6, 1)]) = r 6 := zu_f1 v6
  have g8 : zq_ev rq (0, [(7, 1)]) = r 7 := zu_f1 v7
  have g9 : zq_ev rq (0, [(8, 1)]) = r 8 := zu_f1 v8
  exact ⟨_, List.mem_cons_self .., rq, hr, zq_MeS_mk rfl hT (zq_all_nil) zq_fan (zq_fan) rfl (zu_fac ((x_T _ _ _).mpr (by show zc_T (zq_ev rq (0, [(0, 1)])) (zq_ev rq (0, [(1, 1)])) (zq_ev rq (0, [(2, 1)])) (zq_ev rq (0, [(3, 1)])) (zq_ev rq (10, [])) (zq_ev rq (0, [(4, 1)])) (zq_ev rq (0, [(5, 1)])) (zq_ev rq (0, [(6, 1)])) (zq_ev rq (0, [(7, 1)])) (zq_ev rq (0, [(8, 1)])) P h; simp only [g0, g1, g2, g3, g4, g5, g6, g7, g8, g9]; exact t1)) zq_fan)⟩
noncomputable def zc_t60 : zq_S × List zq_S := (([], [], [], [], [], [], [(249, [(0, [(0, 1)]), (0, [(1, 1)]), (0, [(2, 1)]), (0, [(7, 1)]), (0, [(8, 1)]), (0, [])]), (254, [(0, [(1, 1)]), (0, [(2, 1)]), (0, [(8, 1)])]), (244, [(0, [(0, 1)]), (0, [(1, 1)]), (0, [(2, 1)]), (0, [(3, 1)]), (5, []), (0, [(4, 1)]), (0, [(5, 1)]), (0, [(6, 1)]), (0, [(8, 1)]), (0, [(9, 1)])])], 10), [([], [], [], [], [], [], [(244, [(0, [(0, 1)]), (0, [(1, 1)]), (0, [(2, 1)]), (0, [(3, 1)]), (6, []), (0, [(4, 1)]), (0, [(5, 1)]), (0, [(6, 1)]), (0, [(7, 1)]), (0, [(9, 1)])])], 10)])
theorem zc_t60_l {P : zq_Ty} {h : zq_H} {o g n Y d s t i j l : Int} (k1 : zc_N o g n i j 0 P h) (k2 : zc_NA g n j P h) (k3 : zc_T o g n Y 5 d s t j l P h) : (zc_T o g n Y 6 d s t i l P h) := by
  exact zp_pl k1 k2 k3 rfl
theorem zc_t60_ok {w : zq_Wd} (x_N : zj_is w 249 (fun q => zc_N (q 0) (q 1) (q 2) (q 3) (q 4) (q 5))) (x_NA : zj_is w 254 (fun q => zc_NA (q 0) (q 1) (q 2))) (x_T : zj_is w 244 (fun q => zc_T (q 0) (q 1) (q 2) (q 3) (q 4) (q 5) (q 6) (q 7) (q 8) (q 9))) : zq_okG1 w zc_t60 := by
  refine ⟨rfl, rfl, zu_fac ⟨rfl, by decide⟩ zq_fan, ?_⟩
  intro r P h H hM
  have q0 : zq_ev r (0, [(0, 1)]) = r 0 := zu_e1 _ _
  have q1 : zq_ev r (0, [(1, 1)]) = r 1 := zu_e1 _ _
  have q2 : zq_ev r (0, [(2, 1)]) = r 2 := zu_e1 _ _
  have q3 : zq_ev r (0, [(7, 1)]) = r 7 := zu_e1 _ _
  have q4 : zq_ev r (0, [(8, 1)]) = r 8 := zu_e1 _ _
  have q5 : zq_ev r (0, []) = 0 := zu_e0 _ _
  have q6 : zq_ev r (0, [(3, 1)]) = r 3 := zu_e1 _ _
  have q7 : zq_ev r (5, []) = 5 := zu_e0 _ _
  have q8 : zq_ev r (0, [(4, 1)]) = r 4 := zu_e1 _ _
  have q9 : zq_ev r (0, [(5, 1)]) = r 5 := zu_e1 _ _
  have q10 : zq_ev r (0, [(6, 1)]) = r 6 := zu_e1 _ _
  have q11 : zq_ev r (0, [(9, 1)]) = r 9 := zu_e1 _ _
  obtain ⟨hT, hC, hF, hS, -, hK⟩ := hM
  have c := hC.1
  have k1 := zj_use x_N (hK)
  have k1 : zc_N (zq_ev r (0, [(0, 1)])) (zq_ev r (0, [(1, 1)])) (zq_ev r (0, [(2, 1)])) (zq_ev r (0, [(7, 1)])) (zq_ev r (0, [(8, 1)])) (zq_ev r (0, [])) P h := k1
  simp only [q0, q1, q2, q3, q4, q5] at k1
  have k2 := zj_use x_NA (zq_okX_t (hK))
  have k2 : zc_NA (zq_ev r (0, [(1, 1)])) (zq_ev r (0, [(2, 1)])) (zq_ev r (0, [(8, 1)])) P h := k2
  simp only [q1, q2, q4] at k2
  have k3 := zj_use x_T (zq_okX_t (zq_okX_t (hK)))
  have k3 : zc_T (zq_ev r (0, [(0, 1)])) (zq_ev r (0, [(1, 1)])) (zq_ev r (0, [(2, 1)])) (zq_ev r (0, [(3, 1)])) (zq_ev r (5, [])) (zq_ev r (0, [(4, 1)])) (zq_ev r (0, [(5, 1)])) (zq_ev r (0, [(6, 1)])) (zq_ev r (0, [(8, 1)])) (zq_ev r (0, [(9, 1)])) P h := k3
  simp only [q0, q1, q10, q11, q2, q4, q6, q7, q8, q9] at k3
  obtain t1 := zc_t60_l (P := P) (h := h) (o := r 0) (g := r 1) (n := r 2) (Y := r 3) (d := r 4) (s := r 5) (t := r 6) (i := r 7) (j := r 8) (l := r 9) k1 k2 k3
  obtain ⟨rq, hr⟩ : ∃ rq : Nat → Int, (∀ i, i < 10 → rq i = r i) := ⟨r, fun i hi => rfl⟩
  have v0 : rq 0 = r 0 := hr 0 (by decide)
  have v1 : rq 1 = r 1 := hr 1 (by decide)
  have v2 : rq 2 = r 2 := hr 2 (by decide)
  have v3 : rq 3 = r 3 := hr 3 (by decide)
  have v4 : rq 4 = r 4 := hr 4 (by decide)
  have v5 : rq 5 = r 5 := hr 5 (by decide)
  have v6 : rq 6 = r 6 := hr 6 (by decide)
  have v7 : rq 7 = r 7 := hr 7 (by decide)
  have v9 : rq 9 = r 9 := hr 9 (by decide)
  have g0 : zq_ev rq (0, [(0, 1)]) = r 0 := zu_f1 v0
  have g1 : zq_ev rq (0, [(1, 1)]) = r 1 := zu_f1 v1
  have g2 : zq_ev rq (0, [(2, 1)]) = r 2 := zu_f1 v2
  have g3 : zq_ev rq (0, [(3, 1)]) = r 3 := zu_f1 v3
  have g4 : zq_ev rq (6, []) = 6 := zu_e0 _ _
  have g5 : zq_ev rq (0, [(4, 1)]) = r 4 := zu_f1 v4
  have g6 : zq_ev rq (0, [(5, 1)]) = r 5 := zu_f1 v5
  have g7 : zq_ev rq (0, [(6, 1)]) = r 6 := zu_f1 v6
  have g8 : zq_ev rq (0, [(7, 1)]) = r 7 := zu_f1 v7
  have g9 : zq_ev rq (0, [(9, 1)]) = r 9 := zu_f1 v9
  exact ⟨_, List.mem_cons_self .., rq, hr, zq_MeS_mk rfl hT (zq_all_nil) zq_fan (zq_fan) rfl (zu_fac ((x_T _ _ _).mpr (by show zc_T (zq_ev rq (0, [(0, 1)])) (zq_ev rq (0, [(1, 1)])) (zq_ev rq (0, [(2, 1)])) (zq_ev rq (0, [(3, 1)])) (zq_ev rq (6, [])) (zq_ev rq (0, [(4, 1)])) (zq_ev rq (0, [(5, 1)])) (zq_ev rq (0, [(6, 1)])) (zq_ev rq (0, [(7, 1)])) (zq_ev rq (0, [(9, 1)])) P h; simp only [g0, g1, g2, g3, g4, g5, g6, g7, g8, g9]; exact t1)) zq_fan)⟩
noncomputable def zc_t61 : zq_S × List zq_S := (([], [], [], [], [], [], [(249, [(0, [(0, 1)]), (0, [(1, 1)]), (0, [(2, 1)]), (0, [(7, 1)]), (0, [(8, 1)]), (1, [])]), (254, [(0, [(1, 1)]), (0, [(2, 1)]), (0, [(8, 1)])]), (244, [(0, [(0, 1)]), (0, [(1, 1)]), (0, [(2, 1)]), (0, [(3, 1)]), (5, []), (0, [(4, 1)]), (0, [(5, 1)]), (0, [(6, 1)]), (0, [(8, 1)]), (0, [(9, 1)])]), (134, [(0, [(3, 1)]), (0, [(6, 1)]), (3, [])])], 10), [([], [], [], [], [], [], [(244, [(0, [(0, 1)]), (0, [(1, 1)]), (0, [(2, 1)]), (0, [(3, 1)]), (6, []), (0, [(4, 1)]), (0, [(5, 1)]), (1, [(6, 1)]), (0, [(7, 1)]), (0, [(9, 1)])])], 10)])
theorem zc_t61_l {P : zq_Ty} {h : zq_H} {o g n Y d s t i j l : Int} (k1 : zc_N o g n i j 1 P h) (k2 : zc_NA g n j P h) (k3 : zc_T o g n Y 5 d s t j l P h) (k4 : zn_DG Y t 3 P h) : (zc_T o g n Y 6 d s (t + 1) i l P h) := by
  exact zp_plt k1 k2 k3 rfl (show (3 : Int) = zn_dg Y t from k4).symm
theorem zc_t61_ok {w : zq_Wd} (x_N : zj_is w 249 (fun q => zc_N (q 0) (q 1) (q 2) (q 3) (q 4) (q 5))) (x_NA : zj_is w 254 (fun q => zc_NA (q 0) (q 1) (q 2))) (x_T : zj_is w 244 (fun q => zc_T (q 0) (q 1) (q 2) (q 3) (q 4) (q 5) (q 6) (q 7) (q 8) (q 9))) (x_DG : zj_is w 134 (fun q => zn_DG (q 0) (q 1) (q 2))) : zq_okG1 w zc_t61 := by
  refine ⟨rfl, rfl, zu_fac ⟨rfl, by decide⟩ zq_fan, ?_⟩
  intro r P h H hM
  have q0 : zq_ev r (0, [(0, 1)]) = r 0 := zu_e1 _ _
  have q1 : zq_ev r (0, [(1, 1)]) = r 1 := zu_e1 _ _
  have q2 : zq_ev r (0, [(2, 1)]) = r 2 := zu_e1 _ _
  have q3 : zq_ev r (0, [(7, 1)]) = r 7 := zu_e1 _ _
  have q4 : zq_ev r (0, [(8, 1)]) = r 8 := zu_e1 _ _
  have q5 : zq_ev r (1, []) = 1 := zu_e0 _ _
  have q6 : zq_ev r (0, [(3, 1)]) = r 3 := zu_e1 _ _
  have q7 : zq_ev r (5, []) = 5 := zu_e0 _ _
  have q8 : zq_ev r (0, [(4, 1)]) = r 4 := zu_e1 _ _
  have q9 : zq_ev r (0, [(5, 1)]) = r 5 := zu_e1 _ _
  have q10 : zq_ev r (0, [(6, 1)]) = r 6 := zu_e1 _ _
  have q11 : zq_ev r (0, [(9, 1)]) = r 9 := zu_e1 _ _
  have q12 : zq_ev r (3, []) = 3 := zu_e0 _ _
  obtain ⟨hT, hC, hF, hS, -, hK⟩ := hM
  have c := hC.1
  have k1 := zj_use x_N (hK)
  have k1 : zc_N (zq_ev r (0, [(0, 1)])) (zq_ev r (0, [(1, 1)])) (zq_ev r (0, [(2, 1)])) (zq_ev r (0, [(7, 1)])) (zq_ev r (0, [(8, 1)])) (zq_ev r (1, [])) P h := k1
  simp only [q0, q1, q2, q3, q4, q5] at k1
  have k2 := zj_use x_NA (zq_okX_t (hK))
  have k2 : zc_NA (zq_ev r (0, [(1, 1)])) (zq_ev r (0, [(2, 1)])) (zq_ev r (0, [(8, 1)])) P h := k2
  simp only [q1, q2, q4] at k2
  have k3 := zj_use x_T (zq_okX_t (zq_okX_t (hK)))
  have k3 : zc_T (zq_ev r (0, [(0, 1)])) (zq_ev r (0, [(1, 1)])) (zq_ev r (0, [(2, 1)])) (zq_ev r (0, [(3, 1)])) (zq_ev r (5, [])) (zq_ev r (0, [(4, 1)])) (zq_ev r (0, [(5, 1)])) (zq_ev r (0, [(6, 1)])) (zq_ev r (0, [(8, 1)])) (zq_ev r (0, [(9, 1)])) P h := k3
  simp only [q0, q1, q10, q11, q2, q4, q6, q7, q8, q9] at k3
  have k4 := zj_use x_DG (zq_okX_t (zq_okX_t (zq_okX_t (hK))))
  have k4 : zn_DG (zq_ev r (0, [(3, 1)])) (zq_ev r (0, [(6, 1)])) (zq_ev r (3, [])) P h := k4
  simp only [q10, q12, q6] at k4
  obtain t1 := zc_t61_l (P := P) (h := h) (o := r 0) (g := r 1) (n := r 2) (Y := r 3) (d := r 4) (s := r 5) (t := r 6) (i := r 7) (j := r 8) (l := r 9) k1 k2 k3 k4
  obtain ⟨rq, hr⟩ : ∃ rq : Nat → Int, (∀ i, i < 10 → rq i = r i) := ⟨r, fun i hi => rfl⟩
  have v0 : rq 0 = r 0 := hr 0 (by decide)
  have v1 : rq 1 = r 1 := hr 1 (by decide)
  have v2 : rq 2 = r 2 := hr 2 (by decide)
  have v3 : rq 3 = r 3 := hr 3 (by decide)
  have v4 : rq 4 = r 4 := hr 4 (by decide)
  have v5 : rq 5 = r 5 := hr 5 (by decide)
  have v6 : rq 6 = r 6 := hr 6 (by decide)
  have v7 : rq 7 = r 7 := hr 7 (by decide)
  have v9 : rq 9 = r 9 := hr 9 (by decide)
  have g0 : zq_ev rq (0, [(0, 1)]) = r 0 := zu_f1 v0
  have g1 : zq_ev rq (0, [(1, 1)]) = r 1 := zu_f1 v1
  have g2 : zq_ev rq (0, [(2, 1)]) = r 2 := zu_f1 v2
  have g3 : zq_ev rq (0, [(3, 1)]) = r 3 := zu_f1 v3
  have g4 : zq_ev rq (6, []) = 6 := zu_e0 _ _
  have g5 : zq_ev rq (0, [(4, 1)]) = r 4 := zu_f1 v4
  have g6 : zq_ev rq (0, [(5, 1)]) = r 5 := zu_f1 v5
  have g7 : zq_ev rq (1, [(6, 1)]) = r 6 + 1 := zu_f2 v6 _
  have g8 : zq_ev rq (0, [(7, 1)]) = r 7 := zu_f1 v7
  have g9 : zq_ev rq (0, [(9, 1)]) = r 9 := zu_f1 v9
  exact ⟨_, List.mem_cons_self .., rq, hr, zq_MeS_mk rfl hT (zq_all_nil) zq_fan (zq_fan) rfl (zu_fac ((x_T _ _ _).mpr (by show zc_T (zq_ev rq (0, [(0, 1)])) (zq_ev rq (0, [(1, 1)])) (zq_ev rq (0, [(2, 1)])) (zq_ev rq (0, [(3, 1)])) (zq_ev rq (6, [])) (zq_ev rq (0, [(4, 1)])) (zq_ev rq (0, [(5, 1)])) (zq_ev rq (1, [(6, 1)])) (zq_ev rq (0, [(7, 1)])) (zq_ev rq (0, [(9, 1)])) P h; simp only [g0, g1, g2, g3, g4, g5, g6, g7, g8, g9]; exact t1)) zq_fan)⟩
noncomputable def zc_d1 : zq_S × List zq_S := (([], [], [], [], [], [], [(244, [(0, [(0, 1)]), (0, [(1, 1)]), (0, [(2, 1)]), (0, [(3, 1)]), (6, []), (0, [(4, 1)]), (0, [(5, 1)]), (0, [(6, 1)]), (0, [(7, 1)]), (0, [(8, 1)])])], 9), [([], [], [], [], [], [], [(247, [(0, [(0, 1)]), (0, [(1, 1)]), (0, [(2, 1)]), (0, [(3, 1)]), (0, [(4, 1)]), (0, [(5, 1)]), (0, [(6, 1)]), (0, [(7, 1)]), (0, [(8, 1)])])], 9)])
theorem zc_d1_l {P : zq_Ty} {h : zq_H} {o g n Y d s t i j : Int} (k1 : zc_T o g n Y 6 d s t i j P h) : (zc_D o g n Y d s t i j P h) := by
  exact zp_D_1 k1
theorem zc_d1_ok {w : zq_Wd} (x_T : zj_is w 244 (fun q => zc_T (q 0) (q 1) (q 2) (q 3) (q 4) (q 5) (q 6) (q 7) (q 8) (q 9))) (x_D : zj_is w 247 (fun q => zc_D (q 0) (q 1) (q 2) (q 3) (q 4) (q 5) (q 6) (q 7) (q 8))) : zq_okG1 w zc_d1 := by
  refine ⟨rfl, rfl, zu_fac ⟨rfl, by decide⟩ zq_fan, ?_⟩
  intro r P h H hM
  have q0 : zq_ev r (0, [(0, 1)]) = r 0 := zu_e1 _ _
  have q1 : zq_ev r (0, [(1, 1)]) = r 1 := zu_e1 _ _
  have q2 : zq_ev r (0, [(2, 1)]) = r 2 := zu_e1 _ _
  have q3 : zq_ev r (0, [(3, 1)]) = r 3 := zu_e1 _ _
  have q4 : zq_ev r (6, []) = 6 := zu_e0 _ _
  have q5 : zq_ev r (0, [(4, 1)]) = r 4 := zu_e1 _ _
  have q6 : zq_ev r (0, [(5, 1)]) = r 5 := zu_e1 _ _
  have q7 : zq_ev r (0, [(6, 1)]) = r 6 := zu_e1 _ _
  have q8 : zq_ev r (0, [(7, 1)]) = r 7 := zu_e1 _ _
  have q9 : zq_ev r (0, [(8, 1)]) = r 8 := zu_e1 _ _
  obtain ⟨hT, hC, hF, hS, -, hK⟩ := hM
  have c := hC.1
  have k1 := zj_use x_T (hK)
  have k1 : zc_T (zq_ev r (0, [(0, 1)])) (zq_ev r (0, [(1, 1)])) (zq_ev r (0, [(2, 1)])) (zq_ev r (0, [(3, 1)])) (zq_ev r (6, [])) (zq_ev r (0, [(4, 1)])) (zq_ev r (0, [(5, 1)])) (zq_ev r (0, [(6, 1)])) (zq_ev r (0, [(7, 1)])) (zq_ev r (0, [(8, 1)])) P h := k1
  simp only [q0, q1, q2, q3, q4, q5, q6, q7, q8, q9] at k1
  obtain t1 := zc_d1_l (P := P) (h := h) (o := r 0) (g := r 1) (n := r 2) (Y := r 3) (d := r 4) (s := r 5) (t := r 6) (i := r 7) (j := r 8) k1
  obtain ⟨rq, hr⟩ : ∃ rq : Nat → Int, (∀ i, i < 9 → rq i = r i) := ⟨r, fun i hi => rfl⟩
  have v0 : rq 0 = r 0 := hr 0 (by decide)
  have v1 : rq 1 = r 1 := hr 1 (by decide)
  have v2 : rq 2 = r 2 := hr 2 (by decide)
  have v3 : rq 3 = r 3 := hr 3 (by decide)
  have v4 : rq 4 = r 4 := hr 4 (by decide)
  have v5 : rq 5 = r 5 := hr 5 (by decide)
  have v6 : rq 6 = r 6 := hr 6 (by decide)
  have v7 : rq 7 = r 7 := hr 7 (by decide)
  have v8 : rq 8 = r 8 := hr 8 (by decide)
  have g0 : zq_ev rq (0, [(0, 1)]) = r 0 := zu_f1 v0
  have g1 : zq_ev rq (0, [(1, 1)]) = r 1 := zu_f1 v1
  have g2 : zq_ev rq (0, [(2, 1)]) = r 2 := zu_f1 v2
  have g3 : zq_ev rq (0, [(3, 1)]) = r 3 := zu_f1 v3
  have g4 : zq_ev rq (0, [(4, 1)]) = r 4 := zu_f1 v4
  have g5 : zq_ev rq (0, [(5, 1)]) = r 5 := zu_f1 v5
  have g6 : zq_ev rq (0, [(6, 1)]) = r 6 := zu_f1 v6
  have g7 : zq_ev rq (0, [(7, 1)]) = r 7 := zu_f1 v7
  have g8 : zq_ev rq (0, [(8, 1)]) = r 8 := zu_f1 v8
  exact ⟨_, List.mem_cons_self .., rq, hr, zq_MeS_mk rfl hT (zq_all_nil) zq_fan (zq_fan) rfl (zu_fac ((x_D _ _ _).mpr (by show zc_D (zq_ev rq (0, [(0, 1)])) (zq_ev rq (0, [(1, 1)])) (zq_ev rq (0, [(2, 1)])) (zq_ev rq (0, [(3, 1)])) (zq_ev rq (0, [(4, 1)])) (zq_ev rq (0, [(5, 1)])) (zq_ev rq (0, [(6, 1)])) (zq_ev rq (0, [(7, 1)])) (zq_ev rq (0, [(8, 1)])) P h; simp only [g0, g1, g2, g3, g4, g5, g6, g7, g8]; exact t1)) zq_fan)⟩
noncomputable def zc_o1 : zq_S × List zq_S := (([], [], [], [], [], [], [(244, [(0, [(0, 1)]), (0, [(1, 1)]), (0, [(2, 1)]), (0, [(3, 1)]), (8, []), (0, [(4, 1)]), (0, [(5, 1)]), (0, [(6, 1)]), (0, [(7, 1)]), (0, [(8, 1)])])], 9), [([], [], [], [], [], [], [(248, [(0, [(0, 1)]), (0, [(1, 1)]), (0, [(2, 1)]), (0, [(3, 1)]), (0, [(4, 1)]), (0, [(5, 1)]), (0, [(6, 1)]), (0, [(7, 1)]), (0, [(8, 1)])])], 9)])
theorem zc_o1_l {P : zq_Ty} {h : zq_H} {o g n Y d s t i j : Int} (k1 : zc_T o g n Y 8 d s t i j P h) : (zc_O o g n Y d s t i j P h) := by
  exact zp_O_1 k1
theorem zc_o1_ok {w : zq_Wd} (x_T : zj_is w 244 (fun q => zc_T (q 0) (q 1) (q 2) (q 3) (q 4) (q 5) (q 6) (q 7) (q 8) (q 9))) (x_O : zj_is w 248 (fun q => zc_O (q 0) (q 1) (q 2) (q 3) (q 4) (q 5) (q 6) (q 7) (q 8))) : zq_okG1 w zc_o1 := by
  refine ⟨rfl, rfl, zu_fac ⟨rfl, by decide⟩ zq_fan, ?_⟩
  intro r P h H hM
  have q0 : zq_ev r (0, [(0, 1)]) = r 0 := zu_e1 _ _
  have q1 : zq_ev r (0, [(1, 1)]) = r 1 := zu_e1 _ _
  have q2 : zq_ev r (0, [(2, 1)]) = r 2 := zu_e1 _ _
  have q3 : zq_ev r (0, [(3, 1)]) = r 3 := zu_e1 _ _
  have q4 : zq_ev r (8, []) = 8 := zu_e0 _ _
  have q5 : zq_ev r (0, [(4, 1)]) = r 4 := zu_e1 _ _
  have q6 : zq_ev r (0, [(5, 1)]) = r 5 := zu_e1 _ _
  have q7 : zq_ev r (0, [(6, 1)]) = r 6 := zu_e1 _ _
  have q8 : zq_ev r (0, [(7, 1)]) = r 7 := zu_e1 _ _
  have q9 : zq_ev r (0, [(8, 1)]) = r 8 := zu_e1 _ _
  obtain ⟨hT, hC, hF, hS, -, hK⟩ := hM
  have c := hC.1
  have k1 := zj_use x_T (hK)
  have k1 : zc_T (zq_ev r (0, [(0, 1)])) (zq_ev r (0, [(1, 1)])) (zq_ev r (0, [(2, 1)])) (zq_ev r (0, [(3, 1)])) (zq_ev r (8, [])) (zq_ev r (0, [(4, 1)])) (zq_ev r (0, [(5, 1)])) (zq_ev r (0, [(6, 1)])) (zq_ev r (0, [(7, 1)])) (zq_ev r (0, [(8, 1)])) P h := k1
  simp only [q0, q1, q2, q3, q4, q5, q6, q7, q8, q9] at k1
  obtain t1 := zc_o1_l (P := P) (h := h) (o := r 0) (g := r 1) (n := r 2) (Y := r 3) (d := r 4) (s := r 5) (t := r 6) (i := r 7) (j := r 8) k1
  obtain ⟨rq, hr⟩ : ∃ rq : Nat → Int, (∀ i, i < 9 → rq i = r i) := ⟨r, fun i hi => rfl⟩
  have v0 : rq 0 = r 0 := hr 0 (by decide)
  have v1 : rq 1 = r 1 := hr 1 (by decide)
  have v2 : rq 2 = r 2 := hr 2 (by decide)
  have v3 : rq 3 = r 3 := hr 3 (by decide)
  have v4 : rq 4 = r 4 := hr 4 (by decide)
  have v5 : rq 5 = r 5 := hr 5 (by decide)
  have v6 : rq 6 = r 6 := hr 6 (by decide)
  have v7 : rq 7 = r 7 := hr 7 (by decide)
  have v8 : rq 8 = r 8 := hr 8 (by decide)
  have g0 : zq_ev rq (0, [(0, 1)]) = r 0 := zu_f1 v0
  have g1 : zq_ev rq (0, [(1, 1)]) = r 1 := zu_f1 v1
  have g2 : zq_ev rq (0, [(2, 1)]) = r 2 := zu_f1 v2
  have g3 : zq_ev rq (0, [(3, 1)]) = r 3 := zu_f1 v3
  have g4 : zq_ev rq (0, [(4, 1)]) = r 4 := zu_f1 v4
  have g5 : zq_ev rq (0, [(5, 1)]) = r 5 := zu_f1 v5
  have g6 : zq_ev rq (0, [(6, 1)]) = r 6 := zu_f1 v6
  have g7 : zq_ev rq (0, [(7, 1)]) = r 7 := zu_f1 v7
  have g8 : zq_ev rq (0, [(8, 1)]) = r 8 := zu_f1 v8
  exact ⟨_, List.mem_cons_self .., rq, hr, zq_MeS_mk rfl hT (zq_all_nil) zq_fan (zq_fan) rfl (zu_fac ((x_O _ _ _).mpr (by show zc_O (zq_ev rq (0, [(0, 1)])) (zq_ev rq (0, [(1, 1)])) (zq_ev rq (0, [(2, 1)])) (zq_ev rq (0, [(3, 1)])) (zq_ev rq (0, [(4, 1)])) (zq_ev rq (0, [(5, 1)])) (zq_ev rq (0, [(6, 1)])) (zq_ev rq (0, [(7, 1)])) (zq_ev rq (0, [(8, 1)])) P h; simp only [g0, g1, g2, g3, g4, g5, g6, g7, g8]; exact t1)) zq_fan)⟩
noncomputable def zc_d2 : zq_S × List zq_S := (([], [], [], [], [], [], [(247, [(0, [(0, 1)]), (0, [(1, 1)]), (0, [(2, 1)]), (0, [(3, 1)]), (0, [(4, 1)]), (0, [(5, 1)]), (0, [(6, 1)]), (0, [(8, 1)]), (0, [(9, 1)])]), (239, [(0, [(1, 1)]), (0, [(2, 1)]), (0, [(9, 1)]), (27, [])]), (244, [(0, [(0, 1)]), (0, [(1, 1)]), (0, [(2, 1)]), (0, [(3, 1)]), (6, []), (0, [(4, 1)]), (1, [(6, 1)]), (0, [(7, 1)]), (1, [(9, 1)]), (0, [(10, 1)])]), (134, [(0, [(3, 1)]), (0, [(6, 1)]), (4, [(7, 16)])])], 11), [([], [], [], [], [], [], [(247, [(0, [(0, 1)]), (0, [(1, 1)]), (0, [(2, 1)]), (0, [(3, 1)]), (0, [(4, 1)]), (0, [(5, 1)]), (0, [(7, 1)]), (0, [(8, 1)]), (0, [(10, 1)])])], 11)])
theorem zc_d2_l {P : zq_Ty} {h : zq_H} {o g n Y d s t u i j l : Int} (k1 : zc_D o g n Y d s t i j P h) (k2 : zc_CM g n j 27 P h) (k3 : zc_T o g n Y 6 d (t + 1) u (j + 1) l P h) (k4 : zn_DG Y t (16 * u + 4) P h) : (zc_D o g n Y d s u i l P h) := by
  have k4 : 16 * u + 4 = zn_dg Y t := k4
  exact zp_D_2 k1 (zc_mp_c (by decide) k2 rfl) k3 (by rw [← k4]; omega)
theorem zc_d2_ok {w : zq_Wd} (x_D : zj_is w 247 (fun q => zc_D (q 0) (q 1) (q 2) (q 3) (q 4) (q 5) (q 6) (q 7) (q 8))) (x_CM : zj_is w 239 (fun q => zc_CM (q 0) (q 1) (q 2) (q 3))) (x_T : zj_is w 244 (fun q => zc_T (q 0) (q 1) (q 2) (q 3) (q 4) (q 5) (q 6) (q 7) (q 8) (q 9))) (x_DG : zj_is w 134 (fun q => zn_DG (q 0) (q 1) (q 2))) : zq_okG1 w zc_d2 := by
  refine ⟨rfl, rfl, zu_fac ⟨rfl, by decide⟩ zq_fan, ?_⟩
  intro r P h H hM
  have q0 : zq_ev r (0, [(0, 1)]) = r 0 := zu_e1 _ _
  have q1 : zq_ev r (0, [(1, 1)]) = r 1 := zu_e1 _ _
  have q2 : zq_ev r (0, [(2, 1)]) = r 2 := zu_e1 _ _
  have q3 : zq_ev r (0, [(3, 1)]) = r 3 := zu_e1 _ _
  have q4 : zq_ev r (0, [(4, 1)]) = r 4 := zu_e1 _ _
  have q5 : zq_ev r (0, [(5, 1)]) = r 5 := zu_e1 _ _
  have q6 : zq_ev r (0, [(6, 1)]) = r 6 := zu_e1 _ _
  have q7 : zq_ev r (0, [(8, 1)]) = r 8 := zu_e1 _ _
  have q8 : zq_ev r (0, [(9, 1)]) = r 9 := zu_e1 _ _
  have q9 : zq_ev r (27, []) = 27 := zu_e0 _ _
  have q10 : zq_ev r (6, []) = 6 := zu_e0 _ _
  have q11 : zq_ev r (1, [(6, 1)]) = r 6 + 1 := zu_e2 _ _ _
  have q12 : zq_ev r (0, [(7, 1)]) = r 7 := zu_e1 _ _
  have q13 : zq_ev r (1, [(9, 1)]) = r 9 + 1 := zu_e2 _ _ _
  have q14 : zq_ev r (0, [(10, 1)]) = r 10 := zu_e1 _ _
  have q15 : zq_ev r (4, [(7, 16)]) = 16 * r 7 + 4 := by simp only [zq_ev, zq_ts] <;> omega
  obtain ⟨hT, hC, hF, hS, -, hK⟩ := hM
  have c := hC.1
  have k1 := zj_use x_D (hK)
  have k1 : zc_D (zq_ev r (0, [(0, 1)])) (zq_ev r (0, [(1, 1)])) (zq_ev r (0, [(2, 1)])) (zq_ev r (0, [(3, 1)])) (zq_ev r (0, [(4, 1)])) (zq_ev r (0, [(5, 1)])) (zq_ev r (0, [(6, 1)])) (zq_ev r (0, [(8, 1)])) (zq_ev r (0, [(9, 1)])) P h := k1
  simp only [q0, q1, q2, q3, q4, q5, q6, q7, q8] at k1
  have k2 := zj_use x_CM (zq_okX_t (hK))
  have k2 : zc_CM (zq_ev r (0, [(1, 1)])) (zq_ev r (0, [(2, 1)])) (zq_ev r (0, [(9, 1)])) (zq_ev r (27, [])) P h := k2
  simp only [q1, q2, q8, q9] at k2
  have k3 := zj_use x_T (zq_okX_t (zq_okX_t (hK)))
  have k3 : zc_T (zq_ev r (0, [(0, 1)])) (zq_ev r (0, [(1, 1)])) (zq_ev r (0, [(2, 1)])) (zq_ev r (0, [(3, 1)])) (zq_ev r (6, [])) (zq_ev r (0, [(4, 1)])) (zq_ev r (1, [(6, 1)])) (zq_ev r (0, [(7, 1)])) (zq_ev r (1, [(9, 1)])) (zq_ev r (0, [(10, 1)])) P h := k3
  simp only [q0, q1, q10, q11, q12, q13, q14, q2, q3, q4] at k3
  have k4 := zj_use x_DG (zq_okX_t (zq_okX_t (zq_okX_t (hK))))
  have k4 : zn_DG (zq_ev r (0, [(3, 1)])) (zq_ev r (0, [(6, 1)])) (zq_ev r (4, [(7, 16)])) P h := k4
  simp only [q15, q3, q6] at k4
  obtain t1 := zc_d2_l (P := P) (h := h) (o := r 0) (g := r 1) (n := r 2) (Y := r 3) (d := r 4) (s := r 5) (t := r 6) (u := r 7) (i := r 8) (j := r 9) (l := r 10) k1 k2 k3 k4
  obtain ⟨rq, hr⟩ : ∃ rq : Nat → Int, (∀ i, i < 11 → rq i = r i) := ⟨r, fun i hi => rfl⟩
  have v0 : rq 0 = r 0 := hr 0 (by decide)
  have v1 : rq 1 = r 1 := hr 1 (by decide)
  have v2 : rq 2 = r 2 := hr 2 (by decide)
  have v3 : rq 3 = r 3 := hr 3 (by decide)
  have v4 : rq 4 = r 4 := hr 4 (by decide)
  have v5 : rq 5 = r 5 := hr 5 (by decide)
  have v7 : rq 7 = r 7 := hr 7 (by decide)
  have v8 : rq 8 = r 8 := hr 8 (by decide)
  have v10 : rq 10 = r 10 := hr 10 (by decide)
  have g0 : zq_ev rq (0, [(0, 1)]) = r 0 := zu_f1 v0
  have g1 : zq_ev rq (0, [(1, 1)]) = r 1 := zu_f1 v1
  have g2 : zq_ev rq (0, [(2, 1)]) = r 2 := zu_f1 v2
  have g3 : zq_ev rq (0, [(3, 1)]) = r 3 := zu_f1 v3
  have g4 : zq_ev rq (0, [(4, 1)]) = r 4 := zu_f1 v4
  have g5 : zq_ev rq (0, [(5, 1)]) = r 5 := zu_f1 v5
  have g6 : zq_ev rq (0, [(7, 1)]) = r 7 := zu_f1 v7
  have g7 : zq_ev rq (0, [(8, 1)]) = r 8 := zu_f1 v8
  have g8 : zq_ev rq (0, [(10, 1)]) = r 10 := zu_f1 v10
  exact ⟨_, List.mem_cons_self .., rq, hr, zq_MeS_mk rfl hT (zq_all_nil) zq_fan (zq_fan) rfl (zu_fac ((x_D _ _ _).mpr (by show zc_D (zq_ev rq (0, [(0, 1)])) (zq_ev rq (0, [(1, 1)])) (zq_ev rq (0, [(2, 1)])) (zq_ev rq (0, [(3, 1)])) (zq_ev rq (0, [(4, 1)])) (zq_ev rq (0, [(5, 1)])) (zq_ev rq (0, [(7, 1)])) (zq_ev rq (0, [(8, 1)])) (zq_ev rq (0, [(10, 1)])) P h; simp only [g0, g1, g2, g3, g4, g5, g6, g7, g8]; exact t1)) zq_fan)⟩
noncomputable def zc_o2 : zq_S × List zq_S := (([], [], [], [], [], [], [(248, [(0, [(0, 1)]), (0, [(1, 1)]), (0, [(2, 1)]), (0, [(3, 1)]), (0, [(4, 1)]), (0, [(5, 1)]), (0, [(6, 1)]), (0, [(8, 1)]), (0, [(9, 1)])]), (239, [(0, [(1, 1)]), (0, [(2, 1)]), (0, [(9, 1)]), (26, [])]), (244, [(0, [(0, 1)]), (0, [(1, 1)]), (0, [(2, 1)]), (0, [(3, 1)]), (8, []), (0, [(4, 1)]), (1, [(6, 1)]), (0, [(7, 1)]), (1, [(9, 1)]), (0, [(10, 1)])]), (134, [(0, [(3, 1)]), (0, [(6, 1)]), (5, [(7, 16)])])], 11), [([], [], [], [], [], [], [(248, [(0, [(0, 1)]), (0, [(1, 1)]), (0, [(2, 1)]), (0, [(3, 1)]), (0, [(4, 1)]), (0, [(5, 1)]), (0, [(7, 1)]), (0, [(8, 1)]), (0, [(10, 1)])])], 11)])
theorem zc_o2_l {P : zq_Ty} {h : zq_H} {o g n Y d s t u i j l : Int} (k1 : zc_O o g n Y d s t i j P h) (k2 : zc_CM g n j 26 P h) (k3 : zc_T o g n Y 8 d (t + 1) u (j + 1) l P h) (k4 : zn_DG Y t (16 * u + 5) P h) : (zc_O o g n Y d s u i l P h) := by
  have k4 : 16 * u + 5 = zn_dg Y t := k4
  exact zp_O_2 k1 (zc_mp_c (by decide) k2 rfl) k3 (by rw [← k4]; omega)
theorem zc_o2_ok {w : zq_Wd} (x_O : zj_is w 248 (fun q => zc_O (q 0) (q 1) (q 2) (q 3) (q 4) (q 5) (q 6) (q 7) (q 8))) (x_CM : zj_is w 239 (fun q => zc_CM (q 0) (q 1) (q 2) (q 3))) (x_T : zj_is w 244 (fun q => zc_T (q 0) (q 1) (q 2) (q 3) (q 4) (q 5) (q 6) (q 7) (q 8) (q 9))) (x_DG : zj_is w 134 (fun q => zn_DG (q 0) (q 1) (q 2))) : zq_okG1 w zc_o2 := by
  refine ⟨rfl, rfl, zu_fac ⟨rfl, by decide⟩ zq_fan, ?_⟩
  intro r P h H hM
  have q0 : zq_ev r (0, [(0, 1)]) = r 0 := zu_e1 _ _
  have q1 : zq_ev r (0, [(1, 1)]) = r 1 := zu_e1 _ _
  have q2 : zq_ev r (0, [(2, 1)]) = r 2 := zu_e1 _ _
  have q3 : zq_ev r (0, [(3, 1)]) = r 3 := zu_e1 _ _
  have q4 : zq_ev r (0, [(4, 1)]) = r 4 := zu_e1 _ _
  have q5 : zq_ev r (0, [(5, 1)]) = r 5 := zu_e1 _ _
  have q6 : zq_ev r (0, [(6, 1)]) = r 6 := zu_e1 _ _
  have q7 : zq_ev r (0, [(8, 1)]) = r 8 := zu_e1 _ _
  have q8 : zq_ev r (0, [(9, 1)]) = r 9 := zu_e1 _ _
  have q9 : zq_ev r (26, []) = 26 := zu_e0 _ _
  have q10 : zq_ev r (8, []) = 8 := zu_e0 _ _
  have q11 : zq_ev r (1, [(6, 1)]) = r 6 + 1 := zu_e2 _ _ _
  have q12 : zq_ev r (0, [(7, 1)]) = r 7 := zu_e1 _ _
  have q13 : zq_ev r (1, [(9, 1)]) = r 9 + 1 := zu_e2 _ _ _
  have q14 : zq_ev r (0, [(10, 1)]) = r 10 := zu_e1 _ _
  have q15 : zq_ev r (5, [(7, 16)]) = 16 * r 7 + 5 := by simp only [zq_ev, zq_ts] <;> omega
  obtain ⟨hT, hC, hF, hS, -, hK⟩ := hM
  have c := hC.1
  have k1 := zj_use x_O (hK)
  have k1 : zc_O (zq_ev r (0, [(0, 1)])) (zq_ev r (0, [(1, 1)])) (zq_ev r (0, [(2, 1)])) (zq_ev r (0, [(3, 1)])) (zq_ev r (0, [(4, 1)])) (zq_ev r (0, [(5, 1)])) (zq_ev r (0, [(6, 1)])) (zq_ev r (0, [(8, 1)])) (zq_ev r (0, [(9, 1)])) P h := k1
  simp only [q0, q1, q2, q3, q4, q5, q6, q7, q8] at k1
  have k2 := zj_use x_CM (zq_okX_t (hK))
  have k2 : zc_CM (zq_ev r (0, [(1, 1)])) (zq_ev r (0, [(2, 1)])) (zq_ev r (0, [(9, 1)])) (zq_ev r (26, [])) P h := k2
  simp only [q1, q2, q8, q9] at k2
  have k3 := zj_use x_T (zq_okX_t (zq_okX_t (hK)))
  have k3 : zc_T (zq_ev r (0, [(0, 1)])) (zq_ev r (0, [(1, 1)])) (zq_ev r (0, [(2, 1)])) (zq_ev r (0, [(3, 1)])) (zq_ev r (8, [])) (zq_ev r (0, [(4, 1)])) (zq_ev r (1, [(6, 1)])) (zq_ev r (0, [(7, 1)])) (zq_ev r (1, [(9, 1)])) (zq_ev r (0, [(10, 1)])) P h := k3
  simp only [q0, q1, q10, q11, q12, q13, q14, q2, q3, q4] at k3
  have k4 := zj_use x_DG (zq_okX_t (zq_okX_t (zq_okX_t (hK))))
  have k4 : zn_DG (zq_ev r (0, [(3, 1)])) (zq_ev r (0, [(6, 1)])) (zq_ev r (5, [(7, 16)])) P h := k4
  simp only [q15, q3, q6] at k4
  obtain t1 := zc_o2_l (P := P) (h := h) (o := r 0) (g := r 1) (n := r 2) (Y := r 3) (d := r 4) (s := r 5) (t := r 6) (u := r 7) (i := r 8) (j := r 9) (l := r 10) k1 k2 k3 k4
  obtain ⟨rq, hr⟩ : ∃ rq : Nat → Int, (∀ i, i < 11 → rq i = r i) := ⟨r, fun i hi => rfl⟩
  have v0 : rq 0 = r 0 := hr 0 (by decide)
  have v1 : rq 1 = r 1 := hr 1 (by decide)
  have v2 : rq 2 = r 2 := hr 2 (by decide)
  have v3 : rq 3 = r 3 := hr 3 (by decide)
  have v4 : rq 4 = r 4 := hr 4 (by decide)
  have v5 : rq 5 = r 5 := hr 5 (by decide)
  have v7 : rq 7 = r 7 := hr 7 (by decide)
  have v8 : rq 8 = r 8 := hr 8 (by decide)
  have v10 : rq 10 = r 10 := hr 10 (by decide)
  have g0 : zq_ev rq (0, [(0, 1)]) = r 0 := zu_f1 v0
  have g1 : zq_ev rq (0, [(1, 1)]) = r 1 := zu_f1 v1
  have g2 : zq_ev rq (0, [(2, 1)]) = r 2 := zu_f1 v2
  have g3 : zq_ev rq (0, [(3, 1)]) = r 3 := zu_f1 v3
  have g4 : zq_ev rq (0, [(4, 1)]) = r 4 := zu_f1 v4
  have g5 : zq_ev rq (0, [(5, 1)]) = r 5 := zu_f1 v5
  have g6 : zq_ev rq (0, [(7, 1)]) = r 7 := zu_f1 v7
  have g7 : zq_ev rq (0, [(8, 1)]) = r 8 := zu_f1 v8
  have g8 : zq_ev rq (0, [(10, 1)]) = r 10 := zu_f1 v10
  exact ⟨_, List.mem_cons_self .., rq, hr, zq_MeS_mk rfl hT (zq_all_nil) zq_fan (zq_fan) rfl (zu_fac ((x_O _ _ _).mpr (by show zc_O (zq_ev rq (0, [(0, 1)])) (zq_ev rq (0, [(1, 1)])) (zq_ev rq (0, [(2, 1)])) (zq_ev rq (0, [(3, 1)])) (zq_ev rq (0, [(4, 1)])) (zq_ev rq (0, [(5, 1)])) (zq_ev rq (0, [(7, 1)])) (zq_ev rq (0, [(8, 1)])) (zq_ev rq (0, [(10, 1)])) P h; simp only [g0, g1, g2, g3, g4, g5, g6, g7, g8]; exact t1)) zq_fan)⟩
