/-! LEXING of the reference: facts -/
noncomputable def zu_s0 : zq_S × List zq_S := (([], [], [(0, [(0, 1)]), (0, [(1, 1)]), (0, [(2, 1)]), (0, [(4, 1)]), (400, [(4, -1)])], [((0, [(0, 1)]), 8), ((0, [(1, 1)]), 9), ((0, [(2, 1)]), 10)], [], [], [], 5), [([], [], [(0, [(5, 1)]), (0, [(5, -1)]), (0, [(6, 1)]), (0, [(6, -1)])], [], [], [], [(106, [(0, [(0, 1)]), (0, [(1, 1)]), (0, [(2, 1)]), (0, [(3, 1)]), (0, [(4, 1)]), (0, [(5, 1)]), (0, [(6, 1)])])], 7)])
theorem zu_s0_l {P : zq_Ty} {h : zq_H} {co va pl g n : Int} (a1 : 0 ≤ co) (a2 : 0 ≤ va) (a3 : 0 ≤ pl) (a4 : 0 ≤ n) (a5 : 0 ≤ -n + 400) (b1 : 0 ≤ co → P (co).toNat = some 8) (b2 : 0 ≤ va → P (va).toNat = some 9) (b3 : 0 ≤ pl → P (pl).toNat = some 10) : (∃ k t : Int, 0 ≤ k ∧ 0 ≤ -k ∧ 0 ≤ t ∧ 0 ≤ -t ∧ zu_SOF co va pl g n k t P h) := by
  exact ⟨0, 0, by omega, by omega, by omega, by omega, ⟨a1, b1 a1⟩, ⟨a2, b2 a2⟩, ⟨a3, b3 a3⟩, by omega, zu_at_0 a4, fun j x y => by omega⟩
theorem zu_s0_ok {w : zq_Wd} (x_SOF : zj_is w 106 (fun q => zu_SOF (q 0) (q 1) (q 2) (q 3) (q 4) (q 5) (q 6))) : zq_okG1 w zu_s0 := by
  refine ⟨rfl, rfl, zu_fac ⟨rfl, by decide⟩ zq_fan, ?_⟩
  intro r P h H hM
  have q0 : zq_ev r (0, [(0, 1)]) = r 0 := zu_e1 _ _
  have q1 : zq_ev r (0, [(1, 1)]) = r 1 := zu_e1 _ _
  have q2 : zq_ev r (0, [(2, 1)]) = r 2 := zu_e1 _ _
  have q3 : zq_ev r (0, [(4, 1)]) = r 4 := zu_e1 _ _
  have q4 : zq_ev r (400, [(4, -1)]) = -r 4 + 400 := zu_e5 _ _ _
  obtain ⟨hT, hC, hF, hS, -, hK⟩ := hM
  have c := hC.1
  have a1 := zq_all_1 c
  rw [q0] at a1
  have c := zq_all_t c
  have a2 := zq_all_1 c
  rw [q1] at a2
  have c := zq_all_t c
  have a3 := zq_all_1 c
  rw [q2] at a3
  have c := zq_all_t c
  have a4 := zq_all_1 c
  rw [q3] at a4
  have c := zq_all_t c
  have a5 := zq_all_1 c
  rw [q4] at a5
  have b1 : 0 ≤ r 0 → P (r 0).toNat = some 8 := fun z => by
    have z1 : 0 ≤ zq_ev r (0, [(0, 1)]) := by rw [q0]; exact z
    have z2 := zq_okF_1 (hF) z1
    simp only [q0] at z2
    exact z2
  have b2 : 0 ≤ r 1 → P (r 1).toNat = some 9 := fun z => by
    have z1 : 0 ≤ zq_ev r (0, [(1, 1)]) := by rw [q1]; exact z
    have z2 := zq_okF_1 (zq_okF_t (hF)) z1
    simp only [q1] at z2
    exact z2
  have b3 : 0 ≤ r 2 → P (r 2).toNat = some 10 := fun z => by
    have z1 : 0 ≤ zq_ev r (0, [(2, 1)]) := by rw [q2]; exact z
    have z2 := zq_okF_1 (zq_okF_t (zq_okF_t (hF))) z1
    simp only [q2] at z2
    exact z2
  obtain ⟨y_0, y_1, c1, c2, c3, c4, t1⟩ := zu_s0_l (P := P) (h := h) (co := r 0) (va := r 1) (pl := r 2) (g := r 3) (n := r 4) a1 a2 a3 a4 a5 b1 b2 b3
  obtain ⟨rq, hr, w5, w6⟩ : ∃ rq : Nat → Int, (∀ i, i < 5 → rq i = r i) ∧ rq 5 = y_0 ∧ rq 6 = y_1 := ⟨zq_up (zq_up r 5 y_0) 6 y_1, fun i hi => by rw [zu_up_ne (by omega)]; rw [zu_up_ne (by omega)], rfl, rfl⟩
  have v0 : rq 0 = r 0 := hr 0 (by decide)
  have v1 : rq 1 = r 1 := hr 1 (by decide)
  have v2 : rq 2 = r 2 := hr 2 (by decide)
  have v3 : rq 3 = r 3 := hr 3 (by decide)
  have v4 : rq 4 = r 4 := hr 4 (by decide)
  have g0 : zq_ev rq (0, [(6, -1)]) = -y_1 := zu_f4 w6
  have g1 : zq_ev rq (0, [(6, 1)]) = y_1 := zu_f1 w6
  have g2 : zq_ev rq (0, [(5, -1)]) = -y_0 := zu_f4 w5
  have g3 : zq_ev rq (0, [(5, 1)]) = y_0 := zu_f1 w5
  have g4 : zq_ev rq (0, [(0, 1)]) = r 0 := zu_f1 v0
  have g5 : zq_ev rq (0, [(1, 1)]) = r 1 := zu_f1 v1
  have g6 : zq_ev rq (0, [(2, 1)]) = r 2 := zu_f1 v2
  have g7 : zq_ev rq (0, [(3, 1)]) = r 3 := zu_f1 v3
  have g8 : zq_ev rq (0, [(4, 1)]) = r 4 := zu_f1 v4
  exact ⟨_, List.mem_cons_self .., rq, hr, zq_MeS_mk rfl hT (zq_all_cons (by rw [g3]; exact c1) (zq_all_cons (by rw [g2]; exact c2) (zq_all_cons (by rw [g1]; exact c3) (zq_all_cons (by rw [g0]; exact c4) (zq_all_nil))))) zq_fan (zq_fan) rfl (zu_fac ((x_SOF _ _ _).mpr (by show zu_SOF (zq_ev rq (0, [(0, 1)])) (zq_ev rq (0, [(1, 1)])) (zq_ev rq (0, [(2, 1)])) (zq_ev rq (0, [(3, 1)])) (zq_ev rq (0, [(4, 1)])) (zq_ev rq (0, [(5, 1)])) (zq_ev rq (0, [(6, 1)])) P h; simp only [g1, g3, g4, g5, g6, g7, g8]; exact t1)) zq_fan)⟩
noncomputable def zu_s1 : zq_S × List zq_S := (([], [], [(-32, [(8, 1)]), (32, [(8, -1)]), (-1, [(1, 1), (6, -1)])], [], [((0, [(0, 1)]), (0, [(6, 1)]), (0, [(8, 1)]))], [], [(22, [(0, [(0, 1)]), (0, [(1, 1)]), (0, [(2, 1)])]), (106, [(0, [(3, 1)]), (0, [(4, 1)]), (0, [(5, 1)]), (0, [(2, 1)]), (0, [(1, 1)]), (0, [(6, 1)]), (0, [(7, 1)])])], 9), [([], [], [], [], [], [], [(106, [(0, [(3, 1)]), (0, [(4, 1)]), (0, [(5, 1)]), (0, [(2, 1)]), (0, [(1, 1)]), (1, [(6, 1)]), (0, [(7, 1)])])], 9)])
theorem zu_s1_l {P : zq_Ty} {h : zq_H} {tp n g co va pl k t b : Int} (a1 : 0 ≤ b - 32) (a2 : 0 ≤ -b + 32) (a3 : 0 ≤ n - k - 1) (s1 : 0 ≤ tp ∧ P (tp).toNat ≠ none ∧ h (tp).toNat k = b) (k1 : zu_TCr tp n g P h) (k2 : zu_SOF co va pl g n k t P h) : (zu_SOF co va pl g n (k + 1) t P h) := by
  obtain ⟨z1, z2, z3, z4, z5, z6⟩ := k2
  have d := zu_dgr k1 z5.2.1 (by omega) s1.2.2 (by omega) (by omega)
  exact ⟨z1, z2, z3, z4, zu_at_blank z5 (by omega) (by rw [d]; exact zu_kd0 (by omega)), z6⟩
theorem zu_s1_ok {w : zq_Wd} (x_TCr : zj_is w 22 (fun q => zu_TCr (q 0) (q 1) (q 2))) (x_SOF : zj_is w 106 (fun q => zu_SOF (q 0) (q 1) (q 2) (q 3) (q 4) (q 5) (q 6))) : zq_okG1 w zu_s1 := by
  refine ⟨rfl, rfl, zu_fac ⟨rfl, by decide⟩ zq_fan, ?_⟩
  intro r P h H hM
  have q0 : zq_ev r (-32, [(8, 1)]) = r 8 - 32 := zu_e3 _ _ _
  have q1 : zq_ev r (32, [(8, -1)]) = -r 8 + 32 := zu_e5 _ _ _
  have q2 : zq_ev r (-1, [(1, 1), (6, -1)]) = r 1 - r 6 - 1 := by simp only [zq_ev, zq_ts] <;> omega
  have q3 : zq_ev r (0, [(0, 1)]) = r 0 := zu_e1 _ _
  have q4 : zq_ev r (0, [(6, 1)]) = r 6 := zu_e1 _ _
  have q5 : zq_ev r (0, [(8, 1)]) = r 8 := zu_e1 _ _
  have q6 : zq_ev r (0, [(1, 1)]) = r 1 := zu_e1 _ _
  have q7 : zq_ev r (0, [(2, 1)]) = r 2 := zu_e1 _ _
  have q8 : zq_ev r (0, [(3, 1)]) = r 3 := zu_e1 _ _
  have q9 : zq_ev r (0, [(4, 1)]) = r 4 := zu_e1 _ _
  have q10 : zq_ev r (0, [(5, 1)]) = r 5 := zu_e1 _ _
  have q11 : zq_ev r (0, [(7, 1)]) = r 7 := zu_e1 _ _
  obtain ⟨hT, hC, hF, hS, -, hK⟩ := hM
  have c := hC.1
  have a1 := zq_all_1 c
  rw [q0] at a1
  have c := zq_all_t c
  have a2 := zq_all_1 c
  rw [q1] at a2
  have c := zq_all_t c
  have a3 := zq_all_1 c
  rw [q2] at a3
  have s1 := zq_okS_1 (hS)
  simp only [q3, q4, q5] at s1
  have k1 : zu_TCr (zq_ev r (0, [(0, 1)])) (zq_ev r (0, [(1, 1)])) (zq_ev r (0, [(2, 1)])) P h := zj_use x_TCr (hK)
  simp only [q3, q6, q7] at k1
  have k2 : zu_SOF (zq_ev r (0, [(3, 1)])) (zq_ev r (0, [(4, 1)])) (zq_ev r (0, [(5, 1)])) (zq_ev r (0, [(2, 1)])) (zq_ev r (0, [(1, 1)])) (zq_ev r (0, [(6, 1)])) (zq_ev r (0, [(7, 1)])) P h := zj_use x_SOF (zq_okX_t (hK))
  simp only [q10, q11, q4, q6, q7, q8, q9] at k2
  obtain t1 := zu_s1_l (P := P) (h := h) (tp := r 0) (n := r 1) (g := r 2) (co := r 3) (va := r 4) (pl := r 5) (k := r 6) (t := r 7) (b := r 8) a1 a2 a3 s1 k1 k2
  obtain ⟨rq, hr⟩ : ∃ rq : Nat → Int, (∀ i, i < 9 → rq i = r i) := ⟨r, fun i hi => rfl⟩
  have v1 : rq 1 = r 1 := hr 1 (by decide)
  have v2 : rq 2 = r 2 := hr 2 (by decide)
  have v3 : rq 3 = r 3 := hr 3 (by decide)
  have v4 : rq 4 = r 4 := hr 4 (by decide)
  have v5 : rq 5 = r 5 := hr 5 (by decide)
  have v6 : rq 6 = r 6 := hr 6 (by decide)
  have v7 : rq 7 = r 7 := hr 7 (by decide)
  have g0 : zq_ev rq (0, [(3, 1)]) = r 3 := zu_f1 v3
  have g1 : zq_ev rq (0, [(4, 1)]) = r 4 := zu_f1 v4
  have g2 : zq_ev rq (0, [(5, 1)]) = r 5 := zu_f1 v5
  have g3 : zq_ev rq (0, [(2, 1)]) = r 2 := zu_f1 v2
  have g4 : zq_ev rq (0, [(1, 1)]) = r 1 := zu_f1 v1
  have g5 : zq_ev rq (1, [(6, 1)]) = r 6 + 1 := zu_f2 v6 _
  have g6 : zq_ev rq (0, [(7, 1)]) = r 7 := zu_f1 v7
  exact ⟨_, List.mem_cons_self .., rq, hr, zq_MeS_mk rfl hT (zq_all_nil) zq_fan (zq_fan) rfl (zu_fac ((x_SOF _ _ _).mpr (by show zu_SOF (zq_ev rq (0, [(3, 1)])) (zq_ev rq (0, [(4, 1)])) (zq_ev rq (0, [(5, 1)])) (zq_ev rq (0, [(2, 1)])) (zq_ev rq (0, [(1, 1)])) (zq_ev rq (1, [(6, 1)])) (zq_ev rq (0, [(7, 1)])) P h; simp only [g0, g1, g2, g3, g4, g5, g6]; exact t1)) zq_fan)⟩
noncomputable def zu_r01 : zq_S × List zq_S := (([], [], [(-97, [(4, 1)]), (122, [(4, -1)]), (0, [(3, 1)]), (-1, [(1, 1), (3, -1)])], [], [((0, [(0, 1)]), (0, [(3, 1)]), (0, [(4, 1)]))], [], [(22, [(0, [(0, 1)]), (0, [(1, 1)]), (0, [(2, 1)])])], 5), [([], [], [], [], [], [], [(121, [(0, [(2, 1)]), (0, [(1, 1)]), (0, [(3, 1)]), (1, [(3, 1)]), (1, [])])], 5)])
theorem zu_r01_l {P : zq_Ty} {h : zq_H} {tp n g k b : Int} (a1 : 0 ≤ b - 97) (a2 : 0 ≤ -b + 122) (a3 : 0 ≤ k) (a4 : 0 ≤ n - k - 1) (s1 : 0 ≤ tp ∧ P (tp).toNat ≠ none ∧ h (tp).toNat k = b) (k1 : zu_TCr tp n g P h) : (zu_RNS g n k (k + 1) 1 P h) := by
  have d := zu_dgr k1 (j := k) (by omega) (by omega) s1.2.2 (by omega) (by omega)
  refine ⟨by omega, by omega, by omega, fun i x y => ?_⟩
  have e : i = k := by omega
  rw [e, d]
  exact zu_kd1 (by omega) (by omega)
theorem zu_r01_ok {w : zq_Wd} (x_TCr : zj_is w 22 (fun q => zu_TCr (q 0) (q 1) (q 2))) (x_RNS : zj_is w 121 (fun q => zu_RNS (q 0) (q 1) (q 2) (q 3) (q 4))) : zq_okG1 w zu_r01 := by
  refine ⟨rfl, rfl, zu_fac ⟨rfl, by decide⟩ zq_fan, ?_⟩
  intro r P h H hM
  have q0 : zq_ev r (-97, [(4, 1)]) = r 4 - 97 := zu_e3 _ _ _
  have q1 : zq_ev r (122, [(4, -1)]) = -r 4 + 122 := zu_e5 _ _ _
  have q2 : zq_ev r (0, [(3, 1)]) = r 3 := zu_e1 _ _
  have q3 : zq_ev r (-1, [(1, 1), (3, -1)]) = r 1 - r 3 - 1 := by simp only [zq_ev, zq_ts] <;> omega
  have q4 : zq_ev r (0, [(0, 1)]) = r 0 := zu_e1 _ _
  have q5 : zq_ev r (0, [(4, 1)]) = r 4 := zu_e1 _ _
  have q6 : zq_ev r (0, [(1, 1)]) = r 1 := zu_e1 _ _
  have q7 : zq_ev r (0, [(2, 1)]) = r 2 := zu_e1 _ _
  obtain ⟨hT, hC, hF, hS, -, hK⟩ := hM
  have c := hC.1
  have a1 := zq_all_1 c
  rw [q0] at a1
  have c := zq_all_t c
  have a2 := zq_all_1 c
  rw [q1] at a2
  have c := zq_all_t c
  have a3 := zq_all_1 c
  rw [q2] at a3
  have c := zq_all_t c
  have a4 := zq_all_1 c
  rw [q3] at a4
  have s1 := zq_okS_1 (hS)
  simp only [q2, q4, q5] at s1
  have k1 : zu_TCr (zq_ev r (0, [(0, 1)])) (zq_ev r (0, [(1, 1)])) (zq_ev r (0, [(2, 1)])) P h := zj_use x_TCr (hK)
  simp only [q4, q6, q7] at k1
  obtain t1 := zu_r01_l (P := P) (h := h) (tp := r 0) (n := r 1) (g := r 2) (k := r 3) (b := r 4) a1 a2 a3 a4 s1 k1
  obtain ⟨rq, hr⟩ : ∃ rq : Nat → Int, (∀ i, i < 5 → rq i = r i) := ⟨r, fun i hi => rfl⟩
  have v1 : rq 1 = r 1 := hr 1 (by decide)
  have v2 : rq 2 = r 2 := hr 2 (by decide)
  have v3 : rq 3 = r 3 := hr 3 (by decide)
  have g0 : zq_ev rq (0, [(2, 1)]) = r 2 := zu_f1 v2
  have g1 : zq_ev rq (0, [(1, 1)]) = r 1 := zu_f1 v1
  have g2 : zq_ev rq (0, [(3, 1)]) = r 3 := zu_f1 v3
  have g3 : zq_ev rq (1, [(3, 1)]) = r 3 + 1 := zu_f2 v3 _
  have g4 : zq_ev rq (1, []) = 1 := zu_e0 _ _
  exact ⟨_, List.mem_cons_self .., rq, hr, zq_MeS_mk rfl hT (zq_all_nil) zq_fan (zq_fan) rfl (zu_fac ((x_RNS _ _ _).mpr (by show zu_RNS (zq_ev rq (0, [(2, 1)])) (zq_ev rq (0, [(1, 1)])) (zq_ev rq (0, [(3, 1)])) (zq_ev rq (1, [(3, 1)])) (zq_ev rq (1, [])) P h; simp only [g0, g1, g2, g3, g4]; exact t1)) zq_fan)⟩
noncomputable def zu_r11 : zq_S × List zq_S := (([], [], [(-97, [(5, 1)]), (122, [(5, -1)]), (-1, [(1, 1), (4, -1)])], [], [((0, [(0, 1)]), (0, [(4, 1)]), (0, [(5, 1)]))], [], [(22, [(0, [(0, 1)]), (0, [(1, 1)]), (0, [(2, 1)])]), (121, [(0, [(2, 1)]), (0, [(1, 1)]), (0, [(3, 1)]), (0, [(4, 1)]), (1, [])])], 6), [([], [], [], [], [], [], [(121, [(0, [(2, 1)]), (0, [(1, 1)]), (0, [(3, 1)]), (1, [(4, 1)]), (1, [])])], 6)])
theorem zu_r11_l {P : zq_Ty} {h : zq_H} {tp n g k j b : Int} (a1 : 0 ≤ b - 97) (a2 : 0 ≤ -b + 122) (a3 : 0 ≤ n - j - 1) (s1 : 0 ≤ tp ∧ P (tp).toNat ≠ none ∧ h (tp).toNat j = b) (k1 : zu_TCr tp n g P h) (k2 : zu_RNS g n k j 1 P h) : (zu_RNS g n k (j + 1) 1 P h) := by
  obtain ⟨z1, z2, z3, z4⟩ := k2
  have d := zu_dgr k1 (j := j) (by omega) (by omega) s1.2.2 (by omega) (by omega)
  refine ⟨z1, by omega, by omega, fun i x y => ?_⟩
  by_cases hi : i < j
  · exact z4 i x hi
  · have e : i = j := by omega
    rw [e, d]
    exact zu_kd1 (by omega) (by omega)
theorem zu_r11_ok {w : zq_Wd} (x_TCr : zj_is w 22 (fun q => zu_TCr (q 0) (q 1) (q 2))) (x_RNS : zj_is w 121 (fun q => zu_RNS (q 0) (q 1) (q 2) (q 3) (q 4))) : zq_okG1 w zu_r11 := by
  refine ⟨rfl, rfl, zu_fac ⟨rfl, by decide⟩ zq_fan, ?_⟩
  intro r P h H hM
  have q0 : zq_ev r (-97, [(5, 1)]) = r 5 - 97 := zu_e3 _ _ _
  have q1 : zq_ev r (122, [(5, -1)]) = -r 5 + 122 := zu_e5 _ _ _
  have q2 : zq_ev r (-1, [(1, 1), (4, -1)]) = r 1 - r 4 - 1 := by simp only [zq_ev, zq_ts] <;> omega
  have q3 : zq_ev r (0, [(0, 1)]) = r 0 := zu_e1 _ _
  have q4 : zq_ev r (0, [(4, 1)]) = r 4 := zu_e1 _ _
  have q5 : zq_ev r (0, [(5, 1)]) = r 5 := zu_e1 _ _
  have q6 : zq_ev r (0, [(1, 1)]) = r 1 := zu_e1 _ _
  have q7 : zq_ev r (0, [(2, 1)]) = r 2 := zu_e1 _ _
  have q8 : zq_ev r (0, [(3, 1)]) = r 3 := zu_e1 _ _
  have q9 : zq_ev r (1, []) = 1 := zu_e0 _ _
  obtain ⟨hT, hC, hF, hS, -, hK⟩ := hM
  have c := hC.1
  have a1 := zq_all_1 c
  rw [q0] at a1
  have c := zq_all_t c
  have a2 := zq_all_1 c
  rw [q1] at a2
  have c := zq_all_t c
  have a3 := zq_all_1 c
  rw [q2] at a3
  have s1 := zq_okS_1 (hS)
  simp only [q3, q4, q5] at s1
  have k1 : zu_TCr (zq_ev r (0, [(0, 1)])) (zq_ev r (0, [(1, 1)])) (zq_ev r (0, [(2, 1)])) P h := zj_use x_TCr (hK)
  simp only [q3, q6, q7] at k1
  have k2 : zu_RNS (zq_ev r (0, [(2, 1)])) (zq_ev r (0, [(1, 1)])) (zq_ev r (0, [(3, 1)])) (zq_ev r (0, [(4, 1)])) (zq_ev r (1, [])) P h := zj_use x_RNS (zq_okX_t (hK))
  simp only [q4, q6, q7, q8, q9] at k2
  obtain t1 := zu_r11_l (P := P) (h := h) (tp := r 0) (n := r 1) (g := r 2) (k := r 3) (j := r 4) (b := r 5) a1 a2 a3 s1 k1 k2
  obtain ⟨rq, hr⟩ : ∃ rq : Nat → Int, (∀ i, i < 6 → rq i = r i) := ⟨r, fun i hi => rfl⟩
  have v1 : rq 1 = r 1 := hr 1 (by decide)
  have v2 : rq 2 = r 2 := hr 2 (by decide)
  have v3 : rq 3 = r 3 := hr 3 (by decide)
  have v4 : rq 4 = r 4 := hr 4 (by decide)
  have g0 : zq_ev rq (0, [(2, 1)]) = r 2 := zu_f1 v2
  have g1 : zq_ev rq (0, [(1, 1)]) = r 1 := zu_f1 v1
  have g2 : zq_ev rq (0, [(3, 1)]) = r 3 := zu_f1 v3
  have g3 : zq_ev rq (1, [(4, 1)]) = r 4 + 1 := zu_f2 v4 _
  have g4 : zq_ev rq (1, []) = 1 := zu_e0 _ _
  exact ⟨_, List.mem_cons_self .., rq, hr, zq_MeS_mk rfl hT (zq_all_nil) zq_fan (zq_fan) rfl (zu_fac ((x_RNS _ _ _).mpr (by show zu_RNS (zq_ev rq (0, [(2, 1)])) (zq_ev rq (0, [(1, 1)])) (zq_ev rq (0, [(3, 1)])) (zq_ev rq (1, [(4, 1)])) (zq_ev rq (1, [])) P h; simp only [g0, g1, g2, g3, g4]; exact t1)) zq_fan)⟩
noncomputable def zu_rZ1 : zq_S × List zq_S := (([], [], [(0, [(0, -1), (3, 1)]), (400, [(0, -1)])], [], [], [], [(121, [(0, [(1, 1)]), (0, [(0, 1)]), (0, [(2, 1)]), (0, [(3, 1)]), (1, [])])], 4), [([], [], [], [], [], [], [(122, [(0, [(1, 1)]), (0, [(0, 1)]), (0, [(2, 1)]), (0, [(3, 1)])])], 4)])
theorem zu_rZ1_l {P : zq_Ty} {h : zq_H} {n g k j : Int} (a1 : 0 ≤ -n + j) (a2 : 0 ≤ -n + 400) (k1 : zu_RNS g n k j 1 P h) : (zu_EN g n k j P h) := by
  exact ⟨zu_rn_nx k1 (by omega) (by omega) (fun w => by have := w.1; omega), k1.1, k1.2.1, k1.2.2.1⟩
theorem zu_rZ1_ok {w : zq_Wd} (x_RNS : zj_is w 121 (fun q => zu_RNS (q 0) (q 1) (q 2) (q 3) (q 4))) (x_EN : zj_is w 122 (fun q => zu_EN (q 0) (q 1) (q 2) (q 3))) : zq_okG1 w zu_rZ1 := by
  refine ⟨rfl, rfl, zu_fac ⟨rfl, by decide⟩ zq_fan, ?_⟩
  intro r P h H hM
  have q0 : zq_ev r (0, [(0, -1), (3, 1)]) = -r 0 + r 3 := by simp only [zq_ev, zq_ts] <;> omega
  have q1 : zq_ev r (400, [(0, -1)]) = -r 0 + 400 := zu_e5 _ _ _
  have q2 : zq_ev r (0, [(1, 1)]) = r 1 := zu_e1 _ _
  have q3 : zq_ev r (0, [(0, 1)]) = r 0 := zu_e1 _ _
  have q4 : zq_ev r (0, [(2, 1)]) = r 2 := zu_e1 _ _
  have q5 : zq_ev r (0, [(3, 1)]) = r 3 := zu_e1 _ _
  have q6 : zq_ev r (1, []) = 1 := zu_e0 _ _
  obtain ⟨hT, hC, hF, hS, -, hK⟩ := hM
  have c := hC.1
  have a1 := zq_all_1 c
  rw [q0] at a1
  have c := zq_all_t c
  have a2 := zq_all_1 c
  rw [q1] at a2
  have k1 : zu_RNS (zq_ev r (0, [(1, 1)])) (zq_ev r (0, [(0, 1)])) (zq_ev r (0, [(2, 1)])) (zq_ev r (0, [(3, 1)])) (zq_ev r (1, [])) P h := zj_use x_RNS (hK)
  simp only [q2, q3, q4, q5, q6] at k1
  obtain t1 := zu_rZ1_l (P := P) (h := h) (n := r 0) (g := r 1) (k := r 2) (j := r 3) a1 a2 k1
  obtain ⟨rq, hr⟩ : ∃ rq : Nat → Int, (∀ i, i < 4 → rq i = r i) := ⟨r, fun i hi => rfl⟩
  have v0 : rq 0 = r 0 := hr 0 (by decide)
  have v1 : rq 1 = r 1 := hr 1 (by decide)
  have v2 : rq 2 = r 2 := hr 2 (by decide)
  have v3 : rq 3 = r 3 := hr 3 (by decide)
  have g0 : zq_ev rq (0, [(1, 1)]) = r 1 := zu_f1 v1
  have g1 : zq_ev rq (0, [(0, 1)]) = r 0 := zu_f1 v0
  have g2 : zq_ev rq (0, [(2, 1)]) = r 2 := zu_f1 v2
  have g3 : zq_ev rq (0, [(3, 1)]) = r 3 := zu_f1 v3
  exact ⟨_, List.mem_cons_self .., rq, hr, zq_MeS_mk rfl hT (zq_all_nil) zq_fan (zq_fan) rfl (zu_fac ((x_EN _ _ _).mpr (by show zu_EN (zq_ev rq (0, [(1, 1)])) (zq_ev rq (0, [(0, 1)])) (zq_ev rq (0, [(2, 1)])) (zq_ev rq (0, [(3, 1)])) P h; simp only [g0, g1, g2, g3]; exact t1)) zq_fan)⟩
noncomputable def zu_rX1n : zq_S × List zq_S := (([], [], [(128, [(5, 1)]), (-1, [(5, -1)]), (-1, [(1, 1), (4, -1)]), (400, [(1, -1)])], [], [((0, [(0, 1)]), (0, [(4, 1)]), (0, [(5, 1)]))], [], [(22, [(0, [(0, 1)]), (0, [(1, 1)]), (0, [(2, 1)])]), (121, [(0, [(2, 1)]), (0, [(1, 1)]), (0, [(3, 1)]), (0, [(4, 1)]), (1, [])])], 6), [([], [], [], [], [], [], [(122, [(0, [(2, 1)]), (0, [(1, 1)]), (0, [(3, 1)]), (0, [(4, 1)])])], 6)])
theorem zu_rX1n_l {P : zq_Ty} {h : zq_H} {tp n g k j b : Int} (a1 : 0 ≤ b + 128) (a2 : 0 ≤ -b - 1) (a3 : 0 ≤ n - j - 1) (a4 : 0 ≤ -n + 400) (s1 : 0 ≤ tp ∧ P (tp).toNat ≠ none ∧ h (tp).toNat j = b) (k1 : zu_TCr tp n g P h) (k2 : zu_RNS g n k j 1 P h) : (zu_EN g n k j P h) := by
  have z1 := k2.1
  have z2 := k2.2.1
  have d := zu_dgn k1 (j := j) (by omega) (by omega) s1.2.2 (by omega) (by omega)
  refine ⟨zu_rn_nx k2 (by omega) (by omega) (fun w => ?_), k2.1, k2.2.1, k2.2.2.1⟩
  have w := w.2
  rw [d] at w
  rcases zu_kd_cases (b + 256) with ⟨q1, q2⟩ | ⟨q1, q2, q3⟩ | ⟨q1, q2, q3⟩ | ⟨q1, q2, q3, q4⟩ <;> omega
theorem zu_rX1n_ok {w : zq_Wd} (x_TCr : zj_is w 22 (fun q => zu_TCr (q 0) (q 1) (q 2))) (x_RNS : zj_is w 121 (fun q => zu_RNS (q 0) (q 1) (q 2) (q 3) (q 4))) (x_EN : zj_is w 122 (fun q => zu_EN (q 0) (q 1) (q 2) (q 3))) : zq_okG1 w zu_rX1n := by
  refine ⟨rfl, rfl, zu_fac ⟨rfl, by decide⟩ zq_fan, ?_⟩
  intro r P h H hM
  have q0 : zq_ev r (128, [(5, 1)]) = r 5 + 128 := zu_e2 _ _ _
  have q1 : zq_ev r (-1, [(5, -1)]) = -r 5 - 1 := zu_e6 _ _ _
  have q2 : zq_ev r (-1, [(1, 1), (4, -1)]) = r 1 - r 4 - 1 := by simp only [zq_ev, zq_ts] <;> omega
  have q3 : zq_ev r (400, [(1, -1)]) = -r 1 + 400 := zu_e5 _ _ _
  have q4 : zq_ev r (0, [(0, 1)]) = r 0 := zu_e1 _ _
  have q5 : zq_ev r (0, [(4, 1)]) = r 4 := zu_e1 _ _
  have q6 : zq_ev r (0, [(5, 1)]) = r 5 := zu_e1 _ _
  have q7 : zq_ev r (0, [(1, 1)]) = r 1 := zu_e1 _ _
  have q8 : zq_ev r (0, [(2, 1)]) = r 2 := zu_e1 _ _
  have q9 : zq_ev r (0, [(3, 1)]) = r 3 := zu_e1 _ _
  have q10 : zq_ev r (1, []) = 1 := zu_e0 _ _
  obtain ⟨hT, hC, hF, hS, -, hK⟩ := hM
  have c := hC.1
  have a1 := zq_all_1 c
  rw [q0] at a1
  have c := zq_all_t c
  have a2 := zq_all_1 c
  rw [q1] at a2
  have c := zq_all_t c
  have a3 := zq_all_1 c
  rw [q2] at a3
  have c := zq_all_t c
  have a4 := zq_all_1 c
  rw [q3] at a4
  have s1 := zq_okS_1 (hS)
  simp only [q4, q5, q6] at s1
  have k1 : zu_TCr (zq_ev r (0, [(0, 1)])) (zq_ev r (0, [(1, 1)])) (zq_ev r (0, [(2, 1)])) P h := zj_use x_TCr (hK)
  simp only [q4, q7, q8] at k1
  have k2 : zu_RNS (zq_ev r (0, [(2, 1)])) (zq_ev r (0, [(1, 1)])) (zq_ev r (0, [(3, 1)])) (zq_ev r (0, [(4, 1)])) (zq_ev r (1, [])) P h := zj_use x_RNS (zq_okX_t (hK))
  simp only [q10, q5, q7, q8, q9] at k2
  obtain t1 := zu_rX1n_l (P := P) (h := h) (tp := r 0) (n := r 1) (g := r 2) (k := r 3) (j := r 4) (b := r 5) a1 a2 a3 a4 s1 k1 k2
  obtain ⟨rq, hr⟩ : ∃ rq : Nat → Int, (∀ i, i < 6 → rq i = r i) := ⟨r, fun i hi => rfl⟩
  have v1 : rq 1 = r 1 := hr 1 (by decide)
  have v2 : rq 2 = r 2 := hr 2 (by decide)
  have v3 : rq 3 = r 3 := hr 3 (by decide)
  have v4 : rq 4 = r 4 := hr 4 (by decide)
  have g0 : zq_ev rq (0, [(2, 1)]) = r 2 := zu_f1 v2
  have g1 : zq_ev rq (0, [(1, 1)]) = r 1 := zu_f1 v1
  have g2 : zq_ev rq (0, [(3, 1)]) = r 3 := zu_f1 v3
  have g3 : zq_ev rq (0, [(4, 1)]) = r 4 := zu_f1 v4
  exact ⟨_, List.mem_cons_self .., rq, hr, zq_MeS_mk rfl hT (zq_all_nil) zq_fan (zq_fan) rfl (zu_fac ((x_EN _ _ _).mpr (by show zu_EN (zq_ev rq (0, [(2, 1)])) (zq_ev rq (0, [(1, 1)])) (zq_ev rq (0, [(3, 1)])) (zq_ev rq (0, [(4, 1)])) P h; simp only [g0, g1, g2, g3]; exact t1)) zq_fan)⟩
noncomputable def zu_rX1a : zq_S × List zq_S := (([], [], [(0, [(5, 1)]), (96, [(5, -1)]), (-1, [(1, 1), (4, -1)]), (400, [(1, -1)])], [], [((0, [(0, 1)]), (0, [(4, 1)]), (0, [(5, 1)]))], [], [(22, [(0, [(0, 1)]), (0, [(1, 1)]), (0, [(2, 1)])]), (121, [(0, [(2, 1)]), (0, [(1, 1)]), (0, [(3, 1)]), (0, [(4, 1)]), (1, [])])], 6), [([], [], [], [], [], [], [(122, [(0, [(2, 1)]), (0, [(1, 1)]), (0, [(3, 1)]), (0, [(4, 1)])])], 6)])
theorem zu_rX1a_l {P : zq_Ty} {h : zq_H} {tp n g k j b : Int} (a1 : 0 ≤ b) (a2 : 0 ≤ -b + 96) (a3 : 0 ≤ n - j - 1) (a4 : 0 ≤ -n + 400) (s1 : 0 ≤ tp ∧ P (tp).toNat ≠ none ∧ h (tp).toNat j = b) (k1 : zu_TCr tp n g P h) (k2 : zu_RNS g n k j 1 P h) : (zu_EN g n k j P h) := by
  have z1 := k2.1
  have z2 := k2.2.1
  have d := zu_dgr k1 (j := j) (by omega) (by omega) s1.2.2 (by omega) (by omega)
  refine ⟨zu_rn_nx k2 (by omega) (by omega) (fun w => ?_), k2.1, k2.2.1, k2.2.2.1⟩
  have w := w.2
  rw [d] at w
  rcases zu_kd_cases (b) with ⟨q1, q2⟩ | ⟨q1, q2, q3⟩ | ⟨q1, q2, q3⟩ | ⟨q1, q2, q3, q4⟩ <;> omega
theorem zu_rX1a_ok {w : zq_Wd} (x_TCr : zj_is w 22 (fun q => zu_TCr (q 0) (q 1) (q 2))) (x_RNS : zj_is w 121 (fun q => zu_RNS (q 0) (q 1) (q 2) (q 3) (q 4))) (x_EN : zj_is w 122 (fun q => zu_EN (q 0) (q 1) (q 2) (q 3))) : zq_okG1 w zu_rX1a := by
  refine ⟨rfl, rfl, zu_fac ⟨rfl, by decide⟩ zq_fan, ?_⟩
  intro r P h H hM
  have q0 : zq_ev r (0, [(5, 1)]) = r 5 := zu_e1 _ _
  have q1 : zq_ev r (96, [(5, -1)]) = -r 5 + 96 := zu_e5 _ _ _
  have q2 : zq_ev r (-1, [(1, 1), (4, -1)]) = r 1 - r 4 - 1 := by simp only [zq_ev, zq_ts] <;> omega
  have q3 : zq_ev r (400, [(1, -1)]) = -r 1 + 400 := zu_e5 _ _ _
  have q4 : zq_ev r (0, [(0, 1)]) = r 0 := zu_e1 _ _
  have q5 : zq_ev r (0, [(4, 1)]) = r 4 := zu_e1 _ _
  have q6 : zq_ev r (0, [(1, 1)]) = r 1 := zu_e1 _ _
  have q7 : zq_ev r (0, [(2, 1)]) = r 2 := zu_e1 _ _
  have q8 : zq_ev r (0, [(3, 1)]) = r 3 := zu_e1 _ _
  have q9 : zq_ev r (1, []) = 1 := zu_e0 _ _
  obtain ⟨hT, hC, hF, hS, -, hK⟩ := hM
  have c := hC.1
  have a1 := zq_all_1 c
  rw [q0] at a1
  have c := zq_all_t c
  have a2 := zq_all_1 c
  rw [q1] at a2
  have c := zq_all_t c
  have a3 := zq_all_1 c
  rw [q2] at a3
  have c := zq_all_t c
  have a4 := zq_all_1 c
  rw [q3] at a4
  have s1 := zq_okS_1 (hS)
  simp only [q0, q4, q5] at s1
  have k1 : zu_TCr (zq_ev r (0, [(0, 1)])) (zq_ev r (0, [(1, 1)])) (zq_ev r (0, [(2, 1)])) P h := zj_use x_TCr (hK)
  simp only [q4, q6, q7] at k1
  have k2 : zu_RNS (zq_ev r (0, [(2, 1)])) (zq_ev r (0, [(1, 1)])) (zq_ev r (0, [(3, 1)])) (zq_ev r (0, [(4, 1)])) (zq_ev r (1, [])) P h := zj_use x_RNS (zq_okX_t (hK))
  simp only [q5, q6, q7, q8, q9] at k2
  obtain t1 := zu_rX1a_l (P := P) (h := h) (tp := r 0) (n := r 1) (g := r 2) (k := r 3) (j := r 4) (b := r 5) a1 a2 a3 a4 s1 k1 k2
  obtain ⟨rq, hr⟩ : ∃ rq : Nat → Int, (∀ i, i < 6 → rq i = r i) := ⟨r, fun i hi => rfl⟩
  have v1 : rq 1 = r 1 := hr 1 (by decide)
  have v2 : rq 2 = r 2 := hr 2 (by decide)
  have v3 : rq 3 = r 3 := hr 3 (by decide)
  have v4 : rq 4 = r 4 := hr 4 (by decide)
  have g0 : zq_ev rq (0, [(2, 1)]) = r 2 := zu_f1 v2
  have g1 : zq_ev rq (0, [(1, 1)]) = r 1 := zu_f1 v1
  have g2 : zq_ev rq (0, [(3, 1)]) = r 3 := zu_f1 v3
  have g3 : zq_ev rq (0, [(4, 1)]) = r 4 := zu_f1 v4
  exact ⟨_, List.mem_cons_self .., rq, hr, zq_MeS_mk rfl hT (zq_all_nil) zq_fan (zq_fan) rfl (zu_fac ((x_EN _ _ _).mpr (by show zu_EN (zq_ev rq (0, [(2, 1)])) (zq_ev rq (0, [(1, 1)])) (zq_ev rq (0, [(3, 1)])) (zq_ev rq (0, [(4, 1)])) P h; simp only [g0, g1, g2, g3]; exact t1)) zq_fan)⟩
noncomputable def zu_rX1b : zq_S × List zq_S := (([], [], [(-123, [(5, 1)]), (127, [(5, -1)]), (-1, [(1, 1), (4, -1)]), (400, [(1, -1)])], [], [((0, [(0, 1)]), (0, [(4, 1)]), (0, [(5, 1)]))], [], [(22, [(0, [(0, 1)]), (0, [(1, 1)]), (0, [(2, 1)])]), (121, [(0, [(2, 1)]), (0, [(1, 1)]), (0, [(3, 1)]), (0, [(4, 1)]), (1, [])])], 6), [([], [], [], [], [], [], [(122, [(0, [(2, 1)]), (0, [(1, 1)]), (0, [(3, 1)]), (0, [(4, 1)])])], 6)])
theorem zu_rX1b_l {P : zq_Ty} {h : zq_H} {tp n g k j b : Int} (a1 : 0 ≤ b - 123) (a2 : 0 ≤ -b + 127) (a3 : 0 ≤ n - j - 1) (a4 : 0 ≤ -n + 400) (s1 : 0 ≤ tp ∧ P (tp).toNat ≠ none ∧ h (tp).toNat j = b) (k1 : zu_TCr tp n g P h) (k2 : zu_RNS g n k j 1 P h) : (zu_EN g n k j P h) := by
  have z1 := k2.1
  have z2 := k2.2.1
  have d := zu_dgr k1 (j := j) (by omega) (by omega) s1.2.2 (by omega) (by omega)
  refine ⟨zu_rn_nx k2 (by omega) (by omega) (fun w => ?_), k2.1, k2.2.1, k2.2.2.1⟩
  have w := w.2
  rw [d] at w
  rcases zu_kd_cases (b) with ⟨q1, q2⟩ | ⟨q1, q2, q3⟩ | ⟨q1, q2, q3⟩ | ⟨q1, q2, q3, q4⟩ <;> omega
theorem zu_rX1b_ok {w : zq_Wd} (x_TCr : zj_is w 22 (fun q => zu_TCr (q 0) (q 1) (q 2))) (x_RNS : zj_is w 121 (fun q => zu_RNS (q 0) (q 1) (q 2) (q 3) (q 4))) (x_EN : zj_is w 122 (fun q => zu_EN (q 0) (q 1) (q 2) (q 3))) : zq_okG1 w zu_rX1b := by
  refine ⟨rfl, rfl, zu_fac ⟨rfl, by decide⟩ zq_fan, ?_⟩
  intro r P h H hM
  have q0 : zq_ev r (-123, [(5, 1)]) = r 5 - 123 := zu_e3 _ _ _
  have q1 : zq_ev r (127, [(5, -1)]) = -r 5 + 127 := zu_e5 _ _ _
  have q2 : zq_ev r (-1, [(1, 1), (4, -1)]) = r 1 - r 4 - 1 := by simp only [zq_ev, zq_ts] <;> omega
  have q3 : zq_ev r (400, [(1, -1)]) = -r 1 + 400 := zu_e5 _ _ _
  have q4 : zq_ev r (0, [(0, 1)]) = r 0 := zu_e1 _ _
  have q5 : zq_ev r (0, [(4, 1)]) = r 4 := zu_e1 _ _
  have q6 : zq_ev r (0, [(5, 1)]) = r 5 := zu_e1 _ _
  have q7 : zq_ev r (0, [(1, 1)]) = r 1 := zu_e1 _ _
  have q8 : zq_ev r (0, [(2, 1)]) = r 2 := zu_e1 _ _
  have q9 : zq_ev r (0, [(3, 1)]) = r 3 := zu_e1 _ _
  have q10 : zq_ev r (1, []) = 1 := zu_e0 _ _
  obtain ⟨hT, hC, hF, hS, -, hK⟩ := hM
  have c := hC.1
  have a1 := zq_all_1 c
  rw [q0] at a1
  have c := zq_all_t c
  have a2 := zq_all_1 c
  rw [q1] at a2
  have c := zq_all_t c
  have a3 := zq_all_1 c
  rw [q2] at a3
  have c := zq_all_t c
  have a4 := zq_all_1 c
  rw [q3] at a4
  have s1 := zq_okS_1 (hS)
  simp only [q4, q5, q6] at s1
  have k1 : zu_TCr (zq_ev r (0, [(0, 1)])) (zq_ev r (0, [(1, 1)])) (zq_ev r (0, [(2, 1)])) P h := zj_use x_TCr (hK)
  simp only [q4, q7, q8] at k1
  have k2 : zu_RNS (zq_ev r (0, [(2, 1)])) (zq_ev r (0, [(1, 1)])) (zq_ev r (0, [(3, 1)])) (zq_ev r (0, [(4, 1)])) (zq_ev r (1, [])) P h := zj_use x_RNS (zq_okX_t (hK))
  simp only [q10, q5, q7, q8, q9] at k2
  obtain t1 := zu_rX1b_l (P := P) (h := h) (tp := r 0) (n := r 1) (g := r 2) (k := r 3) (j := r 4) (b := r 5) a1 a2 a3 a4 s1 k1 k2
  obtain ⟨rq, hr⟩ : ∃ rq : Nat → Int, (∀ i, i < 6 → rq i = r i) := ⟨r, fun i hi => rfl⟩
  have v1 : rq 1 = r 1 := hr 1 (by decide)
  have v2 : rq 2 = r 2 := hr 2 (by decide)
  have v3 : rq 3 = r 3 := hr 3 (by decide)
  have v4 : rq 4 = r 4 := hr 4 (by decide)
  have g0 : zq_ev rq (0, [(2, 1)]) = r 2 := zu_f1 v2
  have g1 : zq_ev rq (0, [(1, 1)]) = r 1 := zu_f1 v1
  have g2 : zq_ev rq (0, [(3, 1)]) = r 3 := zu_f1 v3
  have g3 : zq_ev rq (0, [(4, 1)]) = r 4 := zu_f1 v4
  exact ⟨_, List.mem_cons_self .., rq, hr, zq_MeS_mk rfl hT (zq_all_nil) zq_fan (zq_fan) rfl (zu_fac ((x_EN _ _ _).mpr (by show zu_EN (zq_ev rq (0, [(2, 1)])) (zq_ev rq (0, [(1, 1)])) (zq_ev rq (0, [(3, 1)])) (zq_ev rq (0, [(4, 1)])) P h; simp only [g0, g1, g2, g3]; exact t1)) zq_fan)⟩
noncomputable def zu_r02 : zq_S × List zq_S := (([], [], [(-48, [(4, 1)]), (57, [(4, -1)]), (0, [(3, 1)]), (-1, [(1, 1), (3, -1)])], [], [((0, [(0, 1)]), (0, [(3, 1)]), (0, [(4, 1)]))], [], [(22, [(0, [(0, 1)]), (0, [(1, 1)]), (0, [(2, 1)])])], 5), [([], [], [], [], [], [], [(121, [(0, [(2, 1)]), (0, [(1, 1)]), (0, [(3, 1)]), (1, [(3, 1)]), (2, [])])], 5)])
theorem zu_r02_l {P : zq_Ty} {h : zq_H} {tp n g k b : Int} (a1 : 0 ≤ b - 48) (a2 : 0 ≤ -b + 57) (a3 : 0 ≤ k) (a4 : 0 ≤ n - k - 1) (s1 : 0 ≤ tp ∧ P (tp).toNat ≠ none ∧ h (tp).toNat k = b) (k1 : zu_TCr tp n g P h) : (zu_RNS g n k (k + 1) 2 P h) := by
  have d := zu_dgr k1 (j := k) (by omega) (by omega) s1.2.2 (by omega) (by omega)
  refine ⟨by omega, by omega, by omega, fun i x y => ?_⟩
  have e : i = k := by omega
  rw [e, d]
  exact zu_kd2 (by omega) (by omega)
theorem zu_r02_ok {w : zq_Wd} (x_TCr : zj_is w 22 (fun q => zu_TCr (q 0) (q 1) (q 2))) (x_RNS : zj_is w 121 (fun q => zu_RNS (q 0) (q 1) (q 2) (q 3) (q 4))) : zq_okG1 w zu_r02 := by
  refine ⟨rfl, rfl, zu_fac ⟨rfl, by decide⟩ zq_fan, ?_⟩
  intro r P h H hM
  have q0 : zq_ev r (-48, [(4, 1)]) = r 4 - 48 := zu_e3 _ _ _
  have q1 : zq_ev r (57, [(4, -1)]) = -r 4 + 57 := zu_e5 _ _ _
  have q2 : zq_ev r (0, [(3, 1)]) = r 3 := zu_e1 _ _
  have q3 : zq_ev r (-1, [(1, 1), (3, -1)]) = r 1 - r 3 - 1 := by simp only [zq_ev, zq_ts] <;> omega
  have q4 : zq_ev r (0, [(0, 1)]) = r 0 := zu_e1 _ _
  have q5 : zq_ev r (0, [(4, 1)]) = r 4 := zu_e1 _ _
  have q6 : zq_ev r (0, [(1, 1)]) = r 1 := zu_e1 _ _
  have q7 : zq_ev r (0, [(2, 1)]) = r 2 := zu_e1 _ _
  obtain ⟨hT, hC, hF, hS, -, hK⟩ := hM
  have c := hC.1
  have a1 := zq_all_1 c
  rw [q0] at a1
  have c := zq_all_t c
  have a2 := zq_all_1 c
  rw [q1] at a2
  have c := zq_all_t c
  have a3 := zq_all_1 c
  rw [q2] at a3
  have c := zq_all_t c
  have a4 := zq_all_1 c
  rw [q3] at a4
  have s1 := zq_okS_1 (hS)
  simp only [q2, q4, q5] at s1
  have k1 : zu_TCr (zq_ev r (0, [(0, 1)])) (zq_ev r (0, [(1, 1)])) (zq_ev r (0, [(2, 1)])) P h := zj_use x_TCr (hK)
  simp only [q4, q6, q7] at k1
  obtain t1 := zu_r02_l (P := P) (h := h) (tp := r 0) (n := r 1) (g := r 2) (k := r 3) (b := r 4) a1 a2 a3 a4 s1 k1
  obtain ⟨rq, hr⟩ : ∃ rq : Nat → Int, (∀ i, i < 5 → rq i = r i) := ⟨r, fun i hi => rfl⟩
  have v1 : rq 1 = r 1 := hr 1 (by decide)
  have v2 : rq 2 = r 2 := hr 2 (by decide)
  have v3 : rq 3 = r 3 := hr 3 (by decide)
  have g0 : zq_ev rq (0, [(2, 1)]) = r 2 := zu_f1 v2
  have g1 : zq_ev rq (0, [(1, 1)]) = r 1 := zu_f1 v1
  have g2 : zq_ev rq (0, [(3, 1)]) = r 3 := zu_f1 v3
  have g3 : zq_ev rq (1, [(3, 1)]) = r 3 + 1 := zu_f2 v3 _
  have g4 : zq_ev rq (2, []) = 2 := zu_e0 _ _
  exact ⟨_, List.mem_cons_self .., rq, hr, zq_MeS_mk rfl hT (zq_all_nil) zq_fan (zq_fan) rfl (zu_fac ((x_RNS _ _ _).mpr (by show zu_RNS (zq_ev rq (0, [(2, 1)])) (zq_ev rq (0, [(1, 1)])) (zq_ev rq (0, [(3, 1)])) (zq_ev rq (1, [(3, 1)])) (zq_ev rq (2, [])) P h; simp only [g0, g1, g2, g3, g4]; exact t1)) zq_fan)⟩
noncomputable def zu_r12 : zq_S × List zq_S := (([], [], [(-48, [(5, 1)]), (57, [(5, -1)]), (-1, [(1, 1), (4, -1)])], [], [((0, [(0, 1)]), (0, [(4, 1)]), (0, [(5, 1)]))], [], [(22, [(0, [(0, 1)]), (0, [(1, 1)]), (0, [(2, 1)])]), (121, [(0, [(2, 1)]), (0, [(1, 1)]), (0, [(3, 1)]), (0, [(4, 1)]), (2, [])])], 6), [([], [], [], [], [], [], [(121, [(0, [(2, 1)]), (0, [(1, 1)]), (0, [(3, 1)]), (1, [(4, 1)]), (2, [])])], 6)])
theorem zu_r12_l {P : zq_Ty} {h : zq_H} {tp n g k j b : Int} (a1 : 0 ≤ b - 48) (a2 : 0 ≤ -b + 57) (a3 : 0 ≤ n - j - 1) (s1 : 0 ≤ tp ∧ P (tp).toNat ≠ none ∧ h (tp).toNat j = b) (k1 : zu_TCr tp n g P h) (k2 : zu_RNS g n k j 2 P h) : (zu_RNS g n k (j + 1) 2 P h) := by
  obtain ⟨z1, z2, z3, z4⟩ := k2
  have d := zu_dgr k1 (j := j) (by omega) (by omega) s1.2.2 (by omega) (by omega)
  refine ⟨z1, by omega, by omega, fun i x y => ?_⟩
  by_cases hi : i < j
  · exact z4 i x hi
  · have e : i = j := by omega
    rw [e, d]
    exact zu_kd2 (by omega) (by omega)
theorem zu_r12_ok {w : zq_Wd} (x_TCr : zj_is w 22 (fun q => zu_TCr (q 0) (q 1) (q 2))) (x_RNS : zj_is w 121 (fun q => zu_RNS (q 0) (q 1) (q 2) (q 3) (q 4))) : zq_okG1 w zu_r12 := by
  refine ⟨rfl, rfl, zu_fac ⟨rfl, by decide⟩ zq_fan, ?_⟩
  intro r P h H hM
  have q0 : zq_ev r (-48, [(5, 1)]) = r 5 - 48 := zu_e3 _ _ _
  have q1 : zq_ev r (57, [(5, -1)]) = -r 5 + 57 := zu_e5 _ _ _
  have q2 : zq_ev r (-1, [(1, 1), (4, -1)]) = r 1 - r 4 - 1 := by simp only [zq_ev, zq_ts] <;> omega
  have q3 : zq_ev r (0, [(0, 1)]) = r 0 := zu_e1 _ _
  have q4 : zq_ev r (0, [(4, 1)]) = r 4 := zu_e1 _ _
  have q5 : zq_ev r (0, [(5, 1)]) = r 5 := zu_e1 _ _
  have q6 : zq_ev r (0, [(1, 1)]) = r 1 := zu_e1 _ _
  have q7 : zq_ev r (0, [(2, 1)]) = r 2 := zu_e1 _ _
  have q8 : zq_ev r (0, [(3, 1)]) = r 3 := zu_e1 _ _
  have q9 : zq_ev r (2, []) = 2 := zu_e0 _ _
  obtain ⟨hT, hC, hF, hS, -, hK⟩ := hM
  have c := hC.1
  have a1 := zq_all_1 c
  rw [q0] at a1
  have c := zq_all_t c
  have a2 := zq_all_1 c
  rw [q1] at a2
  have c := zq_all_t c
  have a3 := zq_all_1 c
  rw [q2] at a3
  have s1 := zq_okS_1 (hS)
  simp only [q3, q4, q5] at s1
  have k1 : zu_TCr (zq_ev r (0, [(0, 1)])) (zq_ev r (0, [(1, 1)])) (zq_ev r (0, [(2, 1)])) P h := zj_use x_TCr (hK)
  simp only [q3, q6, q7] at k1
  have k2 : zu_RNS (zq_ev r (0, [(2, 1)])) (zq_ev r (0, [(1, 1)])) (zq_ev r (0, [(3, 1)])) (zq_ev r (0, [(4, 1)])) (zq_ev r (2, [])) P h := zj_use x_RNS (zq_okX_t (hK))
  simp only [q4, q6, q7, q8, q9] at k2
  obtain t1 := zu_r12_l (P := P) (h := h) (tp := r 0) (n := r 1) (g := r 2) (k := r 3) (j := r 4) (b := r 5) a1 a2 a3 s1 k1 k2
  obtain ⟨rq, hr⟩ : ∃ rq : Nat → Int, (∀ i, i < 6 → rq i = r i) := ⟨r, fun i hi => rfl⟩
  have v1 : rq 1 = r 1 := hr 1 (by decide)
  have v2 : rq 2 = r 2 := hr 2 (by decide)
  have v3 : rq 3 = r 3 := hr 3 (by decide)
  have v4 : rq 4 = r 4 := hr 4 (by decide)
  have g0 : zq_ev rq (0, [(2, 1)]) = r 2 := zu_f1 v2
  have g1 : zq_ev rq (0, [(1, 1)]) = r 1 := zu_f1 v1
  have g2 : zq_ev rq (0, [(3, 1)]) = r 3 := zu_f1 v3
  have g3 : zq_ev rq (1, [(4, 1)]) = r 4 + 1 := zu_f2 v4 _
  have g4 : zq_ev rq (2, []) = 2 := zu_e0 _ _
  exact ⟨_, List.mem_cons_self .., rq, hr, zq_MeS_mk rfl hT (zq_all_nil) zq_fan (zq_fan) rfl (zu_fac ((x_RNS _ _ _).mpr (by show zu_RNS (zq_ev rq (0, [(2, 1)])) (zq_ev rq (0, [(1, 1)])) (zq_ev rq (0, [(3, 1)])) (zq_ev rq (1, [(4, 1)])) (zq_ev rq (2, [])) P h; simp only [g0, g1, g2, g3, g4]; exact t1)) zq_fan)⟩
noncomputable def zu_rZ2 : zq_S × List zq_S := (([], [], [(0, [(0, -1), (3, 1)]), (400, [(0, -1)])], [], [], [], [(121, [(0, [(1, 1)]), (0, [(0, 1)]), (0, [(2, 1)]), (0, [(3, 1)]), (2, [])])], 4), [([], [], [], [], [], [], [(122, [(0, [(1, 1)]), (0, [(0, 1)]), (0, [(2, 1)]), (0, [(3, 1)])])], 4)])
theorem zu_rZ2_l {P : zq_Ty} {h : zq_H} {n g k j : Int} (a1 : 0 ≤ -n + j) (a2 : 0 ≤ -n + 400) (k1 : zu_RNS g n k j 2 P h) : (zu_EN g n k j P h) := by
  exact ⟨zu_rn_nx k1 (by omega) (by omega) (fun w => by have := w.1; omega), k1.1, k1.2.1, k1.2.2.1⟩
theorem zu_rZ2_ok {w : zq_Wd} (x_RNS : zj_is w 121 (fun q => zu_RNS (q 0) (q 1) (q 2) (q 3) (q 4))) (x_EN : zj_is w 122 (fun q => zu_EN (q 0) (q 1) (q 2) (q 3))) : zq_okG1 w zu_rZ2 := by
  refine ⟨rfl, rfl, zu_fac ⟨rfl, by decide⟩ zq_fan, ?_⟩
  intro r P h H hM
  have q0 : zq_ev r (0, [(0, -1), (3, 1)]) = -r 0 + r 3 := by simp only [zq_ev, zq_ts] <;> omega
  have q1 : zq_ev r (400, [(0, -1)]) = -r 0 + 400 := zu_e5 _ _ _
  have q2 : zq_ev r (0, [(1, 1)]) = r 1 := zu_e1 _ _
  have q3 : zq_ev r (0, [(0, 1)]) = r 0 := zu_e1 _ _
  have q4 : zq_ev r (0, [(2, 1)]) = r 2 := zu_e1 _ _
  have q5 : zq_ev r (0, [(3, 1)]) = r 3 := zu_e1 _ _
  have q6 : zq_ev r (2, []) = 2 := zu_e0 _ _
  obtain ⟨hT, hC, hF, hS, -, hK⟩ := hM
  have c := hC.1
  have a1 := zq_all_1 c
  rw [q0] at a1
  have c := zq_all_t c
  have a2 := zq_all_1 c
  rw [q1] at a2
  have k1 : zu_RNS (zq_ev r (0, [(1, 1)])) (zq_ev r (0, [(0, 1)])) (zq_ev r (0, [(2, 1)])) (zq_ev r (0, [(3, 1)])) (zq_ev r (2, [])) P h := zj_use x_RNS (hK)
  simp only [q2, q3, q4, q5, q6] at k1
  obtain t1 := zu_rZ2_l (P := P) (h := h) (n := r 0) (g := r 1) (k := r 2) (j := r 3) a1 a2 k1
  obtain ⟨rq, hr⟩ : ∃ rq : Nat → Int, (∀ i, i < 4 → rq i = r i) := ⟨r, fun i hi => rfl⟩
  have v0 : rq 0 = r 0 := hr 0 (by decide)
  have v1 : rq 1 = r 1 := hr 1 (by decide)
  have v2 : rq 2 = r 2 := hr 2 (by decide)
  have v3 : rq 3 = r 3 := hr 3 (by decide)
  have g0 : zq_ev rq (0, [(1, 1)]) = r 1 := zu_f1 v1
  have g1 : zq_ev rq (0, [(0, 1)]) = r 0 := zu_f1 v0
  have g2 : zq_ev rq (0, [(2, 1)]) = r 2 := zu_f1 v2
  have g3 : zq_ev rq (0, [(3, 1)]) = r 3 := zu_f1 v3
  exact ⟨_, List.mem_cons_self .., rq, hr, zq_MeS_mk rfl hT (zq_all_nil) zq_fan (zq_fan) rfl (zu_fac ((x_EN _ _ _).mpr (by show zu_EN (zq_ev rq (0, [(1, 1)])) (zq_ev rq (0, [(0, 1)])) (zq_ev rq (0, [(2, 1)])) (zq_ev rq (0, [(3, 1)])) P h; simp only [g0, g1, g2, g3]; exact t1)) zq_fan)⟩
noncomputable def zu_rX2n : zq_S × List zq_S := (([], [], [(128, [(5, 1)]), (-1, [(5, -1)]), (-1, [(1, 1), (4, -1)]), (400, [(1, -1)])], [], [((0, [(0, 1)]), (0, [(4, 1)]), (0, [(5, 1)]))], [], [(22, [(0, [(0, 1)]), (0, [(1, 1)]), (0, [(2, 1)])]), (121, [(0, [(2, 1)]), (0, [(1, 1)]), (0, [(3, 1)]), (0, [(4, 1)]), (2, [])])], 6), [([], [], [], [], [], [], [(122, [(0, [(2, 1)]), (0, [(1, 1)]), (0, [(3, 1)]), (0, [(4, 1)])])], 6)])
theorem zu_rX2n_l {P : zq_Ty} {h : zq_H} {tp n g k j b : Int} (a1 : 0 ≤ b + 128) (a2 : 0 ≤ -b - 1) (a3 : 0 ≤ n - j - 1) (a4 : 0 ≤ -n + 400) (s1 : 0 ≤ tp ∧ P (tp).toNat ≠ none ∧ h (tp).toNat j = b) (k1 : zu_TCr tp n g P h) (k2 : zu_RNS g n k j 2 P h) : (zu_EN g n k j P h) := by
  have z1 := k2.1
  have z2 := k2.2.1
  have d := zu_dgn k1 (j := j) (by omega) (by omega) s1.2.2 (by omega) (by omega)
  refine ⟨zu_rn_nx k2 (by omega) (by omega) (fun w => ?_), k2.1, k2.2.1, k2.2.2.1⟩
  have w := w.2
  rw [d] at w
  rcases zu_kd_cases (b + 256) with ⟨q1, q2⟩ | ⟨q1, q2, q3⟩ | ⟨q1, q2, q3⟩ | ⟨q1, q2, q3, q4⟩ <;> omega
theorem zu_rX2n_ok {w : zq_Wd} (x_TCr : zj_is w 22 (fun q => zu_TCr (q 0) (q 1) (q 2))) (x_RNS : zj_is w 121 (fun q => zu_RNS (q 0) (q 1) (q 2) (q 3) (q 4))) (x_EN : zj_is w 122 (fun q => zu_EN (q 0) (q 1) (q 2) (q 3))) : zq_okG1 w zu_rX2n := by
  refine ⟨rfl, rfl, zu_fac ⟨rfl, by decide⟩ zq_fan, ?_⟩
  intro r P h H hM
  have q0 : zq_ev r (128, [(5, 1)]) = r 5 + 128 := zu_e2 _ _ _
  have q1 : zq_ev r (-1, [(5, -1)]) = -r 5 - 1 := zu_e6 _ _ _
  have q2 : zq_ev r (-1, [(1, 1), (4, -1)]) = r 1 - r 4 - 1 := by simp only [zq_ev, zq_ts] <;> omega
  have q3 : zq_ev r (400, [(1, -1)]) = -r 1 + 400 := zu_e5 _ _ _
  have q4 : zq_ev r (0, [(0, 1)]) = r 0 := zu_e1 _ _
  have q5 : zq_ev r (0, [(4, 1)]) = r 4 := zu_e1 _ _
  have q6 : zq_ev r (0, [(5, 1)]) = r 5 := zu_e1 _ _
  have q7 : zq_ev r (0, [(1, 1)]) = r 1 := zu_e1 _ _
  have q8 : zq_ev r (0, [(2, 1)]) = r 2 := zu_e1 _ _
  have q9 : zq_ev r (0, [(3, 1)]) = r 3 := zu_e1 _ _
  have q10 : zq_ev r (2, []) = 2 := zu_e0 _ _
  obtain ⟨hT, hC, hF, hS, -, hK⟩ := hM
  have c := hC.1
  have a1 := zq_all_1 c
  rw [q0] at a1
  have c := zq_all_t c
  have a2 := zq_all_1 c
  rw [q1] at a2
  have c := zq_all_t c
  have a3 := zq_all_1 c
  rw [q2] at a3
  have c := zq_all_t c
  have a4 := zq_all_1 c
  rw [q3] at a4
  have s1 := zq_okS_1 (hS)
  simp only [q4, q5, q6] at s1
  have k1 : zu_TCr (zq_ev r (0, [(0, 1)])) (zq_ev r (0, [(1, 1)])) (zq_ev r (0, [(2, 1)])) P h := zj_use x_TCr (hK)
  simp only [q4, q7, q8] at k1
  have k2 : zu_RNS (zq_ev r (0, [(2, 1)])) (zq_ev r (0, [(1, 1)])) (zq_ev r (0, [(3, 1)])) (zq_ev r (0, [(4, 1)])) (zq_ev r (2, [])) P h := zj_use x_RNS (zq_okX_t (hK))
  simp only [q10, q5, q7, q8, q9] at k2
  obtain t1 := zu_rX2n_l (P := P) (h := h) (tp := r 0) (n := r 1) (g := r 2) (k := r 3) (j := r 4) (b := r 5) a1 a2 a3 a4 s1 k1 k2
  obtain ⟨rq, hr⟩ : ∃ rq : Nat → Int, (∀ i, i < 6 → rq i = r i) := ⟨r, fun i hi => rfl⟩
  have v1 : rq 1 = r 1 := hr 1 (by decide)
  have v2 : rq 2 = r 2 := hr 2 (by decide)
  have v3 : rq 3 = r 3 := hr 3 (by decide)
  have v4 : rq 4 = r 4 := hr 4 (by decide)
  have g0 : zq_ev rq (0, [(2, 1)]) = r 2 := zu_f1 v2
  have g1 : zq_ev rq (0, [(1, 1)]) = r 1 := zu_f1 v1
  have g2 : zq_ev rq (0, [(3, 1)]) = r 3 := zu_f1 v3
  have g3 : zq_ev rq (0, [(4, 1)]) = r 4 := zu_f1 v4
  exact ⟨_, List.mem_cons_self .., rq, hr, zq_MeS_mk rfl hT (zq_all_nil) zq_fan (zq_fan) rfl (zu_fac ((x_EN _ _ _).mpr (by show zu_EN (zq_ev rq (0, [(2, 1)])) (zq_ev rq (0, [(1, 1)])) (zq_ev rq (0, [(3, 1)])) (zq_ev rq (0, [(4, 1)])) P h; simp only [g0, g1, g2, g3]; exact t1)) zq_fan)⟩
noncomputable def zu_rX2a : zq_S × List zq_S := (([], [], [(0, [(5, 1)]), (47, [(5, -1)]), (-1, [(1, 1), (4, -1)]), (400, [(1, -1)])], [], [((0, [(0, 1)]), (0, [(4, 1)]), (0, [(5, 1)]))], [], [(22, [(0, [(0, 1)]), (0, [(1, 1)]), (0, [(2, 1)])]), (121, [(0, [(2, 1)]), (0, [(1, 1)]), (0, [(3, 1)]), (0, [(4, 1)]), (2, [])])], 6), [([], [], [], [], [], [], [(122, [(0, [(2, 1)]), (0, [(1, 1)]), (0, [(3, 1)]), (0, [(4, 1)])])], 6)])
theorem zu_rX2a_l {P : zq_Ty} {h : zq_H} {tp n g k j b : Int} (a1 : 0 ≤ b) (a2 : 0 ≤ -b + 47) (a3 : 0 ≤ n - j - 1) (a4 : 0 ≤ -n + 400) (s1 : 0 ≤ tp ∧ P (tp).toNat ≠ none ∧ h (tp).toNat j = b) (k1 : zu_TCr tp n g P h) (k2 : zu_RNS g n k j 2 P h) : (zu_EN g n k j P h) := by
  have z1 := k2.1
  have z2 := k2.2.1
  have d := zu_dgr k1 (j := j) (by omega) (by omega) s1.2.2 (by omega) (by omega)
  refine ⟨zu_rn_nx k2 (by omega) (by omega) (fun w => ?_), k2.1, k2.2.1, k2.2.2.1⟩
  have w := w.2
  rw [d] at w
  rcases zu_kd_cases (b) with ⟨q1, q2⟩ | ⟨q1, q2, q3⟩ | ⟨q1, q2, q3⟩ | ⟨q1, q2, q3, q4⟩ <;> omega
theorem zu_rX2a_ok {w : zq_Wd} (x_TCr : zj_is w 22 (fun q => zu_TCr (q 0) (q 1) (q 2))) (x_RNS : zj_is w 121 (fun q => zu_RNS (q 0) (q 1) (q 2) (q 3) (q 4))) (x_EN : zj_is w 122 (fun q => zu_EN (q 0) (q 1) (q 2) (q 3))) : zq_okG1 w zu_rX2a := by
  refine ⟨rfl, rfl, zu_fac ⟨rfl, by decide⟩ zq_fan, ?_⟩
  intro r P h H hM
  have q0 : zq_ev r (0, [(5, 1)]) = r 5 := zu_e1 _ _
  have q1 : zq_ev r (47, [(5, -1)]) = -r 5 + 47 := zu_e5 _ _ _
  have q2 : zq_ev r (-1, [(1, 1), (4, -1)]) = r 1 - r 4 - 1 := by simp only [zq_ev, zq_ts] <;> omega
  have q3 : zq_ev r (400, [(1, -1)]) = -r 1 + 400 := zu_e5 _ _ _
  have q4 : zq_ev r (0, [(0, 1)]) = r 0 := zu_e1 _ _
  have q5 : zq_ev r (0, [(4, 1)]) = r 4 := zu_e1 _ _
  have q6 : zq_ev r (0, [(1, 1)]) = r 1 := zu_e1 _ _
  have q7 : zq_ev r (0, [(2, 1)]) = r 2 := zu_e1 _ _
  have q8 : zq_ev r (0, [(3, 1)]) = r 3 := zu_e1 _ _
  have q9 : zq_ev r (2, []) = 2 := zu_e0 _ _
  obtain ⟨hT, hC, hF, hS, -, hK⟩ := hM
  have c := hC.1
  have a1 := zq_all_1 c
  rw [q0] at a1
  have c := zq_all_t c
  have a2 := zq_all_1 c
  rw [q1] at a2
  have c := zq_all_t c
  have a3 := zq_all_1 c
  rw [q2] at a3
  have c := zq_all_t c
  have a4 := zq_all_1 c
  rw [q3] at a4
  have s1 := zq_okS_1 (hS)
  simp only [q0, q4, q5] at s1
  have k1 : zu_TCr (zq_ev r (0, [(0, 1)])) (zq_ev r (0, [(1, 1)])) (zq_ev r (0, [(2, 1)])) P h := zj_use x_TCr (hK)
  simp only [q4, q6, q7] at k1
  have k2 : zu_RNS (zq_ev r (0, [(2, 1)])) (zq_ev r (0, [(1, 1)])) (zq_ev r (0, [(3, 1)])) (zq_ev r (0, [(4, 1)])) (zq_ev r (2, [])) P h := zj_use x_RNS (zq_okX_t (hK))
  simp only [q5, q6, q7, q8, q9] at k2
  obtain t1 := zu_rX2a_l (P := P) (h := h) (tp := r 0) (n := r 1) (g := r 2) (k := r 3) (j := r 4) (b := r 5) a1 a2 a3 a4 s1 k1 k2
  obtain ⟨rq, hr⟩ : ∃ rq : Nat → Int, (∀ i, i < 6 → rq i = r i) := ⟨r, fun i hi => rfl⟩
  have v1 : rq 1 = r 1 := hr 1 (by decide)
  have v2 : rq 2 = r 2 := hr 2 (by decide)
  have v3 : rq 3 = r 3 := hr 3 (by decide)
  have v4 : rq 4 = r 4 := hr 4 (by decide)
  have g0 : zq_ev rq (0, [(2, 1)]) = r 2 := zu_f1 v2
  have g1 : zq_ev rq (0, [(1, 1)]) = r 1 := zu_f1 v1
  have g2 : zq_ev rq (0, [(3, 1)]) = r 3 := zu_f1 v3
  have g3 : zq_ev rq (0, [(4, 1)]) = r 4 := zu_f1 v4
  exact ⟨_, List.mem_cons_self .., rq, hr, zq_MeS_mk rfl hT (zq_all_nil) zq_fan (zq_fan) rfl (zu_fac ((x_EN _ _ _).mpr (by show zu_EN (zq_ev rq (0, [(2, 1)])) (zq_ev rq (0, [(1, 1)])) (zq_ev rq (0, [(3, 1)])) (zq_ev rq (0, [(4, 1)])) P h; simp only [g0, g1, g2, g3]; exact t1)) zq_fan)⟩
noncomputable def zu_rX2b : zq_S × List zq_S := (([], [], [(-58, [(5, 1)]), (127, [(5, -1)]), (-1, [(1, 1), (4, -1)]), (400, [(1, -1)])], [], [((0, [(0, 1)]), (0, [(4, 1)]), (0, [(5, 1)]))], [], [(22, [(0, [(0, 1)]), (0, [(1, 1)]), (0, [(2, 1)])]), (121, [(0, [(2, 1)]), (0, [(1, 1)]), (0, [(3, 1)]), (0, [(4, 1)]), (2, [])])], 6), [([], [], [], [], [], [], [(122, [(0, [(2, 1)]), (0, [(1, 1)]), (0, [(3, 1)]), (0, [(4, 1)])])], 6)])
theorem zu_rX2b_l {P : zq_Ty} {h : zq_H} {tp n g k j b : Int} (a1 : 0 ≤ b - 58) (a2 : 0 ≤ -b + 127) (a3 : 0 ≤ n - j - 1) (a4 : 0 ≤ -n + 400) (s1 : 0 ≤ tp ∧ P (tp).toNat ≠ none ∧ h (tp).toNat j = b) (k1 : zu_TCr tp n g P h) (k2 : zu_RNS g n k j 2 P h) : (zu_EN g n k j P h) := by
  have z1 := k2.1
  have z2 := k2.2.1
  have d := zu_dgr k1 (j := j) (by omega) (by omega) s1.2.2 (by omega) (by omega)
  refine ⟨zu_rn_nx k2 (by omega) (by omega) (fun w => ?_), k2.1, k2.2.1, k2.2.2.1⟩
  have w := w.2
  rw [d] at w
  rcases zu_kd_cases (b) with ⟨q1, q2⟩ | ⟨q1, q2, q3⟩ | ⟨q1, q2, q3⟩ | ⟨q1, q2, q3, q4⟩ <;> omega
theorem zu_rX2b_ok {w : zq_Wd} (x_TCr : zj_is w 22 (fun q => zu_TCr (q 0) (q 1) (q 2))) (x_RNS : zj_is w 121 (fun q => zu_RNS (q 0) (q 1) (q 2) (q 3) (q 4))) (x_EN : zj_is w 122 (fun q => zu_EN (q 0) (q 1) (q 2) (q 3))) : zq_okG1 w zu_rX2b := by
  refine ⟨rfl, rfl, zu_fac ⟨rfl, by decide⟩ zq_fan, ?_⟩
  intro r P h H hM
  have q0 : zq_ev r (-58, [(5, 1)]) = r 5 - 58 := zu_e3 _ _ _
  have q1 : zq_ev r (127, [(5, -1)]) = -r 5 + 127 := zu_e5 _ _ _
  have q2 : zq_ev r (-1, [(1, 1), (4, -1)]) = r 1 - r 4 - 1 := by simp only [zq_ev, zq_ts] <;> omega
  have q3 : zq_ev r (400, [(1, -1)]) = -r 1 + 400 := zu_e5 _ _ _
  have q4 : zq_ev r (0, [(0, 1)]) = r 0 := zu_e1 _ _
  have q5 : zq_ev r (0, [(4, 1)]) = r 4 := zu_e1 _ _
  have q6 : zq_ev r (0, [(5, 1)]) = r 5 := zu_e1 _ _
  have q7 : zq_ev r (0, [(1, 1)]) = r 1 := zu_e1 _ _
  have q8 : zq_ev r (0, [(2, 1)]) = r 2 := zu_e1 _ _
  have q9 : zq_ev r (0, [(3, 1)]) = r 3 := zu_e1 _ _
  have q10 : zq_ev r (2, []) = 2 := zu_e0 _ _
  obtain ⟨hT, hC, hF, hS, -, hK⟩ := hM
  have c := hC.1
  have a1 := zq_all_1 c
  rw [q0] at a1
  have c := zq_all_t c
  have a2 := zq_all_1 c
  rw [q1] at a2
  have c := zq_all_t c
  have a3 := zq_all_1 c
  rw [q2] at a3
  have c := zq_all_t c
  have a4 := zq_all_1 c
  rw [q3] at a4
  have s1 := zq_okS_1 (hS)
  simp only [q4, q5, q6] at s1
  have k1 : zu_TCr (zq_ev r (0, [(0, 1)])) (zq_ev r (0, [(1, 1)])) (zq_ev r (0, [(2, 1)])) P h := zj_use x_TCr (hK)
  simp only [q4, q7, q8] at k1
  have k2 : zu_RNS (zq_ev r (0, [(2, 1)])) (zq_ev r (0, [(1, 1)])) (zq_ev r (0, [(3, 1)])) (zq_ev r (0, [(4, 1)])) (zq_ev r (2, [])) P h := zj_use x_RNS (zq_okX_t (hK))
  simp only [q10, q5, q7, q8, q9] at k2
  obtain t1 := zu_rX2b_l (P := P) (h := h) (tp := r 0) (n := r 1) (g := r 2) (k := r 3) (j := r 4) (b := r 5) a1 a2 a3 a4 s1 k1 k2
  obtain ⟨rq, hr⟩ : ∃ rq : Nat → Int, (∀ i, i < 6 → rq i = r i) := ⟨r, fun i hi => rfl⟩
  have v1 : rq 1 = r 1 := hr 1 (by decide)
  have v2 : rq 2 = r 2 := hr 2 (by decide)
  have v3 : rq 3 = r 3 := hr 3 (by decide)
  have v4 : rq 4 = r 4 := hr 4 (by decide)
  have g0 : zq_ev rq (0, [(2, 1)]) = r 2 := zu_f1 v2
  have g1 : zq_ev rq (0, [(1, 1)]) = r 1 := zu_f1 v1
  have g2 : zq_ev rq (0, [(3, 1)]) = r 3 := zu_f1 v3
  have g3 : zq_ev rq (0, [(4, 1)]) = r 4 := zu_f1 v4
  exact ⟨_, List.mem_cons_self .., rq, hr, zq_MeS_mk rfl hT (zq_all_nil) zq_fan (zq_fan) rfl (zu_fac ((x_EN _ _ _).mpr (by show zu_EN (zq_ev rq (0, [(2, 1)])) (zq_ev rq (0, [(1, 1)])) (zq_ev rq (0, [(3, 1)])) (zq_ev rq (0, [(4, 1)])) P h; simp only [g0, g1, g2, g3]; exact t1)) zq_fan)⟩
noncomputable def zu_rD : zq_S × List zq_S := (([], [], [(0, [(3, -1), (5, 1)]), (-1, [(4, 1), (5, -1)]), (128, [(6, 1)]), (127, [(6, -1)])], [], [((0, [(0, 1)]), (0, [(5, 1)]), (0, [(6, 1)]))], [], [(22, [(0, [(0, 1)]), (0, [(1, 1)]), (0, [(2, 1)])]), (121, [(0, [(2, 1)]), (0, [(1, 1)]), (0, [(3, 1)]), (0, [(4, 1)]), (2, [])])], 7), [([], [], [(-48, [(6, 1)]), (57, [(6, -1)])], [], [], [], [], 7)])
theorem zu_rD_l {P : zq_Ty} {h : zq_H} {tp n g k j i b : Int} (a1 : 0 ≤ -k + i) (a2 : 0 ≤ j - i - 1) (a3 : 0 ≤ b + 128) (a4 : 0 ≤ -b + 127) (s1 : 0 ≤ tp ∧ P (tp).toNat ≠ none ∧ h (tp).toNat i = b) (k1 : zu_TCr tp n g P h) (k2 : zu_RNS g n k j 2 P h) : (0 ≤ b - 48 ∧ 0 ≤ -b + 57) := by
  obtain ⟨z1, z2, z3, z4⟩ := k2
  have kd := z4 i (by omega) (by omega)
  by_cases hb : b < 0
  · have d := zu_dgn k1 (j := i) (by omega) (by omega) s1.2.2 (by omega) hb
    rw [d] at kd
    rcases zu_kd_cases (b + 256) with ⟨q1, q2⟩ | ⟨q1, q2, q3⟩ | ⟨q1, q2, q3⟩ | ⟨q1, q2, q3, q4⟩ <;> omega
  · have d := zu_dgr k1 (j := i) (by omega) (by omega) s1.2.2 (by omega) (by omega)
    rw [d] at kd
    rcases zu_kd_cases b with ⟨q1, q2⟩ | ⟨q1, q2, q3⟩ | ⟨q1, q2, q3⟩ | ⟨q1, q2, q3, q4⟩ <;> omega
theorem zu_rD_ok {w : zq_Wd} (x_TCr : zj_is w 22 (fun q => zu_TCr (q 0) (q 1) (q 2))) (x_RNS : zj_is w 121 (fun q => zu_RNS (q 0) (q 1) (q 2) (q 3) (q 4))) : zq_okG1 w zu_rD := by
  refine ⟨rfl, rfl, zu_fac ⟨rfl, by decide⟩ zq_fan, ?_⟩
  intro r P h H hM
  have q0 : zq_ev r (0, [(3, -1), (5, 1)]) = -r 3 + r 5 := by simp only [zq_ev, zq_ts] <;> omega
  have q1 : zq_ev r (-1, [(4, 1), (5, -1)]) = r 4 - r 5 - 1 := by simp only [zq_ev, zq_ts] <;> omega
  have q2 : zq_ev r (128, [(6, 1)]) = r 6 + 128 := zu_e2 _ _ _
  have q3 : zq_ev r (127, [(6, -1)]) = -r 6 + 127 := zu_e5 _ _ _
  have q4 : zq_ev r (0, [(0, 1)]) = r 0 := zu_e1 _ _
  have q5 : zq_ev r (0, [(5, 1)]) = r 5 := zu_e1 _ _
  have q6 : zq_ev r (0, [(6, 1)]) = r 6 := zu_e1 _ _
  have q7 : zq_ev r (0, [(1, 1)]) = r 1 := zu_e1 _ _
  have q8 : zq_ev r (0, [(2, 1)]) = r 2 := zu_e1 _ _
  have q9 : zq_ev r (0, [(3, 1)]) = r 3 := zu_e1 _ _
  have q10 : zq_ev r (0, [(4, 1)]) = r 4 := zu_e1 _ _
  have q11 : zq_ev r (2, []) = 2 := zu_e0 _ _
  obtain ⟨hT, hC, hF, hS, -, hK⟩ := hM
  have c := hC.1
  have a1 := zq_all_1 c
  rw [q0] at a1
  have c := zq_all_t c
  have a2 := zq_all_1 c
  rw [q1] at a2
  have c := zq_all_t c
  have a3 := zq_all_1 c
  rw [q2] at a3
  have c := zq_all_t c
  have a4 := zq_all_1 c
  rw [q3] at a4
  have s1 := zq_okS_1 (hS)
  simp only [q4, q5, q6] at s1
  have k1 : zu_TCr (zq_ev r (0, [(0, 1)])) (zq_ev r (0, [(1, 1)])) (zq_ev r (0, [(2, 1)])) P h := zj_use x_TCr (hK)
  simp only [q4, q7, q8] at k1
  have k2 : zu_RNS (zq_ev r (0, [(2, 1)])) (zq_ev r (0, [(1, 1)])) (zq_ev r (0, [(3, 1)])) (zq_ev r (0, [(4, 1)])) (zq_ev r (2, [])) P h := zj_use x_RNS (zq_okX_t (hK))
  simp only [q10, q11, q7, q8, q9] at k2
  obtain ⟨c1, c2⟩ := zu_rD_l (P := P) (h := h) (tp := r 0) (n := r 1) (g := r 2) (k := r 3) (j := r 4) (i := r 5) (b := r 6) a1 a2 a3 a4 s1 k1 k2
  obtain ⟨rq, hr⟩ : ∃ rq : Nat → Int, (∀ i, i < 7 → rq i = r i) := ⟨r, fun i hi => rfl⟩
  have v6 : rq 6 = r 6 := hr 6 (by decide)
  have g0 : zq_ev rq (57, [(6, -1)]) = -r 6 + 57 := zu_f5 v6 _
  have g1 : zq_ev rq (-48, [(6, 1)]) = r 6 - 48 := zu_f3 v6 _
  exact ⟨_, List.mem_cons_self .., rq, hr, zq_MeS_mk rfl hT (zq_all_cons (by rw [g1]; exact c1) (zq_all_cons (by rw [g0]; exact c2) (zq_all_nil))) zq_fan (zq_fan) rfl zq_fan⟩
noncomputable def zu_rOn : zq_S × List zq_S := (([], [], [(128, [(4, 1)]), (-1, [(4, -1)]), (0, [(3, 1)]), (-1, [(1, 1), (3, -1)])], [], [((0, [(0, 1)]), (0, [(3, 1)]), (0, [(4, 1)]))], [], [(22, [(0, [(0, 1)]), (0, [(1, 1)]), (0, [(2, 1)])])], 5), [([], [], [], [], [], [], [(122, [(0, [(2, 1)]), (0, [(1, 1)]), (0, [(3, 1)]), (1, [(3, 1)])])], 5)])
theorem zu_rOn_l {P : zq_Ty} {h : zq_H} {tp n g k b : Int} (a1 : 0 ≤ b + 128) (a2 : 0 ≤ -b - 1) (a3 : 0 ≤ k) (a4 : 0 ≤ n - k - 1) (s1 : 0 ≤ tp ∧ P (tp).toNat ≠ none ∧ h (tp).toNat k = b) (k1 : zu_TCr tp n g P h) : (zu_EN g n k (k + 1) P h) := by
  have d := zu_dgn k1 (j := k) (by omega) (by omega) s1.2.2 (by omega) (by omega)
  have kd : zu_kd (zu_dg g n k) = 3 := by rw [d]; exact zu_kd3 (by omega) (by omega) (by omega)
  exact ⟨zu_nx3 kd, by omega, by omega, by omega⟩
theorem zu_rOn_ok {w : zq_Wd} (x_TCr : zj_is w 22 (fun q => zu_TCr (q 0) (q 1) (q 2))) (x_EN : zj_is w 122 (fun q => zu_EN (q 0) (q 1) (q 2) (q 3))) : zq_okG1 w zu_rOn := by
  refine ⟨rfl, rfl, zu_fac ⟨rfl, by decide⟩ zq_fan, ?_⟩
  intro r P h H hM
  have q0 : zq_ev r (128, [(4, 1)]) = r 4 + 128 := zu_e2 _ _ _
  have q1 : zq_ev r (-1, [(4, -1)]) = -r 4 - 1 := zu_e6 _ _ _
  have q2 : zq_ev r (0, [(3, 1)]) = r 3 := zu_e1 _ _
  have q3 : zq_ev r (-1, [(1, 1), (3, -1)]) = r 1 - r 3 - 1 := by simp only [zq_ev, zq_ts] <;> omega
  have q4 : zq_ev r (0, [(0, 1)]) = r 0 := zu_e1 _ _
  have q5 : zq_ev r (0, [(4, 1)]) = r 4 := zu_e1 _ _
  have q6 : zq_ev r (0, [(1, 1)]) = r 1 := zu_e1 _ _
  have q7 : zq_ev r (0, [(2, 1)]) = r 2 := zu_e1 _ _
  obtain ⟨hT, hC, hF, hS, -, hK⟩ := hM
  have c := hC.1
  have a1 := zq_all_1 c
  rw [q0] at a1
  have c := zq_all_t c
  have a2 := zq_all_1 c
  rw [q1] at a2
  have c := zq_all_t c
  have a3 := zq_all_1 c
  rw [q2] at a3
  have c := zq_all_t c
  have a4 := zq_all_1 c
  rw [q3] at a4
  have s1 := zq_okS_1 (hS)
  simp only [q2, q4, q5] at s1
  have k1 : zu_TCr (zq_ev r (0, [(0, 1)])) (zq_ev r (0, [(1, 1)])) (zq_ev r (0, [(2, 1)])) P h := zj_use x_TCr (hK)
  simp only [q4, q6, q7] at k1
  obtain t1 := zu_rOn_l (P := P) (h := h) (tp := r 0) (n := r 1) (g := r 2) (k := r 3) (b := r 4) a1 a2 a3 a4 s1 k1
  obtain ⟨rq, hr⟩ : ∃ rq : Nat → Int, (∀ i, i < 5 → rq i = r i) := ⟨r, fun i hi => rfl⟩
  have v1 : rq 1 = r 1 := hr 1 (by decide)
  have v2 : rq 2 = r 2 := hr 2 (by decide)
  have v3 : rq 3 = r 3 := hr 3 (by decide)
  have g0 : zq_ev rq (0, [(2, 1)]) = r 2 := zu_f1 v2
  have g1 : zq_ev rq (0, [(1, 1)]) = r 1 := zu_f1 v1
  have g2 : zq_ev rq (0, [(3, 1)]) = r 3 := zu_f1 v3
  have g3 : zq_ev rq (1, [(3, 1)]) = r 3 + 1 := zu_f2 v3 _
  exact ⟨_, List.mem_cons_self .., rq, hr, zq_MeS_mk rfl hT (zq_all_nil) zq_fan (zq_fan) rfl (zu_fac ((x_EN _ _ _).mpr (by show zu_EN (zq_ev rq (0, [(2, 1)])) (zq_ev rq (0, [(1, 1)])) (zq_ev rq (0, [(3, 1)])) (zq_ev rq (1, [(3, 1)])) P h; simp only [g0, g1, g2, g3]; exact t1)) zq_fan)⟩
noncomputable def zu_rOa : zq_S × List zq_S := (([], [], [(0, [(4, 1)]), (31, [(4, -1)]), (0, [(3, 1)]), (-1, [(1, 1), (3, -1)])], [], [((0, [(0, 1)]), (0, [(3, 1)]), (0, [(4, 1)]))], [], [(22, [(0, [(0, 1)]), (0, [(1, 1)]), (0, [(2, 1)])])], 5), [([], [], [], [], [], [], [(122, [(0, [(2, 1)]), (0, [(1, 1)]), (0, [(3, 1)]), (1, [(3, 1)])])], 5)])
theorem zu_rOa_l {P : zq_Ty} {h : zq_H} {tp n g k b : Int} (a1 : 0 ≤ b) (a2 : 0 ≤ -b + 31) (a3 : 0 ≤ k) (a4 : 0 ≤ n - k - 1) (s1 : 0 ≤ tp ∧ P (tp).toNat ≠ none ∧ h (tp).toNat k = b) (k1 : zu_TCr tp n g P h) : (zu_EN g n k (k + 1) P h) := by
  have d := zu_dgr k1 (j := k) (by omega) (by omega) s1.2.2 (by omega) (by omega)
  have kd : zu_kd (zu_dg g n k) = 3 := by rw [d]; exact zu_kd3 (by omega) (by omega) (by omega)
  exact ⟨zu_nx3 kd, by omega, by omega, by omega⟩
theorem zu_rOa_ok {w : zq_Wd} (x_TCr : zj_is w 22 (fun q => zu_TCr (q 0) (q 1) (q 2))) (x_EN : zj_is w 122 (fun q => zu_EN (q 0) (q 1) (q 2) (q 3))) : zq_okG1 w zu_rOa := by
  refine ⟨rfl, rfl, zu_fac ⟨rfl, by decide⟩ zq_fan, ?_⟩
  intro r P h H hM
  have q0 : zq_ev r (0, [(4, 1)]) = r 4 := zu_e1 _ _
  have q1 : zq_ev r (31, [(4, -1)]) = -r 4 + 31 := zu_e5 _ _ _
  have q2 : zq_ev r (0, [(3, 1)]) = r 3 := zu_e1 _ _
  have q3 : zq_ev r (-1, [(1, 1), (3, -1)]) = r 1 - r 3 - 1 := by simp only [zq_ev, zq_ts] <;> omega
  have q4 : zq_ev r (0, [(0, 1)]) = r 0 := zu_e1 _ _
  have q5 : zq_ev r (0, [(1, 1)]) = r 1 := zu_e1 _ _
  have q6 : zq_ev r (0, [(2, 1)]) = r 2 := zu_e1 _ _
  obtain ⟨hT, hC, hF, hS, -, hK⟩ := hM
  have c := hC.1
  have a1 := zq_all_1 c
  rw [q0] at a1
  have c := zq_all_t c
  have a2 := zq_all_1 c
  rw [q1] at a2
  have c := zq_all_t c
  have a3 := zq_all_1 c
  rw [q2] at a3
  have c := zq_all_t c
  have a4 := zq_all_1 c
  rw [q3] at a4
  have s1 := zq_okS_1 (hS)
  simp only [q0, q2, q4] at s1
  have k1 : zu_TCr (zq_ev r (0, [(0, 1)])) (zq_ev r (0, [(1, 1)])) (zq_ev r (0, [(2, 1)])) P h := zj_use x_TCr (hK)
  simp only [q4, q5, q6] at k1
  obtain t1 := zu_rOa_l (P := P) (h := h) (tp := r 0) (n := r 1) (g := r 2) (k := r 3) (b := r 4) a1 a2 a3 a4 s1 k1
  obtain ⟨rq, hr⟩ : ∃ rq : Nat → Int, (∀ i, i < 5 → rq i = r i) := ⟨r, fun i hi => rfl⟩
  have v1 : rq 1 = r 1 := hr 1 (by decide)
  have v2 : rq 2 = r 2 := hr 2 (by decide)
  have v3 : rq 3 = r 3 := hr 3 (by decide)
  have g0 : zq_ev rq (0, [(2, 1)]) = r 2 := zu_f1 v2
  have g1 : zq_ev rq (0, [(1, 1)]) = r 1 := zu_f1 v1
  have g2 : zq_ev rq (0, [(3, 1)]) = r 3 := zu_f1 v3
  have g3 : zq_ev rq (1, [(3, 1)]) = r 3 + 1 := zu_f2 v3 _
  exact ⟨_, List.mem_cons_self .., rq, hr, zq_MeS_mk rfl hT (zq_all_nil) zq_fan (zq_fan) rfl (zu_fac ((x_EN _ _ _).mpr (by show zu_EN (zq_ev rq (0, [(2, 1)])) (zq_ev rq (0, [(1, 1)])) (zq_ev rq (0, [(3, 1)])) (zq_ev rq (1, [(3, 1)])) P h; simp only [g0, g1, g2, g3]; exact t1)) zq_fan)⟩
noncomputable def zu_rOb : zq_S × List zq_S := (([], [], [(-33, [(4, 1)]), (47, [(4, -1)]), (0, [(3, 1)]), (-1, [(1, 1), (3, -1)])], [], [((0, [(0, 1)]), (0, [(3, 1)]), (0, [(4, 1)]))], [], [(22, [(0, [(0, 1)]), (0, [(1, 1)]), (0, [(2, 1)])])], 5), [([], [], [], [], [], [], [(122, [(0, [(2, 1)]), (0, [(1, 1)]), (0, [(3, 1)]), (1, [(3, 1)])])], 5)])
theorem zu_rOb_l {P : zq_Ty} {h : zq_H} {tp n g k b : Int} (a1 : 0 ≤ b - 33) (a2 : 0 ≤ -b + 47) (a3 : 0 ≤ k) (a4 : 0 ≤ n - k - 1) (s1 : 0 ≤ tp ∧ P (tp).toNat ≠ none ∧ h (tp).toNat k = b) (k1 : zu_TCr tp n g P h) : (zu_EN g n k (k + 1) P h) := by
  have d := zu_dgr k1 (j := k) (by omega) (by omega) s1.2.2 (by omega) (by omega)
  have kd : zu_kd (zu_dg g n k) = 3 := by rw [d]; exact zu_kd3 (by omega) (by omega) (by omega)
  exact ⟨zu_nx3 kd, by omega, by omega, by omega⟩
theorem zu_rOb_ok {w : zq_Wd} (x_TCr : zj_is w 22 (fun q => zu_TCr (q 0) (q 1) (q 2))) (x_EN : zj_is w 122 (fun q => zu_EN (q 0) (q 1) (q 2) (q 3))) : zq_okG1 w zu_rOb := by
  refine ⟨rfl, rfl, zu_fac ⟨rfl, by decide⟩ zq_fan, ?_⟩
  intro r P h H hM
  have q0 : zq_ev r (-33, [(4, 1)]) = r 4 - 33 := zu_e3 _ _ _
  have q1 : zq_ev r (47, [(4, -1)]) = -r 4 + 47 := zu_e5 _ _ _
  have q2 : zq_ev r (0, [(3, 1)]) = r 3 := zu_e1 _ _
  have q3 : zq_ev r (-1, [(1, 1), (3, -1)]) = r 1 - r 3 - 1 := by simp only [zq_ev, zq_ts] <;> omega
  have q4 : zq_ev r (0, [(0, 1)]) = r 0 := zu_e1 _ _
  have q5 : zq_ev r (0, [(4, 1)]) = r 4 := zu_e1 _ _
  have q6 : zq_ev r (0, [(1, 1)]) = r 1 := zu_e1 _ _
  have q7 : zq_ev r (0, [(2, 1)]) = r 2 := zu_e1 _ _
  obtain ⟨hT, hC, hF, hS, -, hK⟩ := hM
  have c := hC.1
  have a1 := zq_all_1 c
  rw [q0] at a1
  have c := zq_all_t c
  have a2 := zq_all_1 c
  rw [q1] at a2
  have c := zq_all_t c
  have a3 := zq_all_1 c
  rw [q2] at a3
  have c := zq_all_t c
  have a4 := zq_all_1 c
  rw [q3] at a4
  have s1 := zq_okS_1 (hS)
  simp only [q2, q4, q5] at s1
  have k1 : zu_TCr (zq_ev r (0, [(0, 1)])) (zq_ev r (0, [(1, 1)])) (zq_ev r (0, [(2, 1)])) P h := zj_use x_TCr (hK)
  simp only [q4, q6, q7] at k1
  obtain t1 := zu_rOb_l (P := P) (h := h) (tp := r 0) (n := r 1) (g := r 2) (k := r 3) (b := r 4) a1 a2 a3 a4 s1 k1
  obtain ⟨rq, hr⟩ : ∃ rq : Nat → Int, (∀ i, i < 5 → rq i = r i) := ⟨r, fun i hi => rfl⟩
  have v1 : rq 1 = r 1 := hr 1 (by decide)
  have v2 : rq 2 = r 2 := hr 2 (by decide)
  have v3 : rq 3 = r 3 := hr 3 (by decide)
  have g0 : zq_ev rq (0, [(2, 1)]) = r 2 := zu_f1 v2
  have g1 : zq_ev rq (0, [(1, 1)]) = r 1 := zu_f1 v1
  have g2 : zq_ev rq (0, [(3, 1)]) = r 3 := zu_f1 v3
  have g3 : zq_ev rq (1, [(3, 1)]) = r 3 + 1 := zu_f2 v3 _
  exact ⟨_, List.mem_cons_self .., rq, hr, zq_MeS_mk rfl hT (zq_all_nil) zq_fan (zq_fan) rfl (zu_fac ((x_EN _ _ _).mpr (by show zu_EN (zq_ev rq (0, [(2, 1)])) (zq_ev rq (0, [(1, 1)])) (zq_ev rq (0, [(3, 1)])) (zq_ev rq (1, [(3, 1)])) P h; simp only [g0, g1, g2, g3]; exact t1)) zq_fan)⟩
noncomputable def zu_rOc : zq_S × List zq_S := (([], [], [(-58, [(4, 1)]), (96, [(4, -1)]), (0, [(3, 1)]), (-1, [(1, 1), (3, -1)])], [], [((0, [(0, 1)]), (0, [(3, 1)]), (0, [(4, 1)]))], [], [(22, [(0, [(0, 1)]), (0, [(1, 1)]), (0, [(2, 1)])])], 5), [([], [], [], [], [], [], [(122, [(0, [(2, 1)]), (0, [(1, 1)]), (0, [(3, 1)]), (1, [(3, 1)])])], 5)])
theorem zu_rOc_l {P : zq_Ty} {h : zq_H} {tp n g k b : Int} (a1 : 0 ≤ b - 58) (a2 : 0 ≤ -b + 96) (a3 : 0 ≤ k) (a4 : 0 ≤ n - k - 1) (s1 : 0 ≤ tp ∧ P (tp).toNat ≠ none ∧ h (tp).toNat k = b) (k1 : zu_TCr tp n g P h) : (zu_EN g n k (k + 1) P h) := by
  have d := zu_dgr k1 (j := k) (by omega) (by omega) s1.2.2 (by omega) (by omega)
  have kd : zu_kd (zu_dg g n k) = 3 := by rw [d]; exact zu_kd3 (by omega) (by omega) (by omega)
  exact ⟨zu_nx3 kd, by omega, by omega, by omega⟩
theorem zu_rOc_ok {w : zq_Wd} (x_TCr : zj_is w 22 (fun q => zu_TCr (q 0) (q 1) (q 2))) (x_EN : zj_is w 122 (fun q => zu_EN (q 0) (q 1) (q 2) (q 3))) : zq_okG1 w zu_rOc := by
  refine ⟨rfl, rfl, zu_fac ⟨rfl, by decide⟩ zq_fan, ?_⟩
  intro r P h H hM
  have q0 : zq_ev r (-58, [(4, 1)]) = r 4 - 58 := zu_e3 _ _ _
  have q1 : zq_ev r (96, [(4, -1)]) = -r 4 + 96 := zu_e5 _ _ _
  have q2 : zq_ev r (0, [(3, 1)]) = r 3 := zu_e1 _ _
  have q3 : zq_ev r (-1, [(1, 1), (3, -1)]) = r 1 - r 3 - 1 := by simp only [zq_ev, zq_ts] <;> omega
  have q4 : zq_ev r (0, [(0, 1)]) = r 0 := zu_e1 _ _
  have q5 : zq_ev r (0, [(4, 1)]) = r 4 := zu_e1 _ _
  have q6 : zq_ev r (0, [(1, 1)]) = r 1 := zu_e1 _ _
  have q7 : zq_ev r (0, [(2, 1)]) = r 2 := zu_e1 _ _
  obtain ⟨hT, hC, hF, hS, -, hK⟩ := hM
  have c := hC.1
  have a1 := zq_all_1 c
  rw [q0] at a1
  have c := zq_all_t c
  have a2 := zq_all_1 c
  rw [q1] at a2
  have c := zq_all_t c
  have a3 := zq_all_1 c
  rw [q2] at a3
  have c := zq_all_t c
  have a4 := zq_all_1 c
  rw [q3] at a4
  have s1 := zq_okS_1 (hS)
  simp only [q2, q4, q5] at s1
  have k1 : zu_TCr (zq_ev r (0, [(0, 1)])) (zq_ev r (0, [(1, 1)])) (zq_ev r (0, [(2, 1)])) P h := zj_use x_TCr (hK)
  simp only [q4, q6, q7] at k1
  obtain t1 := zu_rOc_l (P := P) (h := h) (tp := r 0) (n := r 1) (g := r 2) (k := r 3) (b := r 4) a1 a2 a3 a4 s1 k1
  obtain ⟨rq, hr⟩ : ∃ rq : Nat → Int, (∀ i, i < 5 → rq i = r i) := ⟨r, fun i hi => rfl⟩
  have v1 : rq 1 = r 1 := hr 1 (by decide)
  have v2 : rq 2 = r 2 := hr 2 (by decide)
  have v3 : rq 3 = r 3 := hr 3 (by decide)
  have g0 : zq_ev rq (0, [(2, 1)]) = r 2 := zu_f1 v2
  have g1 : zq_ev rq (0, [(1, 1)]) = r 1 := zu_f1 v1
  have g2 : zq_ev rq (0, [(3, 1)]) = r 3 := zu_f1 v3
  have g3 : zq_ev rq (1, [(3, 1)]) = r 3 + 1 := zu_f2 v3 _
  exact ⟨_, List.mem_cons_self .., rq, hr, zq_MeS_mk rfl hT (zq_all_nil) zq_fan (zq_fan) rfl (zu_fac ((x_EN _ _ _).mpr (by show zu_EN (zq_ev rq (0, [(2, 1)])) (zq_ev rq (0, [(1, 1)])) (zq_ev rq (0, [(3, 1)])) (zq_ev rq (1, [(3, 1)])) P h; simp only [g0, g1, g2, g3]; exact t1)) zq_fan)⟩
noncomputable def zu_rOd : zq_S × List zq_S := (([], [], [(-123, [(4, 1)]), (127, [(4, -1)]), (0, [(3, 1)]), (-1, [(1, 1), (3, -1)])], [], [((0, [(0, 1)]), (0, [(3, 1)]), (0, [(4, 1)]))], [], [(22, [(0, [(0, 1)]), (0, [(1, 1)]), (0, [(2, 1)])])], 5), [([], [], [], [], [], [], [(122, [(0, [(2, 1)]), (0, [(1, 1)]), (0, [(3, 1)]), (1, [(3, 1)])])], 5)])
theorem zu_rOd_l {P : zq_Ty} {h : zq_H} {tp n g k b : Int} (a1 : 0 ≤ b - 123) (a2 : 0 ≤ -b + 127) (a3 : 0 ≤ k) (a4 : 0 ≤ n - k - 1) (s1 : 0 ≤ tp ∧ P (tp).toNat ≠ none ∧ h (tp).toNat k = b) (k1 : zu_TCr tp n g P h) : (zu_EN g n k (k + 1) P h) := by
  have d := zu_dgr k1 (j := k) (by omega) (by omega) s1.2.2 (by omega) (by omega)
  have kd : zu_kd (zu_dg g n k) = 3 := by rw [d]; exact zu_kd3 (by omega) (by omega) (by omega)
  exact ⟨zu_nx3 kd, by omega, by omega, by omega⟩
theorem zu_rOd_ok {w : zq_Wd} (x_TCr : zj_is w 22 (fun q => zu_TCr (q 0) (q 1) (q 2))) (x_EN : zj_is w 122 (fun q => zu_EN (q 0) (q 1) (q 2) (q 3))) : zq_okG1 w zu_rOd := by
  refine ⟨rfl, rfl, zu_fac ⟨rfl, by decide⟩ zq_fan, ?_⟩
  intro r P h H hM
  have q0 : zq_ev r (-123, [(4, 1)]) = r 4 - 123 := zu_e3 _ _ _
  have q1 : zq_ev r (127, [(4, -1)]) = -r 4 + 127 := zu_e5 _ _ _
  have q2 : zq_ev r (0, [(3, 1)]) = r 3 := zu_e1 _ _
  have q3 : zq_ev r (-1, [(1, 1), (3, -1)]) = r 1 - r 3 - 1 := by simp only [zq_ev, zq_ts] <;> omega
  have q4 : zq_ev r (0, [(0, 1)]) = r 0 := zu_e1 _ _
  have q5 : zq_ev r (0, [(4, 1)]) = r 4 := zu_e1 _ _
  have q6 : zq_ev r (0, [(1, 1)]) = r 1 := zu_e1 _ _
  have q7 : zq_ev r (0, [(2, 1)]) = r 2 := zu_e1 _ _
  obtain ⟨hT, hC, hF, hS, -, hK⟩ := hM
  have c := hC.1
  have a1 := zq_all_1 c
  rw [q0] at a1
  have c := zq_all_t c
  have a2 := zq_all_1 c
  rw [q1] at a2
  have c := zq_all_t c
  have a3 := zq_all_1 c
  rw [q2] at a3
  have c := zq_all_t c
  have a4 := zq_all_1 c
  rw [q3] at a4
  have s1 := zq_okS_1 (hS)
  simp only [q2, q4, q5] at s1
  have k1 : zu_TCr (zq_ev r (0, [(0, 1)])) (zq_ev r (0, [(1, 1)])) (zq_ev r (0, [(2, 1)])) P h := zj_use x_TCr (hK)
  simp only [q4, q6, q7] at k1
  obtain t1 := zu_rOd_l (P := P) (h := h) (tp := r 0) (n := r 1) (g := r 2) (k := r 3) (b := r 4) a1 a2 a3 a4 s1 k1
  obtain ⟨rq, hr⟩ : ∃ rq : Nat → Int, (∀ i, i < 5 → rq i = r i) := ⟨r, fun i hi => rfl⟩
  have v1 : rq 1 = r 1 := hr 1 (by decide)
  have v2 : rq 2 = r 2 := hr 2 (by decide)
  have v3 : rq 3 = r 3 := hr 3 (by decide)
  have g0 : zq_ev rq (0, [(2, 1)]) = r 2 := zu_f1 v2
  have g1 : zq_ev rq (0, [(1, 1)]) = r 1 := zu_f1 v1
  have g2 : zq_ev rq (0, [(3, 1)]) = r 3 := zu_f1 v3
  have g3 : zq_ev rq (1, [(3, 1)]) = r 3 + 1 := zu_f2 v3 _
  exact ⟨_, List.mem_cons_self .., rq, hr, zq_MeS_mk rfl hT (zq_all_nil) zq_fan (zq_fan) rfl (zu_fac ((x_EN _ _ _).mpr (by show zu_EN (zq_ev rq (0, [(2, 1)])) (zq_ev rq (0, [(1, 1)])) (zq_ev rq (0, [(3, 1)])) (zq_ev rq (1, [(3, 1)])) P h; simp only [g0, g1, g2, g3]; exact t1)) zq_fan)⟩
noncomputable def zu_tL : zq_S × List zq_S := (([], [], [(-97, [(9, 1)]), (122, [(9, -1)])], [], [((0, [(0, 1)]), (0, [(6, 1)]), (0, [(9, 1)])), ((0, [(5, 1)]), (0, [(7, 1)]), (0, [(6, 1)])), ((0, [(3, 1)]), (0, [(7, 1)]), (0, [(10, 1)]))], [], [(22, [(0, [(0, 1)]), (0, [(1, 1)]), (0, [(2, 1)])]), (106, [(0, [(3, 1)]), (0, [(4, 1)]), (0, [(5, 1)]), (0, [(2, 1)]), (0, [(1, 1)]), (0, [(6, 1)]), (0, [(7, 1)])]), (122, [(0, [(2, 1)]), (0, [(1, 1)]), (0, [(6, 1)]), (0, [(8, 1)])]), (112, [(0, [(2, 1)]), (0, [(1, 1)]), (0, [(6, 1)]), (0, [(8, 1)]), (0, [(10, 1)])])], 11), [([], [], [], [], [], [], [(106, [(0, [(3, 1)]), (0, [(4, 1)]), (0, [(5, 1)]), (0, [(2, 1)]), (0, [(1, 1)]), (0, [(8, 1)]), (1, [(7, 1)])])], 11)])
theorem zu_tL_l {P : zq_Ty} {h : zq_H} {tp n g co va pl k t q b c : Int} (a1 : 0 ≤ b - 97) (a2 : 0 ≤ -b + 122) (s1 : 0 ≤ tp ∧ P (tp).toNat ≠ none ∧ h (tp).toNat k = b) (s2 : 0 ≤ pl ∧ P (pl).toNat ≠ none ∧ h (pl).toNat t = k) (s3 : 0 ≤ co ∧ P (co).toNat ≠ none ∧ h (co).toNat t = c) (k1 : zu_TCr tp n g P h) (k2 : zu_SOF co va pl g n k t P h) (k3 : zu_EN g n k q P h) (k4 : zu_WDR g n k q c P h) : (zu_SOF co va pl g n q (t + 1) P h) := by
  obtain ⟨z1, z2, z3, z4, z5, z6⟩ := k2
  obtain ⟨y1, y2, y3, y4⟩ := k3
  have d := zu_dgr k1 (j := k) (by omega) (by omega) s1.2.2 (by omega) (by omega)
  have kd : zu_kd (zu_dg g n k) = 1 := by rw [d]; exact zu_kd1 (by omega) (by omega)
  obtain ⟨x1, x2⟩ := zu_at_tok z5 (by omega) (by rw [kd]; decide) y1 y3 y4
  
  have k4 : c = zu_fi (zu_bs (zu_dg g n) (q - k).toNat k) (zu_sp zu_cR) 1 0 := k4
  have cr := zu_fiR (zu_bs (zu_dg g n) (q - k).toNat k)
  rw [← k4] at cr
  have ec : (zu_tk (zu_dg g n) k q).2.2.1 = c := by
    rw [k4]
    show (if zu_kd (zu_dg g n k) = 1 then _ else _) = _
    rw [if_pos kd]
  
  refine ⟨z1, z2, z3, z4, x2, fun j x y => ?_⟩
  by_cases hj : j < t
  · exact z6 j x hj
  · have e : j = t := by omega
    rw [e]
    refine ⟨_, x1.2.2.2.2.1, by rw [s2.2.2]; rfl, y2, ?_, ?_⟩
    · rw [s3.2.2, ec]
    · intro w
      rw [ec] at w
      exfalso
      omega
theorem zu_tL_ok {w : zq_Wd} (x_TCr : zj_is w 22 (fun q => zu_TCr (q 0) (q 1) (q 2))) (x_SOF : zj_is w 106 (fun q => zu_SOF (q 0) (q 1) (q 2) (q 3) (q 4) (q 5) (q 6))) (x_EN : zj_is w 122 (fun q => zu_EN (q 0) (q 1) (q 2) (q 3))) (x_WDR : zj_is w 112 (fun q => zu_WDR (q 0) (q 1) (q 2) (q 3) (q 4))) : zq_okG1 w zu_tL := by
  refine ⟨rfl, rfl, zu_fac ⟨rfl, by decide⟩ zq_fan, ?_⟩
  intro r P h H hM
  have q0 : zq_ev r (-97, [(9, 1)]) = r 9 - 97 := zu_e3 _ _ _
  have q1 : zq_ev r (122, [(9, -1)]) = -r 9 + 122 := zu_e5 _ _ _
  have q2 : zq_ev r (0, [(0, 1)]) = r 0 := zu_e1 _ _
  have q3 : zq_ev r (0, [(6, 1)]) = r 6 := zu_e1 _ _
  have q4 : zq_ev r (0, [(9, 1)]) = r 9 := zu_e1 _ _
  have q5 : zq_ev r (0, [(5, 1)]) = r 5 := zu_e1 _ _
  have q6 : zq_ev r (0, [(7, 1)]) = r 7 := zu_e1 _ _
  have q7 : zq_ev r (0, [(3, 1)]) = r 3 := zu_e1 _ _
  have q8 : zq_ev r (0, [(10, 1)]) = r 10 := zu_e1 _ _
  have q9 : zq_ev r (0, [(1, 1)]) = r 1 := zu_e1 _ _
  have q10 : zq_ev r (0, [(2, 1)]) = r 2 := zu_e1 _ _
  have q11 : zq_ev r (0, [(4, 1)]) = r 4 := zu_e1 _ _
  have q12 : zq_ev r (0, [(8, 1)]) = r 8 := zu_e1 _ _
  obtain ⟨hT, hC, hF, hS, -, hK⟩ := hM
  have c := hC.1
  have a1 := zq_all_1 c
  rw [q0] at a1
  have c := zq_all_t c
  have a2 := zq_all_1 c
  rw [q1] at a2
  have s1 := zq_okS_1 (hS)
  simp only [q2, q3, q4] at s1
  have s2 := zq_okS_1 (zq_okS_t (hS))
  simp only [q3, q5, q6] at s2
  have s3 := zq_okS_1 (zq_okS_t (zq_okS_t (hS)))
  simp only [q6, q7, q8] at s3
  have k1 : zu_TCr (zq_ev r (0, [(0, 1)])) (zq_ev r (0, [(1, 1)])) (zq_ev r (0, [(2, 1)])) P h := zj_use x_TCr (hK)
  simp only [q10, q2, q9] at k1
  have k2 : zu_SOF (zq_ev r (0, [(3, 1)])) (zq_ev r (0, [(4, 1)])) (zq_ev r (0, [(5, 1)])) (zq_ev r (0, [(2, 1)])) (zq_ev r (0, [(1, 1)])) (zq_ev r (0, [(6, 1)])) (zq_ev r (0, [(7, 1)])) P h := zj_use x_SOF (zq_okX_t (hK))
  simp only [q10, q11, q3, q5, q6, q7, q9] at k2
  have k3 : zu_EN (zq_ev r (0, [(2, 1)])) (zq_ev r (0, [(1, 1)])) (zq_ev r (0, [(6, 1)])) (zq_ev r (0, [(8, 1)])) P h := zj_use x_EN (zq_okX_t (zq_okX_t (hK)))
  simp only [q10, q12, q3, q9] at k3
  have k4 : zu_WDR (zq_ev r (0, [(2, 1)])) (zq_ev r (0, [(1, 1)])) (zq_ev r (0, [(6, 1)])) (zq_ev r (0, [(8, 1)])) (zq_ev r (0, [(10, 1)])) P h := zj_use x_WDR (zq_okX_t (zq_okX_t (zq_okX_t (hK))))
  simp only [q10, q12, q3, q8, q9] at k4
  obtain t1 := zu_tL_l (P := P) (h := h) (tp := r 0) (n := r 1) (g := r 2) (co := r 3) (va := r 4) (pl := r 5) (k := r 6) (t := r 7) (q := r 8) (b := r 9) (c := r 10) a1 a2 s1 s2 s3 k1 k2 k3 k4
  obtain ⟨rq, hr⟩ : ∃ rq : Nat → Int, (∀ i, i < 11 → rq i = r i) := ⟨r, fun i hi => rfl⟩
  have v1 : rq 1 = r 1 := hr 1 (by decide)
  have v2 : rq 2 = r 2 := hr 2 (by decide)
  have v3 : rq 3 = r 3 := hr 3 (by decide)
  have v4 : rq 4 = r 4 := hr 4 (by decide)
  have v5 : rq 5 = r 5 := hr 5 (by decide)
  have v7 : rq 7 = r 7 := hr 7 (by decide)
  have v8 : rq 8 = r 8 := hr 8 (by decide)
  have g0 : zq_ev rq (0, [(3, 1)]) = r 3 := zu_f1 v3
  have g1 : zq_ev rq (0, [(4, 1)]) = r 4 := zu_f1 v4
  have g2 : zq_ev rq (0, [(5, 1)]) = r 5 := zu_f1 v5
  have g3 : zq_ev rq (0, [(2, 1)]) = r 2 := zu_f1 v2
  have g4 : zq_ev rq (0, [(1, 1)]) = r 1 := zu_f1 v1
  have g5 : zq_ev rq (0, [(8, 1)]) = r 8 := zu_f1 v8
  have g6 : zq_ev rq (1, [(7, 1)]) = r 7 + 1 := zu_f2 v7 _
  exact ⟨_, List.mem_cons_self .., rq, hr, zq_MeS_mk rfl hT (zq_all_nil) zq_fan (zq_fan) rfl (zu_fac ((x_SOF _ _ _).mpr (by show zu_SOF (zq_ev rq (0, [(3, 1)])) (zq_ev rq (0, [(4, 1)])) (zq_ev rq (0, [(5, 1)])) (zq_ev rq (0, [(2, 1)])) (zq_ev rq (0, [(1, 1)])) (zq_ev rq (0, [(8, 1)])) (zq_ev rq (1, [(7, 1)])) P h; simp only [g0, g1, g2, g3, g4, g5, g6]; exact t1)) zq_fan)⟩
noncomputable def zu_tD : zq_S × List zq_S := (([], [], [(-48, [(9, 1)]), (57, [(9, -1)]), (0, [(10, 1)])], [], [((0, [(0, 1)]), (0, [(6, 1)]), (0, [(9, 1)])), ((0, [(5, 1)]), (0, [(7, 1)]), (0, [(6, 1)])), ((0, [(3, 1)]), (0, [(7, 1)]), (50, [])), ((0, [(4, 1)]), (0, [(7, 1)]), (0, [(10, 1)]))], [], [(22, [(0, [(0, 1)]), (0, [(1, 1)]), (0, [(2, 1)])]), (106, [(0, [(3, 1)]), (0, [(4, 1)]), (0, [(5, 1)]), (0, [(2, 1)]), (0, [(1, 1)]), (0, [(6, 1)]), (0, [(7, 1)])]), (122, [(0, [(2, 1)]), (0, [(1, 1)]), (0, [(6, 1)]), (0, [(8, 1)])]), (120, [(0, [(2, 1)]), (0, [(1, 1)]), (0, [(6, 1)]), (0, [(8, 1)]), (0, [(10, 1)])])], 11), [([], [], [], [], [], [], [(106, [(0, [(3, 1)]), (0, [(4, 1)]), (0, [(5, 1)]), (0, [(2, 1)]), (0, [(1, 1)]), (0, [(8, 1)]), (1, [(7, 1)])])], 11)])
theorem zu_tD_l {P : zq_Ty} {h : zq_H} {tp n g co va pl k t q b v : Int} (a1 : 0 ≤ b - 48) (a2 : 0 ≤ -b + 57) (a3 : 0 ≤ v) (s1 : 0 ≤ tp ∧ P (tp).toNat ≠ none ∧ h (tp).toNat k = b) (s2 : 0 ≤ pl ∧ P (pl).toNat ≠ none ∧ h (pl).toNat t = k) (s3 : 0 ≤ co ∧ P (co).toNat ≠ none ∧ h (co).toNat t = 50) (s4 : 0 ≤ va ∧ P (va).toNat ≠ none ∧ h (va).toNat t = v) (k1 : zu_TCr tp n g P h) (k2 : zu_SOF co va pl g n k t P h) (k3 : zu_EN g n k q P h) (k4 : zu_NVR g n k q v P h) : (zu_SOF co va pl g n q (t + 1) P h) := by
  obtain ⟨z1, z2, z3, z4, z5, z6⟩ := k2
  obtain ⟨y1, y2, y3, y4⟩ := k3
  have d := zu_dgr k1 (j := k) (by omega) (by omega) s1.2.2 (by omega) (by omega)
  have kd : zu_kd (zu_dg g n k) = 2 := by rw [d]; exact zu_kd2 (by omega) (by omega)
  obtain ⟨x1, x2⟩ := zu_at_tok z5 (by omega) (by rw [kd]; decide) y1 y3 y4
  
  have ec : (zu_tk (zu_dg g n) k q).2.2.1 = 50 := by
    show (if zu_kd (zu_dg g n k) = 1 then _ else if zu_kd (zu_dg g n k) = 2 then _ else _) = _
    rw [if_neg (by omega), if_pos kd]
  have ev : (zu_tk (zu_dg g n) k q).2.2.2 = zu_nm (zu_dg g n) k (q - k).toNat := by
    show (if zu_kd (zu_dg g n k) = 2 then _ else _) = _
    rw [if_pos kd]
  
  refine ⟨z1, z2, z3, z4, x2, fun j x y => ?_⟩
  by_cases hj : j < t
  · exact z6 j x hj
  · have e : j = t := by omega
    rw [e]
    refine ⟨_, x1.2.2.2.2.1, by rw [s2.2.2]; rfl, y2, ?_, ?_⟩
    · rw [s3.2.2, ec]
    · intro _
      rw [s4.2.2, ev]
      exact ⟨k4.2, by omega⟩
theorem zu_tD_ok {w : zq_Wd} (x_TCr : zj_is w 22 (fun q => zu_TCr (q 0) (q 1) (q 2))) (x_SOF : zj_is w 106 (fun q => zu_SOF (q 0) (q 1) (q 2) (q 3) (q 4) (q 5) (q 6))) (x_EN : zj_is w 122 (fun q => zu_EN (q 0) (q 1) (q 2) (q 3))) (x_NVR : zj_is w 120 (fun q => zu_NVR (q 0) (q 1) (q 2) (q 3) (q 4))) : zq_okG1 w zu_tD := by
  refine ⟨rfl, rfl, zu_fac ⟨rfl, by decide⟩ zq_fan, ?_⟩
  intro r P h H hM
  have q0 : zq_ev r (-48, [(9, 1)]) = r 9 - 48 := zu_e3 _ _ _
  have q1 : zq_ev r (57, [(9, -1)]) = -r 9 + 57 := zu_e5 _ _ _
  have q2 : zq_ev r (0, [(10, 1)]) = r 10 := zu_e1 _ _
  have q3 : zq_ev r (0, [(0, 1)]) = r 0 := zu_e1 _ _
  have q4 : zq_ev r (0, [(6, 1)]) = r 6 := zu_e1 _ _
  have q5 : zq_ev r (0, [(9, 1)]) = r 9 := zu_e1 _ _
  have q6 : zq_ev r (0, [(5, 1)]) = r 5 := zu_e1 _ _
  have q7 : zq_ev r (0, [(7, 1)]) = r 7 := zu_e1 _ _
  have q8 : zq_ev r (0, [(3, 1)]) = r 3 := zu_e1 _ _
  have q9 : zq_ev r (50, []) = 50 := zu_e0 _ _
  have q10 : zq_ev r (0, [(4, 1)]) = r 4 := zu_e1 _ _
  have q11 : zq_ev r (0, [(1, 1)]) = r 1 := zu_e1 _ _
  have q12 : zq_ev r (0, [(2, 1)]) = r 2 := zu_e1 _ _
  have q13 : zq_ev r (0, [(8, 1)]) = r 8 := zu_e1 _ _
  obtain ⟨hT, hC, hF, hS, -, hK⟩ := hM
  have c := hC.1
  have a1 := zq_all_1 c
  rw [q0] at a1
  have c := zq_all_t c
  have a2 := zq_all_1 c
  rw [q1] at a2
  have c := zq_all_t c
  have a3 := zq_all_1 c
  rw [q2] at a3
  have s1 := zq_okS_1 (hS)
  simp only [q3, q4, q5] at s1
  have s2 := zq_okS_1 (zq_okS_t (hS))
  simp only [q4, q6, q7] at s2
  have s3 := zq_okS_1 (zq_okS_t (zq_okS_t (hS)))
  simp only [q7, q8, q9] at s3
  have s4 := zq_okS_1 (zq_okS_t (zq_okS_t (zq_okS_t (hS))))
  simp only [q10, q2, q7] at s4
  have k1 : zu_TCr (zq_ev r (0, [(0, 1)])) (zq_ev r (0, [(1, 1)])) (zq_ev r (0, [(2, 1)])) P h := zj_use x_TCr (hK)
  simp only [q11, q12, q3] at k1
  have k2 : zu_SOF (zq_ev r (0, [(3, 1)])) (zq_ev r (0, [(4, 1)])) (zq_ev r (0, [(5, 1)])) (zq_ev r (0, [(2, 1)])) (zq_ev r (0, [(1, 1)])) (zq_ev r (0, [(6, 1)])) (zq_ev r (0, [(7, 1)])) P h := zj_use x_SOF (zq_okX_t (hK))
  simp only [q10, q11, q12, q4, q6, q7, q8] at k2
  have k3 : zu_EN (zq_ev r (0, [(2, 1)])) (zq_ev r (0, [(1, 1)])) (zq_ev r (0, [(6, 1)])) (zq_ev r (0, [(8, 1)])) P h := zj_use x_EN (zq_okX_t (zq_okX_t (hK)))
  simp only [q11, q12, q13, q4] at k3
  have k4 : zu_NVR (zq_ev r (0, [(2, 1)])) (zq_ev r (0, [(1, 1)])) (zq_ev r (0, [(6, 1)])) (zq_ev r (0, [(8, 1)])) (zq_ev r (0, [(10, 1)])) P h := zj_use x_NVR (zq_okX_t (zq_okX_t (zq_okX_t (hK))))
  simp only [q11, q12, q13, q2, q4] at k4
  obtain t1 := zu_tD_l (P := P) (h := h) (tp := r 0) (n := r 1) (g := r 2) (co := r 3) (va := r 4) (pl := r 5) (k := r 6) (t := r 7) (q := r 8) (b := r 9) (v := r 10) a1 a2 a3 s1 s2 s3 s4 k1 k2 k3 k4
  obtain ⟨rq, hr⟩ : ∃ rq : Nat → Int, (∀ i, i < 11 → rq i = r i) := ⟨r, fun i hi => rfl⟩
  have v1 : rq 1 = r 1 := hr 1 (by decide)
  have v2 : rq 2 = r 2 := hr 2 (by decide)
  have v3 : rq 3 = r 3 := hr 3 (by decide)
  have v4 : rq 4 = r 4 := hr 4 (by decide)
  have v5 : rq 5 = r 5 := hr 5 (by decide)
  have v7 : rq 7 = r 7 := hr 7 (by decide)
  have v8 : rq 8 = r 8 := hr 8 (by decide)
  have g0 : zq_ev rq (0, [(3, 1)]) = r 3 := zu_f1 v3
  have g1 : zq_ev rq (0, [(4, 1)]) = r 4 := zu_f1 v4
  have g2 : zq_ev rq (0, [(5, 1)]) = r 5 := zu_f1 v5
  have g3 : zq_ev rq (0, [(2, 1)]) = r 2 := zu_f1 v2
  have g4 : zq_ev rq (0, [(1, 1)]) = r 1 := zu_f1 v1
  have g5 : zq_ev rq (0, [(8, 1)]) = r 8 := zu_f1 v8
  have g6 : zq_ev rq (1, [(7, 1)]) = r 7 + 1 := zu_f2 v7 _
  exact ⟨_, List.mem_cons_self .., rq, hr, zq_MeS_mk rfl hT (zq_all_nil) zq_fan (zq_fan) rfl (zu_fac ((x_SOF _ _ _).mpr (by show zu_SOF (zq_ev rq (0, [(3, 1)])) (zq_ev rq (0, [(4, 1)])) (zq_ev rq (0, [(5, 1)])) (zq_ev rq (0, [(2, 1)])) (zq_ev rq (0, [(1, 1)])) (zq_ev rq (0, [(8, 1)])) (zq_ev rq (1, [(7, 1)])) P h; simp only [g0, g1, g2, g3, g4, g5, g6]; exact t1)) zq_fan)⟩
noncomputable def zu_tOn : zq_S × List zq_S := (([], [], [(128, [(9, 1)]), (-1, [(9, -1)])], [], [((0, [(0, 1)]), (0, [(6, 1)]), (0, [(9, 1)])), ((0, [(5, 1)]), (0, [(7, 1)]), (0, [(6, 1)])), ((0, [(3, 1)]), (0, [(7, 1)]), (356, [(9, 1)]))], [], [(22, [(0, [(0, 1)]), (0, [(1, 1)]), (0, [(2, 1)])]), (106, [(0, [(3, 1)]), (0, [(4, 1)]), (0, [(5, 1)]), (0, [(2, 1)]), (0, [(1, 1)]), (0, [(6, 1)]), (0, [(7, 1)])]), (122, [(0, [(2, 1)]), (0, [(1, 1)]), (0, [(6, 1)]), (0, [(8, 1)])])], 10), [([], [], [], [], [], [], [(106, [(0, [(3, 1)]), (0, [(4, 1)]), (0, [(5, 1)]), (0, [(2, 1)]), (0, [(1, 1)]), (0, [(8, 1)]), (1, [(7, 1)])])], 10)])
theorem zu_tOn_l {P : zq_Ty} {h : zq_H} {tp n g co va pl k t q b : Int} (a1 : 0 ≤ b + 128) (a2 : 0 ≤ -b - 1) (s1 : 0 ≤ tp ∧ P (tp).toNat ≠ none ∧ h (tp).toNat k = b) (s2 : 0 ≤ pl ∧ P (pl).toNat ≠ none ∧ h (pl).toNat t = k) (s3 : 0 ≤ co ∧ P (co).toNat ≠ none ∧ h (co).toNat t = b + 356) (k1 : zu_TCr tp n g P h) (k2 : zu_SOF co va pl g n k t P h) (k3 : zu_EN g n k q P h) : (zu_SOF co va pl g n q (t + 1) P h) := by
  obtain ⟨z1, z2, z3, z4, z5, z6⟩ := k2
  obtain ⟨y1, y2, y3, y4⟩ := k3
  have d := zu_dgn k1 (j := k) (by omega) (by omega) s1.2.2 (by omega) (by omega)
  have kd : zu_kd (zu_dg g n k) = 3 := by rw [d]; exact zu_kd3 (by omega) (by omega) (by omega)
  obtain ⟨x1, x2⟩ := zu_at_tok z5 (by omega) (by rw [kd]; decide) y1 y3 y4
  
  have ec : (zu_tk (zu_dg g n) k q).2.2.1 = b + 356 := by
    show (if zu_kd (zu_dg g n k) = 1 then _ else if zu_kd (zu_dg g n k) = 2 then _ else _) = _
    rw [if_neg (by omega), if_neg (by omega), d]
    omega
  
  refine ⟨z1, z2, z3, z4, x2, fun j x y => ?_⟩
  by_cases hj : j < t
  · exact z6 j x hj
  · have e : j = t := by omega
    rw [e]
    refine ⟨_, x1.2.2.2.2.1, by rw [s2.2.2]; rfl, y2, ?_, ?_⟩
    · rw [s3.2.2, ec]
    · intro w
      rw [ec] at w
      exfalso
      omega
theorem zu_tOn_ok {w : zq_Wd} (x_TCr : zj_is w 22 (fun q => zu_TCr (q 0) (q 1) (q 2))) (x_SOF : zj_is w 106 (fun q => zu_SOF (q 0) (q 1) (q 2) (q 3) (q 4) (q 5) (q 6))) (x_EN : zj_is w 122 (fun q => zu_EN (q 0) (q 1) (q 2) (q 3))) : zq_okG1 w zu_tOn := by
  refine ⟨rfl, rfl, zu_fac ⟨rfl, by decide⟩ zq_fan, ?_⟩
  intro r P h H hM
  have q0 : zq_ev r (128, [(9, 1)]) = r 9 + 128 := zu_e2 _ _ _
  have q1 : zq_ev r (-1, [(9, -1)]) = -r 9 - 1 := zu_e6 _ _ _
  have q2 : zq_ev r (0, [(0, 1)]) = r 0 := zu_e1 _ _
  have q3 : zq_ev r (0, [(6, 1)]) = r 6 := zu_e1 _ _
  have q4 : zq_ev r (0, [(9, 1)]) = r 9 := zu_e1 _ _
  have q5 : zq_ev r (0, [(5, 1)]) = r 5 := zu_e1 _ _
  have q6 : zq_ev r (0, [(7, 1)]) = r 7 := zu_e1 _ _
  have q7 : zq_ev r (0, [(3, 1)]) = r 3 := zu_e1 _ _
  have q8 : zq_ev r (356, [(9, 1)]) = r 9 + 356 := zu_e2 _ _ _
  have q9 : zq_ev r (0, [(1, 1)]) = r 1 := zu_e1 _ _
  have q10 : zq_ev r (0, [(2, 1)]) = r 2 := zu_e1 _ _
  have q11 : zq_ev r (0, [(4, 1)]) = r 4 := zu_e1 _ _
  have q12 : zq_ev r (0, [(8, 1)]) = r 8 := zu_e1 _ _
  obtain ⟨hT, hC, hF, hS, -, hK⟩ := hM
  have c := hC.1
  have a1 := zq_all_1 c
  rw [q0] at a1
  have c := zq_all_t c
  have a2 := zq_all_1 c
  rw [q1] at a2
  have s1 := zq_okS_1 (hS)
  simp only [q2, q3, q4] at s1
  have s2 := zq_okS_1 (zq_okS_t (hS))
  simp only [q3, q5, q6] at s2
  have s3 := zq_okS_1 (zq_okS_t (zq_okS_t (hS)))
  simp only [q6, q7, q8] at s3
  have k1 : zu_TCr (zq_ev r (0, [(0, 1)])) (zq_ev r (0, [(1, 1)])) (zq_ev r (0, [(2, 1)])) P h := zj_use x_TCr (hK)
  simp only [q10, q2, q9] at k1
  have k2 : zu_SOF (zq_ev r (0, [(3, 1)])) (zq_ev r (0, [(4, 1)])) (zq_ev r (0, [(5, 1)])) (zq_ev r (0, [(2, 1)])) (zq_ev r (0, [(1, 1)])) (zq_ev r (0, [(6, 1)])) (zq_ev r (0, [(7, 1)])) P h := zj_use x_SOF (zq_okX_t (hK))
  simp only [q10, q11, q3, q5, q6, q7, q9] at k2
  have k3 : zu_EN (zq_ev r (0, [(2, 1)])) (zq_ev r (0, [(1, 1)])) (zq_ev r (0, [(6, 1)])) (zq_ev r (0, [(8, 1)])) P h := zj_use x_EN (zq_okX_t (zq_okX_t (hK)))
  simp only [q10, q12, q3, q9] at k3
  obtain t1 := zu_tOn_l (P := P) (h := h) (tp := r 0) (n := r 1) (g := r 2) (co := r 3) (va := r 4) (pl := r 5) (k := r 6) (t := r 7) (q := r 8) (b := r 9) a1 a2 s1 s2 s3 k1 k2 k3
  obtain ⟨rq, hr⟩ : ∃ rq : Nat → Int, (∀ i, i < 10 → rq i = r i) := ⟨r, fun i hi => rfl⟩
  have v1 : rq 1 = r 1 := hr 1 (by decide)
  have v2 : rq 2 = r 2 := hr 2 (by decide)
  have v3 : rq 3 = r 3 := hr 3 (by decide)
  have v4 : rq 4 = r 4 := hr 4 (by decide)
  have v5 : rq 5 = r 5 := hr 5 (by decide)
  have v7 : rq 7 = r 7 := hr 7 (by decide)
  have v8 : rq 8 = r 8 := hr 8 (by decide)
  have g0 : zq_ev rq (0, [(3, 1)]) = r 3 := zu_f1 v3
  have g1 : zq_ev rq (0, [(4, 1)]) = r 4 := zu_f1 v4
  have g2 : zq_ev rq (0, [(5, 1)]) = r 5 := zu_f1 v5
  have g3 : zq_ev rq (0, [(2, 1)]) = r 2 := zu_f1 v2
  have g4 : zq_ev rq (0, [(1, 1)]) = r 1 := zu_f1 v1
  have g5 : zq_ev rq (0, [(8, 1)]) = r 8 := zu_f1 v8
  have g6 : zq_ev rq (1, [(7, 1)]) = r 7 + 1 := zu_f2 v7 _
  exact ⟨_, List.mem_cons_self .., rq, hr, zq_MeS_mk rfl hT (zq_all_nil) zq_fan (zq_fan) rfl (zu_fac ((x_SOF _ _ _).mpr (by show zu_SOF (zq_ev rq (0, [(3, 1)])) (zq_ev rq (0, [(4, 1)])) (zq_ev rq (0, [(5, 1)])) (zq_ev rq (0, [(2, 1)])) (zq_ev rq (0, [(1, 1)])) (zq_ev rq (0, [(8, 1)])) (zq_ev rq (1, [(7, 1)])) P h; simp only [g0, g1, g2, g3, g4, g5, g6]; exact t1)) zq_fan)⟩
noncomputable def zu_tOa : zq_S × List zq_S := (([], [], [(0, [(9, 1)]), (31, [(9, -1)])], [], [((0, [(0, 1)]), (0, [(6, 1)]), (0, [(9, 1)])), ((0, [(5, 1)]), (0, [(7, 1)]), (0, [(6, 1)])), ((0, [(3, 1)]), (0, [(7, 1)]), (100, [(9, 1)]))], [], [(22, [(0, [(0, 1)]), (0, [(1, 1)]), (0, [(2, 1)])]), (106, [(0, [(3, 1)]), (0, [(4, 1)]), (0, [(5, 1)]), (0, [(2, 1)]), (0, [(1, 1)]), (0, [(6, 1)]), (0, [(7, 1)])]), (122, [(0, [(2, 1)]), (0, [(1, 1)]), (0, [(6, 1)]), (0, [(8, 1)])])], 10), [([], [], [], [], [], [], [(106, [(0, [(3, 1)]), (0, [(4, 1)]), (0, [(5, 1)]), (0, [(2, 1)]), (0, [(1, 1)]), (0, [(8, 1)]), (1, [(7, 1)])])], 10)])
theorem zu_tOa_l {P : zq_Ty} {h : zq_H} {tp n g co va pl k t q b : Int} (a1 : 0 ≤ b) (a2 : 0 ≤ -b + 31) (s1 : 0 ≤ tp ∧ P (tp).toNat ≠ none ∧ h (tp).toNat k = b) (s2 : 0 ≤ pl ∧ P (pl).toNat ≠ none ∧ h (pl).toNat t = k) (s3 : 0 ≤ co ∧ P (co).toNat ≠ none ∧ h (co).toNat t = b + 100) (k1 : zu_TCr tp n g P h) (k2 : zu_SOF co va pl g n k t P h) (k3 : zu_EN g n k q P h) : (zu_SOF co va pl g n q (t + 1) P h) := by
  obtain ⟨z1, z2, z3, z4, z5, z6⟩ := k2
  obtain ⟨y1, y2, y3, y4⟩ := k3
  have d := zu_dgr k1 (j := k) (by omega) (by omega) s1.2.2 (by omega) (by omega)
  have kd : zu_kd (zu_dg g n k) = 3 := by rw [d]; exact zu_kd3 (by omega) (by omega) (by omega)
  obtain ⟨x1, x2⟩ := zu_at_tok z5 (by omega) (by rw [kd]; decide) y1 y3 y4
  
  have ec : (zu_tk (zu_dg g n) k q).2.2.1 = b + 100 := by
    show (if zu_kd (zu_dg g n k) = 1 then _ else if zu_kd (zu_dg g n k) = 2 then _ else _) = _
    rw [if_neg (by omega), if_neg (by omega), d]
    omega
  
  refine ⟨z1, z2, z3, z4, x2, fun j x y => ?_⟩
  by_cases hj : j < t
  · exact z6 j x hj
  · have e : j = t := by omega
    rw [e]
    refine ⟨_, x1.2.2.2.2.1, by rw [s2.2.2]; rfl, y2, ?_, ?_⟩
    · rw [s3.2.2, ec]
    · intro w
      rw [ec] at w
      exfalso
      omega
theorem zu_tOa_ok {w : zq_Wd} (x_TCr : zj_is w 22 (fun q => zu_TCr (q 0) (q 1) (q 2))) (x_SOF : zj_is w 106 (fun q => zu_SOF (q 0) (q 1) (q 2) (q 3) (q 4) (q 5) (q 6))) (x_EN : zj_is w 122 (fun q => zu_EN (q 0) (q 1) (q 2) (q 3))) : zq_okG1 w zu_tOa := by
  refine ⟨rfl, rfl, zu_fac ⟨rfl, by decide⟩ zq_fan, ?_⟩
  intro r P h H hM
  have q0 : zq_ev r (0, [(9, 1)]) = r 9 := zu_e1 _ _
  have q1 : zq_ev r (31, [(9, -1)]) = -r 9 + 31 := zu_e5 _ _ _
  have q2 : zq_ev r (0, [(0, 1)]) = r 0 := zu_e1 _ _
  have q3 : zq_ev r (0, [(6, 1)]) = r 6 := zu_e1 _ _
  have q4 : zq_ev r (0, [(5, 1)]) = r 5 := zu_e1 _ _
  have q5 : zq_ev r (0, [(7, 1)]) = r 7 := zu_e1 _ _
  have q6 : zq_ev r (0, [(3, 1)]) = r 3 := zu_e1 _ _
  have q7 : zq_ev r (100, [(9, 1)]) = r 9 + 100 := zu_e2 _ _ _
  have q8 : zq_ev r (0, [(1, 1)]) = r 1 := zu_e1 _ _
  have q9 : zq_ev r (0, [(2, 1)]) = r 2 := zu_e1 _ _
  have q10 : zq_ev r (0, [(4, 1)]) = r 4 := zu_e1 _ _
  have q11 : zq_ev r (0, [(8, 1)]) = r 8 := zu_e1 _ _
  obtain ⟨hT, hC, hF, hS, -, hK⟩ := hM
  have c := hC.1
  have a1 := zq_all_1 c
  rw [q0] at a1
  have c := zq_all_t c
  have a2 := zq_all_1 c
  rw [q1] at a2
  have s1 := zq_okS_1 (hS)
  simp only [q0, q2, q3] at s1
  have s2 := zq_okS_1 (zq_okS_t (hS))
  simp only [q3, q4, q5] at s2
  have s3 := zq_okS_1 (zq_okS_t (zq_okS_t (hS)))
  simp only [q5, q6, q7] at s3
  have k1 : zu_TCr (zq_ev r (0, [(0, 1)])) (zq_ev r (0, [(1, 1)])) (zq_ev r (0, [(2, 1)])) P h := zj_use x_TCr (hK)
  simp only [q2, q8, q9] at k1
  have k2 : zu_SOF (zq_ev r (0, [(3, 1)])) (zq_ev r (0, [(4, 1)])) (zq_ev r (0, [(5, 1)])) (zq_ev r (0, [(2, 1)])) (zq_ev r (0, [(1, 1)])) (zq_ev r (0, [(6, 1)])) (zq_ev r (0, [(7, 1)])) P h := zj_use x_SOF (zq_okX_t (hK))
  simp only [q10, q3, q4, q5, q6, q8, q9] at k2
  have k3 : zu_EN (zq_ev r (0, [(2, 1)])) (zq_ev r (0, [(1, 1)])) (zq_ev r (0, [(6, 1)])) (zq_ev r (0, [(8, 1)])) P h := zj_use x_EN (zq_okX_t (zq_okX_t (hK)))
  simp only [q11, q3, q8, q9] at k3
  obtain t1 := zu_tOa_l (P := P) (h := h) (tp := r 0) (n := r 1) (g := r 2) (co := r 3) (va := r 4) (pl := r 5) (k := r 6) (t := r 7) (q := r 8) (b := r 9) a1 a2 s1 s2 s3 k1 k2 k3
  obtain ⟨rq, hr⟩ : ∃ rq : Nat → Int, (∀ i, i < 10 → rq i = r i) := ⟨r, fun i hi => rfl⟩
  have v1 : rq 1 = r 1 := hr 1 (by decide)
  have v2 : rq 2 = r 2 := hr 2 (by decide)
  have v3 : rq 3 = r 3 := hr 3 (by decide)
  have v4 : rq 4 = r 4 := hr 4 (by decide)
  have v5 : rq 5 = r 5 := hr 5 (by decide)
  have v7 : rq 7 = r 7 := hr 7 (by decide)
  have v8 : rq 8 = r 8 := hr 8 (by decide)
  have g0 : zq_ev rq (0, [(3, 1)]) = r 3 := zu_f1 v3
  have g1 : zq_ev rq (0, [(4, 1)]) = r 4 := zu_f1 v4
  have g2 : zq_ev rq (0, [(5, 1)]) = r 5 := zu_f1 v5
  have g3 : zq_ev rq (0, [(2, 1)]) = r 2 := zu_f1 v2
  have g4 : zq_ev rq (0, [(1, 1)]) = r 1 := zu_f1 v1
  have g5 : zq_ev rq (0, [(8, 1)]) = r 8 := zu_f1 v8
  have g6 : zq_ev rq (1, [(7, 1)]) = r 7 + 1 := zu_f2 v7 _
  exact ⟨_, List.mem_cons_self .., rq, hr, zq_MeS_mk rfl hT (zq_all_nil) zq_fan (zq_fan) rfl (zu_fac ((x_SOF _ _ _).mpr (by show zu_SOF (zq_ev rq (0, [(3, 1)])) (zq_ev rq (0, [(4, 1)])) (zq_ev rq (0, [(5, 1)])) (zq_ev rq (0, [(2, 1)])) (zq_ev rq (0, [(1, 1)])) (zq_ev rq (0, [(8, 1)])) (zq_ev rq (1, [(7, 1)])) P h; simp only [g0, g1, g2, g3, g4, g5, g6]; exact t1)) zq_fan)⟩
noncomputable def zu_tOb : zq_S × List zq_S := (([], [], [(-33, [(9, 1)]), (47, [(9, -1)])], [], [((0, [(0, 1)]), (0, [(6, 1)]), (0, [(9, 1)])), ((0, [(5, 1)]), (0, [(7, 1)]), (0, [(6, 1)])), ((0, [(3, 1)]), (0, [(7, 1)]), (100, [(9, 1)]))], [], [(22, [(0, [(0, 1)]), (0, [(1, 1)]), (0, [(2, 1)])]), (106, [(0, [(3, 1)]), (0, [(4, 1)]), (0, [(5, 1)]), (0, [(2, 1)]), (0, [(1, 1)]), (0, [(6, 1)]), (0, [(7, 1)])]), (122, [(0, [(2, 1)]), (0, [(1, 1)]), (0, [(6, 1)]), (0, [(8, 1)])])], 10), [([], [], [], [], [], [], [(106, [(0, [(3, 1)]), (0, [(4, 1)]), (0, [(5, 1)]), (0, [(2, 1)]), (0, [(1, 1)]), (0, [(8, 1)]), (1, [(7, 1)])])], 10)])
theorem zu_tOb_l {P : zq_Ty} {h : zq_H} {tp n g co va pl k t q b : Int} (a1 : 0 ≤ b - 33) (a2 : 0 ≤ -b + 47) (s1 : 0 ≤ tp ∧ P (tp).toNat ≠ none ∧ h (tp).toNat k = b) (s2 : 0 ≤ pl ∧ P (pl).toNat ≠ none ∧ h (pl).toNat t = k) (s3 : 0 ≤ co ∧ P (co).toNat ≠ none ∧ h (co).toNat t = b + 100) (k1 : zu_TCr tp n g P h) (k2 : zu_SOF co va pl g n k t P h) (k3 : zu_EN g n k q P h) : (zu_SOF co va pl g n q (t + 1) P h) := by
  obtain ⟨z1, z2, z3, z4, z5, z6⟩ := k2
  obtain ⟨y1, y2, y3, y4⟩ := k3
  have d := zu_dgr k1 (j := k) (by omega) (by omega) s1.2.2 (by omega) (by omega)
  have kd : zu_kd (zu_dg g n k) = 3 := by rw [d]; exact zu_kd3 (by omega) (by omega) (by omega)
  obtain ⟨x1, x2⟩ := zu_at_tok z5 (by omega) (by rw [kd]; decide) y1 y3 y4
  
  have ec : (zu_tk (zu_dg g n) k q).2.2.1 = b + 100 := by
    show (if zu_kd (zu_dg g n k) = 1 then _ else if zu_kd (zu_dg g n k) = 2 then _ else _) = _
    rw [if_neg (by omega), if_neg (by omega), d]
    omega
  
  refine ⟨z1, z2, z3, z4, x2, fun j x y => ?_⟩
  by_cases hj : j < t
  · exact z6 j x hj
  · have e : j = t := by omega
    rw [e]
    refine ⟨_, x1.2.2.2.2.1, by rw [s2.2.2]; rfl, y2, ?_, ?_⟩
    · rw [s3.2.2, ec]
    · intro w
      rw [ec] at w
      exfalso
      omega
theorem zu_tOb_ok {w : zq_Wd} (x_TCr : zj_is w 22 (fun q => zu_TCr (q 0) (q 1) (q 2))) (x_SOF : zj_is w 106 (fun q => zu_SOF (q 0) (q 1) (q 2) (q 3) (q 4) (q 5) (q 6))) (x_EN : zj_is w 122 (fun q => zu_EN (q 0) (q 1) (q 2) (q 3))) : zq_okG1 w zu_tOb := by
  refine ⟨rfl, rfl, zu_fac ⟨rfl, by decide⟩ zq_fan, ?_⟩
  intro r P h H hM
  have q0 : zq_ev r (-33, [(9, 1)]) = r 9 - 33 := zu_e3 _ _ _
  have q1 : zq_ev r (47, [(9, -1)]) = -r 9 + 47 := zu_e5 _ _ _
  have q2 : zq_ev r (0, [(0, 1)]) = r 0 := zu_e1 _ _
  have q3 : zq_ev r (0, [(6, 1)]) = r 6 := zu_e1 _ _
  have q4 : zq_ev r (0, [(9, 1)]) = r 9 := zu_e1 _ _
  have q5 : zq_ev r (0, [(5, 1)]) = r 5 := zu_e1 _ _
  have q6 : zq_ev r (0, [(7, 1)]) = r 7 := zu_e1 _ _
  have q7 : zq_ev r (0, [(3, 1)]) = r 3 := zu_e1 _ _
  have q8 : zq_ev r (100, [(9, 1)]) = r 9 + 100 := zu_e2 _ _ _
  have q9 : zq_ev r (0, [(1, 1)]) = r 1 := zu_e1 _ _
  have q10 : zq_ev r (0, [(2, 1)]) = r 2 := zu_e1 _ _
  have q11 : zq_ev r (0, [(4, 1)]) = r 4 := zu_e1 _ _
  have q12 : zq_ev r (0, [(8, 1)]) = r 8 := zu_e1 _ _
  obtain ⟨hT, hC, hF, hS, -, hK⟩ := hM
  have c := hC.1
  have a1 := zq_all_1 c
  rw [q0] at a1
  have c := zq_all_t c
  have a2 := zq_all_1 c
  rw [q1] at a2
  have s1 := zq_okS_1 (hS)
  simp only [q2, q3, q4] at s1
  have s2 := zq_okS_1 (zq_okS_t (hS))
  simp only [q3, q5, q6] at s2
  have s3 := zq_okS_1 (zq_okS_t (zq_okS_t (hS)))
  simp only [q6, q7, q8] at s3
  have k1 : zu_TCr (zq_ev r (0, [(0, 1)])) (zq_ev r (0, [(1, 1)])) (zq_ev r (0, [(2, 1)])) P h := zj_use x_TCr (hK)
  simp only [q10, q2, q9] at k1
  have k2 : zu_SOF (zq_ev r (0, [(3, 1)])) (zq_ev r (0, [(4, 1)])) (zq_ev r (0, [(5, 1)])) (zq_ev r (0, [(2, 1)])) (zq_ev r (0, [(1, 1)])) (zq_ev r (0, [(6, 1)])) (zq_ev r (0, [(7, 1)])) P h := zj_use x_SOF (zq_okX_t (hK))
  simp only [q10, q11, q3, q5, q6, q7, q9] at k2
  have k3 : zu_EN (zq_ev r (0, [(2, 1)])) (zq_ev r (0, [(1, 1)])) (zq_ev r (0, [(6, 1)])) (zq_ev r (0, [(8, 1)])) P h := zj_use x_EN (zq_okX_t (zq_okX_t (hK)))
  simp only [q10, q12, q3, q9] at k3
  obtain t1 := zu_tOb_l (P := P) (h := h) (tp := r 0) (n := r 1) (g := r 2) (co := r 3) (va := r 4) (pl := r 5) (k := r 6) (t := r 7) (q := r 8) (b := r 9) a1 a2 s1 s2 s3 k1 k2 k3
  obtain ⟨rq, hr⟩ : ∃ rq : Nat → Int, (∀ i, i < 10 → rq i = r i) := ⟨r, fun i hi => rfl⟩
  have v1 : rq 1 = r 1 := hr 1 (by decide)
  have v2 : rq 2 = r 2 := hr 2 (by decide)
  have v3 : rq 3 = r 3 := hr 3 (by decide)
  have v4 : rq 4 = r 4 := hr 4 (by decide)
  have v5 : rq 5 = r 5 := hr 5 (by decide)
  have v7 : rq 7 = r 7 := hr 7 (by decide)
  have v8 : rq 8 = r 8 := hr 8 (by decide)
  have g0 : zq_ev rq (0, [(3, 1)]) = r 3 := zu_f1 v3
  have g1 : zq_ev rq (0, [(4, 1)]) = r 4 := zu_f1 v4
  have g2 : zq_ev rq (0, [(5, 1)]) = r 5 := zu_f1 v5
  have g3 : zq_ev rq (0, [(2, 1)]) = r 2 := zu_f1 v2
  have g4 : zq_ev rq (0, [(1, 1)]) = r 1 := zu_f1 v1
  have g5 : zq_ev rq (0, [(8, 1)]) = r 8 := zu_f1 v8
  have g6 : zq_ev rq (1, [(7, 1)]) = r 7 + 1 := zu_f2 v7 _
  exact ⟨_, List.mem_cons_self .., rq, hr, zq_MeS_mk rfl hT (zq_all_nil) zq_fan (zq_fan) rfl (zu_fac ((x_SOF _ _ _).mpr (by show zu_SOF (zq_ev rq (0, [(3, 1)])) (zq_ev rq (0, [(4, 1)])) (zq_ev rq (0, [(5, 1)])) (zq_ev rq (0, [(2, 1)])) (zq_ev rq (0, [(1, 1)])) (zq_ev rq (0, [(8, 1)])) (zq_ev rq (1, [(7, 1)])) P h; simp only [g0, g1, g2, g3, g4, g5, g6]; exact t1)) zq_fan)⟩
noncomputable def zu_tOc : zq_S × List zq_S := (([], [], [(-58, [(9, 1)]), (96, [(9, -1)])], [], [((0, [(0, 1)]), (0, [(6, 1)]), (0, [(9, 1)])), ((0, [(5, 1)]), (0, [(7, 1)]), (0, [(6, 1)])), ((0, [(3, 1)]), (0, [(7, 1)]), (100, [(9, 1)]))], [], [(22, [(0, [(0, 1)]), (0, [(1, 1)]), (0, [(2, 1)])]), (106, [(0, [(3, 1)]), (0, [(4, 1)]), (0, [(5, 1)]), (0, [(2, 1)]), (0, [(1, 1)]), (0, [(6, 1)]), (0, [(7, 1)])]), (122, [(0, [(2, 1)]), (0, [(1, 1)]), (0, [(6, 1)]), (0, [(8, 1)])])], 10), [([], [], [], [], [], [], [(106, [(0, [(3, 1)]), (0, [(4, 1)]), (0, [(5, 1)]), (0, [(2, 1)]), (0, [(1, 1)]), (0, [(8, 1)]), (1, [(7, 1)])])], 10)])
theorem zu_tOc_l {P : zq_Ty} {h : zq_H} {tp n g co va pl k t q b : Int} (a1 : 0 ≤ b - 58) (a2 : 0 ≤ -b + 96) (s1 : 0 ≤ tp ∧ P (tp).toNat ≠ none ∧ h (tp).toNat k = b) (s2 : 0 ≤ pl ∧ P (pl).toNat ≠ none ∧ h (pl).toNat t = k) (s3 : 0 ≤ co ∧ P (co).toNat ≠ none ∧ h (co).toNat t = b + 100) (k1 : zu_TCr tp n g P h) (k2 : zu_SOF co va pl g n k t P h) (k3 : zu_EN g n k q P h) : (zu_SOF co va pl g n q (t + 1) P h) := by
  obtain ⟨z1, z2, z3, z4, z5, z6⟩ := k2
  obtain ⟨y1, y2, y3, y4⟩ := k3
  have d := zu_dgr k1 (j := k) (by omega) (by omega) s1.2.2 (by omega) (by omega)
  have kd : zu_kd (zu_dg g n k) = 3 := by rw [d]; exact zu_kd3 (by omega) (by omega) (by omega)
  obtain ⟨x1, x2⟩ := zu_at_tok z5 (by omega) (by rw [kd]; decide) y1 y3 y4
  
  have ec : (zu_tk (zu_dg g n) k q).2.2.1 = b + 100 := by
    show (if zu_kd (zu_dg g n k) = 1 then _ else if zu_kd (zu_dg g n k) = 2 then _ else _) = _
    rw [if_neg (by omega), if_neg (by omega), d]
    omega
  
  refine ⟨z1, z2, z3, z4, x2, fun j x y => ?_⟩
  by_cases hj : j < t
  · exact z6 j x hj
  · have e : j = t := by omega
    rw [e]
    refine ⟨_, x1.2.2.2.2.1, by rw [s2.2.2]; rfl, y2, ?_, ?_⟩
    · rw [s3.2.2, ec]
    · intro w
      rw [ec] at w
      exfalso
      omega
theorem zu_tOc_ok {w : zq_Wd} (x_TCr : zj_is w 22 (fun q => zu_TCr (q 0) (q 1) (q 2))) (x_SOF : zj_is w 106 (fun q => zu_SOF (q 0) (q 1) (q 2) (q 3) (q 4) (q 5) (q 6))) (x_EN : zj_is w 122 (fun q => zu_EN (q 0) (q 1) (q 2) (q 3))) : zq_okG1 w zu_tOc := by
  refine ⟨rfl, rfl, zu_fac ⟨rfl, by decide⟩ zq_fan, ?_⟩
  intro r P h H hM
  have q0 : zq_ev r (-58, [(9, 1)]) = r 9 - 58 := zu_e3 _ _ _
  have q1 : zq_ev r (96, [(9, -1)]) = -r 9 + 96 := zu_e5 _ _ _
  have q2 : zq_ev r (0, [(0, 1)]) = r 0 := zu_e1 _ _
  have q3 : zq_ev r (0, [(6, 1)]) = r 6 := zu_e1 _ _
  have q4 : zq_ev r (0, [(9, 1)]) = r 9 := zu_e1 _ _
  have q5 : zq_ev r (0, [(5, 1)]) = r 5 := zu_e1 _ _
  have q6 : zq_ev r (0, [(7, 1)]) = r 7 := zu_e1 _ _
  have q7 : zq_ev r (0, [(3, 1)]) = r 3 := zu_e1 _ _
  have q8 : zq_ev r (100, [(9, 1)]) = r 9 + 100 := zu_e2 _ _ _
  have q9 : zq_ev r (0, [(1, 1)]) = r 1 := zu_e1 _ _
  have q10 : zq_ev r (0, [(2, 1)]) = r 2 := zu_e1 _ _
  have q11 : zq_ev r (0, [(4, 1)]) = r 4 := zu_e1 _ _
  have q12 : zq_ev r (0, [(8, 1)]) = r 8 := zu_e1 _ _
  obtain ⟨hT, hC, hF, hS, -, hK⟩ := hM
  have c := hC.1
  have a1 := zq_all_1 c
  rw [q0] at a1
  have c := zq_all_t c
  have a2 := zq_all_1 c
  rw [q1] at a2
  have s1 := zq_okS_1 (hS)
  simp only [q2, q3, q4] at s1
  have s2 := zq_okS_1 (zq_okS_t (hS))
  simp only [q3, q5, q6] at s2
  have s3 := zq_okS_1 (zq_okS_t (zq_okS_t (hS)))
  simp only [q6, q7, q8] at s3
  have k1 : zu_TCr (zq_ev r (0, [(0, 1)])) (zq_ev r (0, [(1, 1)])) (zq_ev r (0, [(2, 1)])) P h := zj_use x_TCr (hK)
  simp only [q10, q2, q9] at k1
  have k2 : zu_SOF (zq_ev r (0, [(3, 1)])) (zq_ev r (0, [(4, 1)])) (zq_ev r (0, [(5, 1)])) (zq_ev r (0, [(2, 1)])) (zq_ev r (0, [(1, 1)])) (zq_ev r (0, [(6, 1)])) (zq_ev r (0, [(7, 1)])) P h := zj_use x_SOF (zq_okX_t (hK))
  simp only [q10, q11, q3, q5, q6, q7, q9] at k2
  have k3 : zu_EN (zq_ev r (0, [(2, 1)])) (zq_ev r (0, [(1, 1)])) (zq_ev r (0, [(6, 1)])) (zq_ev r (0, [(8, 1)])) P h := zj_use x_EN (zq_okX_t (zq_okX_t (hK)))
  simp only [q10, q12, q3, q9] at k3
  obtain t1 := zu_tOc_l (P := P) (h := h) (tp := r 0) (n := r 1) (g := r 2) (co := r 3) (va := r 4) (pl := r 5) (k := r 6) (t := r 7) (q := r 8) (b := r 9) a1 a2 s1 s2 s3 k1 k2 k3
  obtain ⟨rq, hr⟩ : ∃ rq : Nat → Int, (∀ i, i < 10 → rq i = r i) := ⟨r, fun i hi => rfl⟩
  have v1 : rq 1 = r 1 := hr 1 (by decide)
  have v2 : rq 2 = r 2 := hr 2 (by decide)
  have v3 : rq 3 = r 3 := hr 3 (by decide)
  have v4 : rq 4 = r 4 := hr 4 (by decide)
  have v5 : rq 5 = r 5 := hr 5 (by decide)
  have v7 : rq 7 = r 7 := hr 7 (by decide)
  have v8 : rq 8 = r 8 := hr 8 (by decide)
  have g0 : zq_ev rq (0, [(3, 1)]) = r 3 := zu_f1 v3
  have g1 : zq_ev rq (0, [(4, 1)]) = r 4 := zu_f1 v4
  have g2 : zq_ev rq (0, [(5, 1)]) = r 5 := zu_f1 v5
  have g3 : zq_ev rq (0, [(2, 1)]) = r 2 := zu_f1 v2
  have g4 : zq_ev rq (0, [(1, 1)]) = r 1 := zu_f1 v1
  have g5 : zq_ev rq (0, [(8, 1)]) = r 8 := zu_f1 v8
  have g6 : zq_ev rq (1, [(7, 1)]) = r 7 + 1 := zu_f2 v7 _
  exact ⟨_, List.mem_cons_self .., rq, hr, zq_MeS_mk rfl hT (zq_all_nil) zq_fan (zq_fan) rfl (zu_fac ((x_SOF _ _ _).mpr (by show zu_SOF (zq_ev rq (0, [(3, 1)])) (zq_ev rq (0, [(4, 1)])) (zq_ev rq (0, [(5, 1)])) (zq_ev rq (0, [(2, 1)])) (zq_ev rq (0, [(1, 1)])) (zq_ev rq (0, [(8, 1)])) (zq_ev rq (1, [(7, 1)])) P h; simp only [g0, g1, g2, g3, g4, g5, g6]; exact t1)) zq_fan)⟩
noncomputable def zu_tOd : zq_S × List zq_S := (([], [], [(-123, [(9, 1)]), (127, [(9, -1)])], [], [((0, [(0, 1)]), (0, [(6, 1)]), (0, [(9, 1)])), ((0, [(5, 1)]), (0, [(7, 1)]), (0, [(6, 1)])), ((0, [(3, 1)]), (0, [(7, 1)]), (100, [(9, 1)]))], [], [(22, [(0, [(0, 1)]), (0, [(1, 1)]), (0, [(2, 1)])]), (106, [(0, [(3, 1)]), (0, [(4, 1)]), (0, [(5, 1)]), (0, [(2, 1)]), (0, [(1, 1)]), (0, [(6, 1)]), (0, [(7, 1)])]), (122, [(0, [(2, 1)]), (0, [(1, 1)]), (0, [(6, 1)]), (0, [(8, 1)])])], 10), [([], [], [], [], [], [], [(106, [(0, [(3, 1)]), (0, [(4, 1)]), (0, [(5, 1)]), (0, [(2, 1)]), (0, [(1, 1)]), (0, [(8, 1)]), (1, [(7, 1)])])], 10)])
theorem zu_tOd_l {P : zq_Ty} {h : zq_H} {tp n g co va pl k t q b : Int} (a1 : 0 ≤ b - 123) (a2 : 0 ≤ -b + 127) (s1 : 0 ≤ tp ∧ P (tp).toNat ≠ none ∧ h (tp).toNat k = b) (s2 : 0 ≤ pl ∧ P (pl).toNat ≠ none ∧ h (pl).toNat t = k) (s3 : 0 ≤ co ∧ P (co).toNat ≠ none ∧ h (co).toNat t = b + 100) (k1 : zu_TCr tp n g P h) (k2 : zu_SOF co va pl g n k t P h) (k3 : zu_EN g n k q P h) : (zu_SOF co va pl g n q (t + 1) P h) := by
  obtain ⟨z1, z2, z3, z4, z5, z6⟩ := k2
  obtain ⟨y1, y2, y3, y4⟩ := k3
  have d := zu_dgr k1 (j := k) (by omega) (by omega) s1.2.2 (by omega) (by omega)
  have kd : zu_kd (zu_dg g n k) = 3 := by rw [d]; exact zu_kd3 (by omega) (by omega) (by omega)
  obtain ⟨x1, x2⟩ := zu_at_tok z5 (by omega) (by rw [kd]; decide) y1 y3 y4
  
  have ec : (zu_tk (zu_dg g n) k q).2.2.1 = b + 100 := by
    show (if zu_kd (zu_dg g n k) = 1 then _ else if zu_kd (zu_dg g n k) = 2 then _ else _) = _
    rw [if_neg (by omega), if_neg (by omega), d]
    omega
  
  refine ⟨z1, z2, z3, z4, x2, fun j x y => ?_⟩
  by_cases hj : j < t
  · exact z6 j x hj
  · have e : j = t := by omega
    rw [e]
    refine ⟨_, x1.2.2.2.2.1, by rw [s2.2.2]; rfl, y2, ?_, ?_⟩
    · rw [s3.2.2, ec]
    · intro w
      rw [ec] at w
      exfalso
      omega
theorem zu_tOd_ok {w : zq_Wd} (x_TCr : zj_is w 22 (fun q => zu_TCr (q 0) (q 1) (q 2))) (x_SOF : zj_is w 106 (fun q => zu_SOF (q 0) (q 1) (q 2) (q 3) (q 4) (q 5) (q 6))) (x_EN : zj_is w 122 (fun q => zu_EN (q 0) (q 1) (q 2) (q 3))) : zq_okG1 w zu_tOd := by
  refine ⟨rfl, rfl, zu_fac ⟨rfl, by decide⟩ zq_fan, ?_⟩
  intro r P h H hM
  have q0 : zq_ev r (-123, [(9, 1)]) = r 9 - 123 := zu_e3 _ _ _
  have q1 : zq_ev r (127, [(9, -1)]) = -r 9 + 127 := zu_e5 _ _ _
  have q2 : zq_ev r (0, [(0, 1)]) = r 0 := zu_e1 _ _
  have q3 : zq_ev r (0, [(6, 1)]) = r 6 := zu_e1 _ _
  have q4 : zq_ev r (0, [(9, 1)]) = r 9 := zu_e1 _ _
  have q5 : zq_ev r (0, [(5, 1)]) = r 5 := zu_e1 _ _
  have q6 : zq_ev r (0, [(7, 1)]) = r 7 := zu_e1 _ _
  have q7 : zq_ev r (0, [(3, 1)]) = r 3 := zu_e1 _ _
  have q8 : zq_ev r (100, [(9, 1)]) = r 9 + 100 := zu_e2 _ _ _
  have q9 : zq_ev r (0, [(1, 1)]) = r 1 := zu_e1 _ _
  have q10 : zq_ev r (0, [(2, 1)]) = r 2 := zu_e1 _ _
  have q11 : zq_ev r (0, [(4, 1)]) = r 4 := zu_e1 _ _
  have q12 : zq_ev r (0, [(8, 1)]) = r 8 := zu_e1 _ _
  obtain ⟨hT, hC, hF, hS, -, hK⟩ := hM
  have c := hC.1
  have a1 := zq_all_1 c
  rw [q0] at a1
  have c := zq_all_t c
  have a2 := zq_all_1 c
  rw [q1] at a2
  have s1 := zq_okS_1 (hS)
  simp only [q2, q3, q4] at s1
  have s2 := zq_okS_1 (zq_okS_t (hS))
  simp only [q3, q5, q6] at s2
  have s3 := zq_okS_1 (zq_okS_t (zq_okS_t (hS)))
  simp only [q6, q7, q8] at s3
  have k1 : zu_TCr (zq_ev r (0, [(0, 1)])) (zq_ev r (0, [(1, 1)])) (zq_ev r (0, [(2, 1)])) P h := zj_use x_TCr (hK)
  simp only [q10, q2, q9] at k1
  have k2 : zu_SOF (zq_ev r (0, [(3, 1)])) (zq_ev r (0, [(4, 1)])) (zq_ev r (0, [(5, 1)])) (zq_ev r (0, [(2, 1)])) (zq_ev r (0, [(1, 1)])) (zq_ev r (0, [(6, 1)])) (zq_ev r (0, [(7, 1)])) P h := zj_use x_SOF (zq_okX_t (hK))
  simp only [q10, q11, q3, q5, q6, q7, q9] at k2
  have k3 : zu_EN (zq_ev r (0, [(2, 1)])) (zq_ev r (0, [(1, 1)])) (zq_ev r (0, [(6, 1)])) (zq_ev r (0, [(8, 1)])) P h := zj_use x_EN (zq_okX_t (zq_okX_t (hK)))
  simp only [q10, q12, q3, q9] at k3
  obtain t1 := zu_tOd_l (P := P) (h := h) (tp := r 0) (n := r 1) (g := r 2) (co := r 3) (va := r 4) (pl := r 5) (k := r 6) (t := r 7) (q := r 8) (b := r 9) a1 a2 s1 s2 s3 k1 k2 k3
  obtain ⟨rq, hr⟩ : ∃ rq : Nat → Int, (∀ i, i < 10 → rq i = r i) := ⟨r, fun i hi => rfl⟩
  have v1 : rq 1 = r 1 := hr 1 (by decide)
  have v2 : rq 2 = r 2 := hr 2 (by decide)
  have v3 : rq 3 = r 3 := hr 3 (by decide)
  have v4 : rq 4 = r 4 := hr 4 (by decide)
  have v5 : rq 5 = r 5 := hr 5 (by decide)
  have v7 : rq 7 = r 7 := hr 7 (by decide)
  have v8 : rq 8 = r 8 := hr 8 (by decide)
  have g0 : zq_ev rq (0, [(3, 1)]) = r 3 := zu_f1 v3
  have g1 : zq_ev rq (0, [(4, 1)]) = r 4 := zu_f1 v4
  have g2 : zq_ev rq (0, [(5, 1)]) = r 5 := zu_f1 v5
  have g3 : zq_ev rq (0, [(2, 1)]) = r 2 := zu_f1 v2
  have g4 : zq_ev rq (0, [(1, 1)]) = r 1 := zu_f1 v1
  have g5 : zq_ev rq (0, [(8, 1)]) = r 8 := zu_f1 v8
  have g6 : zq_ev rq (1, [(7, 1)]) = r 7 + 1 := zu_f2 v7 _
  exact ⟨_, List.mem_cons_self .., rq, hr, zq_MeS_mk rfl hT (zq_all_nil) zq_fan (zq_fan) rfl (zu_fac ((x_SOF _ _ _).mpr (by show zu_SOF (zq_ev rq (0, [(3, 1)])) (zq_ev rq (0, [(4, 1)])) (zq_ev rq (0, [(5, 1)])) (zq_ev rq (0, [(2, 1)])) (zq_ev rq (0, [(1, 1)])) (zq_ev rq (0, [(8, 1)])) (zq_ev rq (1, [(7, 1)])) P h; simp only [g0, g1, g2, g3, g4, g5, g6]; exact t1)) zq_fan)⟩
noncomputable def zu_sX : zq_S × List zq_S := (([], [], [(0, [(0, -1), (5, 1)]), (400, [(6, -1)]), (0, [(0, 1)])], [], [((0, [(4, 1)]), (0, [(6, 1)]), (0, [(0, 1)])), ((0, [(2, 1)]), (0, [(6, 1)]), (0, []))], [], [(106, [(0, [(2, 1)]), (0, [(3, 1)]), (0, [(4, 1)]), (0, [(1, 1)]), (0, [(0, 1)]), (0, [(5, 1)]), (0, [(6, 1)])])], 7), [([], [], [], [], [], [], [(107, [(0, [(2, 1)]), (0, [(3, 1)]), (0, [(4, 1)]), (0, [(1, 1)]), (0, [(0, 1)]), (0, [(6, 1)])])], 7)])
theorem zu_sX_l {P : zq_Ty} {h : zq_H} {n g co va pl k t : Int} (a1 : 0 ≤ -n + k) (a2 : 0 ≤ -t + 400) (a3 : 0 ≤ n) (s1 : 0 ≤ pl ∧ P (pl).toNat ≠ none ∧ h (pl).toNat t = n) (s2 : 0 ≤ co ∧ P (co).toNat ≠ none ∧ h (co).toNat t = 0) (k1 : zu_SOF co va pl g n k t P h) : (zu_LXR co va pl g n t P h) := by
  obtain ⟨z1, z2, z3, z4, z5, z6⟩ := k1
  refine ⟨z1, z2, z3, a3, z5.1, by omega, zu_at_end z5 (by omega), s1.2.2, s2.2.2, fun j x y => ?_⟩
  obtain ⟨e, e1, e2, e3, e4, e5⟩ := z6 j x y
  exact ⟨e, e1, e2, e3, e4, fun w => by omega, e5⟩
theorem zu_sX_ok {w : zq_Wd} (x_SOF : zj_is w 106 (fun q => zu_SOF (q 0) (q 1) (q 2) (q 3) (q 4) (q 5) (q 6))) (x_LXR : zj_is w 107 (fun q => zu_LXR (q 0) (q 1) (q 2) (q 3) (q 4) (q 5))) : zq_okG1 w zu_sX := by
  refine ⟨rfl, rfl, zu_fac ⟨rfl, by decide⟩ zq_fan, ?_⟩
  intro r P h H hM
  have q0 : zq_ev r (0, [(0, -1), (5, 1)]) = -r 0 + r 5 := by simp only [zq_ev, zq_ts] <;> omega
  have q1 : zq_ev r (400, [(6, -1)]) = -r 6 + 400 := zu_e5 _ _ _
  have q2 : zq_ev r (0, [(0, 1)]) = r 0 := zu_e1 _ _
  have q3 : zq_ev r (0, [(4, 1)]) = r 4 := zu_e1 _ _
  have q4 : zq_ev r (0, [(6, 1)]) = r 6 := zu_e1 _ _
  have q5 : zq_ev r (0, [(2, 1)]) = r 2 := zu_e1 _ _
  have q6 : zq_ev r (0, []) = 0 := zu_e0 _ _
  have q7 : zq_ev r (0, [(3, 1)]) = r 3 := zu_e1 _ _
  have q8 : zq_ev r (0, [(1, 1)]) = r 1 := zu_e1 _ _
  have q9 : zq_ev r (0, [(5, 1)]) = r 5 := zu_e1 _ _
  obtain ⟨hT, hC, hF, hS, -, hK⟩ := hM
  have c := hC.1
  have a1 := zq_all_1 c
  rw [q0] at a1
  have c := zq_all_t c
  have a2 := zq_all_1 c
  rw [q1] at a2
  have c := zq_all_t c
  have a3 := zq_all_1 c
  rw [q2] at a3
  have s1 := zq_okS_1 (hS)
  simp only [q2, q3, q4] at s1
  have s2 := zq_okS_1 (zq_okS_t (hS))
  simp only [q4, q5, q6] at s2
  have k1 : zu_SOF (zq_ev r (0, [(2, 1)])) (zq_ev r (0, [(3, 1)])) (zq_ev r (0, [(4, 1)])) (zq_ev r (0, [(1, 1)])) (zq_ev r (0, [(0, 1)])) (zq_ev r (0, [(5, 1)])) (zq_ev r (0, [(6, 1)])) P h := zj_use x_SOF (hK)
  simp only [q2, q3, q4, q5, q7, q8, q9] at k1
  obtain t1 := zu_sX_l (P := P) (h := h) (n := r 0) (g := r 1) (co := r 2) (va := r 3) (pl := r 4) (k := r 5) (t := r 6) a1 a2 a3 s1 s2 k1
  obtain ⟨rq, hr⟩ : ∃ rq : Nat → Int, (∀ i, i < 7 → rq i = r i) := ⟨r, fun i hi => rfl⟩
  have v0 : rq 0 = r 0 := hr 0 (by decide)
  have v1 : rq 1 = r 1 := hr 1 (by decide)
  have v2 : rq 2 = r 2 := hr 2 (by decide)
  have v3 : rq 3 = r 3 := hr 3 (by decide)
  have v4 : rq 4 = r 4 := hr 4 (by decide)
  have v6 : rq 6 = r 6 := hr 6 (by decide)
  have g0 : zq_ev rq (0, [(2, 1)]) = r 2 := zu_f1 v2
  have g1 : zq_ev rq (0, [(3, 1)]) = r 3 := zu_f1 v3
  have g2 : zq_ev rq (0, [(4, 1)]) = r 4 := zu_f1 v4
  have g3 : zq_ev rq (0, [(1, 1)]) = r 1 := zu_f1 v1
  have g4 : zq_ev rq (0, [(0, 1)]) = r 0 := zu_f1 v0
  have g5 : zq_ev rq (0, [(6, 1)]) = r 6 := zu_f1 v6
  exact ⟨_, List.mem_cons_self .., rq, hr, zq_MeS_mk rfl hT (zq_all_nil) zq_fan (zq_fan) rfl (zu_fac ((x_LXR _ _ _).mpr (by show zu_LXR (zq_ev rq (0, [(2, 1)])) (zq_ev rq (0, [(3, 1)])) (zq_ev rq (0, [(4, 1)])) (zq_ev rq (0, [(1, 1)])) (zq_ev rq (0, [(0, 1)])) (zq_ev rq (0, [(6, 1)])) P h; simp only [g0, g1, g2, g3, g4, g5]; exact t1)) zq_fan)⟩
noncomputable def zu_x0 : zq_S × List zq_S := (([], [], [(0, [(0, 1)])], [((0, [(0, 1)]), 5)], [], [], [], 1), [([], [], [], [], [], [], [(108, [(0, [(0, 1)]), (0, [])])], 1)])
theorem zu_x0_l {P : zq_Ty} {h : zq_H} {wd : Int} (a1 : 0 ≤ wd) (b1 : 0 ≤ wd → P (wd).toNat = some 5) : (zu_WR wd 0 P h) := by
  exact ⟨⟨a1, b1 a1⟩, by omega, by omega, fun j x y => by omega⟩
theorem zu_x0_ok {w : zq_Wd} (x_WR : zj_is w 108 (fun q => zu_WR (q 0) (q 1))) : zq_okG1 w zu_x0 := by
  refine ⟨rfl, rfl, zu_fac ⟨rfl, by decide⟩ zq_fan, ?_⟩
  intro r P h H hM
  have q0 : zq_ev r (0, [(0, 1)]) = r 0 := zu_e1 _ _
  obtain ⟨hT, hC, hF, hS, -, hK⟩ := hM
  have c := hC.1
  have a1 := zq_all_1 c
  rw [q0] at a1
  have b1 : 0 ≤ r 0 → P (r 0).toNat = some 5 := fun z => by
    have z1 : 0 ≤ zq_ev r (0, [(0, 1)]) := by rw [q0]; exact z
    have z2 := zq_okF_1 (hF) z1
    simp only [q0] at z2
    exact z2
  obtain t1 := zu_x0_l (P := P) (h := h) (wd := r 0) a1 b1
  obtain ⟨rq, hr⟩ : ∃ rq : Nat → Int, (∀ i, i < 1 → rq i = r i) := ⟨r, fun i hi => rfl⟩
  have v0 : rq 0 = r 0 := hr 0 (by decide)
  have g0 : zq_ev rq (0, [(0, 1)]) = r 0 := zu_f1 v0
  have g1 : zq_ev rq (0, []) = 0 := zu_e0 _ _
  exact ⟨_, List.mem_cons_self .., rq, hr, zq_MeS_mk rfl hT (zq_all_nil) zq_fan (zq_fan) rfl (zu_fac ((x_WR _ _ _).mpr (by show zu_WR (zq_ev rq (0, [(0, 1)])) (zq_ev rq (0, [])) P h; simp only [g0, g1]; exact t1)) zq_fan)⟩
noncomputable def zu_y0 : zq_S × List zq_S := (([], [], [], [], [], [], [], 4), [([], [], [], [], [], [], [(114, [(0, [(0, 1)]), (0, [(1, 1)]), (0, [(2, 1)]), (0, [(3, 1)]), (0, []), (1, []), (0, [(4, 1)])]), (112, [(0, [(0, 1)]), (0, [(1, 1)]), (0, [(2, 1)]), (0, [(3, 1)]), (0, [(4, 1)])])], 5)])
theorem zu_y0_l {P : zq_Ty} {h : zq_H} {g n s e : Int}  : (∃ c : Int, zu_SCR g n s e 0 1 c P h ∧ zu_WDR g n s e c P h) := by
  exact ⟨_, ⟨Int.le_refl _, rfl⟩, rfl⟩
theorem zu_y0_ok {w : zq_Wd} (x_SCR : zj_is w 114 (fun q => zu_SCR (q 0) (q 1) (q 2) (q 3) (q 4) (q 5) (q 6))) (x_WDR : zj_is w 112 (fun q => zu_WDR (q 0) (q 1) (q 2) (q 3) (q 4))) : zq_okG1 w zu_y0 := by
  refine ⟨rfl, rfl, zu_fac ⟨rfl, by decide⟩ zq_fan, ?_⟩
  intro r P h H hM
  obtain ⟨hT, hC, hF, hS, -, hK⟩ := hM
  have c := hC.1
  obtain ⟨y_0, t1, t2⟩ := zu_y0_l (P := P) (h := h) (g := r 0) (n := r 1) (s := r 2) (e := r 3) 
  obtain ⟨rq, hr, w4⟩ : ∃ rq : Nat → Int, (∀ i, i < 4 → rq i = r i) ∧ rq 4 = y_0 := ⟨zq_up r 4 y_0, fun i hi => by rw [zu_up_ne (by omega)], rfl⟩
  have v0 : rq 0 = r 0 := hr 0 (by decide)
  have v1 : rq 1 = r 1 := hr 1 (by decide)
  have v2 : rq 2 = r 2 := hr 2 (by decide)
  have v3 : rq 3 = r 3 := hr 3 (by decide)
  have g0 : zq_ev rq (0, [(0, 1)]) = r 0 := zu_f1 v0
  have g1 : zq_ev rq (0, [(1, 1)]) = r 1 := zu_f1 v1
  have g2 : zq_ev rq (0, [(2, 1)]) = r 2 := zu_f1 v2
  have g3 : zq_ev rq (0, [(3, 1)]) = r 3 := zu_f1 v3
  have g4 : zq_ev rq (0, [(4, 1)]) = y_0 := zu_f1 w4
  have g5 : zq_ev rq (0, []) = 0 := zu_e0 _ _
  have g6 : zq_ev rq (1, []) = 1 := zu_e0 _ _
  exact ⟨_, List.mem_cons_self .., rq, hr, zq_MeS_mk rfl hT (zq_all_nil) zq_fan (zq_fan) rfl (zu_fac ((x_SCR _ _ _).mpr (by show zu_SCR (zq_ev rq (0, [(0, 1)])) (zq_ev rq (0, [(1, 1)])) (zq_ev rq (0, [(2, 1)])) (zq_ev rq (0, [(3, 1)])) (zq_ev rq (0, [])) (zq_ev rq (1, [])) (zq_ev rq (0, [(4, 1)])) P h; simp only [g0, g1, g2, g3, g4, g5, g6]; exact t1)) (zu_fac ((x_WDR _ _ _).mpr (by show zu_WDR (zq_ev rq (0, [(0, 1)])) (zq_ev rq (0, [(1, 1)])) (zq_ev rq (0, [(2, 1)])) (zq_ev rq (0, [(3, 1)])) (zq_ev rq (0, [(4, 1)])) P h; simp only [g0, g1, g2, g3, g4]; exact t2)) zq_fan))⟩
noncomputable def zu_yL0 : zq_S × List zq_S := (([], [], [(0, [(0, 1)])], [], [], [], [], 1), [([], [], [], [], [], [], [(116, [(0, [(0, 1)]), (0, [])])], 1)])
theorem zu_yL0_l {P : zq_Ty} {h : zq_H} {k : Int} (a1 : 0 ≤ k) : (zu_LN k 0 P h) := by
  exact ⟨a1, Int.le_refl _, fun j x y => by omega⟩
theorem zu_yL0_ok {w : zq_Wd} (x_LN : zj_is w 116 (fun q => zu_LN (q 0) (q 1))) : zq_okG1 w zu_yL0 := by
  refine ⟨rfl, rfl, zu_fac ⟨rfl, by decide⟩ zq_fan, ?_⟩
  intro r P h H hM
  have q0 : zq_ev r (0, [(0, 1)]) = r 0 := zu_e1 _ _
  obtain ⟨hT, hC, hF, hS, -, hK⟩ := hM
  have c := hC.1
  have a1 := zq_all_1 c
  rw [q0] at a1
  obtain t1 := zu_yL0_l (P := P) (h := h) (k := r 0) a1
  obtain ⟨rq, hr⟩ : ∃ rq : Nat → Int, (∀ i, i < 1 → rq i = r i) := ⟨r, fun i hi => rfl⟩
  have v0 : rq 0 = r 0 := hr 0 (by decide)
  have g0 : zq_ev rq (0, [(0, 1)]) = r 0 := zu_f1 v0
  have g1 : zq_ev rq (0, []) = 0 := zu_e0 _ _
  exact ⟨_, List.mem_cons_self .., rq, hr, zq_MeS_mk rfl hT (zq_all_nil) zq_fan (zq_fan) rfl (zu_fac ((x_LN _ _ _).mpr (by show zu_LN (zq_ev rq (0, [(0, 1)])) (zq_ev rq (0, [])) P h; simp only [g0, g1]; exact t1)) zq_fan)⟩
noncomputable def zu_yL1a : zq_S × List zq_S := (([], [], [(140, [(1, -1), (2, -1)]), (31, [(3, -1)])], [], [((0, [(0, 1)]), (0, [(1, 1), (2, 1)]), (0, [(3, 1)]))], [], [(108, [(0, [(0, 1)]), (141, [])]), (116, [(0, [(1, 1)]), (0, [(2, 1)])])], 4), [([], [], [], [], [], [], [(116, [(0, [(1, 1)]), (1, [(2, 1)])])], 4)])
theorem zu_yL1a_l {P : zq_Ty} {h : zq_H} {wd k m v : Int} (a1 : 0 ≤ -k - m + 140) (a2 : 0 ≤ -v + 31) (s1 : 0 ≤ wd ∧ P (wd).toNat ≠ none ∧ h (wd).toNat (k + m) = v) (k1 : zu_WR wd 141 P h) (k2 : zu_LN k m P h) : (zu_LN k (m + 1) P h) := by
  obtain ⟨z1, z2, z3, z4⟩ := k1
  obtain ⟨y1, y2, y3⟩ := k2
  refine ⟨y1, by omega, fun j x y => ?_⟩
  by_cases hj : j < k + m
  · exact y3 j x hj
  · have e : j = k + m := by omega
    have := z4 (k + m) (by omega) (by omega)
    rw [s1.2.2] at this
    rw [e]
    omega
theorem zu_yL1a_ok {w : zq_Wd} (x_WR : zj_is w 108 (fun q => zu_WR (q 0) (q 1))) (x_LN : zj_is w 116 (fun q => zu_LN (q 0) (q 1))) : zq_okG1 w zu_yL1a := by
  refine ⟨rfl, rfl, zu_fac ⟨rfl, by decide⟩ zq_fan, ?_⟩
  intro r P h H hM
  have q0 : zq_ev r (140, [(1, -1), (2, -1)]) = -r 1 - r 2 + 140 := by simp only [zq_ev, zq_ts] <;> omega
  have q1 : zq_ev r (31, [(3, -1)]) = -r 3 + 31 := zu_e5 _ _ _
  have q2 : zq_ev r (0, [(0, 1)]) = r 0 := zu_e1 _ _
  have q3 : zq_ev r (0, [(1, 1), (2, 1)]) = r 1 + r 2 := by simp only [zq_ev, zq_ts] <;> omega
  have q4 : zq_ev r (0, [(3, 1)]) = r 3 := zu_e1 _ _
  have q5 : zq_ev r (141, []) = 141 := zu_e0 _ _
  have q6 : zq_ev r (0, [(1, 1)]) = r 1 := zu_e1 _ _
  have q7 : zq_ev r (0, [(2, 1)]) = r 2 := zu_e1 _ _
  obtain ⟨hT, hC, hF, hS, -, hK⟩ := hM
  have c := hC.1
  have a1 := zq_all_1 c
  rw [q0] at a1
  have c := zq_all_t c
  have a2 := zq_all_1 c
  rw [q1] at a2
  have s1 := zq_okS_1 (hS)
  simp only [q2, q3, q4] at s1
  have k1 : zu_WR (zq_ev r (0, [(0, 1)])) (zq_ev r (141, [])) P h := zj_use x_WR (hK)
  simp only [q2, q5] at k1
  have k2 : zu_LN (zq_ev r (0, [(1, 1)])) (zq_ev r (0, [(2, 1)])) P h := zj_use x_LN (zq_okX_t (hK))
  simp only [q6, q7] at k2
  obtain t1 := zu_yL1a_l (P := P) (h := h) (wd := r 0) (k := r 1) (m := r 2) (v := r 3) a1 a2 s1 k1 k2
  obtain ⟨rq, hr⟩ : ∃ rq : Nat → Int, (∀ i, i < 4 → rq i = r i) := ⟨r, fun i hi => rfl⟩
  have v1 : rq 1 = r 1 := hr 1 (by decide)
  have v2 : rq 2 = r 2 := hr 2 (by decide)
  have g0 : zq_ev rq (0, [(1, 1)]) = r 1 := zu_f1 v1
  have g1 : zq_ev rq (1, [(2, 1)]) = r 2 + 1 := zu_f2 v2 _
  exact ⟨_, List.mem_cons_self .., rq, hr, zq_MeS_mk rfl hT (zq_all_nil) zq_fan (zq_fan) rfl (zu_fac ((x_LN _ _ _).mpr (by show zu_LN (zq_ev rq (0, [(1, 1)])) (zq_ev rq (1, [(2, 1)])) P h; simp only [g0, g1]; exact t1)) zq_fan)⟩
noncomputable def zu_yL1b : zq_S × List zq_S := (([], [], [(140, [(1, -1), (2, -1)]), (-33, [(3, 1)])], [], [((0, [(0, 1)]), (0, [(1, 1), (2, 1)]), (0, [(3, 1)]))], [], [(108, [(0, [(0, 1)]), (141, [])]), (116, [(0, [(1, 1)]), (0, [(2, 1)])])], 4), [([], [], [], [], [], [], [(116, [(0, [(1, 1)]), (1, [(2, 1)])])], 4)])
theorem zu_yL1b_l {P : zq_Ty} {h : zq_H} {wd k m v : Int} (a1 : 0 ≤ -k - m + 140) (a2 : 0 ≤ v - 33) (s1 : 0 ≤ wd ∧ P (wd).toNat ≠ none ∧ h (wd).toNat (k + m) = v) (k1 : zu_WR wd 141 P h) (k2 : zu_LN k m P h) : (zu_LN k (m + 1) P h) := by
  obtain ⟨z1, z2, z3, z4⟩ := k1
  obtain ⟨y1, y2, y3⟩ := k2
  refine ⟨y1, by omega, fun j x y => ?_⟩
  by_cases hj : j < k + m
  · exact y3 j x hj
  · have e : j = k + m := by omega
    have := z4 (k + m) (by omega) (by omega)
    rw [s1.2.2] at this
    rw [e]
    omega
theorem zu_yL1b_ok {w : zq_Wd} (x_WR : zj_is w 108 (fun q => zu_WR (q 0) (q 1))) (x_LN : zj_is w 116 (fun q => zu_LN (q 0) (q 1))) : zq_okG1 w zu_yL1b := by
  refine ⟨rfl, rfl, zu_fac ⟨rfl, by decide⟩ zq_fan, ?_⟩
  intro r P h H hM
  have q0 : zq_ev r (140, [(1, -1), (2, -1)]) = -r 1 - r 2 + 140 := by simp only [zq_ev, zq_ts] <;> omega
  have q1 : zq_ev r (-33, [(3, 1)]) = r 3 - 33 := zu_e3 _ _ _
  have q2 : zq_ev r (0, [(0, 1)]) = r 0 := zu_e1 _ _
  have q3 : zq_ev r (0, [(1, 1), (2, 1)]) = r 1 + r 2 := by simp only [zq_ev, zq_ts] <;> omega
  have q4 : zq_ev r (0, [(3, 1)]) = r 3 := zu_e1 _ _
  have q5 : zq_ev r (141, []) = 141 := zu_e0 _ _
  have q6 : zq_ev r (0, [(1, 1)]) = r 1 := zu_e1 _ _
  have q7 : zq_ev r (0, [(2, 1)]) = r 2 := zu_e1 _ _
  obtain ⟨hT, hC, hF, hS, -, hK⟩ := hM
  have c := hC.1
  have a1 := zq_all_1 c
  rw [q0] at a1
  have c := zq_all_t c
  have a2 := zq_all_1 c
  rw [q1] at a2
  have s1 := zq_okS_1 (hS)
  simp only [q2, q3, q4] at s1
  have k1 : zu_WR (zq_ev r (0, [(0, 1)])) (zq_ev r (141, [])) P h := zj_use x_WR (hK)
  simp only [q2, q5] at k1
  have k2 : zu_LN (zq_ev r (0, [(1, 1)])) (zq_ev r (0, [(2, 1)])) P h := zj_use x_LN (zq_okX_t (hK))
  simp only [q6, q7] at k2
  obtain t1 := zu_yL1b_l (P := P) (h := h) (wd := r 0) (k := r 1) (m := r 2) (v := r 3) a1 a2 s1 k1 k2
  obtain ⟨rq, hr⟩ : ∃ rq : Nat → Int, (∀ i, i < 4 → rq i = r i) := ⟨r, fun i hi => rfl⟩
  have v1 : rq 1 = r 1 := hr 1 (by decide)
  have v2 : rq 2 = r 2 := hr 2 (by decide)
  have g0 : zq_ev rq (0, [(1, 1)]) = r 1 := zu_f1 v1
  have g1 : zq_ev rq (1, [(2, 1)]) = r 2 + 1 := zu_f2 v2 _
  exact ⟨_, List.mem_cons_self .., rq, hr, zq_MeS_mk rfl hT (zq_all_nil) zq_fan (zq_fan) rfl (zu_fac ((x_LN _ _ _).mpr (by show zu_LN (zq_ev rq (0, [(1, 1)])) (zq_ev rq (1, [(2, 1)])) P h; simp only [g0, g1]; exact t1)) zq_fan)⟩
noncomputable def zu_yW : zq_S × List zq_S := (([], [], [(140, [(1, -1), (2, -1)]), (-32, [(3, 1)]), (32, [(3, -1)])], [], [((0, [(0, 1)]), (0, [(1, 1), (2, 1)]), (0, [(3, 1)]))], [], [(108, [(0, [(0, 1)]), (141, [])]), (116, [(0, [(1, 1)]), (0, [(2, 1)])])], 4), [([], [], [], [], [], [], [(117, [(0, [(1, 1)]), (0, [(2, 1)])])], 4)])
theorem zu_yW_l {P : zq_Ty} {h : zq_H} {wd k m v : Int} (a1 : 0 ≤ -k - m + 140) (a2 : 0 ≤ v - 32) (a3 : 0 ≤ -v + 32) (s1 : 0 ≤ wd ∧ P (wd).toNat ≠ none ∧ h (wd).toNat (k + m) = v) (k1 : zu_WR wd 141 P h) (k2 : zu_LN k m P h) : (zu_WL k m P h) := by
  obtain ⟨z1, z2, z3, z4⟩ := k1
  obtain ⟨y1, y2, y3⟩ := k2
  have := z4 (k + m) (by omega) (by omega)
  rw [s1.2.2] at this
  exact ⟨y1, y2, by omega, by omega, y3⟩
theorem zu_yW_ok {w : zq_Wd} (x_WR : zj_is w 108 (fun q => zu_WR (q 0) (q 1))) (x_LN : zj_is w 116 (fun q => zu_LN (q 0) (q 1))) (x_WL : zj_is w 117 (fun q => zu_WL (q 0) (q 1))) : zq_okG1 w zu_yW := by
  refine ⟨rfl, rfl, zu_fac ⟨rfl, by decide⟩ zq_fan, ?_⟩
  intro r P h H hM
  have q0 : zq_ev r (140, [(1, -1), (2, -1)]) = -r 1 - r 2 + 140 := by simp only [zq_ev, zq_ts] <;> omega
  have q1 : zq_ev r (-32, [(3, 1)]) = r 3 - 32 := zu_e3 _ _ _
  have q2 : zq_ev r (32, [(3, -1)]) = -r 3 + 32 := zu_e5 _ _ _
  have q3 : zq_ev r (0, [(0, 1)]) = r 0 := zu_e1 _ _
  have q4 : zq_ev r (0, [(1, 1), (2, 1)]) = r 1 + r 2 := by simp only [zq_ev, zq_ts] <;> omega
  have q5 : zq_ev r (0, [(3, 1)]) = r 3 := zu_e1 _ _
  have q6 : zq_ev r (141, []) = 141 := zu_e0 _ _
  have q7 : zq_ev r (0, [(1, 1)]) = r 1 := zu_e1 _ _
  have q8 : zq_ev r (0, [(2, 1)]) = r 2 := zu_e1 _ _
  obtain ⟨hT, hC, hF, hS, -, hK⟩ := hM
  have c := hC.1
  have a1 := zq_all_1 c
  rw [q0] at a1
  have c := zq_all_t c
  have a2 := zq_all_1 c
  rw [q1] at a2
  have c := zq_all_t c
  have a3 := zq_all_1 c
  rw [q2] at a3
  have s1 := zq_okS_1 (hS)
  simp only [q3, q4, q5] at s1
  have k1 : zu_WR (zq_ev r (0, [(0, 1)])) (zq_ev r (141, [])) P h := zj_use x_WR (hK)
  simp only [q3, q6] at k1
  have k2 : zu_LN (zq_ev r (0, [(1, 1)])) (zq_ev r (0, [(2, 1)])) P h := zj_use x_LN (zq_okX_t (hK))
  simp only [q7, q8] at k2
  obtain t1 := zu_yW_l (P := P) (h := h) (wd := r 0) (k := r 1) (m := r 2) (v := r 3) a1 a2 a3 s1 k1 k2
  obtain ⟨rq, hr⟩ : ∃ rq : Nat → Int, (∀ i, i < 4 → rq i = r i) := ⟨r, fun i hi => rfl⟩
  have v1 : rq 1 = r 1 := hr 1 (by decide)
  have v2 : rq 2 = r 2 := hr 2 (by decide)
  have g0 : zq_ev rq (0, [(1, 1)]) = r 1 := zu_f1 v1
  have g1 : zq_ev rq (0, [(2, 1)]) = r 2 := zu_f1 v2
  exact ⟨_, List.mem_cons_self .., rq, hr, zq_MeS_mk rfl hT (zq_all_nil) zq_fan (zq_fan) rfl (zu_fac ((x_WL _ _ _).mpr (by show zu_WL (zq_ev rq (0, [(1, 1)])) (zq_ev rq (0, [(2, 1)])) P h; simp only [g0, g1]; exact t1)) zq_fan)⟩
noncomputable def zu_yNa : zq_S × List zq_S := (([], [], [(0, [(2, -1), (3, 1)]), (-1, [(2, -1), (3, 1), (5, -1)])], [], [], [], [(117, [(0, [(4, 1)]), (0, [(5, 1)])])], 6), [([], [], [], [], [], [], [(109, [(0, [(0, 1)]), (0, [(1, 1)]), (0, [(2, 1)]), (0, [(3, 1)]), (0, [(4, 1)]), (0, [(5, 1)])])], 6)])
theorem zu_yNa_l {P : zq_Ty} {h : zq_H} {g n s e k m : Int} (a1 : 0 ≤ -s + e) (a2 : 0 ≤ -s + e - m - 1) (k1 : zu_WL k m P h) : (zu_NE g n s e k m P h) := by
  have m0 := k1.2.1
  exact zu_bs_nel (by omega)
theorem zu_yNa_ok {w : zq_Wd} (x_WL : zj_is w 117 (fun q => zu_WL (q 0) (q 1))) (x_NE : zj_is w 109 (fun q => zu_NE (q 0) (q 1) (q 2) (q 3) (q 4) (q 5))) : zq_okG1 w zu_yNa := by
  refine ⟨rfl, rfl, zu_fac ⟨rfl, by decide⟩ zq_fan, ?_⟩
  intro r P h H hM
  have q0 : zq_ev r (0, [(2, -1), (3, 1)]) = -r 2 + r 3 := by simp only [zq_ev, zq_ts] <;> omega
  have q1 : zq_ev r (-1, [(2, -1), (3, 1), (5, -1)]) = -r 2 + r 3 - r 5 - 1 := by simp only [zq_ev, zq_ts] <;> omega
  have q2 : zq_ev r (0, [(4, 1)]) = r 4 := zu_e1 _ _
  have q3 : zq_ev r (0, [(5, 1)]) = r 5 := zu_e1 _ _
  obtain ⟨hT, hC, hF, hS, -, hK⟩ := hM
  have c := hC.1
  have a1 := zq_all_1 c
  rw [q0] at a1
  have c := zq_all_t c
  have a2 := zq_all_1 c
  rw [q1] at a2
  have k1 : zu_WL (zq_ev r (0, [(4, 1)])) (zq_ev r (0, [(5, 1)])) P h := zj_use x_WL (hK)
  simp only [q2, q3] at k1
  obtain t1 := zu_yNa_l (P := P) (h := h) (g := r 0) (n := r 1) (s := r 2) (e := r 3) (k := r 4) (m := r 5) a1 a2 k1
  obtain ⟨rq, hr⟩ : ∃ rq : Nat → Int, (∀ i, i < 6 → rq i = r i) := ⟨r, fun i hi => rfl⟩
  have v0 : rq 0 = r 0 := hr 0 (by decide)
  have v1 : rq 1 = r 1 := hr 1 (by decide)
  have v2 : rq 2 = r 2 := hr 2 (by decide)
  have v3 : rq 3 = r 3 := hr 3 (by decide)
  have v4 : rq 4 = r 4 := hr 4 (by decide)
  have v5 : rq 5 = r 5 := hr 5 (by decide)
  have g0 : zq_ev rq (0, [(0, 1)]) = r 0 := zu_f1 v0
  have g1 : zq_ev rq (0, [(1, 1)]) = r 1 := zu_f1 v1
  have g2 : zq_ev rq (0, [(2, 1)]) = r 2 := zu_f1 v2
  have g3 : zq_ev rq (0, [(3, 1)]) = r 3 := zu_f1 v3
  have g4 : zq_ev rq (0, [(4, 1)]) = r 4 := zu_f1 v4
  have g5 : zq_ev rq (0, [(5, 1)]) = r 5 := zu_f1 v5
  exact ⟨_, List.mem_cons_self .., rq, hr, zq_MeS_mk rfl hT (zq_all_nil) zq_fan (zq_fan) rfl (zu_fac ((x_NE _ _ _).mpr (by show zu_NE (zq_ev rq (0, [(0, 1)])) (zq_ev rq (0, [(1, 1)])) (zq_ev rq (0, [(2, 1)])) (zq_ev rq (0, [(3, 1)])) (zq_ev rq (0, [(4, 1)])) (zq_ev rq (0, [(5, 1)])) P h; simp only [g0, g1, g2, g3, g4, g5]; exact t1)) zq_fan)⟩
noncomputable def zu_yNb : zq_S × List zq_S := (([], [], [(0, [(2, -1), (3, 1)]), (-1, [(2, 1), (3, -1), (5, 1)])], [], [], [], [(117, [(0, [(4, 1)]), (0, [(5, 1)])])], 6), [([], [], [], [], [], [], [(109, [(0, [(0, 1)]), (0, [(1, 1)]), (0, [(2, 1)]), (0, [(3, 1)]), (0, [(4, 1)]), (0, [(5, 1)])])], 6)])
theorem zu_yNb_l {P : zq_Ty} {h : zq_H} {g n s e k m : Int} (a1 : 0 ≤ -s + e) (a2 : 0 ≤ s - e + m - 1) (k1 : zu_WL k m P h) : (zu_NE g n s e k m P h) := by
  have m0 := k1.2.1
  exact zu_bs_nel (by omega)
theorem zu_yNb_ok {w : zq_Wd} (x_WL : zj_is w 117 (fun q => zu_WL (q 0) (q 1))) (x_NE : zj_is w 109 (fun q => zu_NE (q 0) (q 1) (q 2) (q 3) (q 4) (q 5))) : zq_okG1 w zu_yNb := by
  refine ⟨rfl, rfl, zu_fac ⟨rfl, by decide⟩ zq_fan, ?_⟩
  intro r P h H hM
  have q0 : zq_ev r (0, [(2, -1), (3, 1)]) = -r 2 + r 3 := by simp only [zq_ev, zq_ts] <;> omega
  have q1 : zq_ev r (-1, [(2, 1), (3, -1), (5, 1)]) = r 2 - r 3 + r 5 - 1 := by simp only [zq_ev, zq_ts] <;> omega
  have q2 : zq_ev r (0, [(4, 1)]) = r 4 := zu_e1 _ _
  have q3 : zq_ev r (0, [(5, 1)]) = r 5 := zu_e1 _ _
  obtain ⟨hT, hC, hF, hS, -, hK⟩ := hM
  have c := hC.1
  have a1 := zq_all_1 c
  rw [q0] at a1
  have c := zq_all_t c
  have a2 := zq_all_1 c
  rw [q1] at a2
  have k1 : zu_WL (zq_ev r (0, [(4, 1)])) (zq_ev r (0, [(5, 1)])) P h := zj_use x_WL (hK)
  simp only [q2, q3] at k1
  obtain t1 := zu_yNb_l (P := P) (h := h) (g := r 0) (n := r 1) (s := r 2) (e := r 3) (k := r 4) (m := r 5) a1 a2 k1
  obtain ⟨rq, hr⟩ : ∃ rq : Nat → Int, (∀ i, i < 6 → rq i = r i) := ⟨r, fun i hi => rfl⟩
  have v0 : rq 0 = r 0 := hr 0 (by decide)
  have v1 : rq 1 = r 1 := hr 1 (by decide)
  have v2 : rq 2 = r 2 := hr 2 (by decide)
  have v3 : rq 3 = r 3 := hr 3 (by decide)
  have v4 : rq 4 = r 4 := hr 4 (by decide)
  have v5 : rq 5 = r 5 := hr 5 (by decide)
  have g0 : zq_ev rq (0, [(0, 1)]) = r 0 := zu_f1 v0
  have g1 : zq_ev rq (0, [(1, 1)]) = r 1 := zu_f1 v1
  have g2 : zq_ev rq (0, [(2, 1)]) = r 2 := zu_f1 v2
  have g3 : zq_ev rq (0, [(3, 1)]) = r 3 := zu_f1 v3
  have g4 : zq_ev rq (0, [(4, 1)]) = r 4 := zu_f1 v4
  have g5 : zq_ev rq (0, [(5, 1)]) = r 5 := zu_f1 v5
  exact ⟨_, List.mem_cons_self .., rq, hr, zq_MeS_mk rfl hT (zq_all_nil) zq_fan (zq_fan) rfl (zu_fac ((x_NE _ _ _).mpr (by show zu_NE (zq_ev rq (0, [(0, 1)])) (zq_ev rq (0, [(1, 1)])) (zq_ev rq (0, [(2, 1)])) (zq_ev rq (0, [(3, 1)])) (zq_ev rq (0, [(4, 1)])) (zq_ev rq (0, [(5, 1)])) P h; simp only [g0, g1, g2, g3, g4, g5]; exact t1)) zq_fan)⟩
noncomputable def zu_yM : zq_S × List zq_S := (([], [], [], [], [], [], [(114, [(0, [(0, 1)]), (0, [(1, 1)]), (0, [(2, 1)]), (0, [(3, 1)]), (0, [(4, 1)]), (0, [(5, 1)]), (0, [(6, 1)])]), (117, [(0, [(4, 1)]), (0, [(7, 1)])]), (109, [(0, [(0, 1)]), (0, [(1, 1)]), (0, [(2, 1)]), (0, [(3, 1)]), (0, [(4, 1)]), (0, [(7, 1)])])], 8), [([], [], [], [], [], [], [(114, [(0, [(0, 1)]), (0, [(1, 1)]), (0, [(2, 1)]), (0, [(3, 1)]), (1, [(4, 1), (7, 1)]), (1, [(5, 1)]), (0, [(6, 1)])])], 8)])
theorem zu_yM_l {P : zq_Ty} {h : zq_H} {g n s e k w c m : Int} (k1 : zu_SCR g n s e k w c P h) (k2 : zu_WL k m P h) (k3 : zu_NE g n s e k m P h) : (zu_SCR g n s e (k + m + 1) (w + 1) c P h) := by
  obtain ⟨z1, z2⟩ := k1
  have wl := zu_sp_w (k := k) m.toNat (by rw [show ((m.toNat : Nat) : Int) = m by have := k2.2.1; omega]; exact k2)
  have m0 := k2.2.1
  rw [show ((m.toNat : Nat) : Int) = m by omega] at wl
  rw [wl] at z2
  have z2 : c = (if zu_bs (zu_dg g n) (e - s).toNat s = zu_bs zu_chR m.toNat k then w else zu_fi (zu_bs (zu_dg g n) (e - s).toNat s) (zu_sp (zu_cR.drop (k + m + 1).toNat)) (w + 1) 0) := z2
  
  have k3 : zu_bs (zu_dg g n) (e - s).toNat s ≠ zu_bs zu_chR m.toNat k := k3
  rw [if_neg k3] at z2
  exact ⟨by omega, z2⟩
theorem zu_yM_ok {w : zq_Wd} (x_SCR : zj_is w 114 (fun q => zu_SCR (q 0) (q 1) (q 2) (q 3) (q 4) (q 5) (q 6))) (x_WL : zj_is w 117 (fun q => zu_WL (q 0) (q 1))) (x_NE : zj_is w 109 (fun q => zu_NE (q 0) (q 1) (q 2) (q 3) (q 4) (q 5))) : zq_okG1 w zu_yM := by
  refine ⟨rfl, rfl, zu_fac ⟨rfl, by decide⟩ zq_fan, ?_⟩
  intro r P h H hM
  have q0 : zq_ev r (0, [(0, 1)]) = r 0 := zu_e1 _ _
  have q1 : zq_ev r (0, [(1, 1)]) = r 1 := zu_e1 _ _
  have q2 : zq_ev r (0, [(2, 1)]) = r 2 := zu_e1 _ _
  have q3 : zq_ev r (0, [(3, 1)]) = r 3 := zu_e1 _ _
  have q4 : zq_ev r (0, [(4, 1)]) = r 4 := zu_e1 _ _
  have q5 : zq_ev r (0, [(5, 1)]) = r 5 := zu_e1 _ _
  have q6 : zq_ev r (0, [(6, 1)]) = r 6 := zu_e1 _ _
  have q7 : zq_ev r (0, [(7, 1)]) = r 7 := zu_e1 _ _
  obtain ⟨hT, hC, hF, hS, -, hK⟩ := hM
  have c := hC.1
  have k1 : zu_SCR (zq_ev r (0, [(0, 1)])) (zq_ev r (0, [(1, 1)])) (zq_ev r (0, [(2, 1)])) (zq_ev r (0, [(3, 1)])) (zq_ev r (0, [(4, 1)])) (zq_ev r (0, [(5, 1)])) (zq_ev r (0, [(6, 1)])) P h := zj_use x_SCR (hK)
  simp only [q0, q1, q2, q3, q4, q5, q6] at k1
  have k2 : zu_WL (zq_ev r (0, [(4, 1)])) (zq_ev r (0, [(7, 1)])) P h := zj_use x_WL (zq_okX_t (hK))
  simp only [q4, q7] at k2
  have k3 : zu_NE (zq_ev r (0, [(0, 1)])) (zq_ev r (0, [(1, 1)])) (zq_ev r (0, [(2, 1)])) (zq_ev r (0, [(3, 1)])) (zq_ev r (0, [(4, 1)])) (zq_ev r (0, [(7, 1)])) P h := zj_use x_NE (zq_okX_t (zq_okX_t (hK)))
  simp only [q0, q1, q2, q3, q4, q7] at k3
  obtain t1 := zu_yM_l (P := P) (h := h) (g := r 0) (n := r 1) (s := r 2) (e := r 3) (k := r 4) (w := r 5) (c := r 6) (m := r 7) k1 k2 k3
  obtain ⟨rq, hr⟩ : ∃ rq : Nat → Int, (∀ i, i < 8 → rq i = r i) := ⟨r, fun i hi => rfl⟩
  have v0 : rq 0 = r 0 := hr 0 (by decide)
  have v1 : rq 1 = r 1 := hr 1 (by decide)
  have v2 : rq 2 = r 2 := hr 2 (by decide)
  have v3 : rq 3 = r 3 := hr 3 (by decide)
  have v4 : rq 4 = r 4 := hr 4 (by decide)
  have v5 : rq 5 = r 5 := hr 5 (by decide)
  have v6 : rq 6 = r 6 := hr 6 (by decide)
  have v7 : rq 7 = r 7 := hr 7 (by decide)
  have g0 : zq_ev rq (0, [(0, 1)]) = r 0 := zu_f1 v0
  have g1 : zq_ev rq (0, [(1, 1)]) = r 1 := zu_f1 v1
  have g2 : zq_ev rq (0, [(2, 1)]) = r 2 := zu_f1 v2
  have g3 : zq_ev rq (0, [(3, 1)]) = r 3 := zu_f1 v3
  have g4 : zq_ev rq (1, [(4, 1), (7, 1)]) = r 4 + r 7 + 1 := by simp only [zq_ev, zq_ts, v0, v1, v2, v3, v4, v5, v6, v7] <;> omega
  have g5 : zq_ev rq (1, [(5, 1)]) = r 5 + 1 := zu_f2 v5 _
  have g6 : zq_ev rq (0, [(6, 1)]) = r 6 := zu_f1 v6
  exact ⟨_, List.mem_cons_self .., rq, hr, zq_MeS_mk rfl hT (zq_all_nil) zq_fan (zq_fan) rfl (zu_fac ((x_SCR _ _ _).mpr (by show zu_SCR (zq_ev rq (0, [(0, 1)])) (zq_ev rq (0, [(1, 1)])) (zq_ev rq (0, [(2, 1)])) (zq_ev rq (0, [(3, 1)])) (zq_ev rq (1, [(4, 1), (7, 1)])) (zq_ev rq (1, [(5, 1)])) (zq_ev rq (0, [(6, 1)])) P h; simp only [g0, g1, g2, g3, g4, g5, g6]; exact t1)) zq_fan)⟩
noncomputable def zu_yP0 : zq_S × List zq_S := (([], [], [], [], [], [], [], 4), [([], [], [], [], [], [], [(118, [(0, [(0, 1)]), (0, [(1, 1)]), (0, [(2, 1)]), (0, [(3, 1)]), (0, [])])], 4)])
theorem zu_yP0_l {P : zq_Ty} {h : zq_H} {g n s k : Int}  : (zu_PF g n s k 0 P h) := by
  exact ⟨Int.le_refl _, fun j x y => by omega⟩
theorem zu_yP0_ok {w : zq_Wd} (x_PF : zj_is w 118 (fun q => zu_PF (q 0) (q 1) (q 2) (q 3) (q 4))) : zq_okG1 w zu_yP0 := by
  refine ⟨rfl, rfl, zu_fac ⟨rfl, by decide⟩ zq_fan, ?_⟩
  intro r P h H hM
  obtain ⟨hT, hC, hF, hS, -, hK⟩ := hM
  have c := hC.1
  obtain t1 := zu_yP0_l (P := P) (h := h) (g := r 0) (n := r 1) (s := r 2) (k := r 3) 
  obtain ⟨rq, hr⟩ : ∃ rq : Nat → Int, (∀ i, i < 4 → rq i = r i) := ⟨r, fun i hi => rfl⟩
  have v0 : rq 0 = r 0 := hr 0 (by decide)
  have v1 : rq 1 = r 1 := hr 1 (by decide)
  have v2 : rq 2 = r 2 := hr 2 (by decide)
  have v3 : rq 3 = r 3 := hr 3 (by decide)
  have g0 : zq_ev rq (0, [(0, 1)]) = r 0 := zu_f1 v0
  have g1 : zq_ev rq (0, [(1, 1)]) = r 1 := zu_f1 v1
  have g2 : zq_ev rq (0, [(2, 1)]) = r 2 := zu_f1 v2
  have g3 : zq_ev rq (0, [(3, 1)]) = r 3 := zu_f1 v3
  have g4 : zq_ev rq (0, []) = 0 := zu_e0 _ _
  exact ⟨_, List.mem_cons_self .., rq, hr, zq_MeS_mk rfl hT (zq_all_nil) zq_fan (zq_fan) rfl (zu_fac ((x_PF _ _ _).mpr (by show zu_PF (zq_ev rq (0, [(0, 1)])) (zq_ev rq (0, [(1, 1)])) (zq_ev rq (0, [(2, 1)])) (zq_ev rq (0, [(3, 1)])) (zq_ev rq (0, [])) P h; simp only [g0, g1, g2, g3, g4]; exact t1)) zq_fan)⟩
noncomputable def zu_yP1 : zq_S × List zq_S := (([], [], [(0, [(3, 1)]), (140, [(3, -1), (4, -1)]), (0, [(2, 1)]), (-1, [(1, 1), (2, -1), (4, -1)]), (0, [(7, 1)]), (255, [(7, -1)]), (0, [(7, -1), (8, 1)]), (0, [(7, 1), (8, -1)])], [], [((0, [(5, 1)]), (0, [(3, 1), (4, 1)]), (0, [(7, 1)])), ((0, [(6, 1)]), (0, [(2, 1), (4, 1)]), (0, [(8, 1)]))], [], [(108, [(0, [(5, 1)]), (141, [])]), (22, [(0, [(6, 1)]), (0, [(1, 1)]), (0, [(0, 1)])]), (118, [(0, [(0, 1)]), (0, [(1, 1)]), (0, [(2, 1)]), (0, [(3, 1)]), (0, [(4, 1)])])], 9), [([], [], [], [], [], [], [(118, [(0, [(0, 1)]), (0, [(1, 1)]), (0, [(2, 1)]), (0, [(3, 1)]), (1, [(4, 1)])])], 9)])
theorem zu_yP1_l {P : zq_Ty} {h : zq_H} {g n s k i wd tp v u : Int} (a1 : 0 ≤ k) (a2 : 0 ≤ -k - i + 140) (a3 : 0 ≤ s) (a4 : 0 ≤ n - s - i - 1) (a5 : 0 ≤ v) (a6 : 0 ≤ -v + 255) (a7 : 0 ≤ -v + u) (a8 : 0 ≤ v - u) (s1 : 0 ≤ wd ∧ P (wd).toNat ≠ none ∧ h (wd).toNat (k + i) = v) (s2 : 0 ≤ tp ∧ P (tp).toNat ≠ none ∧ h (tp).toNat (s + i) = u) (k1 : zu_WR wd 141 P h) (k2 : zu_TCr tp n g P h) (k3 : zu_PF g n s k i P h) : (zu_PF g n s k (i + 1) P h) := by
  obtain ⟨z1, z2, z3, z4⟩ := k1
  obtain ⟨y1, y2⟩ := k3
  have d := zu_dgr k2 (j := s + i) (by omega) (by omega) s2.2.2 (by omega) (by omega)
  have q := z4 (k + i) (by omega) (by omega)
  rw [s1.2.2] at q
  refine ⟨by omega, fun j x y => ?_⟩
  by_cases hj : j < i
  · exact y2 j x hj
  · have e : j = i := by omega
    rw [e, d, ← q]
    omega
theorem zu_yP1_ok {w : zq_Wd} (x_WR : zj_is w 108 (fun q => zu_WR (q 0) (q 1))) (x_TCr : zj_is w 22 (fun q => zu_TCr (q 0) (q 1) (q 2))) (x_PF : zj_is w 118 (fun q => zu_PF (q 0) (q 1) (q 2) (q 3) (q 4))) : zq_okG1 w zu_yP1 := by
  refine ⟨rfl, rfl, zu_fac ⟨rfl, by decide⟩ zq_fan, ?_⟩
  intro r P h H hM
  have q0 : zq_ev r (0, [(3, 1)]) = r 3 := zu_e1 _ _
  have q1 : zq_ev r (140, [(3, -1), (4, -1)]) = -r 3 - r 4 + 140 := by simp only [zq_ev, zq_ts] <;> omega
  have q2 : zq_ev r (0, [(2, 1)]) = r 2 := zu_e1 _ _
  have q3 : zq_ev r (-1, [(1, 1), (2, -1), (4, -1)]) = r 1 - r 2 - r 4 - 1 := by simp only [zq_ev, zq_ts] <;> omega
  have q4 : zq_ev r (0, [(7, 1)]) = r 7 := zu_e1 _ _
  have q5 : zq_ev r (255, [(7, -1)]) = -r 7 + 255 := zu_e5 _ _ _
  have q6 : zq_ev r (0, [(7, -1), (8, 1)]) = -r 7 + r 8 := by simp only [zq_ev, zq_ts] <;> omega
  have q7 : zq_ev r (0, [(7, 1), (8, -1)]) = r 7 - r 8 := by simp only [zq_ev, zq_ts] <;> omega
  have q8 : zq_ev r (0, [(5, 1)]) = r 5 := zu_e1 _ _
  have q9 : zq_ev r (0, [(3, 1), (4, 1)]) = r 3 + r 4 := by simp only [zq_ev, zq_ts] <;> omega
  have q10 : zq_ev r (0, [(6, 1)]) = r 6 := zu_e1 _ _
  have q11 : zq_ev r (0, [(2, 1), (4, 1)]) = r 2 + r 4 := by simp only [zq_ev, zq_ts] <;> omega
  have q12 : zq_ev r (0, [(8, 1)]) = r 8 := zu_e1 _ _
  have q13 : zq_ev r (141, []) = 141 := zu_e0 _ _
  have q14 : zq_ev r (0, [(1, 1)]) = r 1 := zu_e1 _ _
  have q15 : zq_ev r (0, [(0, 1)]) = r 0 := zu_e1 _ _
  have q16 : zq_ev r (0, [(4, 1)]) = r 4 := zu_e1 _ _
  obtain ⟨hT, hC, hF, hS, -, hK⟩ := hM
  have c := hC.1
  have a1 := zq_all_1 c
  rw [q0] at a1
  have c := zq_all_t c
  have a2 := zq_all_1 c
  rw [q1] at a2
  have c := zq_all_t c
  have a3 := zq_all_1 c
  rw [q2] at a3
  have c := zq_all_t c
  have a4 := zq_all_1 c
  rw [q3] at a4
  have c := zq_all_t c
  have a5 := zq_all_1 c
  rw [q4] at a5
  have c := zq_all_t c
  have a6 := zq_all_1 c
  rw [q5] at a6
  have c := zq_all_t c
  have a7 := zq_all_1 c
  rw [q6] at a7
  have c := zq_all_t c
  have a8 := zq_all_1 c
  rw [q7] at a8
  have s1 := zq_okS_1 (hS)
  simp only [q4, q8, q9] at s1
  have s2 := zq_okS_1 (zq_okS_t (hS))
  simp only [q10, q11, q12] at s2
  have k1 : zu_WR (zq_ev r (0, [(5, 1)])) (zq_ev r (141, [])) P h := zj_use x_WR (hK)
  simp only [q13, q8] at k1
  have k2 : zu_TCr (zq_ev r (0, [(6, 1)])) (zq_ev r (0, [(1, 1)])) (zq_ev r (0, [(0, 1)])) P h := zj_use x_TCr (zq_okX_t (hK))
  simp only [q10, q14, q15] at k2
  have k3 : zu_PF (zq_ev r (0, [(0, 1)])) (zq_ev r (0, [(1, 1)])) (zq_ev r (0, [(2, 1)])) (zq_ev r (0, [(3, 1)])) (zq_ev r (0, [(4, 1)])) P h := zj_use x_PF (zq_okX_t (zq_okX_t (hK)))
  simp only [q0, q14, q15, q16, q2] at k3
  obtain t1 := zu_yP1_l (P := P) (h := h) (g := r 0) (n := r 1) (s := r 2) (k := r 3) (i := r 4) (wd := r 5) (tp := r 6) (v := r 7) (u := r 8) a1 a2 a3 a4 a5 a6 a7 a8 s1 s2 k1 k2 k3
  obtain ⟨rq, hr⟩ : ∃ rq : Nat → Int, (∀ i, i < 9 → rq i = r i) := ⟨r, fun i hi => rfl⟩
  have v0 : rq 0 = r 0 := hr 0 (by decide)
  have v1 : rq 1 = r 1 := hr 1 (by decide)
  have v2 : rq 2 = r 2 := hr 2 (by decide)
  have v3 : rq 3 = r 3 := hr 3 (by decide)
  have v4 : rq 4 = r 4 := hr 4 (by decide)
  have g0 : zq_ev rq (0, [(0, 1)]) = r 0 := zu_f1 v0
  have g1 : zq_ev rq (0, [(1, 1)]) = r 1 := zu_f1 v1
  have g2 : zq_ev rq (0, [(2, 1)]) = r 2 := zu_f1 v2
  have g3 : zq_ev rq (0, [(3, 1)]) = r 3 := zu_f1 v3
  have g4 : zq_ev rq (1, [(4, 1)]) = r 4 + 1 := zu_f2 v4 _
  exact ⟨_, List.mem_cons_self .., rq, hr, zq_MeS_mk rfl hT (zq_all_nil) zq_fan (zq_fan) rfl (zu_fac ((x_PF _ _ _).mpr (by show zu_PF (zq_ev rq (0, [(0, 1)])) (zq_ev rq (0, [(1, 1)])) (zq_ev rq (0, [(2, 1)])) (zq_ev rq (0, [(3, 1)])) (zq_ev rq (1, [(4, 1)])) P h; simp only [g0, g1, g2, g3, g4]; exact t1)) zq_fan)⟩
noncomputable def zu_yUl : zq_S × List zq_S := (([], [], [(0, [(2, 1), (3, -1), (5, 1)]), (0, [(2, -1), (3, 1), (5, -1)]), (0, [(6, 1)]), (-1, [(5, 1), (6, -1)]), (0, [(2, 1)]), (0, [(1, 1), (3, -1)]), (128, [(10, 1)]), (127, [(10, -1)]), (-1, [(9, 1), (10, -1)])], [], [((0, [(7, 1)]), (0, [(4, 1), (6, 1)]), (0, [(9, 1)])), ((0, [(8, 1)]), (0, [(2, 1), (6, 1)]), (0, [(10, 1)]))], [], [(117, [(0, [(4, 1)]), (0, [(5, 1)])]), (108, [(0, [(7, 1)]), (141, [])]), (22, [(0, [(8, 1)]), (0, [(1, 1)]), (0, [(0, 1)])])], 11), [([], [], [], [], [], [], [(109, [(0, [(0, 1)]), (0, [(1, 1)]), (0, [(2, 1)]), (0, [(3, 1)]), (0, [(4, 1)]), (0, [(5, 1)])])], 11)])
theorem zu_yUl_l {P : zq_Ty} {h : zq_H} {g n s e k m i wd tp v u : Int} (a1 : 0 ≤ s - e + m) (a2 : 0 ≤ -s + e - m) (a3 : 0 ≤ i) (a4 : 0 ≤ m - i - 1) (a5 : 0 ≤ s) (a6 : 0 ≤ n - e) (a7 : 0 ≤ u + 128) (a8 : 0 ≤ -u + 127) (a9 : 0 ≤ v - u - 1) (s1 : 0 ≤ wd ∧ P (wd).toNat ≠ none ∧ h (wd).toNat (k + i) = v) (s2 : 0 ≤ tp ∧ P (tp).toNat ≠ none ∧ h (tp).toNat (s + i) = u) (k1 : zu_WL k m P h) (k2 : zu_WR wd 141 P h) (k3 : zu_TCr tp n g P h) : (zu_NE g n s e k m P h) := by
  obtain ⟨q1, q2, q3, q4, q5⟩ := k1
  have q := k2.2.2.2 (k + i) (by omega) (by omega)
  rw [s1.2.2] at q
  have ci := zu_ch_in (k + i) (by omega) (by omega)
  have ne : zu_dg g n (s + i) ≠ zu_chR (k + i) := by
    by_cases hu : u < 0
    · rw [zu_dgn k3 (j := s + i) (by omega) (by omega) s2.2.2 (by omega) hu]
      omega
    · rw [zu_dgr k3 (j := s + i) (by omega) (by omega) s2.2.2 (by omega) (by omega)]
      omega
  have em : (e - s).toNat = m.toNat := by omega
  show zu_bs (zu_dg g n) (e - s).toNat s ≠ zu_bs zu_chR m.toNat k
  rw [em]
  exact zu_bs_ne m.toNat s k i (by omega) (by omega) ne
theorem zu_yUl_ok {w : zq_Wd} (x_WL : zj_is w 117 (fun q => zu_WL (q 0) (q 1))) (x_WR : zj_is w 108 (fun q => zu_WR (q 0) (q 1))) (x_TCr : zj_is w 22 (fun q => zu_TCr (q 0) (q 1) (q 2))) (x_NE : zj_is w 109 (fun q => zu_NE (q 0) (q 1) (q 2) (q 3) (q 4) (q 5))) : zq_okG1 w zu_yUl := by
  refine ⟨rfl, rfl, zu_fac ⟨rfl, by decide⟩ zq_fan, ?_⟩
  intro r P h H hM
  have q0 : zq_ev r (0, [(2, 1), (3, -1), (5, 1)]) = r 2 - r 3 + r 5 := by simp only [zq_ev, zq_ts] <;> omega
  have q1 : zq_ev r (0, [(2, -1), (3, 1), (5, -1)]) = -r 2 + r 3 - r 5 := by simp only [zq_ev, zq_ts] <;> omega
  have q2 : zq_ev r (0, [(6, 1)]) = r 6 := zu_e1 _ _
  have q3 : zq_ev r (-1, [(5, 1), (6, -1)]) = r 5 - r 6 - 1 := by simp only [zq_ev, zq_ts] <;> omega
  have q4 : zq_ev r (0, [(2, 1)]) = r 2 := zu_e1 _ _
  have q5 : zq_ev r (0, [(1, 1), (3, -1)]) = r 1 - r 3 := by simp only [zq_ev, zq_ts] <;> omega
  have q6 : zq_ev r (128, [(10, 1)]) = r 10 + 128 := zu_e2 _ _ _
  have q7 : zq_ev r (127, [(10, -1)]) = -r 10 + 127 := zu_e5 _ _ _
  have q8 : zq_ev r (-1, [(9, 1), (10, -1)]) = r 9 - r 10 - 1 := by simp only [zq_ev, zq_ts] <;> omega
  have q9 : zq_ev r (0, [(7, 1)]) = r 7 := zu_e1 _ _
  have q10 : zq_ev r (0, [(4, 1), (6, 1)]) = r 4 + r 6 := by simp only [zq_ev, zq_ts] <;> omega
  have q11 : zq_ev r (0, [(9, 1)]) = r 9 := zu_e1 _ _
  have q12 : zq_ev r (0, [(8, 1)]) = r 8 := zu_e1 _ _
  have q13 : zq_ev r (0, [(2, 1), (6, 1)]) = r 2 + r 6 := by simp only [zq_ev, zq_ts] <;> omega
  have q14 : zq_ev r (0, [(10, 1)]) = r 10 := zu_e1 _ _
  have q15 : zq_ev r (0, [(4, 1)]) = r 4 := zu_e1 _ _
  have q16 : zq_ev r (0, [(5, 1)]) = r 5 := zu_e1 _ _
  have q17 : zq_ev r (141, []) = 141 := zu_e0 _ _
  have q18 : zq_ev r (0, [(1, 1)]) = r 1 := zu_e1 _ _
  have q19 : zq_ev r (0, [(0, 1)]) = r 0 := zu_e1 _ _
  obtain ⟨hT, hC, hF, hS, -, hK⟩ := hM
  have c := hC.1
  have a1 := zq_all_1 c
  rw [q0] at a1
  have c := zq_all_t c
  have a2 := zq_all_1 c
  rw [q1] at a2
  have c := zq_all_t c
  have a3 := zq_all_1 c
  rw [q2] at a3
  have c := zq_all_t c
  have a4 := zq_all_1 c
  rw [q3] at a4
  have c := zq_all_t c
  have a5 := zq_all_1 c
  rw [q4] at a5
  have c := zq_all_t c
  have a6 := zq_all_1 c
  rw [q5] at a6
  have c := zq_all_t c
  have a7 := zq_all_1 c
  rw [q6] at a7
  have c := zq_all_t c
  have a8 := zq_all_1 c
  rw [q7] at a8
  have c := zq_all_t c
  have a9 := zq_all_1 c
  rw [q8] at a9
  have s1 := zq_okS_1 (hS)
  simp only [q10, q11, q9] at s1
  have s2 := zq_okS_1 (zq_okS_t (hS))
  simp only [q12, q13, q14] at s2
  have k1 : zu_WL (zq_ev r (0, [(4, 1)])) (zq_ev r (0, [(5, 1)])) P h := zj_use x_WL (hK)
  simp only [q15, q16] at k1
  have k2 : zu_WR (zq_ev r (0, [(7, 1)])) (zq_ev r (141, [])) P h := zj_use x_WR (zq_okX_t (hK))
  simp only [q17, q9] at k2
  have k3 : zu_TCr (zq_ev r (0, [(8, 1)])) (zq_ev r (0, [(1, 1)])) (zq_ev r (0, [(0, 1)])) P h := zj_use x_TCr (zq_okX_t (zq_okX_t (hK)))
  simp only [q12, q18, q19] at k3
  obtain t1 := zu_yUl_l (P := P) (h := h) (g := r 0) (n := r 1) (s := r 2) (e := r 3) (k := r 4) (m := r 5) (i := r 6) (wd := r 7) (tp := r 8) (v := r 9) (u := r 10) a1 a2 a3 a4 a5 a6 a7 a8 a9 s1 s2 k1 k2 k3
  obtain ⟨rq, hr⟩ : ∃ rq : Nat → Int, (∀ i, i < 11 → rq i = r i) := ⟨r, fun i hi => rfl⟩
  have v0 : rq 0 = r 0 := hr 0 (by decide)
  have v1 : rq 1 = r 1 := hr 1 (by decide)
  have v2 : rq 2 = r 2 := hr 2 (by decide)
  have v3 : rq 3 = r 3 := hr 3 (by decide)
  have v4 : rq 4 = r 4 := hr 4 (by decide)
  have v5 : rq 5 = r 5 := hr 5 (by decide)
  have g0 : zq_ev rq (0, [(0, 1)]) = r 0 := zu_f1 v0
  have g1 : zq_ev rq (0, [(1, 1)]) = r 1 := zu_f1 v1
  have g2 : zq_ev rq (0, [(2, 1)]) = r 2 := zu_f1 v2
  have g3 : zq_ev rq (0, [(3, 1)]) = r 3 := zu_f1 v3
  have g4 : zq_ev rq (0, [(4, 1)]) = r 4 := zu_f1 v4
  have g5 : zq_ev rq (0, [(5, 1)]) = r 5 := zu_f1 v5
  exact ⟨_, List.mem_cons_self .., rq, hr, zq_MeS_mk rfl hT (zq_all_nil) zq_fan (zq_fan) rfl (zu_fac ((x_NE _ _ _).mpr (by show zu_NE (zq_ev rq (0, [(0, 1)])) (zq_ev rq (0, [(1, 1)])) (zq_ev rq (0, [(2, 1)])) (zq_ev rq (0, [(3, 1)])) (zq_ev rq (0, [(4, 1)])) (zq_ev rq (0, [(5, 1)])) P h; simp only [g0, g1, g2, g3, g4, g5]; exact t1)) zq_fan)⟩
noncomputable def zu_yUg : zq_S × List zq_S := (([], [], [(0, [(2, 1), (3, -1), (5, 1)]), (0, [(2, -1), (3, 1), (5, -1)]), (0, [(6, 1)]), (-1, [(5, 1), (6, -1)]), (0, [(2, 1)]), (0, [(1, 1), (3, -1)]), (128, [(10, 1)]), (127, [(10, -1)]), (-1, [(9, -1), (10, 1)])], [], [((0, [(7, 1)]), (0, [(4, 1), (6, 1)]), (0, [(9, 1)])), ((0, [(8, 1)]), (0, [(2, 1), (6, 1)]), (0, [(10, 1)]))], [], [(117, [(0, [(4, 1)]), (0, [(5, 1)])]), (108, [(0, [(7, 1)]), (141, [])]), (22, [(0, [(8, 1)]), (0, [(1, 1)]), (0, [(0, 1)])])], 11), [([], [], [], [], [], [], [(109, [(0, [(0, 1)]), (0, [(1, 1)]), (0, [(2, 1)]), (0, [(3, 1)]), (0, [(4, 1)]), (0, [(5, 1)])])], 11)])
theorem zu_yUg_l {P : zq_Ty} {h : zq_H} {g n s e k m i wd tp v u : Int} (a1 : 0 ≤ s - e + m) (a2 : 0 ≤ -s + e - m) (a3 : 0 ≤ i) (a4 : 0 ≤ m - i - 1) (a5 : 0 ≤ s) (a6 : 0 ≤ n - e) (a7 : 0 ≤ u + 128) (a8 : 0 ≤ -u + 127) (a9 : 0 ≤ -v + u - 1) (s1 : 0 ≤ wd ∧ P (wd).toNat ≠ none ∧ h (wd).toNat (k + i) = v) (s2 : 0 ≤ tp ∧ P (tp).toNat ≠ none ∧ h (tp).toNat (s + i) = u) (k1 : zu_WL k m P h) (k2 : zu_WR wd 141 P h) (k3 : zu_TCr tp n g P h) : (zu_NE g n s e k m P h) := by
  obtain ⟨q1, q2, q3, q4, q5⟩ := k1
  have q := k2.2.2.2 (k + i) (by omega) (by omega)
  rw [s1.2.2] at q
  have ci := zu_ch_in (k + i) (by omega) (by omega)
  have ne : zu_dg g n (s + i) ≠ zu_chR (k + i) := by
    by_cases hu : u < 0
    · rw [zu_dgn k3 (j := s + i) (by omega) (by omega) s2.2.2 (by omega) hu]
      omega
    · rw [zu_dgr k3 (j := s + i) (by omega) (by omega) s2.2.2 (by omega) (by omega)]
      omega
  have em : (e - s).toNat = m.toNat := by omega
  show zu_bs (zu_dg g n) (e - s).toNat s ≠ zu_bs zu_chR m.toNat k
  rw [em]
  exact zu_bs_ne m.toNat s k i (by omega) (by omega) ne
theorem zu_yUg_ok {w : zq_Wd} (x_WL : zj_is w 117 (fun q => zu_WL (q 0) (q 1))) (x_WR : zj_is w 108 (fun q => zu_WR (q 0) (q 1))) (x_TCr : zj_is w 22 (fun q => zu_TCr (q 0) (q 1) (q 2))) (x_NE : zj_is w 109 (fun q => zu_NE (q 0) (q 1) (q 2) (q 3) (q 4) (q 5))) : zq_okG1 w zu_yUg := by
  refine ⟨rfl, rfl, zu_fac ⟨rfl, by decide⟩ zq_fan, ?_⟩
  intro r P h H hM
  have q0 : zq_ev r (0, [(2, 1), (3, -1), (5, 1)]) = r 2 - r 3 + r 5 := by simp only [zq_ev, zq_ts] <;> omega
  have q1 : zq_ev r (0, [(2, -1), (3, 1), (5, -1)]) = -r 2 + r 3 - r 5 := by simp only [zq_ev, zq_ts] <;> omega
  have q2 : zq_ev r (0, [(6, 1)]) = r 6 := zu_e1 _ _
  have q3 : zq_ev r (-1, [(5, 1), (6, -1)]) = r 5 - r 6 - 1 := by simp only [zq_ev, zq_ts] <;> omega
  have q4 : zq_ev r (0, [(2, 1)]) = r 2 := zu_e1 _ _
  have q5 : zq_ev r (0, [(1, 1), (3, -1)]) = r 1 - r 3 := by simp only [zq_ev, zq_ts] <;> omega
  have q6 : zq_ev r (128, [(10, 1)]) = r 10 + 128 := zu_e2 _ _ _
  have q7 : zq_ev r (127, [(10, -1)]) = -r 10 + 127 := zu_e5 _ _ _
  have q8 : zq_ev r (-1, [(9, -1), (10, 1)]) = -r 9 + r 10 - 1 := by simp only [zq_ev, zq_ts] <;> omega
  have q9 : zq_ev r (0, [(7, 1)]) = r 7 := zu_e1 _ _
  have q10 : zq_ev r (0, [(4, 1), (6, 1)]) = r 4 + r 6 := by simp only [zq_ev, zq_ts] <;> omega
  have q11 : zq_ev r (0, [(9, 1)]) = r 9 := zu_e1 _ _
  have q12 : zq_ev r (0, [(8, 1)]) = r 8 := zu_e1 _ _
  have q13 : zq_ev r (0, [(2, 1), (6, 1)]) = r 2 + r 6 := by simp only [zq_ev, zq_ts] <;> omega
  have q14 : zq_ev r (0, [(10, 1)]) = r 10 := zu_e1 _ _
  have q15 : zq_ev r (0, [(4, 1)]) = r 4 := zu_e1 _ _
  have q16 : zq_ev r (0, [(5, 1)]) = r 5 := zu_e1 _ _
  have q17 : zq_ev r (141, []) = 141 := zu_e0 _ _
  have q18 : zq_ev r (0, [(1, 1)]) = r 1 := zu_e1 _ _
  have q19 : zq_ev r (0, [(0, 1)]) = r 0 := zu_e1 _ _
  obtain ⟨hT, hC, hF, hS, -, hK⟩ := hM
  have c := hC.1
  have a1 := zq_all_1 c
  rw [q0] at a1
  have c := zq_all_t c
  have a2 := zq_all_1 c
  rw [q1] at a2
  have c := zq_all_t c
  have a3 := zq_all_1 c
  rw [q2] at a3
  have c := zq_all_t c
  have a4 := zq_all_1 c
  rw [q3] at a4
  have c := zq_all_t c
  have a5 := zq_all_1 c
  rw [q4] at a5
  have c := zq_all_t c
  have a6 := zq_all_1 c
  rw [q5] at a6
  have c := zq_all_t c
  have a7 := zq_all_1 c
  rw [q6] at a7
  have c := zq_all_t c
  have a8 := zq_all_1 c
  rw [q7] at a8
  have c := zq_all_t c
  have a9 := zq_all_1 c
  rw [q8] at a9
  have s1 := zq_okS_1 (hS)
  simp only [q10, q11, q9] at s1
  have s2 := zq_okS_1 (zq_okS_t (hS))
  simp only [q12, q13, q14] at s2
  have k1 : zu_WL (zq_ev r (0, [(4, 1)])) (zq_ev r (0, [(5, 1)])) P h := zj_use x_WL (hK)
  simp only [q15, q16] at k1
  have k2 : zu_WR (zq_ev r (0, [(7, 1)])) (zq_ev r (141, [])) P h := zj_use x_WR (zq_okX_t (hK))
  simp only [q17, q9] at k2
  have k3 : zu_TCr (zq_ev r (0, [(8, 1)])) (zq_ev r (0, [(1, 1)])) (zq_ev r (0, [(0, 1)])) P h := zj_use x_TCr (zq_okX_t (zq_okX_t (hK)))
  simp only [q12, q18, q19] at k3
  obtain t1 := zu_yUg_l (P := P) (h := h) (g := r 0) (n := r 1) (s := r 2) (e := r 3) (k := r 4) (m := r 5) (i := r 6) (wd := r 7) (tp := r 8) (v := r 9) (u := r 10) a1 a2 a3 a4 a5 a6 a7 a8 a9 s1 s2 k1 k2 k3
  obtain ⟨rq, hr⟩ : ∃ rq : Nat → Int, (∀ i, i < 11 → rq i = r i) := ⟨r, fun i hi => rfl⟩
  have v0 : rq 0 = r 0 := hr 0 (by decide)
  have v1 : rq 1 = r 1 := hr 1 (by decide)
  have v2 : rq 2 = r 2 := hr 2 (by decide)
  have v3 : rq 3 = r 3 := hr 3 (by decide)
  have v4 : rq 4 = r 4 := hr 4 (by decide)
  have v5 : rq 5 = r 5 := hr 5 (by decide)
  have g0 : zq_ev rq (0, [(0, 1)]) = r 0 := zu_f1 v0
  have g1 : zq_ev rq (0, [(1, 1)]) = r 1 := zu_f1 v1
  have g2 : zq_ev rq (0, [(2, 1)]) = r 2 := zu_f1 v2
  have g3 : zq_ev rq (0, [(3, 1)]) = r 3 := zu_f1 v3
  have g4 : zq_ev rq (0, [(4, 1)]) = r 4 := zu_f1 v4
  have g5 : zq_ev rq (0, [(5, 1)]) = r 5 := zu_f1 v5
  exact ⟨_, List.mem_cons_self .., rq, hr, zq_MeS_mk rfl hT (zq_all_nil) zq_fan (zq_fan) rfl (zu_fac ((x_NE _ _ _).mpr (by show zu_NE (zq_ev rq (0, [(0, 1)])) (zq_ev rq (0, [(1, 1)])) (zq_ev rq (0, [(2, 1)])) (zq_ev rq (0, [(3, 1)])) (zq_ev rq (0, [(4, 1)])) (zq_ev rq (0, [(5, 1)])) P h; simp only [g0, g1, g2, g3, g4, g5]; exact t1)) zq_fan)⟩
noncomputable def zu_yZ : zq_S × List zq_S := (([], [], [(0, [(2, 1), (3, -1), (7, 1)]), (0, [(2, -1), (3, 1), (7, -1)])], [], [], [], [(114, [(0, [(0, 1)]), (0, [(1, 1)]), (0, [(2, 1)]), (0, [(3, 1)]), (0, [(4, 1)]), (0, [(5, 1)]), (0, [(6, 1)])]), (117, [(0, [(4, 1)]), (0, [(7, 1)])]), (118, [(0, [(0, 1)]), (0, [(1, 1)]), (0, [(2, 1)]), (0, [(4, 1)]), (0, [(7, 1)])])], 8), [([], [], [(0, [(5, -1), (6, 1)]), (0, [(5, 1), (6, -1)])], [], [], [], [], 8)])
theorem zu_yZ_l {P : zq_Ty} {h : zq_H} {g n s e k w c m : Int} (a1 : 0 ≤ s - e + m) (a2 : 0 ≤ -s + e - m) (k1 : zu_SCR g n s e k w c P h) (k2 : zu_WL k m P h) (k3 : zu_PF g n s k m P h) : (0 ≤ -w + c ∧ 0 ≤ w - c) := by
  obtain ⟨z1, z2⟩ := k1
  have wl := zu_sp_w (k := k) m.toNat (by rw [show ((m.toNat : Nat) : Int) = m by have := k2.2.1; omega]; exact k2)
  have m0 := k2.2.1
  rw [show ((m.toNat : Nat) : Int) = m by omega] at wl
  rw [wl] at z2
  have z2 : c = (if zu_bs (zu_dg g n) (e - s).toNat s = zu_bs zu_chR m.toNat k then w else zu_fi (zu_bs (zu_dg g n) (e - s).toNat s) (zu_sp (zu_cR.drop (k + m + 1).toNat)) (w + 1) 0) := z2
  
  rw [show (e - s).toNat = m.toNat by omega] at z2
  rw [if_pos (zu_bs_eq m.toNat s k (fun j x y => (k3.2 j x (by omega)).symm))] at z2
  exact ⟨by omega, by omega⟩
theorem zu_yZ_ok {w : zq_Wd} (x_SCR : zj_is w 114 (fun q => zu_SCR (q 0) (q 1) (q 2) (q 3) (q 4) (q 5) (q 6))) (x_WL : zj_is w 117 (fun q => zu_WL (q 0) (q 1))) (x_PF : zj_is w 118 (fun q => zu_PF (q 0) (q 1) (q 2) (q 3) (q 4))) : zq_okG1 w zu_yZ := by
  refine ⟨rfl, rfl, zu_fac ⟨rfl, by decide⟩ zq_fan, ?_⟩
  intro r P h H hM
  have q0 : zq_ev r (0, [(2, 1), (3, -1), (7, 1)]) = r 2 - r 3 + r 7 := by simp only [zq_ev, zq_ts] <;> omega
  have q1 : zq_ev r (0, [(2, -1), (3, 1), (7, -1)]) = -r 2 + r 3 - r 7 := by simp only [zq_ev, zq_ts] <;> omega
  have q2 : zq_ev r (0, [(0, 1)]) = r 0 := zu_e1 _ _
  have q3 : zq_ev r (0, [(1, 1)]) = r 1 := zu_e1 _ _
  have q4 : zq_ev r (0, [(2, 1)]) = r 2 := zu_e1 _ _
  have q5 : zq_ev r (0, [(3, 1)]) = r 3 := zu_e1 _ _
  have q6 : zq_ev r (0, [(4, 1)]) = r 4 := zu_e1 _ _
  have q7 : zq_ev r (0, [(5, 1)]) = r 5 := zu_e1 _ _
  have q8 : zq_ev r (0, [(6, 1)]) = r 6 := zu_e1 _ _
  have q9 : zq_ev r (0, [(7, 1)]) = r 7 := zu_e1 _ _
  obtain ⟨hT, hC, hF, hS, -, hK⟩ := hM
  have c := hC.1
  have a1 := zq_all_1 c
  rw [q0] at a1
  have c := zq_all_t c
  have a2 := zq_all_1 c
  rw [q1] at a2
  have k1 : zu_SCR (zq_ev r (0, [(0, 1)])) (zq_ev r (0, [(1, 1)])) (zq_ev r (0, [(2, 1)])) (zq_ev r (0, [(3, 1)])) (zq_ev r (0, [(4, 1)])) (zq_ev r (0, [(5, 1)])) (zq_ev r (0, [(6, 1)])) P h := zj_use x_SCR (hK)
  simp only [q2, q3, q4, q5, q6, q7, q8] at k1
  have k2 : zu_WL (zq_ev r (0, [(4, 1)])) (zq_ev r (0, [(7, 1)])) P h := zj_use x_WL (zq_okX_t (hK))
  simp only [q6, q9] at k2
  have k3 : zu_PF (zq_ev r (0, [(0, 1)])) (zq_ev r (0, [(1, 1)])) (zq_ev r (0, [(2, 1)])) (zq_ev r (0, [(4, 1)])) (zq_ev r (0, [(7, 1)])) P h := zj_use x_PF (zq_okX_t (zq_okX_t (hK)))
  simp only [q2, q3, q4, q6, q9] at k3
  obtain ⟨c1, c2⟩ := zu_yZ_l (P := P) (h := h) (g := r 0) (n := r 1) (s := r 2) (e := r 3) (k := r 4) (w := r 5) (c := r 6) (m := r 7) a1 a2 k1 k2 k3
  obtain ⟨rq, hr⟩ : ∃ rq : Nat → Int, (∀ i, i < 8 → rq i = r i) := ⟨r, fun i hi => rfl⟩
  have v5 : rq 5 = r 5 := hr 5 (by decide)
  have v6 : rq 6 = r 6 := hr 6 (by decide)
  have g0 : zq_ev rq (0, [(5, 1), (6, -1)]) = r 5 - r 6 := by simp only [zq_ev, zq_ts, v5, v6] <;> omega
  have g1 : zq_ev rq (0, [(5, -1), (6, 1)]) = -r 5 + r 6 := by simp only [zq_ev, zq_ts, v5, v6] <;> omega
  exact ⟨_, List.mem_cons_self .., rq, hr, zq_MeS_mk rfl hT (zq_all_cons (by rw [g1]; exact c1) (zq_all_cons (by rw [g0]; exact c2) (zq_all_nil))) zq_fan (zq_fan) rfl zq_fan⟩
noncomputable def zu_yE : zq_S × List zq_S := (([], [], [(-141, [(4, 1)])], [], [], [], [(114, [(0, [(0, 1)]), (0, [(1, 1)]), (0, [(2, 1)]), (0, [(3, 1)]), (0, [(4, 1)]), (0, [(5, 1)]), (0, [(6, 1)])])], 7), [([], [], [(0, [(6, 1)]), (0, [(6, -1)])], [], [], [], [], 7)])
theorem zu_yE_l {P : zq_Ty} {h : zq_H} {g n s e k w c : Int} (a1 : 0 ≤ k - 141) (k1 : zu_SCR g n s e k w c P h) : (0 ≤ c ∧ 0 ≤ -c) := by
  obtain ⟨z1, z2⟩ := k1
  have e0 : zu_cR.drop k.toNat = [] := List.drop_eq_nil_of_le (by rw [zu_lenR]; omega)
  rw [e0] at z2
  have z2 : c = 0 := z2
  exact ⟨by omega, by omega⟩
theorem zu_yE_ok {w : zq_Wd} (x_SCR : zj_is w 114 (fun q => zu_SCR (q 0) (q 1) (q 2) (q 3) (q 4) (q 5) (q 6))) : zq_okG1 w zu_yE := by
  refine ⟨rfl, rfl, zu_fac ⟨rfl, by decide⟩ zq_fan, ?_⟩
  intro r P h H hM
  have q0 : zq_ev r (-141, [(4, 1)]) = r 4 - 141 := zu_e3 _ _ _
  have q1 : zq_ev r (0, [(0, 1)]) = r 0 := zu_e1 _ _
  have q2 : zq_ev r (0, [(1, 1)]) = r 1 := zu_e1 _ _
  have q3 : zq_ev r (0, [(2, 1)]) = r 2 := zu_e1 _ _
  have q4 : zq_ev r (0, [(3, 1)]) = r 3 := zu_e1 _ _
  have q5 : zq_ev r (0, [(4, 1)]) = r 4 := zu_e1 _ _
  have q6 : zq_ev r (0, [(5, 1)]) = r 5 := zu_e1 _ _
  have q7 : zq_ev r (0, [(6, 1)]) = r 6 := zu_e1 _ _
  obtain ⟨hT, hC, hF, hS, -, hK⟩ := hM
  have c := hC.1
  have a1 := zq_all_1 c
  rw [q0] at a1
  have k1 : zu_SCR (zq_ev r (0, [(0, 1)])) (zq_ev r (0, [(1, 1)])) (zq_ev r (0, [(2, 1)])) (zq_ev r (0, [(3, 1)])) (zq_ev r (0, [(4, 1)])) (zq_ev r (0, [(5, 1)])) (zq_ev r (0, [(6, 1)])) P h := zj_use x_SCR (hK)
  simp only [q1, q2, q3, q4, q5, q6, q7] at k1
  obtain ⟨c1, c2⟩ := zu_yE_l (P := P) (h := h) (g := r 0) (n := r 1) (s := r 2) (e := r 3) (k := r 4) (w := r 5) (c := r 6) a1 k1
  obtain ⟨rq, hr⟩ : ∃ rq : Nat → Int, (∀ i, i < 7 → rq i = r i) := ⟨r, fun i hi => rfl⟩
  have v6 : rq 6 = r 6 := hr 6 (by decide)
  have g0 : zq_ev rq (0, [(6, -1)]) = -r 6 := zu_f4 v6
  have g1 : zq_ev rq (0, [(6, 1)]) = r 6 := zu_f1 v6
  exact ⟨_, List.mem_cons_self .., rq, hr, zq_MeS_mk rfl hT (zq_all_cons (by rw [g1]; exact c1) (zq_all_cons (by rw [g0]; exact c2) (zq_all_nil))) zq_fan (zq_fan) rfl zq_fan⟩
/-- the reference's letters, as they were laid -/
noncomputable def zu_W141 : zq_S × List zq_S := (([], [], [zq_v 0], [(zq_v 0, 5)], (List.range 141).map (fun (j : Nat) => (zq_v 0, zq_k (j : Int), zq_k (zu_cR.getD j 0))), [], [], 1), [([], [], [], [], [], [], [(108, [zq_v 0, zq_k 141])], 1)])
theorem zu_W141_ok {w : zq_Wd} (x_WR : zj_is w 108 (fun q => zu_WR (q 0) (q 1))) : zq_okG1 w zu_W141 := by
  refine ⟨by decide +kernel, rfl, zu_fac ⟨rfl, by decide⟩ zq_fan, ?_⟩
  intro r P h H hM
  obtain ⟨hT, hC, hF, hS, -, hK⟩ := hM
  have a1 := zq_all_1 hC.1
  have b1 := zq_okF_1 hF a1
  simp only [zq_ev_v] at a1 b1
  have hj : ∀ j : Nat, j < 141 → h (r 0).toNat (j : Int) = zu_cR.getD j 0 := by
    intro j hj
    obtain ⟨-, -, -, a, e1, e2, e3⟩ := hS (zq_v 0, zq_k (j : Int), zq_k (zu_cR.getD j 0)) (List.mem_map.mpr ⟨j, List.mem_range.mpr hj, rfl⟩)
    simp only [zq_ev_v, zq_ev_k] at e1 e3
    rw [e1, show ((a : Int)).toNat = a by omega]
    exact e3
  refine ⟨_, List.mem_singleton.mpr rfl, r, fun _ _ => rfl, zq_MeS_mk rfl hT zq_all_nil zq_fan zq_fan rfl (zq_fa1 ((x_WR _ _ _).mpr ?_))⟩
  show zu_WR (zq_ev r (zq_v 0)) (zq_ev r (zq_k 141)) P h
  rw [zq_ev_v, zq_ev_k]
  refine ⟨⟨a1, b1⟩, by decide, by decide, fun j x y => ?_⟩
  have := hj j.toNat (by omega)
  rw [show ((j.toNat : Nat) : Int) = j by omega] at this
  exact this
noncomputable def zu_z0 : zq_S × List zq_S := (([], [], [], [], [], [], [], 3), [([], [], [], [], [], [], [(120, [(0, [(0, 1)]), (0, [(1, 1)]), (0, [(2, 1)]), (0, [(2, 1)]), (0, [])])], 3)])
theorem zu_z0_l {P : zq_Ty} {h : zq_H} {g n s : Int}  : (zu_NVR g n s s 0 P h) := by
  refine ⟨Int.le_refl _, ?_⟩
  rw [show (s - s).toNat = 0 by omega]
  exact Or.inl ⟨by decide, rfl⟩
theorem zu_z0_ok {w : zq_Wd} (x_NVR : zj_is w 120 (fun q => zu_NVR (q 0) (q 1) (q 2) (q 3) (q 4))) : zq_okG1 w zu_z0 := by
  refine ⟨rfl, rfl, zu_fac ⟨rfl, by decide⟩ zq_fan, ?_⟩
  intro r P h H hM
  obtain ⟨hT, hC, hF, hS, -, hK⟩ := hM
  have c := hC.1
  obtain t1 := zu_z0_l (P := P) (h := h) (g := r 0) (n := r 1) (s := r 2) 
  obtain ⟨rq, hr⟩ : ∃ rq : Nat → Int, (∀ i, i < 3 → rq i = r i) := ⟨r, fun i hi => rfl⟩
  have v0 : rq 0 = r 0 := hr 0 (by decide)
  have v1 : rq 1 = r 1 := hr 1 (by decide)
  have v2 : rq 2 = r 2 := hr 2 (by decide)
  have g0 : zq_ev rq (0, [(0, 1)]) = r 0 := zu_f1 v0
  have g1 : zq_ev rq (0, [(1, 1)]) = r 1 := zu_f1 v1
  have g2 : zq_ev rq (0, [(2, 1)]) = r 2 := zu_f1 v2
  have g3 : zq_ev rq (0, []) = 0 := zu_e0 _ _
  exact ⟨_, List.mem_cons_self .., rq, hr, zq_MeS_mk rfl hT (zq_all_nil) zq_fan (zq_fan) rfl (zu_fac ((x_NVR _ _ _).mpr (by show zu_NVR (zq_ev rq (0, [(0, 1)])) (zq_ev rq (0, [(1, 1)])) (zq_ev rq (0, [(2, 1)])) (zq_ev rq (0, [(2, 1)])) (zq_ev rq (0, [])) P h; simp only [g0, g1, g2, g3]; exact t1)) zq_fan)⟩
noncomputable def zu_z1 : zq_S × List zq_S := (([], [], [(-1000001, [(4, 1)])], [], [], [], [(120, [(0, [(0, 1)]), (0, [(1, 1)]), (0, [(2, 1)]), (0, [(3, 1)]), (0, [(4, 1)])])], 5), [([], [], [], [], [], [], [(120, [(0, [(0, 1)]), (0, [(1, 1)]), (0, [(2, 1)]), (1, [(3, 1)]), (0, [(4, 1)])])], 5)])
theorem zu_z1_l {P : zq_Ty} {h : zq_H} {g n s i v : Int} (a1 : 0 ≤ v - 1000001) (k1 : zu_NVR g n s i v P h) : (zu_NVR g n s (i + 1) v P h) := by
  obtain ⟨z1, z2⟩ := k1
  refine ⟨by omega, ?_⟩
  rw [show (i + 1 - s).toNat = (i - s).toNat + 1 by omega]
  show zu_vv (if 10 * zu_nm (zu_dg g n) s (i - s).toNat + (zu_dg g n (s + (((i - s).toNat : Nat) : Int)) - 48) < 1001 then 10 * zu_nm (zu_dg g n) s (i - s).toNat + (zu_dg g n (s + (((i - s).toNat : Nat) : Int)) - 48) else 1001) _
  have d : 0 ≤ zu_dg g n (s + (((i - s).toNat : Nat) : Int)) := Int.emod_nonneg _ (by decide)
  generalize zu_dg g n (s + (((i - s).toNat : Nat) : Int)) = b at d ⊢
  generalize zu_nm (zu_dg g n) s (i - s).toNat = y at z2 ⊢
  unfold zu_vv at z2 ⊢
  by_cases hu : 10 * y + (b - 48) < 1001
  · rw [if_pos hu]; omega
  · rw [if_neg hu]; omega
theorem zu_z1_ok {w : zq_Wd} (x_NVR : zj_is w 120 (fun q => zu_NVR (q 0) (q 1) (q 2) (q 3) (q 4))) : zq_okG1 w zu_z1 := by
  refine ⟨rfl, rfl, zu_fac ⟨rfl, by decide⟩ zq_fan, ?_⟩
  intro r P h H hM
  have q0 : zq_ev r (-1000001, [(4, 1)]) = r 4 - 1000001 := zu_e3 _ _ _
  have q1 : zq_ev r (0, [(0, 1)]) = r 0 := zu_e1 _ _
  have q2 : zq_ev r (0, [(1, 1)]) = r 1 := zu_e1 _ _
  have q3 : zq_ev r (0, [(2, 1)]) = r 2 := zu_e1 _ _
  have q4 : zq_ev r (0, [(3, 1)]) = r 3 := zu_e1 _ _
  have q5 : zq_ev r (0, [(4, 1)]) = r 4 := zu_e1 _ _
  obtain ⟨hT, hC, hF, hS, -, hK⟩ := hM
  have c := hC.1
  have a1 := zq_all_1 c
  rw [q0] at a1
  have k1 : zu_NVR (zq_ev r (0, [(0, 1)])) (zq_ev r (0, [(1, 1)])) (zq_ev r (0, [(2, 1)])) (zq_ev r (0, [(3, 1)])) (zq_ev r (0, [(4, 1)])) P h := zj_use x_NVR (hK)
  simp only [q1, q2, q3, q4, q5] at k1
  obtain t1 := zu_z1_l (P := P) (h := h) (g := r 0) (n := r 1) (s := r 2) (i := r 3) (v := r 4) a1 k1
  obtain ⟨rq, hr⟩ : ∃ rq : Nat → Int, (∀ i, i < 5 → rq i = r i) := ⟨r, fun i hi => rfl⟩
  have v0 : rq 0 = r 0 := hr 0 (by decide)
  have v1 : rq 1 = r 1 := hr 1 (by decide)
  have v2 : rq 2 = r 2 := hr 2 (by decide)
  have v3 : rq 3 = r 3 := hr 3 (by decide)
  have v4 : rq 4 = r 4 := hr 4 (by decide)
  have g0 : zq_ev rq (0, [(0, 1)]) = r 0 := zu_f1 v0
  have g1 : zq_ev rq (0, [(1, 1)]) = r 1 := zu_f1 v1
  have g2 : zq_ev rq (0, [(2, 1)]) = r 2 := zu_f1 v2
  have g3 : zq_ev rq (1, [(3, 1)]) = r 3 + 1 := zu_f2 v3 _
  have g4 : zq_ev rq (0, [(4, 1)]) = r 4 := zu_f1 v4
  exact ⟨_, List.mem_cons_self .., rq, hr, zq_MeS_mk rfl hT (zq_all_nil) zq_fan (zq_fan) rfl (zu_fac ((x_NVR _ _ _).mpr (by show zu_NVR (zq_ev rq (0, [(0, 1)])) (zq_ev rq (0, [(1, 1)])) (zq_ev rq (0, [(2, 1)])) (zq_ev rq (1, [(3, 1)])) (zq_ev rq (0, [(4, 1)])) P h; simp only [g0, g1, g2, g3, g4]; exact t1)) zq_fan)⟩
noncomputable def zu_z2 : zq_S × List zq_S := (([], [], [(-48, [(6, 1)]), (57, [(6, -1)]), (-1, [(1, 1), (3, -1)]), (0, [(2, 1)]), (0, [(4, 1)]), (48, [(4, -10), (6, -1), (7, 1)]), (-48, [(4, 10), (6, 1), (7, -1)])], [], [((0, [(5, 1)]), (0, [(3, 1)]), (0, [(6, 1)]))], [], [(120, [(0, [(0, 1)]), (0, [(1, 1)]), (0, [(2, 1)]), (0, [(3, 1)]), (0, [(4, 1)])]), (22, [(0, [(5, 1)]), (0, [(1, 1)]), (0, [(0, 1)])])], 8), [([], [], [], [], [], [], [(120, [(0, [(0, 1)]), (0, [(1, 1)]), (0, [(2, 1)]), (1, [(3, 1)]), (0, [(7, 1)])])], 8)])
theorem zu_z2_l {P : zq_Ty} {h : zq_H} {g n s i v tp b u : Int} (a1 : 0 ≤ b - 48) (a2 : 0 ≤ -b + 57) (a3 : 0 ≤ n - i - 1) (a4 : 0 ≤ s) (a5 : 0 ≤ v) (a6 : 0 ≤ -10 * v - b + u + 48) (a7 : 0 ≤ 10 * v + b - u - 48) (s1 : 0 ≤ tp ∧ P (tp).toNat ≠ none ∧ h (tp).toNat i = b) (k1 : zu_NVR g n s i v P h) (k2 : zu_TCr tp n g P h) : (zu_NVR g n s (i + 1) u P h) := by
  obtain ⟨z1, z2⟩ := k1
  have d := zu_dgr k2 (j := i) (by omega) (by omega) s1.2.2 (by omega) (by omega)
  refine ⟨by omega, ?_⟩
  rw [show (i + 1 - s).toNat = (i - s).toNat + 1 by omega]
  show zu_vv (if 10 * zu_nm (zu_dg g n) s (i - s).toNat + (zu_dg g n (s + (((i - s).toNat : Nat) : Int)) - 48) < 1001 then 10 * zu_nm (zu_dg g n) s (i - s).toNat + (zu_dg g n (s + (((i - s).toNat : Nat) : Int)) - 48) else 1001) _
  rw [show s + (((i - s).toNat : Nat) : Int) = i by omega, d]
  generalize zu_nm (zu_dg g n) s (i - s).toNat = y at z2 ⊢
  unfold zu_vv at z2 ⊢
  by_cases hu : 10 * y + (b - 48) < 1001
  · rw [if_pos hu]; omega
  · rw [if_neg hu]; omega
theorem zu_z2_ok {w : zq_Wd} (x_NVR : zj_is w 120 (fun q => zu_NVR (q 0) (q 1) (q 2) (q 3) (q 4))) (x_TCr : zj_is w 22 (fun q => zu_TCr (q 0) (q 1) (q 2))) : zq_okG1 w zu_z2 := by
  refine ⟨rfl, rfl, zu_fac ⟨rfl, by decide⟩ zq_fan, ?_⟩
  intro r P h H hM
  have q0 : zq_ev r (-48, [(6, 1)]) = r 6 - 48 := zu_e3 _ _ _
  have q1 : zq_ev r (57, [(6, -1)]) = -r 6 + 57 := zu_e5 _ _ _
  have q2 : zq_ev r (-1, [(1, 1), (3, -1)]) = r 1 - r 3 - 1 := by simp only [zq_ev, zq_ts] <;> omega
  have q3 : zq_ev r (0, [(2, 1)]) = r 2 := zu_e1 _ _
  have q4 : zq_ev r (0, [(4, 1)]) = r 4 := zu_e1 _ _
  have q5 : zq_ev r (48, [(4, -10), (6, -1), (7, 1)]) = -10 * r 4 - r 6 + r 7 + 48 := by simp only [zq_ev, zq_ts] <;> omega
  have q6 : zq_ev r (-48, [(4, 10), (6, 1), (7, -1)]) = 10 * r 4 + r 6 - r 7 - 48 := by simp only [zq_ev, zq_ts] <;> omega
  have q7 : zq_ev r (0, [(5, 1)]) = r 5 := zu_e1 _ _
  have q8 : zq_ev r (0, [(3, 1)]) = r 3 := zu_e1 _ _
  have q9 : zq_ev r (0, [(6, 1)]) = r 6 := zu_e1 _ _
  have q10 : zq_ev r (0, [(0, 1)]) = r 0 := zu_e1 _ _
  have q11 : zq_ev r (0, [(1, 1)]) = r 1 := zu_e1 _ _
  obtain ⟨hT, hC, hF, hS, -, hK⟩ := hM
  have c := hC.1
  have a1 := zq_all_1 c
  rw [q0] at a1
  have c := zq_all_t c
  have a2 := zq_all_1 c
  rw [q1] at a2
  have c := zq_all_t c
  have a3 := zq_all_1 c
  rw [q2] at a3
  have c := zq_all_t c
  have a4 := zq_all_1 c
  rw [q3] at a4
  have c := zq_all_t c
  have a5 := zq_all_1 c
  rw [q4] at a5
  have c := zq_all_t c
  have a6 := zq_all_1 c
  rw [q5] at a6
  have c := zq_all_t c
  have a7 := zq_all_1 c
  rw [q6] at a7
  have s1 := zq_okS_1 (hS)
  simp only [q7, q8, q9] at s1
  have k1 : zu_NVR (zq_ev r (0, [(0, 1)])) (zq_ev r (0, [(1, 1)])) (zq_ev r (0, [(2, 1)])) (zq_ev r (0, [(3, 1)])) (zq_ev r (0, [(4, 1)])) P h := zj_use x_NVR (hK)
  simp only [q10, q11, q3, q4, q8] at k1
  have k2 : zu_TCr (zq_ev r (0, [(5, 1)])) (zq_ev r (0, [(1, 1)])) (zq_ev r (0, [(0, 1)])) P h := zj_use x_TCr (zq_okX_t (hK))
  simp only [q10, q11, q7] at k2
  obtain t1 := zu_z2_l (P := P) (h := h) (g := r 0) (n := r 1) (s := r 2) (i := r 3) (v := r 4) (tp := r 5) (b := r 6) (u := r 7) a1 a2 a3 a4 a5 a6 a7 s1 k1 k2
  obtain ⟨rq, hr⟩ : ∃ rq : Nat → Int, (∀ i, i < 8 → rq i = r i) := ⟨r, fun i hi => rfl⟩
  have v0 : rq 0 = r 0 := hr 0 (by decide)
  have v1 : rq 1 = r 1 := hr 1 (by decide)
  have v2 : rq 2 = r 2 := hr 2 (by decide)
  have v3 : rq 3 = r 3 := hr 3 (by decide)
  have v7 : rq 7 = r 7 := hr 7 (by decide)
  have g0 : zq_ev rq (0, [(0, 1)]) = r 0 := zu_f1 v0
  have g1 : zq_ev rq (0, [(1, 1)]) = r 1 := zu_f1 v1
  have g2 : zq_ev rq (0, [(2, 1)]) = r 2 := zu_f1 v2
  have g3 : zq_ev rq (1, [(3, 1)]) = r 3 + 1 := zu_f2 v3 _
  have g4 : zq_ev rq (0, [(7, 1)]) = r 7 := zu_f1 v7
  exact ⟨_, List.mem_cons_self .., rq, hr, zq_MeS_mk rfl hT (zq_all_nil) zq_fan (zq_fan) rfl (zu_fac ((x_NVR _ _ _).mpr (by show zu_NVR (zq_ev rq (0, [(0, 1)])) (zq_ev rq (0, [(1, 1)])) (zq_ev rq (0, [(2, 1)])) (zq_ev rq (1, [(3, 1)])) (zq_ev rq (0, [(7, 1)])) P h; simp only [g0, g1, g2, g3, g4]; exact t1)) zq_fan)⟩
noncomputable def zu_u0 : zq_S × List zq_S := (([], [], [], [], [], [], [], 3), [([], [], [], [], [], [], [(124, [(0, [(1, 1)]), (0, [(2, 1)]), (0, []), (0, [(0, 1)]), (0, []), (0, []), (0, []), (0, []), (0, []), (0, []), (0, [(3, 1)])]), (125, [(0, [(0, 1)]), (0, [(1, 1)]), (0, [(2, 1)]), (0, [(3, 1)])])], 4)])
theorem zu_u0_l {P : zq_Ty} {h : zq_H} {o g n : Int}  : (∃ r : Int, zu_RN g n 0 o 0 0 0 0 0 0 r P h ∧ zu_FA o g n r P h) := by
  exact ⟨_, ⟨Int.le_refl _, by omega, zu_res_ok o g n⟩, rfl⟩
theorem zu_u0_ok {w : zq_Wd} (x_RN : zj_is w 124 (fun q => zu_RN (q 0) (q 1) (q 2) (q 3) (q 4) (q 5) (q 6) (q 7) (q 8) (q 9) (q 10))) (x_FA : zj_is w 125 (fun q => zu_FA (q 0) (q 1) (q 2) (q 3))) : zq_okG1 w zu_u0 := by
  refine ⟨rfl, rfl, zu_fac ⟨rfl, by decide⟩ zq_fan, ?_⟩
  intro r P h H hM
  obtain ⟨hT, hC, hF, hS, -, hK⟩ := hM
  have c := hC.1
  obtain ⟨y_0, t1, t2⟩ := zu_u0_l (P := P) (h := h) (o := r 0) (g := r 1) (n := r 2) 
  obtain ⟨rq, hr, w3⟩ : ∃ rq : Nat → Int, (∀ i, i < 3 → rq i = r i) ∧ rq 3 = y_0 := ⟨zq_up r 3 y_0, fun i hi => by rw [zu_up_ne (by omega)], rfl⟩
  have v0 : rq 0 = r 0 := hr 0 (by decide)
  have v1 : rq 1 = r 1 := hr 1 (by decide)
  have v2 : rq 2 = r 2 := hr 2 (by decide)
  have g0 : zq_ev rq (0, [(0, 1)]) = r 0 := zu_f1 v0
  have g1 : zq_ev rq (0, [(1, 1)]) = r 1 := zu_f1 v1
  have g2 : zq_ev rq (0, [(2, 1)]) = r 2 := zu_f1 v2
  have g3 : zq_ev rq (0, [(3, 1)]) = y_0 := zu_f1 w3
  have g4 : zq_ev rq (0, []) = 0 := zu_e0 _ _
  exact ⟨_, List.mem_cons_self .., rq, hr, zq_MeS_mk rfl hT (zq_all_nil) zq_fan (zq_fan) rfl (zu_fac ((x_RN _ _ _).mpr (by show zu_RN (zq_ev rq (0, [(1, 1)])) (zq_ev rq (0, [(2, 1)])) (zq_ev rq (0, [])) (zq_ev rq (0, [(0, 1)])) (zq_ev rq (0, [])) (zq_ev rq (0, [])) (zq_ev rq (0, [])) (zq_ev rq (0, [])) (zq_ev rq (0, [])) (zq_ev rq (0, [])) (zq_ev rq (0, [(3, 1)])) P h; simp only [g0, g1, g2, g3, g4]; exact t1)) (zu_fac ((x_FA _ _ _).mpr (by show zu_FA (zq_ev rq (0, [(0, 1)])) (zq_ev rq (0, [(1, 1)])) (zq_ev rq (0, [(2, 1)])) (zq_ev rq (0, [(3, 1)])) P h; simp only [g0, g1, g2, g3]; exact t2)) zq_fan))⟩
noncomputable def zu_u1 : zq_S × List zq_S := (([], [], [(0, [(0, 1), (4, -1)]), (0, [(0, -1), (4, 1)]), (0, [(1, 1), (5, -1)]), (0, [(1, -1), (5, 1)]), (0, [(2, 1), (6, -1)]), (0, [(2, -1), (6, 1)])], [], [], [], [(125, [(0, [(0, 1)]), (0, [(1, 1)]), (0, [(2, 1)]), (0, [(3, 1)])]), (125, [(0, [(4, 1)]), (0, [(5, 1)]), (0, [(6, 1)]), (0, [(7, 1)])])], 8), [([], [], [(0, [(3, 1), (7, -1)]), (0, [(3, -1), (7, 1)])], [], [], [], [], 8)])
theorem zu_u1_l {P : zq_Ty} {h : zq_H} {o g n r oo gg nn rr : Int} (a1 : 0 ≤ o - oo) (a2 : 0 ≤ -o + oo) (a3 : 0 ≤ g - gg) (a4 : 0 ≤ -g + gg) (a5 : 0 ≤ n - nn) (a6 : 0 ≤ -n + nn) (k1 : zu_FA o g n r P h) (k2 : zu_FA oo gg nn rr P h) : (0 ≤ r - rr ∧ 0 ≤ -r + rr) := by
  have e1 : oo = o := by omega
  have e2 : gg = g := by omega
  have e3 : nn = n := by omega
  rw [e1, e2, e3] at k2
  have k1 : r = zu_res o g n := k1
  have k2 : rr = zu_res o g n := k2
  exact ⟨by omega, by omega⟩
theorem zu_u1_ok {w : zq_Wd} (x_FA : zj_is w 125 (fun q => zu_FA (q 0) (q 1) (q 2) (q 3))) : zq_okG1 w zu_u1 := by
  refine ⟨rfl, rfl, zu_fac ⟨rfl, by decide⟩ zq_fan, ?_⟩
  intro r P h H hM
  have q0 : zq_ev r (0, [(0, 1), (4, -1)]) = r 0 - r 4 := by simp only [zq_ev, zq_ts] <;> omega
  have q1 : zq_ev r (0, [(0, -1), (4, 1)]) = -r 0 + r 4 := by simp only [zq_ev, zq_ts] <;> omega
  have q2 : zq_ev r (0, [(1, 1), (5, -1)]) = r 1 - r 5 := by simp only [zq_ev, zq_ts] <;> omega
  have q3 : zq_ev r (0, [(1, -1), (5, 1)]) = -r 1 + r 5 := by simp only [zq_ev, zq_ts] <;> omega
  have q4 : zq_ev r (0, [(2, 1), (6, -1)]) = r 2 - r 6 := by simp only [zq_ev, zq_ts] <;> omega
  have q5 : zq_ev r (0, [(2, -1), (6, 1)]) = -r 2 + r 6 := by simp only [zq_ev, zq_ts] <;> omega
  have q6 : zq_ev r (0, [(0, 1)]) = r 0 := zu_e1 _ _
  have q7 : zq_ev r (0, [(1, 1)]) = r 1 := zu_e1 _ _
  have q8 : zq_ev r (0, [(2, 1)]) = r 2 := zu_e1 _ _
  have q9 : zq_ev r (0, [(3, 1)]) = r 3 := zu_e1 _ _
  have q10 : zq_ev r (0, [(4, 1)]) = r 4 := zu_e1 _ _
  have q11 : zq_ev r (0, [(5, 1)]) = r 5 := zu_e1 _ _
  have q12 : zq_ev r (0, [(6, 1)]) = r 6 := zu_e1 _ _
  have q13 : zq_ev r (0, [(7, 1)]) = r 7 := zu_e1 _ _
  obtain ⟨hT, hC, hF, hS, -, hK⟩ := hM
  have c := hC.1
  have a1 := zq_all_1 c
  rw [q0] at a1
  have c := zq_all_t c
  have a2 := zq_all_1 c
  rw [q1] at a2
  have c := zq_all_t c
  have a3 := zq_all_1 c
  rw [q2] at a3
  have c := zq_all_t c
  have a4 := zq_all_1 c
  rw [q3] at a4
  have c := zq_all_t c
  have a5 := zq_all_1 c
  rw [q4] at a5
  have c := zq_all_t c
  have a6 := zq_all_1 c
  rw [q5] at a6
  have k1 : zu_FA (zq_ev r (0, [(0, 1)])) (zq_ev r (0, [(1, 1)])) (zq_ev r (0, [(2, 1)])) (zq_ev r (0, [(3, 1)])) P h := zj_use x_FA (hK)
  simp only [q6, q7, q8, q9] at k1
  have k2 : zu_FA (zq_ev r (0, [(4, 1)])) (zq_ev r (0, [(5, 1)])) (zq_ev r (0, [(6, 1)])) (zq_ev r (0, [(7, 1)])) P h := zj_use x_FA (zq_okX_t (hK))
  simp only [q10, q11, q12, q13] at k2
  obtain ⟨c1, c2⟩ := zu_u1_l (P := P) (h := h) (o := r 0) (g := r 1) (n := r 2) (r := r 3) (oo := r 4) (gg := r 5) (nn := r 6) (rr := r 7) a1 a2 a3 a4 a5 a6 k1 k2
  obtain ⟨rq, hr⟩ : ∃ rq : Nat → Int, (∀ i, i < 8 → rq i = r i) := ⟨r, fun i hi => rfl⟩
  have v3 : rq 3 = r 3 := hr 3 (by decide)
  have v7 : rq 7 = r 7 := hr 7 (by decide)
  have g0 : zq_ev rq (0, [(3, -1), (7, 1)]) = -r 3 + r 7 := by simp only [zq_ev, zq_ts, v3, v7] <;> omega
  have g1 : zq_ev rq (0, [(3, 1), (7, -1)]) = r 3 - r 7 := by simp only [zq_ev, zq_ts, v3, v7] <;> omega
  exact ⟨_, List.mem_cons_self .., rq, hr, zq_MeS_mk rfl hT (zq_all_cons (by rw [g1]; exact c1) (zq_all_cons (by rw [g0]; exact c2) (zq_all_nil))) zq_fan (zq_fan) rfl zq_fan⟩
noncomputable def zu_u2 : zq_S × List zq_S := (([], [], [(0, [(6, 1)]), (0, [(5, 1), (6, -1)])], [], [((0, [(2, 1)]), (0, [(6, 1)]), (0, [(8, 1)]))], [], [(105, [(0, [(0, 1)]), (0, [(1, 1)]), (0, [(2, 1)]), (0, [(3, 1)]), (0, [(4, 1)]), (0, [(5, 1)])]), (123, [(0, [(3, 1)]), (0, [(4, 1)]), (0, [(6, 1)]), (0, [(7, 1)])])], 9), [([], [], [(0, [(7, -1), (8, 1)]), (0, [(7, 1), (8, -1)])], [], [], [], [], 9)])
theorem zu_u2_l {P : zq_Ty} {h : zq_H} {co nu sa g n t i r p : Int} (a1 : 0 ≤ i) (a2 : 0 ≤ t - i) (s1 : 0 ≤ sa ∧ P (sa).toNat ≠ none ∧ h (sa).toNat i = p) (k1 : zu_LXC co nu sa g n t P h) (k2 : zu_FT g n i r P h) : (0 ≤ -r + p ∧ 0 ≤ r - p) := by
  obtain ⟨a1', a2', a3', a0', a4', a5', a6', a7', a8', a9'⟩ := k1
  obtain ⟨f1, f2 | ⟨f2, f3⟩⟩ := k2
  · obtain ⟨e, e1, e2⟩ := f2
    obtain ⟨x1, -⟩ := List.getElem?_eq_some_iff.mp e1
    obtain ⟨e', y1, y2, -⟩ := a9' i f1 (by omega)
    rw [y1] at e1
    have := Option.some.inj e1
    rw [this, s1.2.2] at y2
    omega
  · have : i = t := by omega
    rw [this, a7'] at s1
    omega
theorem zu_u2_ok {w : zq_Wd} (x_LXC : zj_is w 105 (fun q => zu_LXC (q 0) (q 1) (q 2) (q 3) (q 4) (q 5))) (x_FT : zj_is w 123 (fun q => zu_FT (q 0) (q 1) (q 2) (q 3))) : zq_okG1 w zu_u2 := by
  refine ⟨rfl, rfl, zu_fac ⟨rfl, by decide⟩ zq_fan, ?_⟩
  intro r P h H hM
  have q0 : zq_ev r (0, [(6, 1)]) = r 6 := zu_e1 _ _
  have q1 : zq_ev r (0, [(5, 1), (6, -1)]) = r 5 - r 6 := by simp only [zq_ev, zq_ts] <;> omega
  have q2 : zq_ev r (0, [(2, 1)]) = r 2 := zu_e1 _ _
  have q3 : zq_ev r (0, [(8, 1)]) = r 8 := zu_e1 _ _
  have q4 : zq_ev r (0, [(0, 1)]) = r 0 := zu_e1 _ _
  have q5 : zq_ev r (0, [(1, 1)]) = r 1 := zu_e1 _ _
  have q6 : zq_ev r (0, [(3, 1)]) = r 3 := zu_e1 _ _
  have q7 : zq_ev r (0, [(4, 1)]) = r 4 := zu_e1 _ _
  have q8 : zq_ev r (0, [(5, 1)]) = r 5 := zu_e1 _ _
  have q9 : zq_ev r (0, [(7, 1)]) = r 7 := zu_e1 _ _
  obtain ⟨hT, hC, hF, hS, -, hK⟩ := hM
  have c := hC.1
  have a1 := zq_all_1 c
  rw [q0] at a1
  have c := zq_all_t c
  have a2 := zq_all_1 c
  rw [q1] at a2
  have s1 := zq_okS_1 (hS)
  simp only [q0, q2, q3] at s1
  have k1 : zu_LXC (zq_ev r (0, [(0, 1)])) (zq_ev r (0, [(1, 1)])) (zq_ev r (0, [(2, 1)])) (zq_ev r (0, [(3, 1)])) (zq_ev r (0, [(4, 1)])) (zq_ev r (0, [(5, 1)])) P h := zj_use x_LXC (hK)
  simp only [q2, q4, q5, q6, q7, q8] at k1
  have k2 : zu_FT (zq_ev r (0, [(3, 1)])) (zq_ev r (0, [(4, 1)])) (zq_ev r (0, [(6, 1)])) (zq_ev r (0, [(7, 1)])) P h := zj_use x_FT (zq_okX_t (hK))
  simp only [q0, q6, q7, q9] at k2
  obtain ⟨c1, c2⟩ := zu_u2_l (P := P) (h := h) (co := r 0) (nu := r 1) (sa := r 2) (g := r 3) (n := r 4) (t := r 5) (i := r 6) (r := r 7) (p := r 8) a1 a2 s1 k1 k2
  obtain ⟨rq, hr⟩ : ∃ rq : Nat → Int, (∀ i, i < 9 → rq i = r i) := ⟨r, fun i hi => rfl⟩
  have v7 : rq 7 = r 7 := hr 7 (by decide)
  have v8 : rq 8 = r 8 := hr 8 (by decide)
  have g0 : zq_ev rq (0, [(7, 1), (8, -1)]) = r 7 - r 8 := by simp only [zq_ev, zq_ts, v7, v8] <;> omega
  have g1 : zq_ev rq (0, [(7, -1), (8, 1)]) = -r 7 + r 8 := by simp only [zq_ev, zq_ts, v7, v8] <;> omega
  exact ⟨_, List.mem_cons_self .., rq, hr, zq_MeS_mk rfl hT (zq_all_cons (by rw [g1]; exact c1) (zq_all_cons (by rw [g0]; exact c2) (zq_all_nil))) zq_fan (zq_fan) rfl zq_fan⟩
noncomputable def zu_u4 : zq_S × List zq_S := (([], [], [], [], [], [], [(107, [(0, [(0, 1)]), (0, [(1, 1)]), (0, [(2, 1)]), (0, [(3, 1)]), (0, [(4, 1)]), (0, [(5, 1)])]), (125, [(0, [(6, 1)]), (0, [(3, 1)]), (0, [(4, 1)]), (-1, [])])], 7), [([], [], [], [], [], [], [(4, [(0, [(0, 1)]), (0, [(1, 1)]), (0, [(5, 1)]), (0, [(6, 1)])])], 7)])
theorem zu_u4_l {P : zq_Ty} {h : zq_H} {co va pl g n t o : Int} (k1 : zu_LXR co va pl g n t P h) (k2 : zu_FA o g n (-1) P h) : (zu_X4 co va t o P h) := by
  obtain ⟨a1, a2, a3, a0, a4, a5, a6, a7, a8, a9⟩ := k1
  have k2 : -1 = zu_res o g n := k2
  have hr := zu_res_ok o g n
  rw [← k2] at hr
  refine ⟨a1.1, a1.2, a2.1, a2.2, a4, by show t ≤ 401; omega, ?_⟩
  show zx_suf (h co.toNat) (h va.toNat) 0 t (o, 0, 0, 0, 0)
  refine zu_run_suf (fc := h co.toNat) (fv := h va.toNat) (zu_TL g n) (o, 0, 0, 0, 0) 0 0 0 (by omega) (fun j x hx => ?_) (by omega) (fun t m ht hv => ?_) hr
  · obtain ⟨x1, -⟩ := List.getElem?_eq_some_iff.mp hx
    obtain ⟨e, e1, e2, e3, e4, -, e6⟩ := a9 (j : Int) (by omega) (by omega)
    rw [show ((j : Int)).toNat = j by omega, hx] at e1
    have e1 := Option.some.inj e1
    rw [← e1] at e2 e3 e4 e6
    rw [show (0 : Int) + (j : Int) = (j : Int) by omega]
    refine ⟨by omega, e4, fun w1 w2 => ?_⟩
    rcases (e6 w1).1 with ⟨w3, w4⟩ | ⟨w3, w4⟩
    · exact w4.symm
    · omega
  · have := List.all_eq_true.mp (zu_T50 m) t ht
    rw [hv] at this
    simp only [Bool.not_true, Bool.false_or, Bool.and_eq_true, decide_eq_true_eq] at this
    exact this
theorem zu_u4_ok {w : zq_Wd} (x_LXR : zj_is w 107 (fun q => zu_LXR (q 0) (q 1) (q 2) (q 3) (q 4) (q 5))) (x_FA : zj_is w 125 (fun q => zu_FA (q 0) (q 1) (q 2) (q 3))) (x_X4 : zj_is w 4 (fun q => zu_X4 (q 0) (q 1) (q 2) (q 3))) : zq_okG1 w zu_u4 := by
  refine ⟨rfl, rfl, zu_fac ⟨rfl, by decide⟩ zq_fan, ?_⟩
  intro r P h H hM
  have q0 : zq_ev r (0, [(0, 1)]) = r 0 := zu_e1 _ _
  have q1 : zq_ev r (0, [(1, 1)]) = r 1 := zu_e1 _ _
  have q2 : zq_ev r (0, [(2, 1)]) = r 2 := zu_e1 _ _
  have q3 : zq_ev r (0, [(3, 1)]) = r 3 := zu_e1 _ _
  have q4 : zq_ev r (0, [(4, 1)]) = r 4 := zu_e1 _ _
  have q5 : zq_ev r (0, [(5, 1)]) = r 5 := zu_e1 _ _
  have q6 : zq_ev r (0, [(6, 1)]) = r 6 := zu_e1 _ _
  have q7 : zq_ev r (-1, []) = -1 := zu_e0 _ _
  obtain ⟨hT, hC, hF, hS, -, hK⟩ := hM
  have c := hC.1
  have k1 : zu_LXR (zq_ev r (0, [(0, 1)])) (zq_ev r (0, [(1, 1)])) (zq_ev r (0, [(2, 1)])) (zq_ev r (0, [(3, 1)])) (zq_ev r (0, [(4, 1)])) (zq_ev r (0, [(5, 1)])) P h := zj_use x_LXR (hK)
  simp only [q0, q1, q2, q3, q4, q5] at k1
  have k2 : zu_FA (zq_ev r (0, [(6, 1)])) (zq_ev r (0, [(3, 1)])) (zq_ev r (0, [(4, 1)])) (zq_ev r (-1, [])) P h := zj_use x_FA (zq_okX_t (hK))
  simp only [q3, q4, q6, q7] at k2
  obtain t1 := zu_u4_l (P := P) (h := h) (co := r 0) (va := r 1) (pl := r 2) (g := r 3) (n := r 4) (t := r 5) (o := r 6) k1 k2
  obtain ⟨rq, hr⟩ : ∃ rq : Nat → Int, (∀ i, i < 7 → rq i = r i) := ⟨r, fun i hi => rfl⟩
  have v0 : rq 0 = r 0 := hr 0 (by decide)
  have v1 : rq 1 = r 1 := hr 1 (by decide)
  have v5 : rq 5 = r 5 := hr 5 (by decide)
  have v6 : rq 6 = r 6 := hr 6 (by decide)
  have g0 : zq_ev rq (0, [(0, 1)]) = r 0 := zu_f1 v0
  have g1 : zq_ev rq (0, [(1, 1)]) = r 1 := zu_f1 v1
  have g2 : zq_ev rq (0, [(5, 1)]) = r 5 := zu_f1 v5
  have g3 : zq_ev rq (0, [(6, 1)]) = r 6 := zu_f1 v6
  exact ⟨_, List.mem_cons_self .., rq, hr, zq_MeS_mk rfl hT (zq_all_nil) zq_fan (zq_fan) rfl (zu_fac ((x_X4 _ _ _).mpr (by show zu_X4 (zq_ev rq (0, [(0, 1)])) (zq_ev rq (0, [(1, 1)])) (zq_ev rq (0, [(5, 1)])) (zq_ev rq (0, [(6, 1)])) P h; simp only [g0, g1, g2, g3]; exact t1)) zq_fan)⟩
