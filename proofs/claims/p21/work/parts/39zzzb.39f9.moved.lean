/-! WHAT MOVES, LAWS KEPT: facts -/
noncomputable def zm_h0 : zq_S × List zq_S := (([], [], [(0, [(4, 1)]), (10, [(4, -1)])], [], [], [], [(280, [(0, [(0, 1)]), (0, [(1, 1)]), (0, [(2, 1)]), (0, [(3, 1)])])], 5), [([], [], [], [], [], [], [(284, [(0, [(0, 1)]), (0, [(1, 1)]), (0, [(2, 1)]), (0, [(3, 1)]), (0, [(4, 1)])])], 5)])
theorem zm_h0_l {P : zq_Ty} {h : zq_H} {bl ck tm M p : Int} (a1 : 0 ≤ p) (a2 : 0 ≤ -p + 10) (k1 : zm_MC 35 bl ck tm M P h) : (zm_MH 35 bl ck tm M p P h) := by
  obtain ⟨w1, w2, w3, w4⟩ := k1
  exact ⟨w1, w2, w3, zm_ho_0 w4 (by omega) (by omega)⟩
theorem zm_h0_ok {w : zq_Wd} (x_MC0 : zj_is w 280 (fun q => zm_MC 35 (q 0) (q 1) (q 2) (q 3))) (x_MH0 : zj_is w 284 (fun q => zm_MH 35 (q 0) (q 1) (q 2) (q 3) (q 4))) : zq_okG1 w zm_h0 := by
  refine ⟨rfl, rfl, zu_fac ⟨rfl, by decide⟩ zq_fan, ?_⟩
  intro r P h H hM
  have q0 : zq_ev r (0, [(4, 1)]) = r 4 := zu_e1 _ _
  have q1 : zq_ev r (10, [(4, -1)]) = -r 4 + 10 := zu_e5 _ _ _
  have q2 : zq_ev r (0, [(0, 1)]) = r 0 := zu_e1 _ _
  have q3 : zq_ev r (0, [(1, 1)]) = r 1 := zu_e1 _ _
  have q4 : zq_ev r (0, [(2, 1)]) = r 2 := zu_e1 _ _
  have q5 : zq_ev r (0, [(3, 1)]) = r 3 := zu_e1 _ _
  obtain ⟨hT, hC, hF, hS, -, hK⟩ := hM
  have c := hC.1
  have a1 := zq_all_1 c
  rw [q0] at a1
  have c := zq_all_t c
  have a2 := zq_all_1 c
  rw [q1] at a2
  have k1 := zj_use x_MC0 (hK)
  have k1 : zm_MC 35 (zq_ev r (0, [(0, 1)])) (zq_ev r (0, [(1, 1)])) (zq_ev r (0, [(2, 1)])) (zq_ev r (0, [(3, 1)])) P h := k1
  simp only [q2, q3, q4, q5] at k1
  obtain t1 := zm_h0_l (P := P) (h := h) (bl := r 0) (ck := r 1) (tm := r 2) (M := r 3) (p := r 4) a1 a2 k1
  obtain ⟨rq, hr⟩ : ∃ rq : Nat → Int, (∀ i, i < 5 → rq i = r i) := ⟨r, fun i hi => rfl⟩
  have v0 : rq 0 = r 0 := hr 0 (by decide)
  have v1 : rq 1 = r 1 := hr 1 (by decide)
  have v2 : rq 2 = r 2 := hr 2 (by decide)
  have v3 : rq 3 = r 3 := hr 3 (by decide)
  have v4 : rq 4 = r 4 := hr 4 (by decide)
  have g0 : zq_ev rq (0, [(0, 1)]) = r 0 := zu_f1 v0
  have g1 : zq_ev rq (0, [(1, 1)]) = r 1 := zu_f1 v1
  have g2 : zq_ev rq (0, [(2, 1)]) = r 2 := zu_f1 v2
  have g3 : zq_ev rq (0, [(3, 1)]) = r 3 := zu_f1 v3
  have g4 : zq_ev rq (0, [(4, 1)]) = r 4 := zu_f1 v4
  exact ⟨_, List.mem_cons_self .., rq, hr, zq_MeS_mk rfl hT (zq_all_nil) zq_fan (zq_fan) rfl (zu_fac ((x_MH0 _ _ _).mpr (by show zm_MH 35 (zq_ev rq (0, [(0, 1)])) (zq_ev rq (0, [(1, 1)])) (zq_ev rq (0, [(2, 1)])) (zq_ev rq (0, [(3, 1)])) (zq_ev rq (0, [(4, 1)])) P h; simp only [g0, g1, g2, g3, g4]; exact t1)) zq_fan)⟩
noncomputable def zm_b0 : zq_S × List zq_S := (([], [], [(0, [(4, 1)]), (5, [(4, -1)]), (2147483648, [(5, 1)]), (2147483647, [(5, -1)])], [], [((0, [(0, 1)]), (0, [(4, 1)]), (0, [(5, 1)]))], [], [(284, [(0, [(0, 1)]), (0, [(1, 1)]), (0, [(2, 1)]), (0, [(3, 1)]), (0, [(4, 1)])])], 6), [([], [], [], [], [], [], [(280, [(0, [(0, 1)]), (0, [(1, 1)]), (0, [(2, 1)]), (0, [(6, 1)])]), (290, [(0, [(3, 1)]), (0, [(4, 1)]), (0, [(5, 1)]), (0, [(6, 1)])])], 7)])
theorem zm_b0_l {P : zq_Ty} {h : zq_H} {bl ck tm M p v : Int} (a1 : 0 ≤ p) (a2 : 0 ≤ -p + 5) (a3 : 0 ≤ v + 2147483648) (a4 : 0 ≤ -v + 2147483647) (s1 : 0 ≤ bl ∧ P (bl).toNat ≠ none ∧ h (bl).toNat p = v) (k1 : zm_MH 35 bl ck tm M p P h) : (∃ N : Int, zm_MC 35 bl ck tm N P h ∧ zm_UM M p v N P h) := by
  obtain ⟨w1, w2, w3, w4⟩ := k1
  exact ⟨zm_st M p v, ⟨w1, w2, w3, zm_ho_st w4 (by unfold zn_in; omega) (by unfold zm_f; rw [if_pos (by omega)]; exact s1.2.2)⟩, rfl⟩
theorem zm_b0_ok {w : zq_Wd} (x_MH0 : zj_is w 284 (fun q => zm_MH 35 (q 0) (q 1) (q 2) (q 3) (q 4))) (x_MC0 : zj_is w 280 (fun q => zm_MC 35 (q 0) (q 1) (q 2) (q 3))) (x_UM : zj_is w 290 (fun q => zm_UM (q 0) (q 1) (q 2) (q 3))) : zq_okG1 w zm_b0 := by
  refine ⟨rfl, rfl, zu_fac ⟨rfl, by decide⟩ zq_fan, ?_⟩
  intro r P h H hM
  have q0 : zq_ev r (0, [(4, 1)]) = r 4 := zu_e1 _ _
  have q1 : zq_ev r (5, [(4, -1)]) = -r 4 + 5 := zu_e5 _ _ _
  have q2 : zq_ev r (2147483648, [(5, 1)]) = r 5 + 2147483648 := zu_e2 _ _ _
  have q3 : zq_ev r (2147483647, [(5, -1)]) = -r 5 + 2147483647 := zu_e5 _ _ _
  have q4 : zq_ev r (0, [(0, 1)]) = r 0 := zu_e1 _ _
  have q5 : zq_ev r (0, [(5, 1)]) = r 5 := zu_e1 _ _
  have q6 : zq_ev r (0, [(1, 1)]) = r 1 := zu_e1 _ _
  have q7 : zq_ev r (0, [(2, 1)]) = r 2 := zu_e1 _ _
  have q8 : zq_ev r (0, [(3, 1)]) = r 3 := zu_e1 _ _
  obtain ⟨hT, hC, hF, hS, -, hK⟩ := hM
  have c := hC.1
  have a1 := zq_all_1 c
  rw [q0] at a1
  have c := zq_all_t c
  have a2 := zq_all_1 c
  rw [q1] at a2
  have c := zq_all_t c
  have a3 := zq_all_1 c
  rw [q2] at a3
  have c := zq_all_t c
  have a4 := zq_all_1 c
  rw [q3] at a4
  have s1 := zq_okS_1 (hS)
  simp only [q0, q4, q5] at s1
  have k1 := zj_use x_MH0 (hK)
  have k1 : zm_MH 35 (zq_ev r (0, [(0, 1)])) (zq_ev r (0, [(1, 1)])) (zq_ev r (0, [(2, 1)])) (zq_ev r (0, [(3, 1)])) (zq_ev r (0, [(4, 1)])) P h := k1
  simp only [q0, q4, q6, q7, q8] at k1
  obtain ⟨y_0, t1, t2⟩ := zm_b0_l (P := P) (h := h) (bl := r 0) (ck := r 1) (tm := r 2) (M := r 3) (p := r 4) (v := r 5) a1 a2 a3 a4 s1 k1
  obtain ⟨rq, hr, w6⟩ : ∃ rq : Nat → Int, (∀ i, i < 6 → rq i = r i) ∧ rq 6 = y_0 := ⟨zq_up r 6 y_0, fun i hi => by rw [zu_up_ne (by omega)], rfl⟩
  have v0 : rq 0 = r 0 := hr 0 (by decide)
  have v1 : rq 1 = r 1 := hr 1 (by decide)
  have v2 : rq 2 = r 2 := hr 2 (by decide)
  have v3 : rq 3 = r 3 := hr 3 (by decide)
  have v4 : rq 4 = r 4 := hr 4 (by decide)
  have v5 : rq 5 = r 5 := hr 5 (by decide)
  have g0 : zq_ev rq (0, [(3, 1)]) = r 3 := zu_f1 v3
  have g1 : zq_ev rq (0, [(4, 1)]) = r 4 := zu_f1 v4
  have g2 : zq_ev rq (0, [(5, 1)]) = r 5 := zu_f1 v5
  have g3 : zq_ev rq (0, [(6, 1)]) = y_0 := zu_f1 w6
  have g4 : zq_ev rq (0, [(0, 1)]) = r 0 := zu_f1 v0
  have g5 : zq_ev rq (0, [(1, 1)]) = r 1 := zu_f1 v1
  have g6 : zq_ev rq (0, [(2, 1)]) = r 2 := zu_f1 v2
  exact ⟨_, List.mem_cons_self .., rq, hr, zq_MeS_mk rfl hT (zq_all_nil) zq_fan (zq_fan) rfl (zu_fac ((x_MC0 _ _ _).mpr (by show zm_MC 35 (zq_ev rq (0, [(0, 1)])) (zq_ev rq (0, [(1, 1)])) (zq_ev rq (0, [(2, 1)])) (zq_ev rq (0, [(6, 1)])) P h; simp only [g3, g4, g5, g6]; exact t1)) (zu_fac ((x_UM _ _ _).mpr (by show zm_UM (zq_ev rq (0, [(3, 1)])) (zq_ev rq (0, [(4, 1)])) (zq_ev rq (0, [(5, 1)])) (zq_ev rq (0, [(6, 1)])) P h; simp only [g0, g1, g2, g3]; exact t2)) zq_fan))⟩
noncomputable def zm_c0 : zq_S × List zq_S := (([], [], [(0, [(4, 1)]), (3, [(4, -1)]), (2147483648, [(5, 1)]), (2147483647, [(5, -1)])], [], [((0, [(1, 1)]), (0, [(4, 1)]), (0, [(5, 1)]))], [], [(284, [(0, [(0, 1)]), (0, [(1, 1)]), (0, [(2, 1)]), (0, [(3, 1)]), (6, [(4, 1)])])], 6), [([], [], [], [], [], [], [(280, [(0, [(0, 1)]), (0, [(1, 1)]), (0, [(2, 1)]), (0, [(6, 1)])]), (290, [(0, [(3, 1)]), (6, [(4, 1)]), (0, [(5, 1)]), (0, [(6, 1)])])], 7)])
theorem zm_c0_l {P : zq_Ty} {h : zq_H} {bl ck tm M q v : Int} (a1 : 0 ≤ q) (a2 : 0 ≤ -q + 3) (a3 : 0 ≤ v + 2147483648) (a4 : 0 ≤ -v + 2147483647) (s1 : 0 ≤ ck ∧ P (ck).toNat ≠ none ∧ h (ck).toNat q = v) (k1 : zm_MH 35 bl ck tm M (q + 6) P h) : (∃ N : Int, zm_MC 35 bl ck tm N P h ∧ zm_UM M (q + 6) v N P h) := by
  obtain ⟨w1, w2, w3, w4⟩ := k1
  exact ⟨zm_st M (q + 6) v, ⟨w1, w2, w3, zm_ho_st w4 (by unfold zn_in; omega) (by unfold zm_f; rw [if_neg (by omega), if_pos (by omega), show q + 6 - 6 = q by omega]; exact s1.2.2)⟩, rfl⟩
theorem zm_c0_ok {w : zq_Wd} (x_MH0 : zj_is w 284 (fun q => zm_MH 35 (q 0) (q 1) (q 2) (q 3) (q 4))) (x_MC0 : zj_is w 280 (fun q => zm_MC 35 (q 0) (q 1) (q 2) (q 3))) (x_UM : zj_is w 290 (fun q => zm_UM (q 0) (q 1) (q 2) (q 3))) : zq_okG1 w zm_c0 := by
  refine ⟨rfl, rfl, zu_fac ⟨rfl, by decide⟩ zq_fan, ?_⟩
  intro r P h H hM
  have q0 : zq_ev r (0, [(4, 1)]) = r 4 := zu_e1 _ _
  have q1 : zq_ev r (3, [(4, -1)]) = -r 4 + 3 := zu_e5 _ _ _
  have q2 : zq_ev r (2147483648, [(5, 1)]) = r 5 + 2147483648 := zu_e2 _ _ _
  have q3 : zq_ev r (2147483647, [(5, -1)]) = -r 5 + 2147483647 := zu_e5 _ _ _
  have q4 : zq_ev r (0, [(1, 1)]) = r 1 := zu_e1 _ _
  have q5 : zq_ev r (0, [(5, 1)]) = r 5 := zu_e1 _ _
  have q6 : zq_ev r (0, [(0, 1)]) = r 0 := zu_e1 _ _
  have q7 : zq_ev r (0, [(2, 1)]) = r 2 := zu_e1 _ _
  have q8 : zq_ev r (0, [(3, 1)]) = r 3 := zu_e1 _ _
  have q9 : zq_ev r (6, [(4, 1)]) = r 4 + 6 := zu_e2 _ _ _
  obtain ⟨hT, hC, hF, hS, -, hK⟩ := hM
  have c := hC.1
  have a1 := zq_all_1 c
  rw [q0] at a1
  have c := zq_all_t c
  have a2 := zq_all_1 c
  rw [q1] at a2
  have c := zq_all_t c
  have a3 := zq_all_1 c
  rw [q2] at a3
  have c := zq_all_t c
  have a4 := zq_all_1 c
  rw [q3] at a4
  have s1 := zq_okS_1 (hS)
  simp only [q0, q4, q5] at s1
  have k1 := zj_use x_MH0 (hK)
  have k1 : zm_MH 35 (zq_ev r (0, [(0, 1)])) (zq_ev r (0, [(1, 1)])) (zq_ev r (0, [(2, 1)])) (zq_ev r (0, [(3, 1)])) (zq_ev r (6, [(4, 1)])) P h := k1
  simp only [q4, q6, q7, q8, q9] at k1
  obtain ⟨y_0, t1, t2⟩ := zm_c0_l (P := P) (h := h) (bl := r 0) (ck := r 1) (tm := r 2) (M := r 3) (q := r 4) (v := r 5) a1 a2 a3 a4 s1 k1
  obtain ⟨rq, hr, w6⟩ : ∃ rq : Nat → Int, (∀ i, i < 6 → rq i = r i) ∧ rq 6 = y_0 := ⟨zq_up r 6 y_0, fun i hi => by rw [zu_up_ne (by omega)], rfl⟩
  have v0 : rq 0 = r 0 := hr 0 (by decide)
  have v1 : rq 1 = r 1 := hr 1 (by decide)
  have v2 : rq 2 = r 2 := hr 2 (by decide)
  have v3 : rq 3 = r 3 := hr 3 (by decide)
  have v4 : rq 4 = r 4 := hr 4 (by decide)
  have v5 : rq 5 = r 5 := hr 5 (by decide)
  have g0 : zq_ev rq (0, [(3, 1)]) = r 3 := zu_f1 v3
  have g1 : zq_ev rq (6, [(4, 1)]) = r 4 + 6 := zu_f2 v4 _
  have g2 : zq_ev rq (0, [(5, 1)]) = r 5 := zu_f1 v5
  have g3 : zq_ev rq (0, [(6, 1)]) = y_0 := zu_f1 w6
  have g4 : zq_ev rq (0, [(0, 1)]) = r 0 := zu_f1 v0
  have g5 : zq_ev rq (0, [(1, 1)]) = r 1 := zu_f1 v1
  have g6 : zq_ev rq (0, [(2, 1)]) = r 2 := zu_f1 v2
  exact ⟨_, List.mem_cons_self .., rq, hr, zq_MeS_mk rfl hT (zq_all_nil) zq_fan (zq_fan) rfl (zu_fac ((x_MC0 _ _ _).mpr (by show zm_MC 35 (zq_ev rq (0, [(0, 1)])) (zq_ev rq (0, [(1, 1)])) (zq_ev rq (0, [(2, 1)])) (zq_ev rq (0, [(6, 1)])) P h; simp only [g3, g4, g5, g6]; exact t1)) (zu_fac ((x_UM _ _ _).mpr (by show zm_UM (zq_ev rq (0, [(3, 1)])) (zq_ev rq (6, [(4, 1)])) (zq_ev rq (0, [(5, 1)])) (zq_ev rq (0, [(6, 1)])) P h; simp only [g0, g1, g2, g3]; exact t2)) zq_fan))⟩
noncomputable def zm_t0 : zq_S × List zq_S := (([], [], [(2147483648, [(4, 1)]), (2147483647, [(4, -1)])], [], [((0, [(2, 1)]), (0, []), (0, [(4, 1)]))], [], [(284, [(0, [(0, 1)]), (0, [(1, 1)]), (0, [(2, 1)]), (0, [(3, 1)]), (10, [])])], 5), [([], [], [], [], [], [], [(280, [(0, [(0, 1)]), (0, [(1, 1)]), (0, [(2, 1)]), (0, [(5, 1)])]), (290, [(0, [(3, 1)]), (10, []), (0, [(4, 1)]), (0, [(5, 1)])])], 6)])
theorem zm_t0_l {P : zq_Ty} {h : zq_H} {bl ck tm M v : Int} (a1 : 0 ≤ v + 2147483648) (a2 : 0 ≤ -v + 2147483647) (s1 : 0 ≤ tm ∧ P (tm).toNat ≠ none ∧ h (tm).toNat 0 = v) (k1 : zm_MH 35 bl ck tm M 10 P h) : (∃ N : Int, zm_MC 35 bl ck tm N P h ∧ zm_UM M 10 v N P h) := by
  obtain ⟨w1, w2, w3, w4⟩ := k1
  exact ⟨zm_st M 10 v, ⟨w1, w2, w3, zm_ho_st w4 (by unfold zn_in; omega) (by unfold zm_f; rw [if_neg (by omega), if_neg (by omega)]; exact s1.2.2)⟩, rfl⟩
theorem zm_t0_ok {w : zq_Wd} (x_MH0 : zj_is w 284 (fun q => zm_MH 35 (q 0) (q 1) (q 2) (q 3) (q 4))) (x_MC0 : zj_is w 280 (fun q => zm_MC 35 (q 0) (q 1) (q 2) (q 3))) (x_UM : zj_is w 290 (fun q => zm_UM (q 0) (q 1) (q 2) (q 3))) : zq_okG1 w zm_t0 := by
  refine ⟨rfl, rfl, zu_fac ⟨rfl, by decide⟩ zq_fan, ?_⟩
  intro r P h H hM
  have q0 : zq_ev r (2147483648, [(4, 1)]) = r 4 + 2147483648 := zu_e2 _ _ _
  have q1 : zq_ev r (2147483647, [(4, -1)]) = -r 4 + 2147483647 := zu_e5 _ _ _
  have q2 : zq_ev r (0, [(2, 1)]) = r 2 := zu_e1 _ _
  have q3 : zq_ev r (0, []) = 0 := zu_e0 _ _
  have q4 : zq_ev r (0, [(4, 1)]) = r 4 := zu_e1 _ _
  have q5 : zq_ev r (0, [(0, 1)]) = r 0 := zu_e1 _ _
  have q6 : zq_ev r (0, [(1, 1)]) = r 1 := zu_e1 _ _
  have q7 : zq_ev r (0, [(3, 1)]) = r 3 := zu_e1 _ _
  have q8 : zq_ev r (10, []) = 10 := zu_e0 _ _
  obtain ⟨hT, hC, hF, hS, -, hK⟩ := hM
  have c := hC.1
  have a1 := zq_all_1 c
  rw [q0] at a1
  have c := zq_all_t c
  have a2 := zq_all_1 c
  rw [q1] at a2
  have s1 := zq_okS_1 (hS)
  simp only [q2, q3, q4] at s1
  have k1 := zj_use x_MH0 (hK)
  have k1 : zm_MH 35 (zq_ev r (0, [(0, 1)])) (zq_ev r (0, [(1, 1)])) (zq_ev r (0, [(2, 1)])) (zq_ev r (0, [(3, 1)])) (zq_ev r (10, [])) P h := k1
  simp only [q2, q5, q6, q7, q8] at k1
  obtain ⟨y_0, t1, t2⟩ := zm_t0_l (P := P) (h := h) (bl := r 0) (ck := r 1) (tm := r 2) (M := r 3) (v := r 4) a1 a2 s1 k1
  obtain ⟨rq, hr, w5⟩ : ∃ rq : Nat → Int, (∀ i, i < 5 → rq i = r i) ∧ rq 5 = y_0 := ⟨zq_up r 5 y_0, fun i hi => by rw [zu_up_ne (by omega)], rfl⟩
  have v0 : rq 0 = r 0 := hr 0 (by decide)
  have v1 : rq 1 = r 1 := hr 1 (by decide)
  have v2 : rq 2 = r 2 := hr 2 (by decide)
  have v3 : rq 3 = r 3 := hr 3 (by decide)
  have v4 : rq 4 = r 4 := hr 4 (by decide)
  have g0 : zq_ev rq (0, [(3, 1)]) = r 3 := zu_f1 v3
  have g1 : zq_ev rq (10, []) = 10 := zu_e0 _ _
  have g2 : zq_ev rq (0, [(4, 1)]) = r 4 := zu_f1 v4
  have g3 : zq_ev rq (0, [(5, 1)]) = y_0 := zu_f1 w5
  have g4 : zq_ev rq (0, [(0, 1)]) = r 0 := zu_f1 v0
  have g5 : zq_ev rq (0, [(1, 1)]) = r 1 := zu_f1 v1
  have g6 : zq_ev rq (0, [(2, 1)]) = r 2 := zu_f1 v2
  exact ⟨_, List.mem_cons_self .., rq, hr, zq_MeS_mk rfl hT (zq_all_nil) zq_fan (zq_fan) rfl (zu_fac ((x_MC0 _ _ _).mpr (by show zm_MC 35 (zq_ev rq (0, [(0, 1)])) (zq_ev rq (0, [(1, 1)])) (zq_ev rq (0, [(2, 1)])) (zq_ev rq (0, [(5, 1)])) P h; simp only [g3, g4, g5, g6]; exact t1)) (zu_fac ((x_UM _ _ _).mpr (by show zm_UM (zq_ev rq (0, [(3, 1)])) (zq_ev rq (10, [])) (zq_ev rq (0, [(4, 1)])) (zq_ev rq (0, [(5, 1)])) P h; simp only [g0, g1, g2, g3]; exact t2)) zq_fan))⟩
noncomputable def zm_rb0 : zq_S × List zq_S := (([], [], [(0, [(4, 1)]), (5, [(4, -1)])], [], [((0, [(0, 1)]), (0, [(4, 1)]), (0, [(5, 1)]))], [], [(280, [(0, [(0, 1)]), (0, [(1, 1)]), (0, [(2, 1)]), (0, [(3, 1)])])], 6), [([], [], [], [], [], [], [(134, [(0, [(3, 1)]), (0, [(4, 1)]), (0, [(5, 1)])])], 6)])
theorem zm_rb0_l {P : zq_Ty} {h : zq_H} {bl ck tm M i v : Int} (a1 : 0 ≤ i) (a2 : 0 ≤ -i + 5) (s1 : 0 ≤ bl ∧ P (bl).toNat ≠ none ∧ h (bl).toNat i = v) (k1 : zm_MC 35 bl ck tm M P h) : (zn_DG M i v P h) := by
  obtain ⟨w1, w2, w3, w4⟩ := k1
  have e := zm_is_dg (j := i) w4 (by omega) (by omega)
  unfold zm_f at e
  rw [if_pos (by omega), s1.2.2] at e
  exact e
theorem zm_rb0_ok {w : zq_Wd} (x_MC0 : zj_is w 280 (fun q => zm_MC 35 (q 0) (q 1) (q 2) (q 3))) (x_DG : zj_is w 134 (fun q => zn_DG (q 0) (q 1) (q 2))) : zq_okG1 w zm_rb0 := by
  refine ⟨rfl, rfl, zu_fac ⟨rfl, by decide⟩ zq_fan, ?_⟩
  intro r P h H hM
  have q0 : zq_ev r (0, [(4, 1)]) = r 4 := zu_e1 _ _
  have q1 : zq_ev r (5, [(4, -1)]) = -r 4 + 5 := zu_e5 _ _ _
  have q2 : zq_ev r (0, [(0, 1)]) = r 0 := zu_e1 _ _
  have q3 : zq_ev r (0, [(5, 1)]) = r 5 := zu_e1 _ _
  have q4 : zq_ev r (0, [(1, 1)]) = r 1 := zu_e1 _ _
  have q5 : zq_ev r (0, [(2, 1)]) = r 2 := zu_e1 _ _
  have q6 : zq_ev r (0, [(3, 1)]) = r 3 := zu_e1 _ _
  obtain ⟨hT, hC, hF, hS, -, hK⟩ := hM
  have c := hC.1
  have a1 := zq_all_1 c
  rw [q0] at a1
  have c := zq_all_t c
  have a2 := zq_all_1 c
  rw [q1] at a2
  have s1 := zq_okS_1 (hS)
  simp only [q0, q2, q3] at s1
  have k1 := zj_use x_MC0 (hK)
  have k1 : zm_MC 35 (zq_ev r (0, [(0, 1)])) (zq_ev r (0, [(1, 1)])) (zq_ev r (0, [(2, 1)])) (zq_ev r (0, [(3, 1)])) P h := k1
  simp only [q2, q4, q5, q6] at k1
  obtain t1 := zm_rb0_l (P := P) (h := h) (bl := r 0) (ck := r 1) (tm := r 2) (M := r 3) (i := r 4) (v := r 5) a1 a2 s1 k1
  obtain ⟨rq, hr⟩ : ∃ rq : Nat → Int, (∀ i, i < 6 → rq i = r i) := ⟨r, fun i hi => rfl⟩
  have v3 : rq 3 = r 3 := hr 3 (by decide)
  have v4 : rq 4 = r 4 := hr 4 (by decide)
  have v5 : rq 5 = r 5 := hr 5 (by decide)
  have g0 : zq_ev rq (0, [(3, 1)]) = r 3 := zu_f1 v3
  have g1 : zq_ev rq (0, [(4, 1)]) = r 4 := zu_f1 v4
  have g2 : zq_ev rq (0, [(5, 1)]) = r 5 := zu_f1 v5
  exact ⟨_, List.mem_cons_self .., rq, hr, zq_MeS_mk rfl hT (zq_all_nil) zq_fan (zq_fan) rfl (zu_fac ((x_DG _ _ _).mpr (by show zn_DG (zq_ev rq (0, [(3, 1)])) (zq_ev rq (0, [(4, 1)])) (zq_ev rq (0, [(5, 1)])) P h; simp only [g0, g1, g2]; exact t1)) zq_fan)⟩
noncomputable def zm_rc0 : zq_S × List zq_S := (([], [], [(0, [(4, 1)]), (3, [(4, -1)])], [], [((0, [(1, 1)]), (0, [(4, 1)]), (0, [(5, 1)]))], [], [(280, [(0, [(0, 1)]), (0, [(1, 1)]), (0, [(2, 1)]), (0, [(3, 1)])])], 6), [([], [], [], [], [], [], [(134, [(0, [(3, 1)]), (6, [(4, 1)]), (0, [(5, 1)])])], 6)])
theorem zm_rc0_l {P : zq_Ty} {h : zq_H} {bl ck tm M i v : Int} (a1 : 0 ≤ i) (a2 : 0 ≤ -i + 3) (s1 : 0 ≤ ck ∧ P (ck).toNat ≠ none ∧ h (ck).toNat i = v) (k1 : zm_MC 35 bl ck tm M P h) : (zn_DG M (i + 6) v P h) := by
  obtain ⟨w1, w2, w3, w4⟩ := k1
  have e := zm_is_dg (j := i + 6) w4 (by omega) (by omega)
  unfold zm_f at e
  rw [if_neg (by omega), if_pos (by omega), show i + 6 - 6 = i by omega, s1.2.2] at e
  exact e
theorem zm_rc0_ok {w : zq_Wd} (x_MC0 : zj_is w 280 (fun q => zm_MC 35 (q 0) (q 1) (q 2) (q 3))) (x_DG : zj_is w 134 (fun q => zn_DG (q 0) (q 1) (q 2))) : zq_okG1 w zm_rc0 := by
  refine ⟨rfl, rfl, zu_fac ⟨rfl, by decide⟩ zq_fan, ?_⟩
  intro r P h H hM
  have q0 : zq_ev r (0, [(4, 1)]) = r 4 := zu_e1 _ _
  have q1 : zq_ev r (3, [(4, -1)]) = -r 4 + 3 := zu_e5 _ _ _
  have q2 : zq_ev r (0, [(1, 1)]) = r 1 := zu_e1 _ _
  have q3 : zq_ev r (0, [(5, 1)]) = r 5 := zu_e1 _ _
  have q4 : zq_ev r (0, [(0, 1)]) = r 0 := zu_e1 _ _
  have q5 : zq_ev r (0, [(2, 1)]) = r 2 := zu_e1 _ _
  have q6 : zq_ev r (0, [(3, 1)]) = r 3 := zu_e1 _ _
  obtain ⟨hT, hC, hF, hS, -, hK⟩ := hM
  have c := hC.1
  have a1 := zq_all_1 c
  rw [q0] at a1
  have c := zq_all_t c
  have a2 := zq_all_1 c
  rw [q1] at a2
  have s1 := zq_okS_1 (hS)
  simp only [q0, q2, q3] at s1
  have k1 := zj_use x_MC0 (hK)
  have k1 : zm_MC 35 (zq_ev r (0, [(0, 1)])) (zq_ev r (0, [(1, 1)])) (zq_ev r (0, [(2, 1)])) (zq_ev r (0, [(3, 1)])) P h := k1
  simp only [q2, q4, q5, q6] at k1
  obtain t1 := zm_rc0_l (P := P) (h := h) (bl := r 0) (ck := r 1) (tm := r 2) (M := r 3) (i := r 4) (v := r 5) a1 a2 s1 k1
  obtain ⟨rq, hr⟩ : ∃ rq : Nat → Int, (∀ i, i < 6 → rq i = r i) := ⟨r, fun i hi => rfl⟩
  have v3 : rq 3 = r 3 := hr 3 (by decide)
  have v4 : rq 4 = r 4 := hr 4 (by decide)
  have v5 : rq 5 = r 5 := hr 5 (by decide)
  have g0 : zq_ev rq (0, [(3, 1)]) = r 3 := zu_f1 v3
  have g1 : zq_ev rq (6, [(4, 1)]) = r 4 + 6 := zu_f2 v4 _
  have g2 : zq_ev rq (0, [(5, 1)]) = r 5 := zu_f1 v5
  exact ⟨_, List.mem_cons_self .., rq, hr, zq_MeS_mk rfl hT (zq_all_nil) zq_fan (zq_fan) rfl (zu_fac ((x_DG _ _ _).mpr (by show zn_DG (zq_ev rq (0, [(3, 1)])) (zq_ev rq (6, [(4, 1)])) (zq_ev rq (0, [(5, 1)])) P h; simp only [g0, g1, g2]; exact t1)) zq_fan)⟩
noncomputable def zm_rt0 : zq_S × List zq_S := (([], [], [], [], [((0, [(2, 1)]), (0, []), (0, [(4, 1)]))], [], [(280, [(0, [(0, 1)]), (0, [(1, 1)]), (0, [(2, 1)]), (0, [(3, 1)])])], 5), [([], [], [], [], [], [], [(134, [(0, [(3, 1)]), (10, []), (0, [(4, 1)])])], 5)])
theorem zm_rt0_l {P : zq_Ty} {h : zq_H} {bl ck tm M v : Int} (s1 : 0 ≤ tm ∧ P (tm).toNat ≠ none ∧ h (tm).toNat 0 = v) (k1 : zm_MC 35 bl ck tm M P h) : (zn_DG M 10 v P h) := by
  obtain ⟨w1, w2, w3, w4⟩ := k1
  have e := zm_is_dg (j := 10) w4 (by omega) (by omega)
  unfold zm_f at e
  rw [if_neg (by omega), if_neg (by omega), s1.2.2] at e
  exact e
theorem zm_rt0_ok {w : zq_Wd} (x_MC0 : zj_is w 280 (fun q => zm_MC 35 (q 0) (q 1) (q 2) (q 3))) (x_DG : zj_is w 134 (fun q => zn_DG (q 0) (q 1) (q 2))) : zq_okG1 w zm_rt0 := by
  refine ⟨rfl, rfl, zu_fac ⟨rfl, by decide⟩ zq_fan, ?_⟩
  intro r P h H hM
  have q0 : zq_ev r (0, [(2, 1)]) = r 2 := zu_e1 _ _
  have q1 : zq_ev r (0, []) = 0 := zu_e0 _ _
  have q2 : zq_ev r (0, [(4, 1)]) = r 4 := zu_e1 _ _
  have q3 : zq_ev r (0, [(0, 1)]) = r 0 := zu_e1 _ _
  have q4 : zq_ev r (0, [(1, 1)]) = r 1 := zu_e1 _ _
  have q5 : zq_ev r (0, [(3, 1)]) = r 3 := zu_e1 _ _
  obtain ⟨hT, hC, hF, hS, -, hK⟩ := hM
  have c := hC.1
  have s1 := zq_okS_1 (hS)
  simp only [q0, q1, q2] at s1
  have k1 := zj_use x_MC0 (hK)
  have k1 : zm_MC 35 (zq_ev r (0, [(0, 1)])) (zq_ev r (0, [(1, 1)])) (zq_ev r (0, [(2, 1)])) (zq_ev r (0, [(3, 1)])) P h := k1
  simp only [q0, q3, q4, q5] at k1
  obtain t1 := zm_rt0_l (P := P) (h := h) (bl := r 0) (ck := r 1) (tm := r 2) (M := r 3) (v := r 4) s1 k1
  obtain ⟨rq, hr⟩ : ∃ rq : Nat → Int, (∀ i, i < 5 → rq i = r i) := ⟨r, fun i hi => rfl⟩
  have v3 : rq 3 = r 3 := hr 3 (by decide)
  have v4 : rq 4 = r 4 := hr 4 (by decide)
  have g0 : zq_ev rq (0, [(3, 1)]) = r 3 := zu_f1 v3
  have g1 : zq_ev rq (10, []) = 10 := zu_e0 _ _
  have g2 : zq_ev rq (0, [(4, 1)]) = r 4 := zu_f1 v4
  exact ⟨_, List.mem_cons_self .., rq, hr, zq_MeS_mk rfl hT (zq_all_nil) zq_fan (zq_fan) rfl (zu_fac ((x_DG _ _ _).mpr (by show zn_DG (zq_ev rq (0, [(3, 1)])) (zq_ev rq (10, [])) (zq_ev rq (0, [(4, 1)])) P h; simp only [g0, g1, g2]; exact t1)) zq_fan)⟩
noncomputable def zm_h1 : zq_S × List zq_S := (([], [], [(0, [(4, 1)]), (10, [(4, -1)])], [], [], [], [(281, [(0, [(0, 1)]), (0, [(1, 1)]), (0, [(2, 1)]), (0, [(3, 1)])])], 5), [([], [], [], [], [], [], [(285, [(0, [(0, 1)]), (0, [(1, 1)]), (0, [(2, 1)]), (0, [(3, 1)]), (0, [(4, 1)])])], 5)])
theorem zm_h1_l {P : zq_Ty} {h : zq_H} {bl ck tm M p : Int} (a1 : 0 ≤ p) (a2 : 0 ≤ -p + 10) (k1 : zm_MC 50 bl ck tm M P h) : (zm_MH 50 bl ck tm M p P h) := by
  obtain ⟨w1, w2, w3, w4⟩ := k1
  exact ⟨w1, w2, w3, zm_ho_0 w4 (by omega) (by omega)⟩
theorem zm_h1_ok {w : zq_Wd} (x_MC1 : zj_is w 281 (fun q => zm_MC 50 (q 0) (q 1) (q 2) (q 3))) (x_MH1 : zj_is w 285 (fun q => zm_MH 50 (q 0) (q 1) (q 2) (q 3) (q 4))) : zq_okG1 w zm_h1 := by
  refine ⟨rfl, rfl, zu_fac ⟨rfl, by decide⟩ zq_fan, ?_⟩
  intro r P h H hM
  have q0 : zq_ev r (0, [(4, 1)]) = r 4 := zu_e1 _ _
  have q1 : zq_ev r (10, [(4, -1)]) = -r 4 + 10 := zu_e5 _ _ _
  have q2 : zq_ev r (0, [(0, 1)]) = r 0 := zu_e1 _ _
  have q3 : zq_ev r (0, [(1, 1)]) = r 1 := zu_e1 _ _
  have q4 : zq_ev r (0, [(2, 1)]) = r 2 := zu_e1 _ _
  have q5 : zq_ev r (0, [(3, 1)]) = r 3 := zu_e1 _ _
  obtain ⟨hT, hC, hF, hS, -, hK⟩ := hM
  have c := hC.1
  have a1 := zq_all_1 c
  rw [q0] at a1
  have c := zq_all_t c
  have a2 := zq_all_1 c
  rw [q1] at a2
  have k1 := zj_use x_MC1 (hK)
  have k1 : zm_MC 50 (zq_ev r (0, [(0, 1)])) (zq_ev r (0, [(1, 1)])) (zq_ev r (0, [(2, 1)])) (zq_ev r (0, [(3, 1)])) P h := k1
  simp only [q2, q3, q4, q5] at k1
  obtain t1 := zm_h1_l (P := P) (h := h) (bl := r 0) (ck := r 1) (tm := r 2) (M := r 3) (p := r 4) a1 a2 k1
  obtain ⟨rq, hr⟩ : ∃ rq : Nat → Int, (∀ i, i < 5 → rq i = r i) := ⟨r, fun i hi => rfl⟩
  have v0 : rq 0 = r 0 := hr 0 (by decide)
  have v1 : rq 1 = r 1 := hr 1 (by decide)
  have v2 : rq 2 = r 2 := hr 2 (by decide)
  have v3 : rq 3 = r 3 := hr 3 (by decide)
  have v4 : rq 4 = r 4 := hr 4 (by decide)
  have g0 : zq_ev rq (0, [(0, 1)]) = r 0 := zu_f1 v0
  have g1 : zq_ev rq (0, [(1, 1)]) = r 1 := zu_f1 v1
  have g2 : zq_ev rq (0, [(2, 1)]) = r 2 := zu_f1 v2
  have g3 : zq_ev rq (0, [(3, 1)]) = r 3 := zu_f1 v3
  have g4 : zq_ev rq (0, [(4, 1)]) = r 4 := zu_f1 v4
  exact ⟨_, List.mem_cons_self .., rq, hr, zq_MeS_mk rfl hT (zq_all_nil) zq_fan (zq_fan) rfl (zu_fac ((x_MH1 _ _ _).mpr (by show zm_MH 50 (zq_ev rq (0, [(0, 1)])) (zq_ev rq (0, [(1, 1)])) (zq_ev rq (0, [(2, 1)])) (zq_ev rq (0, [(3, 1)])) (zq_ev rq (0, [(4, 1)])) P h; simp only [g0, g1, g2, g3, g4]; exact t1)) zq_fan)⟩
noncomputable def zm_b1 : zq_S × List zq_S := (([], [], [(0, [(4, 1)]), (5, [(4, -1)]), (2147483648, [(5, 1)]), (2147483647, [(5, -1)])], [], [((0, [(0, 1)]), (0, [(4, 1)]), (0, [(5, 1)]))], [], [(285, [(0, [(0, 1)]), (0, [(1, 1)]), (0, [(2, 1)]), (0, [(3, 1)]), (0, [(4, 1)])])], 6), [([], [], [], [], [], [], [(281, [(0, [(0, 1)]), (0, [(1, 1)]), (0, [(2, 1)]), (0, [(6, 1)])]), (290, [(0, [(3, 1)]), (0, [(4, 1)]), (0, [(5, 1)]), (0, [(6, 1)])])], 7)])
theorem zm_b1_l {P : zq_Ty} {h : zq_H} {bl ck tm M p v : Int} (a1 : 0 ≤ p) (a2 : 0 ≤ -p + 5) (a3 : 0 ≤ v + 2147483648) (a4 : 0 ≤ -v + 2147483647) (s1 : 0 ≤ bl ∧ P (bl).toNat ≠ none ∧ h (bl).toNat p = v) (k1 : zm_MH 50 bl ck tm M p P h) : (∃ N : Int, zm_MC 50 bl ck tm N P h ∧ zm_UM M p v N P h) := by
  obtain ⟨w1, w2, w3, w4⟩ := k1
  exact ⟨zm_st M p v, ⟨w1, w2, w3, zm_ho_st w4 (by unfold zn_in; omega) (by unfold zm_f; rw [if_pos (by omega)]; exact s1.2.2)⟩, rfl⟩
theorem zm_b1_ok {w : zq_Wd} (x_MH1 : zj_is w 285 (fun q => zm_MH 50 (q 0) (q 1) (q 2) (q 3) (q 4))) (x_MC1 : zj_is w 281 (fun q => zm_MC 50 (q 0) (q 1) (q 2) (q 3))) (x_UM : zj_is w 290 (fun q => zm_UM (q 0) (q 1) (q 2) (q 3))) : zq_okG1 w zm_b1 := by
  refine ⟨rfl, rfl, zu_fac ⟨rfl, by decide⟩ zq_fan, ?_⟩
  intro r P h H hM
  have q0 : zq_ev r (0, [(4, 1)]) = r 4 := zu_e1 _ _
  have q1 : zq_ev r (5, [(4, -1)]) = -r 4 + 5 := zu_e5 _ _ _
  have q2 : zq_ev r (2147483648, [(5, 1)]) = r 5 + 2147483648 := zu_e2 _ _ _
  have q3 : zq_ev r (2147483647, [(5, -1)]) = -r 5 + 2147483647 := zu_e5 _ _ _
  have q4 : zq_ev r (0, [(0, 1)]) = r 0 := zu_e1 _ _
  have q5 : zq_ev r (0, [(5, 1)]) = r 5 := zu_e1 _ _
  have q6 : zq_ev r (0, [(1, 1)]) = r 1 := zu_e1 _ _
  have q7 : zq_ev r (0, [(2, 1)]) = r 2 := zu_e1 _ _
  have q8 : zq_ev r (0, [(3, 1)]) = r 3 := zu_e1 _ _
  obtain ⟨hT, hC, hF, hS, -, hK⟩ := hM
  have c := hC.1
  have a1 := zq_all_1 c
  rw [q0] at a1
  have c := zq_all_t c
  have a2 := zq_all_1 c
  rw [q1] at a2
  have c := zq_all_t c
  have a3 := zq_all_1 c
  rw [q2] at a3
  have c := zq_all_t c
  have a4 := zq_all_1 c
  rw [q3] at a4
  have s1 := zq_okS_1 (hS)
  simp only [q0, q4, q5] at s1
  have k1 := zj_use x_MH1 (hK)
  have k1 : zm_MH 50 (zq_ev r (0, [(0, 1)])) (zq_ev r (0, [(1, 1)])) (zq_ev r (0, [(2, 1)])) (zq_ev r (0, [(3, 1)])) (zq_ev r (0, [(4, 1)])) P h := k1
  simp only [q0, q4, q6, q7, q8] at k1
  obtain ⟨y_0, t1, t2⟩ := zm_b1_l (P := P) (h := h) (bl := r 0) (ck := r 1) (tm := r 2) (M := r 3) (p := r 4) (v := r 5) a1 a2 a3 a4 s1 k1
  obtain ⟨rq, hr, w6⟩ : ∃ rq : Nat → Int, (∀ i, i < 6 → rq i = r i) ∧ rq 6 = y_0 := ⟨zq_up r 6 y_0, fun i hi => by rw [zu_up_ne (by omega)], rfl⟩
  have v0 : rq 0 = r 0 := hr 0 (by decide)
  have v1 : rq 1 = r 1 := hr 1 (by decide)
  have v2 : rq 2 = r 2 := hr 2 (by decide)
  have v3 : rq 3 = r 3 := hr 3 (by decide)
  have v4 : rq 4 = r 4 := hr 4 (by decide)
  have v5 : rq 5 = r 5 := hr 5 (by decide)
  have g0 : zq_ev rq (0, [(3, 1)]) = r 3 := zu_f1 v3
  have g1 : zq_ev rq (0, [(4, 1)]) = r 4 := zu_f1 v4
  have g2 : zq_ev rq (0, [(5, 1)]) = r 5 := zu_f1 v5
  have g3 : zq_ev rq (0, [(6, 1)]) = y_0 := zu_f1 w6
  have g4 : zq_ev rq (0, [(0, 1)]) = r 0 := zu_f1 v0
  have g5 : zq_ev rq (0, [(1, 1)]) = r 1 := zu_f1 v1
  have g6 : zq_ev rq (0, [(2, 1)]) = r 2 := zu_f1 v2
  exact ⟨_, List.mem_cons_self .., rq, hr, zq_MeS_mk rfl hT (zq_all_nil) zq_fan (zq_fan) rfl (zu_fac ((x_MC1 _ _ _).mpr (by show zm_MC 50 (zq_ev rq (0, [(0, 1)])) (zq_ev rq (0, [(1, 1)])) (zq_ev rq (0, [(2, 1)])) (zq_ev rq (0, [(6, 1)])) P h; simp only [g3, g4, g5, g6]; exact t1)) (zu_fac ((x_UM _ _ _).mpr (by show zm_UM (zq_ev rq (0, [(3, 1)])) (zq_ev rq (0, [(4, 1)])) (zq_ev rq (0, [(5, 1)])) (zq_ev rq (0, [(6, 1)])) P h; simp only [g0, g1, g2, g3]; exact t2)) zq_fan))⟩
noncomputable def zm_c1 : zq_S × List zq_S := (([], [], [(0, [(4, 1)]), (3, [(4, -1)]), (2147483648, [(5, 1)]), (2147483647, [(5, -1)])], [], [((0, [(1, 1)]), (0, [(4, 1)]), (0, [(5, 1)]))], [], [(285, [(0, [(0, 1)]), (0, [(1, 1)]), (0, [(2, 1)]), (0, [(3, 1)]), (6, [(4, 1)])])], 6), [([], [], [], [], [], [], [(281, [(0, [(0, 1)]), (0, [(1, 1)]), (0, [(2, 1)]), (0, [(6, 1)])]), (290, [(0, [(3, 1)]), (6, [(4, 1)]), (0, [(5, 1)]), (0, [(6, 1)])])], 7)])
theorem zm_c1_l {P : zq_Ty} {h : zq_H} {bl ck tm M q v : Int} (a1 : 0 ≤ q) (a2 : 0 ≤ -q + 3) (a3 : 0 ≤ v + 2147483648) (a4 : 0 ≤ -v + 2147483647) (s1 : 0 ≤ ck ∧ P (ck).toNat ≠ none ∧ h (ck).toNat q = v) (k1 : zm_MH 50 bl ck tm M (q + 6) P h) : (∃ N : Int, zm_MC 50 bl ck tm N P h ∧ zm_UM M (q + 6) v N P h) := by
  obtain ⟨w1, w2, w3, w4⟩ := k1
  exact ⟨zm_st M (q + 6) v, ⟨w1, w2, w3, zm_ho_st w4 (by unfold zn_in; omega) (by unfold zm_f; rw [if_neg (by omega), if_pos (by omega), show q + 6 - 6 = q by omega]; exact s1.2.2)⟩, rfl⟩
theorem zm_c1_ok {w : zq_Wd} (x_MH1 : zj_is w 285 (fun q => zm_MH 50 (q 0) (q 1) (q 2) (q 3) (q 4))) (x_MC1 : zj_is w 281 (fun q => zm_MC 50 (q 0) (q 1) (q 2) (q 3))) (x_UM : zj_is w 290 (fun q => zm_UM (q 0) (q 1) (q 2) (q 3))) : zq_okG1 w zm_c1 := by
  refine ⟨rfl, rfl, zu_fac ⟨rfl, by decide⟩ zq_fan, ?_⟩
  intro r P h H hM
  have q0 : zq_ev r (0, [(4, 1)]) = r 4 := zu_e1 _ _
  have q1 : zq_ev r (3, [(4, -1)]) = -r 4 + 3 := zu_e5 _ _ _
  have q2 : zq_ev r (2147483648, [(5, 1)]) = r 5 + 2147483648 := zu_e2 _ _ _
  have q3 : zq_ev r (2147483647, [(5, -1)]) = -r 5 + 2147483647 := zu_e5 _ _ _
  have q4 : zq_ev r (0, [(1, 1)]) = r 1 := zu_e1 _ _
  have q5 : zq_ev r (0, [(5, 1)]) = r 5 := zu_e1 _ _
  have q6 : zq_ev r (0, [(0, 1)]) = r 0 := zu_e1 _ _
  have q7 : zq_ev r (0, [(2, 1)]) = r 2 := zu_e1 _ _
  have q8 : zq_ev r (0, [(3, 1)]) = r 3 := zu_e1 _ _
  have q9 : zq_ev r (6, [(4, 1)]) = r 4 + 6 := zu_e2 _ _ _
  obtain ⟨hT, hC, hF, hS, -, hK⟩ := hM
  have c := hC.1
  have a1 := zq_all_1 c
  rw [q0] at a1
  have c := zq_all_t c
  have a2 := zq_all_1 c
  rw [q1] at a2
  have c := zq_all_t c
  have a3 := zq_all_1 c
  rw [q2] at a3
  have c := zq_all_t c
  have a4 := zq_all_1 c
  rw [q3] at a4
  have s1 := zq_okS_1 (hS)
  simp only [q0, q4, q5] at s1
  have k1 := zj_use x_MH1 (hK)
  have k1 : zm_MH 50 (zq_ev r (0, [(0, 1)])) (zq_ev r (0, [(1, 1)])) (zq_ev r (0, [(2, 1)])) (zq_ev r (0, [(3, 1)])) (zq_ev r (6, [(4, 1)])) P h := k1
  simp only [q4, q6, q7, q8, q9] at k1
  obtain ⟨y_0, t1, t2⟩ := zm_c1_l (P := P) (h := h) (bl := r 0) (ck := r 1) (tm := r 2) (M := r 3) (q := r 4) (v := r 5) a1 a2 a3 a4 s1 k1
  obtain ⟨rq, hr, w6⟩ : ∃ rq : Nat → Int, (∀ i, i < 6 → rq i = r i) ∧ rq 6 = y_0 := ⟨zq_up r 6 y_0, fun i hi => by rw [zu_up_ne (by omega)], rfl⟩
  have v0 : rq 0 = r 0 := hr 0 (by decide)
  have v1 : rq 1 = r 1 := hr 1 (by decide)
  have v2 : rq 2 = r 2 := hr 2 (by decide)
  have v3 : rq 3 = r 3 := hr 3 (by decide)
  have v4 : rq 4 = r 4 := hr 4 (by decide)
  have v5 : rq 5 = r 5 := hr 5 (by decide)
  have g0 : zq_ev rq (0, [(3, 1)]) = r 3 := zu_f1 v3
  have g1 : zq_ev rq (6, [(4, 1)]) = r 4 + 6 := zu_f2 v4 _
  have g2 : zq_ev rq (0, [(5, 1)]) = r 5 := zu_f1 v5
  have g3 : zq_ev rq (0, [(6, 1)]) = y_0 := zu_f1 w6
  have g4 : zq_ev rq (0, [(0, 1)]) = r 0 := zu_f1 v0
  have g5 : zq_ev rq (0, [(1, 1)]) = r 1 := zu_f1 v1
  have g6 : zq_ev rq (0, [(2, 1)]) = r 2 := zu_f1 v2
  exact ⟨_, List.mem_cons_self .., rq, hr, zq_MeS_mk rfl hT (zq_all_nil) zq_fan (zq_fan) rfl (zu_fac ((x_MC1 _ _ _).mpr (by show zm_MC 50 (zq_ev rq (0, [(0, 1)])) (zq_ev rq (0, [(1, 1)])) (zq_ev rq (0, [(2, 1)])) (zq_ev rq (0, [(6, 1)])) P h; simp only [g3, g4, g5, g6]; exact t1)) (zu_fac ((x_UM _ _ _).mpr (by show zm_UM (zq_ev rq (0, [(3, 1)])) (zq_ev rq (6, [(4, 1)])) (zq_ev rq (0, [(5, 1)])) (zq_ev rq (0, [(6, 1)])) P h; simp only [g0, g1, g2, g3]; exact t2)) zq_fan))⟩
noncomputable def zm_t1 : zq_S × List zq_S := (([], [], [(2147483648, [(4, 1)]), (2147483647, [(4, -1)])], [], [((0, [(2, 1)]), (0, []), (0, [(4, 1)]))], [], [(285, [(0, [(0, 1)]), (0, [(1, 1)]), (0, [(2, 1)]), (0, [(3, 1)]), (10, [])])], 5), [([], [], [], [], [], [], [(281, [(0, [(0, 1)]), (0, [(1, 1)]), (0, [(2, 1)]), (0, [(5, 1)])]), (290, [(0, [(3, 1)]), (10, []), (0, [(4, 1)]), (0, [(5, 1)])])], 6)])
theorem zm_t1_l {P : zq_Ty} {h : zq_H} {bl ck tm M v : Int} (a1 : 0 ≤ v + 2147483648) (a2 : 0 ≤ -v + 2147483647) (s1 : 0 ≤ tm ∧ P (tm).toNat ≠ none ∧ h (tm).toNat 0 = v) (k1 : zm_MH 50 bl ck tm M 10 P h) : (∃ N : Int, zm_MC 50 bl ck tm N P h ∧ zm_UM M 10 v N P h) := by
  obtain ⟨w1, w2, w3, w4⟩ := k1
  exact ⟨zm_st M 10 v, ⟨w1, w2, w3, zm_ho_st w4 (by unfold zn_in; omega) (by unfold zm_f; rw [if_neg (by omega), if_neg (by omega)]; exact s1.2.2)⟩, rfl⟩
theorem zm_t1_ok {w : zq_Wd} (x_MH1 : zj_is w 285 (fun q => zm_MH 50 (q 0) (q 1) (q 2) (q 3) (q 4))) (x_MC1 : zj_is w 281 (fun q => zm_MC 50 (q 0) (q 1) (q 2) (q 3))) (x_UM : zj_is w 290 (fun q => zm_UM (q 0) (q 1) (q 2) (q 3))) : zq_okG1 w zm_t1 := by
  refine ⟨rfl, rfl, zu_fac ⟨rfl, by decide⟩ zq_fan, ?_⟩
  intro r P h H hM
  have q0 : zq_ev r (2147483648, [(4, 1)]) = r 4 + 2147483648 := zu_e2 _ _ _
  have q1 : zq_ev r (2147483647, [(4, -1)]) = -r 4 + 2147483647 := zu_e5 _ _ _
  have q2 : zq_ev r (0, [(2, 1)]) = r 2 := zu_e1 _ _
  have q3 : zq_ev r (0, []) = 0 := zu_e0 _ _
  have q4 : zq_ev r (0, [(4, 1)]) = r 4 := zu_e1 _ _
  have q5 : zq_ev r (0, [(0, 1)]) = r 0 := zu_e1 _ _
  have q6 : zq_ev r (0, [(1, 1)]) = r 1 := zu_e1 _ _
  have q7 : zq_ev r (0, [(3, 1)]) = r 3 := zu_e1 _ _
  have q8 : zq_ev r (10, []) = 10 := zu_e0 _ _
  obtain ⟨hT, hC, hF, hS, -, hK⟩ := hM
  have c := hC.1
  have a1 := zq_all_1 c
  rw [q0] at a1
  have c := zq_all_t c
  have a2 := zq_all_1 c
  rw [q1] at a2
  have s1 := zq_okS_1 (hS)
  simp only [q2, q3, q4] at s1
  have k1 := zj_use x_MH1 (hK)
  have k1 : zm_MH 50 (zq_ev r (0, [(0, 1)])) (zq_ev r (0, [(1, 1)])) (zq_ev r (0, [(2, 1)])) (zq_ev r (0, [(3, 1)])) (zq_ev r (10, [])) P h := k1
  simp only [q2, q5, q6, q7, q8] at k1
  obtain ⟨y_0, t1, t2⟩ := zm_t1_l (P := P) (h := h) (bl := r 0) (ck := r 1) (tm := r 2) (M := r 3) (v := r 4) a1 a2 s1 k1
  obtain ⟨rq, hr, w5⟩ : ∃ rq : Nat → Int, (∀ i, i < 5 → rq i = r i) ∧ rq 5 = y_0 := ⟨zq_up r 5 y_0, fun i hi => by rw [zu_up_ne (by omega)], rfl⟩
  have v0 : rq 0 = r 0 := hr 0 (by decide)
  have v1 : rq 1 = r 1 := hr 1 (by decide)
  have v2 : rq 2 = r 2 := hr 2 (by decide)
  have v3 : rq 3 = r 3 := hr 3 (by decide)
  have v4 : rq 4 = r 4 := hr 4 (by decide)
  have g0 : zq_ev rq (0, [(3, 1)]) = r 3 := zu_f1 v3
  have g1 : zq_ev rq (10, []) = 10 := zu_e0 _ _
  have g2 : zq_ev rq (0, [(4, 1)]) = r 4 := zu_f1 v4
  have g3 : zq_ev rq (0, [(5, 1)]) = y_0 := zu_f1 w5
  have g4 : zq_ev rq (0, [(0, 1)]) = r 0 := zu_f1 v0
  have g5 : zq_ev rq (0, [(1, 1)]) = r 1 := zu_f1 v1
  have g6 : zq_ev rq (0, [(2, 1)]) = r 2 := zu_f1 v2
  exact ⟨_, List.mem_cons_self .., rq, hr, zq_MeS_mk rfl hT (zq_all_nil) zq_fan (zq_fan) rfl (zu_fac ((x_MC1 _ _ _).mpr (by show zm_MC 50 (zq_ev rq (0, [(0, 1)])) (zq_ev rq (0, [(1, 1)])) (zq_ev rq (0, [(2, 1)])) (zq_ev rq (0, [(5, 1)])) P h; simp only [g3, g4, g5, g6]; exact t1)) (zu_fac ((x_UM _ _ _).mpr (by show zm_UM (zq_ev rq (0, [(3, 1)])) (zq_ev rq (10, [])) (zq_ev rq (0, [(4, 1)])) (zq_ev rq (0, [(5, 1)])) P h; simp only [g0, g1, g2, g3]; exact t2)) zq_fan))⟩
noncomputable def zm_rb1 : zq_S × List zq_S := (([], [], [(0, [(4, 1)]), (5, [(4, -1)])], [], [((0, [(0, 1)]), (0, [(4, 1)]), (0, [(5, 1)]))], [], [(281, [(0, [(0, 1)]), (0, [(1, 1)]), (0, [(2, 1)]), (0, [(3, 1)])])], 6), [([], [], [], [], [], [], [(134, [(0, [(3, 1)]), (0, [(4, 1)]), (0, [(5, 1)])])], 6)])
theorem zm_rb1_l {P : zq_Ty} {h : zq_H} {bl ck tm M i v : Int} (a1 : 0 ≤ i) (a2 : 0 ≤ -i + 5) (s1 : 0 ≤ bl ∧ P (bl).toNat ≠ none ∧ h (bl).toNat i = v) (k1 : zm_MC 50 bl ck tm M P h) : (zn_DG M i v P h) := by
  obtain ⟨w1, w2, w3, w4⟩ := k1
  have e := zm_is_dg (j := i) w4 (by omega) (by omega)
  unfold zm_f at e
  rw [if_pos (by omega), s1.2.2] at e
  exact e
theorem zm_rb1_ok {w : zq_Wd} (x_MC1 : zj_is w 281 (fun q => zm_MC 50 (q 0) (q 1) (q 2) (q 3))) (x_DG : zj_is w 134 (fun q => zn_DG (q 0) (q 1) (q 2))) : zq_okG1 w zm_rb1 := by
  refine ⟨rfl, rfl, zu_fac ⟨rfl, by decide⟩ zq_fan, ?_⟩
  intro r P h H hM
  have q0 : zq_ev r (0, [(4, 1)]) = r 4 := zu_e1 _ _
  have q1 : zq_ev r (5, [(4, -1)]) = -r 4 + 5 := zu_e5 _ _ _
  have q2 : zq_ev r (0, [(0, 1)]) = r 0 := zu_e1 _ _
  have q3 : zq_ev r (0, [(5, 1)]) = r 5 := zu_e1 _ _
  have q4 : zq_ev r (0, [(1, 1)]) = r 1 := zu_e1 _ _
  have q5 : zq_ev r (0, [(2, 1)]) = r 2 := zu_e1 _ _
  have q6 : zq_ev r (0, [(3, 1)]) = r 3 := zu_e1 _ _
  obtain ⟨hT, hC, hF, hS, -, hK⟩ := hM
  have c := hC.1
  have a1 := zq_all_1 c
  rw [q0] at a1
  have c := zq_all_t c
  have a2 := zq_all_1 c
  rw [q1] at a2
  have s1 := zq_okS_1 (hS)
  simp only [q0, q2, q3] at s1
  have k1 := zj_use x_MC1 (hK)
  have k1 : zm_MC 50 (zq_ev r (0, [(0, 1)])) (zq_ev r (0, [(1, 1)])) (zq_ev r (0, [(2, 1)])) (zq_ev r (0, [(3, 1)])) P h := k1
  simp only [q2, q4, q5, q6] at k1
  obtain t1 := zm_rb1_l (P := P) (h := h) (bl := r 0) (ck := r 1) (tm := r 2) (M := r 3) (i := r 4) (v := r 5) a1 a2 s1 k1
  obtain ⟨rq, hr⟩ : ∃ rq : Nat → Int, (∀ i, i < 6 → rq i = r i) := ⟨r, fun i hi => rfl⟩
  have v3 : rq 3 = r 3 := hr 3 (by decide)
  have v4 : rq 4 = r 4 := hr 4 (by decide)
  have v5 : rq 5 = r 5 := hr 5 (by decide)
  have g0 : zq_ev rq (0, [(3, 1)]) = r 3 := zu_f1 v3
  have g1 : zq_ev rq (0, [(4, 1)]) = r 4 := zu_f1 v4
  have g2 : zq_ev rq (0, [(5, 1)]) = r 5 := zu_f1 v5
  exact ⟨_, List.mem_cons_self .., rq, hr, zq_MeS_mk rfl hT (zq_all_nil) zq_fan (zq_fan) rfl (zu_fac ((x_DG _ _ _).mpr (by show zn_DG (zq_ev rq (0, [(3, 1)])) (zq_ev rq (0, [(4, 1)])) (zq_ev rq (0, [(5, 1)])) P h; simp only [g0, g1, g2]; exact t1)) zq_fan)⟩
noncomputable def zm_rc1 : zq_S × List zq_S := (([], [], [(0, [(4, 1)]), (3, [(4, -1)])], [], [((0, [(1, 1)]), (0, [(4, 1)]), (0, [(5, 1)]))], [], [(281, [(0, [(0, 1)]), (0, [(1, 1)]), (0, [(2, 1)]), (0, [(3, 1)])])], 6), [([], [], [], [], [], [], [(134, [(0, [(3, 1)]), (6, [(4, 1)]), (0, [(5, 1)])])], 6)])
theorem zm_rc1_l {P : zq_Ty} {h : zq_H} {bl ck tm M i v : Int} (a1 : 0 ≤ i) (a2 : 0 ≤ -i + 3) (s1 : 0 ≤ ck ∧ P (ck).toNat ≠ none ∧ h (ck).toNat i = v) (k1 : zm_MC 50 bl ck tm M P h) : (zn_DG M (i + 6) v P h) := by
  obtain ⟨w1, w2, w3, w4⟩ := k1
  have e := zm_is_dg (j := i + 6) w4 (by omega) (by omega)
  unfold zm_f at e
  rw [if_neg (by omega), if_pos (by omega), show i + 6 - 6 = i by omega, s1.2.2] at e
  exact e
theorem zm_rc1_ok {w : zq_Wd} (x_MC1 : zj_is w 281 (fun q => zm_MC 50 (q 0) (q 1) (q 2) (q 3))) (x_DG : zj_is w 134 (fun q => zn_DG (q 0) (q 1) (q 2))) : zq_okG1 w zm_rc1 := by
  refine ⟨rfl, rfl, zu_fac ⟨rfl, by decide⟩ zq_fan, ?_⟩
  intro r P h H hM
  have q0 : zq_ev r (0, [(4, 1)]) = r 4 := zu_e1 _ _
  have q1 : zq_ev r (3, [(4, -1)]) = -r 4 + 3 := zu_e5 _ _ _
  have q2 : zq_ev r (0, [(1, 1)]) = r 1 := zu_e1 _ _
  have q3 : zq_ev r (0, [(5, 1)]) = r 5 := zu_e1 _ _
  have q4 : zq_ev r (0, [(0, 1)]) = r 0 := zu_e1 _ _
  have q5 : zq_ev r (0, [(2, 1)]) = r 2 := zu_e1 _ _
  have q6 : zq_ev r (0, [(3, 1)]) = r 3 := zu_e1 _ _
  obtain ⟨hT, hC, hF, hS, -, hK⟩ := hM
  have c := hC.1
  have a1 := zq_all_1 c
  rw [q0] at a1
  have c := zq_all_t c
  have a2 := zq_all_1 c
  rw [q1] at a2
  have s1 := zq_okS_1 (hS)
  simp only [q0, q2, q3] at s1
  have k1 := zj_use x_MC1 (hK)
  have k1 : zm_MC 50 (zq_ev r (0, [(0, 1)])) (zq_ev r (0, [(1, 1)])) (zq_ev r (0, [(2, 1)])) (zq_ev r (0, [(3, 1)])) P h := k1
  simp only [q2, q4, q5, q6] at k1
  obtain t1 := zm_rc1_l (P := P) (h := h) (bl := r 0) (ck := r 1) (tm := r 2) (M := r 3) (i := r 4) (v := r 5) a1 a2 s1 k1
  obtain ⟨rq, hr⟩ : ∃ rq : Nat → Int, (∀ i, i < 6 → rq i = r i) := ⟨r, fun i hi => rfl⟩
  have v3 : rq 3 = r 3 := hr 3 (by decide)
  have v4 : rq 4 = r 4 := hr 4 (by decide)
  have v5 : rq 5 = r 5 := hr 5 (by decide)
  have g0 : zq_ev rq (0, [(3, 1)]) = r 3 := zu_f1 v3
  have g1 : zq_ev rq (6, [(4, 1)]) = r 4 + 6 := zu_f2 v4 _
  have g2 : zq_ev rq (0, [(5, 1)]) = r 5 := zu_f1 v5
  exact ⟨_, List.mem_cons_self .., rq, hr, zq_MeS_mk rfl hT (zq_all_nil) zq_fan (zq_fan) rfl (zu_fac ((x_DG _ _ _).mpr (by show zn_DG (zq_ev rq (0, [(3, 1)])) (zq_ev rq (6, [(4, 1)])) (zq_ev rq (0, [(5, 1)])) P h; simp only [g0, g1, g2]; exact t1)) zq_fan)⟩
noncomputable def zm_rt1 : zq_S × List zq_S := (([], [], [], [], [((0, [(2, 1)]), (0, []), (0, [(4, 1)]))], [], [(281, [(0, [(0, 1)]), (0, [(1, 1)]), (0, [(2, 1)]), (0, [(3, 1)])])], 5), [([], [], [], [], [], [], [(134, [(0, [(3, 1)]), (10, []), (0, [(4, 1)])])], 5)])
theorem zm_rt1_l {P : zq_Ty} {h : zq_H} {bl ck tm M v : Int} (s1 : 0 ≤ tm ∧ P (tm).toNat ≠ none ∧ h (tm).toNat 0 = v) (k1 : zm_MC 50 bl ck tm M P h) : (zn_DG M 10 v P h) := by
  obtain ⟨w1, w2, w3, w4⟩ := k1
  have e := zm_is_dg (j := 10) w4 (by omega) (by omega)
  unfold zm_f at e
  rw [if_neg (by omega), if_neg (by omega), s1.2.2] at e
  exact e
theorem zm_rt1_ok {w : zq_Wd} (x_MC1 : zj_is w 281 (fun q => zm_MC 50 (q 0) (q 1) (q 2) (q 3))) (x_DG : zj_is w 134 (fun q => zn_DG (q 0) (q 1) (q 2))) : zq_okG1 w zm_rt1 := by
  refine ⟨rfl, rfl, zu_fac ⟨rfl, by decide⟩ zq_fan, ?_⟩
  intro r P h H hM
  have q0 : zq_ev r (0, [(2, 1)]) = r 2 := zu_e1 _ _
  have q1 : zq_ev r (0, []) = 0 := zu_e0 _ _
  have q2 : zq_ev r (0, [(4, 1)]) = r 4 := zu_e1 _ _
  have q3 : zq_ev r (0, [(0, 1)]) = r 0 := zu_e1 _ _
  have q4 : zq_ev r (0, [(1, 1)]) = r 1 := zu_e1 _ _
  have q5 : zq_ev r (0, [(3, 1)]) = r 3 := zu_e1 _ _
  obtain ⟨hT, hC, hF, hS, -, hK⟩ := hM
  have c := hC.1
  have s1 := zq_okS_1 (hS)
  simp only [q0, q1, q2] at s1
  have k1 := zj_use x_MC1 (hK)
  have k1 : zm_MC 50 (zq_ev r (0, [(0, 1)])) (zq_ev r (0, [(1, 1)])) (zq_ev r (0, [(2, 1)])) (zq_ev r (0, [(3, 1)])) P h := k1
  simp only [q0, q3, q4, q5] at k1
  obtain t1 := zm_rt1_l (P := P) (h := h) (bl := r 0) (ck := r 1) (tm := r 2) (M := r 3) (v := r 4) s1 k1
  obtain ⟨rq, hr⟩ : ∃ rq : Nat → Int, (∀ i, i < 5 → rq i = r i) := ⟨r, fun i hi => rfl⟩
  have v3 : rq 3 = r 3 := hr 3 (by decide)
  have v4 : rq 4 = r 4 := hr 4 (by decide)
  have g0 : zq_ev rq (0, [(3, 1)]) = r 3 := zu_f1 v3
  have g1 : zq_ev rq (10, []) = 10 := zu_e0 _ _
  have g2 : zq_ev rq (0, [(4, 1)]) = r 4 := zu_f1 v4
  exact ⟨_, List.mem_cons_self .., rq, hr, zq_MeS_mk rfl hT (zq_all_nil) zq_fan (zq_fan) rfl (zu_fac ((x_DG _ _ _).mpr (by show zn_DG (zq_ev rq (0, [(3, 1)])) (zq_ev rq (10, [])) (zq_ev rq (0, [(4, 1)])) P h; simp only [g0, g1, g2]; exact t1)) zq_fan)⟩
noncomputable def zm_mv : zq_S × List zq_S := (([], [], [(0, [(1, 1)]), (5, [(1, -1)]), (0, [(4, 1)]), (5, [(4, -1)]), (0, [(2, 1), (7, -1), (9, -1)]), (0, [(2, -1), (7, 1), (9, 1)]), (0, [(5, 1), (8, -1), (9, 1)]), (0, [(5, -1), (8, 1), (9, -1)]), (2147483648, [(2, 1)]), (2147483647, [(2, -1)]), (2147483648, [(5, 1)]), (2147483647, [(5, -1)])], [], [], [], [(290, [(0, [(0, 1)]), (0, [(1, 1)]), (0, [(2, 1)]), (0, [(3, 1)])]), (290, [(0, [(3, 1)]), (0, [(4, 1)]), (0, [(5, 1)]), (0, [(6, 1)])]), (134, [(0, [(0, 1)]), (0, [(1, 1)]), (0, [(7, 1)])]), (134, [(0, [(3, 1)]), (0, [(4, 1)]), (0, [(8, 1)])])], 10), [([], [], [], [], [], [], [(312, [(0, [(0, 1)]), (0, [(1, 1)]), (0, [(4, 1)]), (0, [(9, 1)]), (0, [(6, 1)])])], 10)])
theorem zm_mv_l {P : zq_Ty} {h : zq_H} {M a x L b y N u w v : Int} (a1 : 0 ≤ a) (a2 : 0 ≤ -a + 5) (a3 : 0 ≤ b) (a4 : 0 ≤ -b + 5) (a5 : 0 ≤ x - u - v) (a6 : 0 ≤ -x + u + v) (a7 : 0 ≤ y - w + v) (a8 : 0 ≤ -y + w - v) (a9 : 0 ≤ x + 2147483648) (a10 : 0 ≤ -x + 2147483647) (a11 : 0 ≤ y + 2147483648) (a12 : 0 ≤ -y + 2147483647) (k1 : zm_UM M a x L P h) (k2 : zm_UM L b y N P h) (k3 : zn_DG M a u P h) (k4 : zn_DG L b w P h) : (zk_MV M a b v N P h) := by
  have k1 : L = zm_st M a x := k1
  have k2 : N = zm_st L b y := k2
  have k3 : u = zn_dg M a := k3
  have k4 : w = zn_dg L b := k4
  have hx : zn_in x := by unfold zn_in; omega
  have d : ∀ j : Int, 0 ≤ j → j < 11 → zn_dg L j = if j = a then x else zn_dg M j := fun j p q => by rw [k1]; exact zm_st_dg hx p q
  show N = zk_mv M a b v
  rw [k2]
  unfold zm_st zk_mv
  refine zm_pk_cg 11 (fun j p q => ?_)
  show (if j = b then y else zn_dg L j) = zn_dg M j + (if j = a then v else 0) - (if j = b then v else 0)
  have d1 := d j p (by omega)
  have d2 := d b (by omega) (by omega)
  by_cases e1 : j = b
  · rw [if_pos e1, if_pos e1]
    by_cases e2 : j = a
    · rw [if_pos e2]; rw [if_pos (by omega)] at d2; rw [e2, ← k3]; omega
    · rw [if_neg e2]; rw [if_neg (by omega)] at d2; rw [e1, ← d2, ← k4]; omega
  · rw [if_neg e1, if_neg e1, d1]
    by_cases e2 : j = a
    · rw [if_pos e2, if_pos e2, e2, ← k3]; omega
    · rw [if_neg e2, if_neg e2]; omega
theorem zm_mv_ok {w : zq_Wd} (x_UM : zj_is w 290 (fun q => zm_UM (q 0) (q 1) (q 2) (q 3))) (x_DG : zj_is w 134 (fun q => zn_DG (q 0) (q 1) (q 2))) (x_MV : zj_is w 312 (fun q => zk_MV (q 0) (q 1) (q 2) (q 3) (q 4))) : zq_okG1 w zm_mv := by
  refine ⟨rfl, rfl, zu_fac ⟨rfl, by decide⟩ zq_fan, ?_⟩
  intro r P h H hM
  have q0 : zq_ev r (0, [(1, 1)]) = r 1 := zu_e1 _ _
  have q1 : zq_ev r (5, [(1, -1)]) = -r 1 + 5 := zu_e5 _ _ _
  have q2 : zq_ev r (0, [(4, 1)]) = r 4 := zu_e1 _ _
  have q3 : zq_ev r (5, [(4, -1)]) = -r 4 + 5 := zu_e5 _ _ _
  have q4 : zq_ev r (0, [(2, 1), (7, -1), (9, -1)]) = r 2 - r 7 - r 9 := by simp only [zq_ev, zq_ts] <;> omega
  have q5 : zq_ev r (0, [(2, -1), (7, 1), (9, 1)]) = -r 2 + r 7 + r 9 := by simp only [zq_ev, zq_ts] <;> omega
  have q6 : zq_ev r (0, [(5, 1), (8, -1), (9, 1)]) = r 5 - r 8 + r 9 := by simp only [zq_ev, zq_ts] <;> omega
  have q7 : zq_ev r (0, [(5, -1), (8, 1), (9, -1)]) = -r 5 + r 8 - r 9 := by simp only [zq_ev, zq_ts] <;> omega
  have q8 : zq_ev r (2147483648, [(2, 1)]) = r 2 + 2147483648 := zu_e2 _ _ _
  have q9 : zq_ev r (2147483647, [(2, -1)]) = -r 2 + 2147483647 := zu_e5 _ _ _
  have q10 : zq_ev r (2147483648, [(5, 1)]) = r 5 + 2147483648 := zu_e2 _ _ _
  have q11 : zq_ev r (2147483647, [(5, -1)]) = -r 5 + 2147483647 := zu_e5 _ _ _
  have q12 : zq_ev r (0, [(0, 1)]) = r 0 := zu_e1 _ _
  have q13 : zq_ev r (0, [(2, 1)]) = r 2 := zu_e1 _ _
  have q14 : zq_ev r (0, [(3, 1)]) = r 3 := zu_e1 _ _
  have q15 : zq_ev r (0, [(5, 1)]) = r 5 := zu_e1 _ _
  have q16 : zq_ev r (0, [(6, 1)]) = r 6 := zu_e1 _ _
  have q17 : zq_ev r (0, [(7, 1)]) = r 7 := zu_e1 _ _
  have q18 : zq_ev r (0, [(8, 1)]) = r 8 := zu_e1 _ _
  obtain ⟨hT, hC, hF, hS, -, hK⟩ := hM
  have c := hC.1
  have a1 := zq_all_1 c
  rw [q0] at a1
  have c := zq_all_t c
  have a2 := zq_all_1 c
  rw [q1] at a2
  have c := zq_all_t c
  have a3 := zq_all_1 c
  rw [q2] at a3
  have c := zq_all_t c
  have a4 := zq_all_1 c
  rw [q3] at a4
  have c := zq_all_t c
  have a5 := zq_all_1 c
  rw [q4] at a5
  have c := zq_all_t c
  have a6 := zq_all_1 c
  rw [q5] at a6
  have c := zq_all_t c
  have a7 := zq_all_1 c
  rw [q6] at a7
  have c := zq_all_t c
  have a8 := zq_all_1 c
  rw [q7] at a8
  have c := zq_all_t c
  have a9 := zq_all_1 c
  rw [q8] at a9
  have c := zq_all_t c
  have a10 := zq_all_1 c
  rw [q9] at a10
  have c := zq_all_t c
  have a11 := zq_all_1 c
  rw [q10] at a11
  have c := zq_all_t c
  have a12 := zq_all_1 c
  rw [q11] at a12
  have k1 := zj_use x_UM (hK)
  have k1 : zm_UM (zq_ev r (0, [(0, 1)])) (zq_ev r (0, [(1, 1)])) (zq_ev r (0, [(2, 1)])) (zq_ev r (0, [(3, 1)])) P h := k1
  simp only [q0, q12, q13, q14] at k1
  have k2 := zj_use x_UM (zq_okX_t (hK))
  have k2 : zm_UM (zq_ev r (0, [(3, 1)])) (zq_ev r (0, [(4, 1)])) (zq_ev r (0, [(5, 1)])) (zq_ev r (0, [(6, 1)])) P h := k2
  simp only [q14, q15, q16, q2] at k2
  have k3 := zj_use x_DG (zq_okX_t (zq_okX_t (hK)))
  have k3 : zn_DG (zq_ev r (0, [(0, 1)])) (zq_ev r (0, [(1, 1)])) (zq_ev r (0, [(7, 1)])) P h := k3
  simp only [q0, q12, q17] at k3
  have k4 := zj_use x_DG (zq_okX_t (zq_okX_t (zq_okX_t (hK))))
  have k4 : zn_DG (zq_ev r (0, [(3, 1)])) (zq_ev r (0, [(4, 1)])) (zq_ev r (0, [(8, 1)])) P h := k4
  simp only [q14, q18, q2] at k4
  obtain t1 := zm_mv_l (P := P) (h := h) (M := r 0) (a := r 1) (x := r 2) (L := r 3) (b := r 4) (y := r 5) (N := r 6) (u := r 7) (w := r 8) (v := r 9) a1 a2 a3 a4 a5 a6 a7 a8 a9 a10 a11 a12 k1 k2 k3 k4
  obtain ⟨rq, hr⟩ : ∃ rq : Nat → Int, (∀ i, i < 10 → rq i = r i) := ⟨r, fun i hi => rfl⟩
  have v0 : rq 0 = r 0 := hr 0 (by decide)
  have v1 : rq 1 = r 1 := hr 1 (by decide)
  have v4 : rq 4 = r 4 := hr 4 (by decide)
  have v6 : rq 6 = r 6 := hr 6 (by decide)
  have v9 : rq 9 = r 9 := hr 9 (by decide)
  have g0 : zq_ev rq (0, [(0, 1)]) = r 0 := zu_f1 v0
  have g1 : zq_ev rq (0, [(1, 1)]) = r 1 := zu_f1 v1
  have g2 : zq_ev rq (0, [(4, 1)]) = r 4 := zu_f1 v4
  have g3 : zq_ev rq (0, [(9, 1)]) = r 9 := zu_f1 v9
  have g4 : zq_ev rq (0, [(6, 1)]) = r 6 := zu_f1 v6
  exact ⟨_, List.mem_cons_self .., rq, hr, zq_MeS_mk rfl hT (zq_all_nil) zq_fan (zq_fan) rfl (zu_fac ((x_MV _ _ _).mpr (by show zk_MV (zq_ev rq (0, [(0, 1)])) (zq_ev rq (0, [(1, 1)])) (zq_ev rq (0, [(4, 1)])) (zq_ev rq (0, [(9, 1)])) (zq_ev rq (0, [(6, 1)])) P h; simp only [g0, g1, g2, g3, g4]; exact t1)) zq_fan)⟩
noncomputable def zm_n0 : zq_S × List zq_S := (([], [], [], [], [], [], [(280, [(0, [(0, 1)]), (0, [(1, 1)]), (0, [(2, 1)]), (0, [(3, 1)])])], 4), [([], [], [], [], [], [], [(314, [(0, [(3, 1)])])], 4)])
theorem zm_n0_l {P : zq_Ty} {h : zq_H} {bl ck tm M : Int} (k1 : zm_MC 35 bl ck tm M P h) : (zm_CN M P h) := by
  obtain ⟨w1, w2, w3, w4⟩ := k1
  show M = zm_pk (zn_dg M) 11
  exact w4.2.trans (zm_pk_cg 11 (fun j p q => zm_is_dg w4 p (by omega)))
theorem zm_n0_ok {w : zq_Wd} (x_MC0 : zj_is w 280 (fun q => zm_MC 35 (q 0) (q 1) (q 2) (q 3))) (x_CN : zj_is w 314 (fun q => zm_CN (q 0))) : zq_okG1 w zm_n0 := by
  refine ⟨rfl, rfl, zu_fac ⟨rfl, by decide⟩ zq_fan, ?_⟩
  intro r P h H hM
  have q0 : zq_ev r (0, [(0, 1)]) = r 0 := zu_e1 _ _
  have q1 : zq_ev r (0, [(1, 1)]) = r 1 := zu_e1 _ _
  have q2 : zq_ev r (0, [(2, 1)]) = r 2 := zu_e1 _ _
  have q3 : zq_ev r (0, [(3, 1)]) = r 3 := zu_e1 _ _
  obtain ⟨hT, hC, hF, hS, -, hK⟩ := hM
  have c := hC.1
  have k1 := zj_use x_MC0 (hK)
  have k1 : zm_MC 35 (zq_ev r (0, [(0, 1)])) (zq_ev r (0, [(1, 1)])) (zq_ev r (0, [(2, 1)])) (zq_ev r (0, [(3, 1)])) P h := k1
  simp only [q0, q1, q2, q3] at k1
  obtain t1 := zm_n0_l (P := P) (h := h) (bl := r 0) (ck := r 1) (tm := r 2) (M := r 3) k1
  obtain ⟨rq, hr⟩ : ∃ rq : Nat → Int, (∀ i, i < 4 → rq i = r i) := ⟨r, fun i hi => rfl⟩
  have v3 : rq 3 = r 3 := hr 3 (by decide)
  have g0 : zq_ev rq (0, [(3, 1)]) = r 3 := zu_f1 v3
  exact ⟨_, List.mem_cons_self .., rq, hr, zq_MeS_mk rfl hT (zq_all_nil) zq_fan (zq_fan) rfl (zu_fac ((x_CN _ _ _).mpr (by show zm_CN (zq_ev rq (0, [(3, 1)])) P h; simp only [g0]; exact t1)) zq_fan)⟩
noncomputable def zm_n1 : zq_S × List zq_S := (([], [], [], [], [], [], [(281, [(0, [(0, 1)]), (0, [(1, 1)]), (0, [(2, 1)]), (0, [(3, 1)])])], 4), [([], [], [], [], [], [], [(314, [(0, [(3, 1)])])], 4)])
theorem zm_n1_l {P : zq_Ty} {h : zq_H} {bl ck tm M : Int} (k1 : zm_MC 50 bl ck tm M P h) : (zm_CN M P h) := by
  obtain ⟨w1, w2, w3, w4⟩ := k1
  show M = zm_pk (zn_dg M) 11
  exact w4.2.trans (zm_pk_cg 11 (fun j p q => zm_is_dg w4 p (by omega)))
theorem zm_n1_ok {w : zq_Wd} (x_MC1 : zj_is w 281 (fun q => zm_MC 50 (q 0) (q 1) (q 2) (q 3))) (x_CN : zj_is w 314 (fun q => zm_CN (q 0))) : zq_okG1 w zm_n1 := by
  refine ⟨rfl, rfl, zu_fac ⟨rfl, by decide⟩ zq_fan, ?_⟩
  intro r P h H hM
  have q0 : zq_ev r (0, [(0, 1)]) = r 0 := zu_e1 _ _
  have q1 : zq_ev r (0, [(1, 1)]) = r 1 := zu_e1 _ _
  have q2 : zq_ev r (0, [(2, 1)]) = r 2 := zu_e1 _ _
  have q3 : zq_ev r (0, [(3, 1)]) = r 3 := zu_e1 _ _
  obtain ⟨hT, hC, hF, hS, -, hK⟩ := hM
  have c := hC.1
  have k1 := zj_use x_MC1 (hK)
  have k1 : zm_MC 50 (zq_ev r (0, [(0, 1)])) (zq_ev r (0, [(1, 1)])) (zq_ev r (0, [(2, 1)])) (zq_ev r (0, [(3, 1)])) P h := k1
  simp only [q0, q1, q2, q3] at k1
  obtain t1 := zm_n1_l (P := P) (h := h) (bl := r 0) (ck := r 1) (tm := r 2) (M := r 3) k1
  obtain ⟨rq, hr⟩ : ∃ rq : Nat → Int, (∀ i, i < 4 → rq i = r i) := ⟨r, fun i hi => rfl⟩
  have v3 : rq 3 = r 3 := hr 3 (by decide)
  have g0 : zq_ev rq (0, [(3, 1)]) = r 3 := zu_f1 v3
  exact ⟨_, List.mem_cons_self .., rq, hr, zq_MeS_mk rfl hT (zq_all_nil) zq_fan (zq_fan) rfl (zu_fac ((x_CN _ _ _).mpr (by show zm_CN (zq_ev rq (0, [(3, 1)])) P h; simp only [g0]; exact t1)) zq_fan)⟩
noncomputable def zm_uv : zq_S × List zq_S := (([], [], [(0, [(0, 1)]), (1, [(0, -1)]), (0, [(2, 1)]), (5, [(2, -1)]), (0, [(3, 1)]), (5, [(3, -1)]), (9999, [(6, 1)]), (9999, [(6, -1)]), (9999, [(7, 1)]), (9999, [(7, -1)]), (19998, [(4, 1)]), (19998, [(4, -1)])], [], [], [], [(312, [(0, [(1, 1)]), (0, [(2, 1)]), (0, [(3, 1)]), (0, [(4, 1)]), (0, [(5, 1)])]), (134, [(0, [(1, 1)]), (0, [(2, 1)]), (0, [(6, 1)])]), (134, [(0, [(1, 1)]), (0, [(3, 1)]), (0, [(7, 1)])])], 8), [([], [], [], [], [], [], [(292, [(0, [(0, 1)]), (0, [(2, 1)]), (0, [(3, 1)]), (0, [(4, 1)]), (0, [(5, 1)]), (0, [(1, 1)])])], 8)])
theorem zm_uv_l {P : zq_Ty} {h : zq_H} {k M a b v N x y : Int} (a1 : 0 ≤ k) (a2 : 0 ≤ -k + 1) (a3 : 0 ≤ a) (a4 : 0 ≤ -a + 5) (a5 : 0 ≤ b) (a6 : 0 ≤ -b + 5) (a7 : 0 ≤ x + 9999) (a8 : 0 ≤ -x + 9999) (a9 : 0 ≤ y + 9999) (a10 : 0 ≤ -y + 9999) (a11 : 0 ≤ v + 19998) (a12 : 0 ≤ -v + 19998) (k1 : zk_MV M a b v N P h) (k2 : zn_DG M a x P h) (k3 : zn_DG M b y P h) : (zk_UU k a b v N M P h) := by
  have k1 : N = zk_mv M a b v := k1
  have k2 : x = zn_dg M a := k2
  have k3 : y = zn_dg M b := k3
  intro j p q
  have d : zn_dg N j = zn_dg M j + (if j = a then v else 0) - (if j = b then v else 0) := by
    rw [k1]
    refine zm_pk_dg 11 j (fun i _ _ => ?_) p (by omega)
    have r1 := zn_dg_in M i
    unfold zn_in at r1 ⊢
    by_cases e1 : i = a <;> by_cases e2 : i = b
    · rw [if_pos e1, if_pos e2]; omega
    · rw [if_pos e1, if_neg e2, e1, ← k2]; omega
    · rw [if_neg e1, if_pos e2, e2, ← k3]; omega
    · rw [if_neg e1, if_neg e2]; omega
  unfold zk_U
  rw [if_neg (by omega), if_neg (by omega), d]
  omega
theorem zm_uv_ok {w : zq_Wd} (x_MV : zj_is w 312 (fun q => zk_MV (q 0) (q 1) (q 2) (q 3) (q 4))) (x_DG : zj_is w 134 (fun q => zn_DG (q 0) (q 1) (q 2))) (x_UU : zj_is w 292 (fun q => zk_UU (q 0) (q 1) (q 2) (q 3) (q 4) (q 5))) : zq_okG1 w zm_uv := by
  refine ⟨rfl, rfl, zu_fac ⟨rfl, by decide⟩ zq_fan, ?_⟩
  intro r P h H hM
  have q0 : zq_ev r (0, [(0, 1)]) = r 0 := zu_e1 _ _
  have q1 : zq_ev r (1, [(0, -1)]) = -r 0 + 1 := zu_e5 _ _ _
  have q2 : zq_ev r (0, [(2, 1)]) = r 2 := zu_e1 _ _
  have q3 : zq_ev r (5, [(2, -1)]) = -r 2 + 5 := zu_e5 _ _ _
  have q4 : zq_ev r (0, [(3, 1)]) = r 3 := zu_e1 _ _
  have q5 : zq_ev r (5, [(3, -1)]) = -r 3 + 5 := zu_e5 _ _ _
  have q6 : zq_ev r (9999, [(6, 1)]) = r 6 + 9999 := zu_e2 _ _ _
  have q7 : zq_ev r (9999, [(6, -1)]) = -r 6 + 9999 := zu_e5 _ _ _
  have q8 : zq_ev r (9999, [(7, 1)]) = r 7 + 9999 := zu_e2 _ _ _
  have q9 : zq_ev r (9999, [(7, -1)]) = -r 7 + 9999 := zu_e5 _ _ _
  have q10 : zq_ev r (19998, [(4, 1)]) = r 4 + 19998 := zu_e2 _ _ _
  have q11 : zq_ev r (19998, [(4, -1)]) = -r 4 + 19998 := zu_e5 _ _ _
  have q12 : zq_ev r (0, [(1, 1)]) = r 1 := zu_e1 _ _
  have q13 : zq_ev r (0, [(4, 1)]) = r 4 := zu_e1 _ _
  have q14 : zq_ev r (0, [(5, 1)]) = r 5 := zu_e1 _ _
  have q15 : zq_ev r (0, [(6, 1)]) = r 6 := zu_e1 _ _
  have q16 : zq_ev r (0, [(7, 1)]) = r 7 := zu_e1 _ _
  obtain ⟨hT, hC, hF, hS, -, hK⟩ := hM
  have c := hC.1
  have a1 := zq_all_1 c
  rw [q0] at a1
  have c := zq_all_t c
  have a2 := zq_all_1 c
  rw [q1] at a2
  have c := zq_all_t c
  have a3 := zq_all_1 c
  rw [q2] at a3
  have c := zq_all_t c
  have a4 := zq_all_1 c
  rw [q3] at a4
  have c := zq_all_t c
  have a5 := zq_all_1 c
  rw [q4] at a5
  have c := zq_all_t c
  have a6 := zq_all_1 c
  rw [q5] at a6
  have c := zq_all_t c
  have a7 := zq_all_1 c
  rw [q6] at a7
  have c := zq_all_t c
  have a8 := zq_all_1 c
  rw [q7] at a8
  have c := zq_all_t c
  have a9 := zq_all_1 c
  rw [q8] at a9
  have c := zq_all_t c
  have a10 := zq_all_1 c
  rw [q9] at a10
  have c := zq_all_t c
  have a11 := zq_all_1 c
  rw [q10] at a11
  have c := zq_all_t c
  have a12 := zq_all_1 c
  rw [q11] at a12
  have k1 := zj_use x_MV (hK)
  have k1 : zk_MV (zq_ev r (0, [(1, 1)])) (zq_ev r (0, [(2, 1)])) (zq_ev r (0, [(3, 1)])) (zq_ev r (0, [(4, 1)])) (zq_ev r (0, [(5, 1)])) P h := k1
  simp only [q12, q13, q14, q2, q4] at k1
  have k2 := zj_use x_DG (zq_okX_t (hK))
  have k2 : zn_DG (zq_ev r (0, [(1, 1)])) (zq_ev r (0, [(2, 1)])) (zq_ev r (0, [(6, 1)])) P h := k2
  simp only [q12, q15, q2] at k2
  have k3 := zj_use x_DG (zq_okX_t (zq_okX_t (hK)))
  have k3 : zn_DG (zq_ev r (0, [(1, 1)])) (zq_ev r (0, [(3, 1)])) (zq_ev r (0, [(7, 1)])) P h := k3
  simp only [q12, q16, q4] at k3
  obtain t1 := zm_uv_l (P := P) (h := h) (k := r 0) (M := r 1) (a := r 2) (b := r 3) (v := r 4) (N := r 5) (x := r 6) (y := r 7) a1 a2 a3 a4 a5 a6 a7 a8 a9 a10 a11 a12 k1 k2 k3
  obtain ⟨rq, hr⟩ : ∃ rq : Nat → Int, (∀ i, i < 8 → rq i = r i) := ⟨r, fun i hi => rfl⟩
  have v0 : rq 0 = r 0 := hr 0 (by decide)
  have v1 : rq 1 = r 1 := hr 1 (by decide)
  have v2 : rq 2 = r 2 := hr 2 (by decide)
  have v3 : rq 3 = r 3 := hr 3 (by decide)
  have v4 : rq 4 = r 4 := hr 4 (by decide)
  have v5 : rq 5 = r 5 := hr 5 (by decide)
  have g0 : zq_ev rq (0, [(0, 1)]) = r 0 := zu_f1 v0
  have g1 : zq_ev rq (0, [(2, 1)]) = r 2 := zu_f1 v2
  have g2 : zq_ev rq (0, [(3, 1)]) = r 3 := zu_f1 v3
  have g3 : zq_ev rq (0, [(4, 1)]) = r 4 := zu_f1 v4
  have g4 : zq_ev rq (0, [(5, 1)]) = r 5 := zu_f1 v5
  have g5 : zq_ev rq (0, [(1, 1)]) = r 1 := zu_f1 v1
  exact ⟨_, List.mem_cons_self .., rq, hr, zq_MeS_mk rfl hT (zq_all_nil) zq_fan (zq_fan) rfl (zu_fac ((x_UU _ _ _).mpr (by show zk_UU (zq_ev rq (0, [(0, 1)])) (zq_ev rq (0, [(2, 1)])) (zq_ev rq (0, [(3, 1)])) (zq_ev rq (0, [(4, 1)])) (zq_ev rq (0, [(5, 1)])) (zq_ev rq (0, [(1, 1)])) P h; simp only [g0, g1, g2, g3, g4, g5]; exact t1)) zq_fan)⟩
noncomputable def zm_uw : zq_S × List zq_S := (([], [], [(0, [(1, 1)]), (3, [(1, -1)]), (2147483648, [(2, 1)]), (2147483647, [(2, -1)])], [], [], [], [(290, [(0, [(0, 1)]), (6, [(1, 1)]), (0, [(2, 1)]), (0, [(3, 1)])]), (134, [(0, [(0, 1)]), (6, [(1, 1)]), (0, [(4, 1)])])], 5), [([], [], [], [], [], [], [(292, [(2, []), (0, [(1, 1)]), (0, [(4, 1)]), (0, []), (0, [(3, 1)]), (0, [(0, 1)])])], 5)])
theorem zm_uw_l {P : zq_Ty} {h : zq_H} {M q c N w : Int} (a1 : 0 ≤ q) (a2 : 0 ≤ -q + 3) (a3 : 0 ≤ c + 2147483648) (a4 : 0 ≤ -c + 2147483647) (k1 : zm_UM M (q + 6) c N P h) (k2 : zn_DG M (q + 6) w P h) : (zk_UU 2 q w 0 N M P h) := by
  have k1 : N = zm_st M (q + 6) c := k1
  have k2 : w = zn_dg M (q + 6) := k2
  intro j p u
  unfold zk_U
  rw [if_pos rfl, k1, zm_st_dg (by unfold zn_in; omega) p u]
  by_cases e : j = 6 + q
  · rw [if_pos e, k2]; congr 1; omega
  · rw [if_neg e, if_neg (by omega)]
theorem zm_uw_ok {w : zq_Wd} (x_UM : zj_is w 290 (fun q => zm_UM (q 0) (q 1) (q 2) (q 3))) (x_DG : zj_is w 134 (fun q => zn_DG (q 0) (q 1) (q 2))) (x_UU : zj_is w 292 (fun q => zk_UU (q 0) (q 1) (q 2) (q 3) (q 4) (q 5))) : zq_okG1 w zm_uw := by
  refine ⟨rfl, rfl, zu_fac ⟨rfl, by decide⟩ zq_fan, ?_⟩
  intro r P h H hM
  have q0 : zq_ev r (0, [(1, 1)]) = r 1 := zu_e1 _ _
  have q1 : zq_ev r (3, [(1, -1)]) = -r 1 + 3 := zu_e5 _ _ _
  have q2 : zq_ev r (2147483648, [(2, 1)]) = r 2 + 2147483648 := zu_e2 _ _ _
  have q3 : zq_ev r (2147483647, [(2, -1)]) = -r 2 + 2147483647 := zu_e5 _ _ _
  have q4 : zq_ev r (0, [(0, 1)]) = r 0 := zu_e1 _ _
  have q5 : zq_ev r (6, [(1, 1)]) = r 1 + 6 := zu_e2 _ _ _
  have q6 : zq_ev r (0, [(2, 1)]) = r 2 := zu_e1 _ _
  have q7 : zq_ev r (0, [(3, 1)]) = r 3 := zu_e1 _ _
  have q8 : zq_ev r (0, [(4, 1)]) = r 4 := zu_e1 _ _
  obtain ⟨hT, hC, hF, hS, -, hK⟩ := hM
  have c := hC.1
  have a1 := zq_all_1 c
  rw [q0] at a1
  have c := zq_all_t c
  have a2 := zq_all_1 c
  rw [q1] at a2
  have c := zq_all_t c
  have a3 := zq_all_1 c
  rw [q2] at a3
  have c := zq_all_t c
  have a4 := zq_all_1 c
  rw [q3] at a4
  have k1 := zj_use x_UM (hK)
  have k1 : zm_UM (zq_ev r (0, [(0, 1)])) (zq_ev r (6, [(1, 1)])) (zq_ev r (0, [(2, 1)])) (zq_ev r (0, [(3, 1)])) P h := k1
  simp only [q4, q5, q6, q7] at k1
  have k2 := zj_use x_DG (zq_okX_t (hK))
  have k2 : zn_DG (zq_ev r (0, [(0, 1)])) (zq_ev r (6, [(1, 1)])) (zq_ev r (0, [(4, 1)])) P h := k2
  simp only [q4, q5, q8] at k2
  obtain t1 := zm_uw_l (P := P) (h := h) (M := r 0) (q := r 1) (c := r 2) (N := r 3) (w := r 4) a1 a2 a3 a4 k1 k2
  obtain ⟨rq, hr⟩ : ∃ rq : Nat → Int, (∀ i, i < 5 → rq i = r i) := ⟨r, fun i hi => rfl⟩
  have v0 : rq 0 = r 0 := hr 0 (by decide)
  have v1 : rq 1 = r 1 := hr 1 (by decide)
  have v3 : rq 3 = r 3 := hr 3 (by decide)
  have v4 : rq 4 = r 4 := hr 4 (by decide)
  have g0 : zq_ev rq (2, []) = 2 := zu_e0 _ _
  have g1 : zq_ev rq (0, [(1, 1)]) = r 1 := zu_f1 v1
  have g2 : zq_ev rq (0, [(4, 1)]) = r 4 := zu_f1 v4
  have g3 : zq_ev rq (0, []) = 0 := zu_e0 _ _
  have g4 : zq_ev rq (0, [(3, 1)]) = r 3 := zu_f1 v3
  have g5 : zq_ev rq (0, [(0, 1)]) = r 0 := zu_f1 v0
  exact ⟨_, List.mem_cons_self .., rq, hr, zq_MeS_mk rfl hT (zq_all_nil) zq_fan (zq_fan) rfl (zu_fac ((x_UU _ _ _).mpr (by show zk_UU (zq_ev rq (2, [])) (zq_ev rq (0, [(1, 1)])) (zq_ev rq (0, [(4, 1)])) (zq_ev rq (0, [])) (zq_ev rq (0, [(3, 1)])) (zq_ev rq (0, [(0, 1)])) P h; simp only [g0, g1, g2, g3, g4, g5]; exact t1)) zq_fan)⟩
noncomputable def zm_up : zq_S × List zq_S := (([], [], [(-1, [(1, 1), (3, -1)]), (1, [(1, -1), (3, 1)]), (2147483648, [(1, 1)]), (2147483647, [(1, -1)])], [], [], [], [(290, [(0, [(0, 1)]), (10, []), (0, [(1, 1)]), (0, [(2, 1)])]), (134, [(0, [(0, 1)]), (10, []), (0, [(3, 1)])])], 4), [([], [], [], [], [], [], [(292, [(3, []), (0, []), (0, []), (0, []), (0, [(2, 1)]), (0, [(0, 1)])])], 4)])
theorem zm_up_l {P : zq_Ty} {h : zq_H} {M c N w : Int} (a1 : 0 ≤ c - w - 1) (a2 : 0 ≤ -c + w + 1) (a3 : 0 ≤ c + 2147483648) (a4 : 0 ≤ -c + 2147483647) (k1 : zm_UM M 10 c N P h) (k2 : zn_DG M 10 w P h) : (zk_UU 3 0 0 0 N M P h) := by
  have k1 : N = zm_st M 10 c := k1
  have k2 : w = zn_dg M 10 := k2
  intro j p u
  have d := fun i x y => zm_st_dg (M := M) (p := 10) (v := c) (j := i) (by unfold zn_in; omega) x y
  unfold zk_U
  rw [if_neg (by omega), if_pos rfl, k1]
  by_cases e : j = 10
  · rw [if_pos e, d 10 (by omega) (by omega), if_pos rfl, e, ← k2]; omega
  · rw [if_neg e, d j p u, if_neg e]
theorem zm_up_ok {w : zq_Wd} (x_UM : zj_is w 290 (fun q => zm_UM (q 0) (q 1) (q 2) (q 3))) (x_DG : zj_is w 134 (fun q => zn_DG (q 0) (q 1) (q 2))) (x_UU : zj_is w 292 (fun q => zk_UU (q 0) (q 1) (q 2) (q 3) (q 4) (q 5))) : zq_okG1 w zm_up := by
  refine ⟨rfl, rfl, zu_fac ⟨rfl, by decide⟩ zq_fan, ?_⟩
  intro r P h H hM
  have q0 : zq_ev r (-1, [(1, 1), (3, -1)]) = r 1 - r 3 - 1 := by simp only [zq_ev, zq_ts] <;> omega
  have q1 : zq_ev r (1, [(1, -1), (3, 1)]) = -r 1 + r 3 + 1 := by simp only [zq_ev, zq_ts] <;> omega
  have q2 : zq_ev r (2147483648, [(1, 1)]) = r 1 + 2147483648 := zu_e2 _ _ _
  have q3 : zq_ev r (2147483647, [(1, -1)]) = -r 1 + 2147483647 := zu_e5 _ _ _
  have q4 : zq_ev r (0, [(0, 1)]) = r 0 := zu_e1 _ _
  have q5 : zq_ev r (10, []) = 10 := zu_e0 _ _
  have q6 : zq_ev r (0, [(1, 1)]) = r 1 := zu_e1 _ _
  have q7 : zq_ev r (0, [(2, 1)]) = r 2 := zu_e1 _ _
  have q8 : zq_ev r (0, [(3, 1)]) = r 3 := zu_e1 _ _
  obtain ⟨hT, hC, hF, hS, -, hK⟩ := hM
  have c := hC.1
  have a1 := zq_all_1 c
  rw [q0] at a1
  have c := zq_all_t c
  have a2 := zq_all_1 c
  rw [q1] at a2
  have c := zq_all_t c
  have a3 := zq_all_1 c
  rw [q2] at a3
  have c := zq_all_t c
  have a4 := zq_all_1 c
  rw [q3] at a4
  have k1 := zj_use x_UM (hK)
  have k1 : zm_UM (zq_ev r (0, [(0, 1)])) (zq_ev r (10, [])) (zq_ev r (0, [(1, 1)])) (zq_ev r (0, [(2, 1)])) P h := k1
  simp only [q4, q5, q6, q7] at k1
  have k2 := zj_use x_DG (zq_okX_t (hK))
  have k2 : zn_DG (zq_ev r (0, [(0, 1)])) (zq_ev r (10, [])) (zq_ev r (0, [(3, 1)])) P h := k2
  simp only [q4, q5, q8] at k2
  obtain t1 := zm_up_l (P := P) (h := h) (M := r 0) (c := r 1) (N := r 2) (w := r 3) a1 a2 a3 a4 k1 k2
  obtain ⟨rq, hr⟩ : ∃ rq : Nat → Int, (∀ i, i < 4 → rq i = r i) := ⟨r, fun i hi => rfl⟩
  have v0 : rq 0 = r 0 := hr 0 (by decide)
  have v2 : rq 2 = r 2 := hr 2 (by decide)
  have g0 : zq_ev rq (3, []) = 3 := zu_e0 _ _
  have g1 : zq_ev rq (0, []) = 0 := zu_e0 _ _
  have g2 : zq_ev rq (0, [(2, 1)]) = r 2 := zu_f1 v2
  have g3 : zq_ev rq (0, [(0, 1)]) = r 0 := zu_f1 v0
  exact ⟨_, List.mem_cons_self .., rq, hr, zq_MeS_mk rfl hT (zq_all_nil) zq_fan (zq_fan) rfl (zu_fac ((x_UU _ _ _).mpr (by show zk_UU (zq_ev rq (3, [])) (zq_ev rq (0, [])) (zq_ev rq (0, [])) (zq_ev rq (0, [])) (zq_ev rq (0, [(2, 1)])) (zq_ev rq (0, [(0, 1)])) P h; simp only [g0, g1, g2, g3]; exact t1)) zq_fan)⟩
noncomputable def zk_s00 : zq_S × List zq_S := (([], [], [(-16, [(6, 1)]), (16, [(6, -1)])], [], [], [], [(293, [(0, [(0, 1)]), (0, [(1, 1)]), (0, [(2, 1)]), (0, [(3, 1)]), (0, [(6, 1)]), (0, [(4, 1)]), (0, [(5, 1)])])], 7), [([], [], [], [], [], [], [(295, [(0, [(0, 1)]), (0, [(1, 1)]), (0, [(2, 1)]), (0, [(3, 1)]), (0, [(4, 1)]), (0, [(5, 1)]), (0, []), (0, [])])], 7)])
theorem zk_s00_l {P : zq_Ty} {h : zq_H} {jk jo jt jm M Z n : Int} (a1 : 0 ≤ n - 16) (a2 : 0 ≤ -n + 16) (k1 : zk_ZC 35 jk jo jt jm n M Z P h) : (zk_SH 35 jk jo jt jm M Z 0 0 P h) := by
  obtain ⟨w1, w2, w3, w4, n0, n1, w5⟩ := k1
  have hn : n = 16 := by omega
  subst hn
  exact ⟨w1, w2, w3, w4, by omega, by omega, by omega, fun q x y => by omega, fun q x y => w5 q x y⟩
theorem zk_s00_ok {w : zq_Wd} (x_ZC0 : zj_is w 293 (fun q => zk_ZC 35 (q 0) (q 1) (q 2) (q 3) (q 4) (q 5) (q 6))) (x_SH0 : zj_is w 295 (fun q => zk_SH 35 (q 0) (q 1) (q 2) (q 3) (q 4) (q 5) (q 6) (q 7))) : zq_okG1 w zk_s00 := by
  refine ⟨rfl, rfl, zu_fac ⟨rfl, by decide⟩ zq_fan, ?_⟩
  intro r P h H hM
  have q0 : zq_ev r (-16, [(6, 1)]) = r 6 - 16 := zu_e3 _ _ _
  have q1 : zq_ev r (16, [(6, -1)]) = -r 6 + 16 := zu_e5 _ _ _
  have q2 : zq_ev r (0, [(0, 1)]) = r 0 := zu_e1 _ _
  have q3 : zq_ev r (0, [(1, 1)]) = r 1 := zu_e1 _ _
  have q4 : zq_ev r (0, [(2, 1)]) = r 2 := zu_e1 _ _
  have q5 : zq_ev r (0, [(3, 1)]) = r 3 := zu_e1 _ _
  have q6 : zq_ev r (0, [(6, 1)]) = r 6 := zu_e1 _ _
  have q7 : zq_ev r (0, [(4, 1)]) = r 4 := zu_e1 _ _
  have q8 : zq_ev r (0, [(5, 1)]) = r 5 := zu_e1 _ _
  obtain ⟨hT, hC, hF, hS, -, hK⟩ := hM
  have c := hC.1
  have a1 := zq_all_1 c
  rw [q0] at a1
  have c := zq_all_t c
  have a2 := zq_all_1 c
  rw [q1] at a2
  have k1 := zj_use x_ZC0 (hK)
  have k1 : zk_ZC 35 (zq_ev r (0, [(0, 1)])) (zq_ev r (0, [(1, 1)])) (zq_ev r (0, [(2, 1)])) (zq_ev r (0, [(3, 1)])) (zq_ev r (0, [(6, 1)])) (zq_ev r (0, [(4, 1)])) (zq_ev r (0, [(5, 1)])) P h := k1
  simp only [q2, q3, q4, q5, q6, q7, q8] at k1
  obtain t1 := zk_s00_l (P := P) (h := h) (jk := r 0) (jo := r 1) (jt := r 2) (jm := r 3) (M := r 4) (Z := r 5) (n := r 6) a1 a2 k1
  obtain ⟨rq, hr⟩ : ∃ rq : Nat → Int, (∀ i, i < 7 → rq i = r i) := ⟨r, fun i hi => rfl⟩
  have v0 : rq 0 = r 0 := hr 0 (by decide)
  have v1 : rq 1 = r 1 := hr 1 (by decide)
  have v2 : rq 2 = r 2 := hr 2 (by decide)
  have v3 : rq 3 = r 3 := hr 3 (by decide)
  have v4 : rq 4 = r 4 := hr 4 (by decide)
  have v5 : rq 5 = r 5 := hr 5 (by decide)
  have g0 : zq_ev rq (0, [(0, 1)]) = r 0 := zu_f1 v0
  have g1 : zq_ev rq (0, [(1, 1)]) = r 1 := zu_f1 v1
  have g2 : zq_ev rq (0, [(2, 1)]) = r 2 := zu_f1 v2
  have g3 : zq_ev rq (0, [(3, 1)]) = r 3 := zu_f1 v3
  have g4 : zq_ev rq (0, [(4, 1)]) = r 4 := zu_f1 v4
  have g5 : zq_ev rq (0, [(5, 1)]) = r 5 := zu_f1 v5
  have g6 : zq_ev rq (0, []) = 0 := zu_e0 _ _
  exact ⟨_, List.mem_cons_self .., rq, hr, zq_MeS_mk rfl hT (zq_all_nil) zq_fan (zq_fan) rfl (zu_fac ((x_SH0 _ _ _).mpr (by show zk_SH 35 (zq_ev rq (0, [(0, 1)])) (zq_ev rq (0, [(1, 1)])) (zq_ev rq (0, [(2, 1)])) (zq_ev rq (0, [(3, 1)])) (zq_ev rq (0, [(4, 1)])) (zq_ev rq (0, [(5, 1)])) (zq_ev rq (0, [])) (zq_ev rq (0, [])) P h; simp only [g0, g1, g2, g3, g4, g5, g6]; exact t1)) zq_fan)⟩
noncomputable def zk_sw0 : zq_S × List zq_S := (([], [], [(0, [(7, -1), (8, 1)]), (16, [(8, -1)])], [], [], [], [(295, [(0, [(0, 1)]), (0, [(1, 1)]), (0, [(2, 1)]), (0, [(3, 1)]), (0, [(4, 1)]), (0, [(5, 1)]), (0, [(6, 1)]), (0, [(7, 1)])])], 9), [([], [], [], [], [], [], [(295, [(0, [(0, 1)]), (0, [(1, 1)]), (0, [(2, 1)]), (0, [(3, 1)]), (0, [(4, 1)]), (0, [(5, 1)]), (0, [(6, 1)]), (0, [(8, 1)])])], 9)])
theorem zk_sw0_l {P : zq_Ty} {h : zq_H} {jk jo jt jm M Z l u v : Int} (a1 : 0 ≤ -u + v) (a2 : 0 ≤ -v + 16) (k1 : zk_SH 35 jk jo jt jm M Z l u P h) : (zk_SH 35 jk jo jt jm M Z l v P h) := by
  obtain ⟨w1, w2, w3, w4, n0, n1, n2, w5, w6⟩ := k1
  exact ⟨w1, w2, w3, w4, n0, by omega, by omega, w5, fun q x y => w6 q (by omega) y⟩
theorem zk_sw0_ok {w : zq_Wd} (x_SH0 : zj_is w 295 (fun q => zk_SH 35 (q 0) (q 1) (q 2) (q 3) (q 4) (q 5) (q 6) (q 7))) : zq_okG1 w zk_sw0 := by
  refine ⟨rfl, rfl, zu_fac ⟨rfl, by decide⟩ zq_fan, ?_⟩
  intro r P h H hM
  have q0 : zq_ev r (0, [(7, -1), (8, 1)]) = -r 7 + r 8 := by simp only [zq_ev, zq_ts] <;> omega
  have q1 : zq_ev r (16, [(8, -1)]) = -r 8 + 16 := zu_e5 _ _ _
  have q2 : zq_ev r (0, [(0, 1)]) = r 0 := zu_e1 _ _
  have q3 : zq_ev r (0, [(1, 1)]) = r 1 := zu_e1 _ _
  have q4 : zq_ev r (0, [(2, 1)]) = r 2 := zu_e1 _ _
  have q5 : zq_ev r (0, [(3, 1)]) = r 3 := zu_e1 _ _
  have q6 : zq_ev r (0, [(4, 1)]) = r 4 := zu_e1 _ _
  have q7 : zq_ev r (0, [(5, 1)]) = r 5 := zu_e1 _ _
  have q8 : zq_ev r (0, [(6, 1)]) = r 6 := zu_e1 _ _
  have q9 : zq_ev r (0, [(7, 1)]) = r 7 := zu_e1 _ _
  obtain ⟨hT, hC, hF, hS, -, hK⟩ := hM
  have c := hC.1
  have a1 := zq_all_1 c
  rw [q0] at a1
  have c := zq_all_t c
  have a2 := zq_all_1 c
  rw [q1] at a2
  have k1 := zj_use x_SH0 (hK)
  have k1 : zk_SH 35 (zq_ev r (0, [(0, 1)])) (zq_ev r (0, [(1, 1)])) (zq_ev r (0, [(2, 1)])) (zq_ev r (0, [(3, 1)])) (zq_ev r (0, [(4, 1)])) (zq_ev r (0, [(5, 1)])) (zq_ev r (0, [(6, 1)])) (zq_ev r (0, [(7, 1)])) P h := k1
  simp only [q2, q3, q4, q5, q6, q7, q8, q9] at k1
  obtain t1 := zk_sw0_l (P := P) (h := h) (jk := r 0) (jo := r 1) (jt := r 2) (jm := r 3) (M := r 4) (Z := r 5) (l := r 6) (u := r 7) (v := r 8) a1 a2 k1
  obtain ⟨rq, hr⟩ : ∃ rq : Nat → Int, (∀ i, i < 9 → rq i = r i) := ⟨r, fun i hi => rfl⟩
  have v0 : rq 0 = r 0 := hr 0 (by decide)
  have v1 : rq 1 = r 1 := hr 1 (by decide)
  have v2 : rq 2 = r 2 := hr 2 (by decide)
  have v3 : rq 3 = r 3 := hr 3 (by decide)
  have v4 : rq 4 = r 4 := hr 4 (by decide)
  have v5 : rq 5 = r 5 := hr 5 (by decide)
  have v6 : rq 6 = r 6 := hr 6 (by decide)
  have v8 : rq 8 = r 8 := hr 8 (by decide)
  have g0 : zq_ev rq (0, [(0, 1)]) = r 0 := zu_f1 v0
  have g1 : zq_ev rq (0, [(1, 1)]) = r 1 := zu_f1 v1
  have g2 : zq_ev rq (0, [(2, 1)]) = r 2 := zu_f1 v2
  have g3 : zq_ev rq (0, [(3, 1)]) = r 3 := zu_f1 v3
  have g4 : zq_ev rq (0, [(4, 1)]) = r 4 := zu_f1 v4
  have g5 : zq_ev rq (0, [(5, 1)]) = r 5 := zu_f1 v5
  have g6 : zq_ev rq (0, [(6, 1)]) = r 6 := zu_f1 v6
  have g7 : zq_ev rq (0, [(8, 1)]) = r 8 := zu_f1 v8
  exact ⟨_, List.mem_cons_self .., rq, hr, zq_MeS_mk rfl hT (zq_all_nil) zq_fan (zq_fan) rfl (zu_fac ((x_SH0 _ _ _).mpr (by show zk_SH 35 (zq_ev rq (0, [(0, 1)])) (zq_ev rq (0, [(1, 1)])) (zq_ev rq (0, [(2, 1)])) (zq_ev rq (0, [(3, 1)])) (zq_ev rq (0, [(4, 1)])) (zq_ev rq (0, [(5, 1)])) (zq_ev rq (0, [(6, 1)])) (zq_ev rq (0, [(8, 1)])) P h; simp only [g0, g1, g2, g3, g4, g5, g6, g7]; exact t1)) zq_fan)⟩
noncomputable def zk_s10 : zq_S × List zq_S := (([], [], [(0, [(6, 1)]), (14, [(6, -1)]), (0, [(7, -1), (11, 1)]), (0, [(7, 1), (11, -1)]), (0, [(8, -1), (12, 1)]), (0, [(8, 1), (12, -1)]), (0, [(9, -1), (13, 1)]), (0, [(9, 1), (13, -1)]), (0, [(10, -1), (14, 1)]), (0, [(10, 1), (14, -1)])], [], [((0, [(0, 1)]), (0, [(6, 1)]), (0, [(7, 1)])), ((0, [(1, 1)]), (0, [(6, 1)]), (0, [(8, 1)])), ((0, [(2, 1)]), (0, [(6, 1)]), (0, [(9, 1)])), ((0, [(3, 1)]), (0, [(6, 1)]), (0, [(10, 1)])), ((0, [(0, 1)]), (1, [(6, 1)]), (0, [(11, 1)])), ((0, [(1, 1)]), (1, [(6, 1)]), (0, [(12, 1)])), ((0, [(2, 1)]), (1, [(6, 1)]), (0, [(13, 1)])), ((0, [(3, 1)]), (1, [(6, 1)]), (0, [(14, 1)]))], [], [(295, [(0, [(0, 1)]), (0, [(1, 1)]), (0, [(2, 1)]), (0, [(3, 1)]), (0, [(4, 1)]), (0, [(5, 1)]), (0, [(6, 1)]), (1, [(6, 1)])])], 15), [([], [], [], [], [], [], [(295, [(0, [(0, 1)]), (0, [(1, 1)]), (0, [(2, 1)]), (0, [(3, 1)]), (0, [(4, 1)]), (0, [(5, 1)]), (1, [(6, 1)]), (1, [(6, 1)])])], 15)])
theorem zk_s10_l {P : zq_Ty} {h : zq_H} {jk jo jt jm M Z i k o t m a b c d : Int} (a1 : 0 ≤ i) (a2 : 0 ≤ -i + 14) (a3 : 0 ≤ -k + a) (a4 : 0 ≤ k - a) (a5 : 0 ≤ -o + b) (a6 : 0 ≤ o - b) (a7 : 0 ≤ -t + c) (a8 : 0 ≤ t - c) (a9 : 0 ≤ -m + d) (a10 : 0 ≤ m - d) (s1 : 0 ≤ jk ∧ P (jk).toNat ≠ none ∧ h (jk).toNat i = k) (s2 : 0 ≤ jo ∧ P (jo).toNat ≠ none ∧ h (jo).toNat i = o) (s3 : 0 ≤ jt ∧ P (jt).toNat ≠ none ∧ h (jt).toNat i = t) (s4 : 0 ≤ jm ∧ P (jm).toNat ≠ none ∧ h (jm).toNat i = m) (s5 : 0 ≤ jk ∧ P (jk).toNat ≠ none ∧ h (jk).toNat (i + 1) = a) (s6 : 0 ≤ jo ∧ P (jo).toNat ≠ none ∧ h (jo).toNat (i + 1) = b) (s7 : 0 ≤ jt ∧ P (jt).toNat ≠ none ∧ h (jt).toNat (i + 1) = c) (s8 : 0 ≤ jm ∧ P (jm).toNat ≠ none ∧ h (jm).toNat (i + 1) = d) (k1 : zk_SH 35 jk jo jt jm M Z i (i + 1) P h) : (zk_SH 35 jk jo jt jm M Z (i + 1) (i + 1) P h) := by
  obtain ⟨w1, w2, w3, w4, n0, n1, n2, w5, w6⟩ := k1
  refine ⟨w1, w2, w3, w4, by omega, by omega, by omega, fun q x y => ?_, fun q x y => w6 q x y⟩
  by_cases e : q = i
  · have h9 := w6 (i + 1) (by omega) (by omega)
    unfold zk_E at h9 ⊢
    rw [s5.2.2, s6.2.2, s7.2.2, s8.2.2] at h9
    rw [e, s1.2.2, s2.2.2, s3.2.2, s4.2.2, show k = a by omega, show o = b by omega, show t = c by omega, show m = d by omega]
    exact h9
  · exact w5 q x (by omega)
theorem zk_s10_ok {w : zq_Wd} (x_SH0 : zj_is w 295 (fun q => zk_SH 35 (q 0) (q 1) (q 2) (q 3) (q 4) (q 5) (q 6) (q 7))) : zq_okG1 w zk_s10 := by
  refine ⟨rfl, rfl, zu_fac ⟨rfl, by decide⟩ zq_fan, ?_⟩
  intro r P h H hM
  have q0 : zq_ev r (0, [(6, 1)]) = r 6 := zu_e1 _ _
  have q1 : zq_ev r (14, [(6, -1)]) = -r 6 + 14 := zu_e5 _ _ _
  have q2 : zq_ev r (0, [(7, -1), (11, 1)]) = -r 7 + r 11 := by simp only [zq_ev, zq_ts] <;> omega
  have q3 : zq_ev r (0, [(7, 1), (11, -1)]) = r 7 - r 11 := by simp only [zq_ev, zq_ts] <;> omega
  have q4 : zq_ev r (0, [(8, -1), (12, 1)]) = -r 8 + r 12 := by simp only [zq_ev, zq_ts] <;> omega
  have q5 : zq_ev r (0, [(8, 1), (12, -1)]) = r 8 - r 12 := by simp only [zq_ev, zq_ts] <;> omega
  have q6 : zq_ev r (0, [(9, -1), (13, 1)]) = -r 9 + r 13 := by simp only [zq_ev, zq_ts] <;> omega
  have q7 : zq_ev r (0, [(9, 1), (13, -1)]) = r 9 - r 13 := by simp only [zq_ev, zq_ts] <;> omega
  have q8 : zq_ev r (0, [(10, -1), (14, 1)]) = -r 10 + r 14 := by simp only [zq_ev, zq_ts] <;> omega
  have q9 : zq_ev r (0, [(10, 1), (14, -1)]) = r 10 - r 14 := by simp only [zq_ev, zq_ts] <;> omega
  have q10 : zq_ev r (0, [(0, 1)]) = r 0 := zu_e1 _ _
  have q11 : zq_ev r (0, [(7, 1)]) = r 7 := zu_e1 _ _
  have q12 : zq_ev r (0, [(1, 1)]) = r 1 := zu_e1 _ _
  have q13 : zq_ev r (0, [(8, 1)]) = r 8 := zu_e1 _ _
  have q14 : zq_ev r (0, [(2, 1)]) = r 2 := zu_e1 _ _
  have q15 : zq_ev r (0, [(9, 1)]) = r 9 := zu_e1 _ _
  have q16 : zq_ev r (0, [(3, 1)]) = r 3 := zu_e1 _ _
  have q17 : zq_ev r (0, [(10, 1)]) = r 10 := zu_e1 _ _
  have q18 : zq_ev r (1, [(6, 1)]) = r 6 + 1 := zu_e2 _ _ _
  have q19 : zq_ev r (0, [(11, 1)]) = r 11 := zu_e1 _ _
  have q20 : zq_ev r (0, [(12, 1)]) = r 12 := zu_e1 _ _
  have q21 : zq_ev r (0, [(13, 1)]) = r 13 := zu_e1 _ _
  have q22 : zq_ev r (0, [(14, 1)]) = r 14 := zu_e1 _ _
  have q23 : zq_ev r (0, [(4, 1)]) = r 4 := zu_e1 _ _
  have q24 : zq_ev r (0, [(5, 1)]) = r 5 := zu_e1 _ _
  obtain ⟨hT, hC, hF, hS, -, hK⟩ := hM
  have c := hC.1
  have a1 := zq_all_1 c
  rw [q0] at a1
  have c := zq_all_t c
  have a2 := zq_all_1 c
  rw [q1] at a2
  have c := zq_all_t c
  have a3 := zq_all_1 c
  rw [q2] at a3
  have c := zq_all_t c
  have a4 := zq_all_1 c
  rw [q3] at a4
  have c := zq_all_t c
  have a5 := zq_all_1 c
  rw [q4] at a5
  have c := zq_all_t c
  have a6 := zq_all_1 c
  rw [q5] at a6
  have c := zq_all_t c
  have a7 := zq_all_1 c
  rw [q6] at a7
  have c := zq_all_t c
  have a8 := zq_all_1 c
  rw [q7] at a8
  have c := zq_all_t c
  have a9 := zq_all_1 c
  rw [q8] at a9
  have c := zq_all_t c
  have a10 := zq_all_1 c
  rw [q9] at a10
  have s1 := zq_okS_1 (hS)
  simp only [q0, q10, q11] at s1
  have s2 := zq_okS_1 (zq_okS_t (hS))
  simp only [q0, q12, q13] at s2
  have s3 := zq_okS_1 (zq_okS_t (zq_okS_t (hS)))
  simp only [q0, q14, q15] at s3
  have s4 := zq_okS_1 (zq_okS_t (zq_okS_t (zq_okS_t (hS))))
  simp only [q0, q16, q17] at s4
  have s5 := zq_okS_1 (zq_okS_t (zq_okS_t (zq_okS_t (zq_okS_t (hS)))))
  simp only [q10, q18, q19] at s5
  have s6 := zq_okS_1 (zq_okS_t (zq_okS_t (zq_okS_t (zq_okS_t (zq_okS_t (hS))))))
  simp only [q12, q18, q20] at s6
  have s7 := zq_okS_1 (zq_okS_t (zq_okS_t (zq_okS_t (zq_okS_t (zq_okS_t (zq_okS_t (hS)))))))
  simp only [q14, q18, q21] at s7
  have s8 := zq_okS_1 (zq_okS_t (zq_okS_t (zq_okS_t (zq_okS_t (zq_okS_t (zq_okS_t (zq_okS_t (hS))))))))
  simp only [q16, q18, q22] at s8
  have k1 := zj_use x_SH0 (hK)
  have k1 : zk_SH 35 (zq_ev r (0, [(0, 1)])) (zq_ev r (0, [(1, 1)])) (zq_ev r (0, [(2, 1)])) (zq_ev r (0, [(3, 1)])) (zq_ev r (0, [(4, 1)])) (zq_ev r (0, [(5, 1)])) (zq_ev r (0, [(6, 1)])) (zq_ev r (1, [(6, 1)])) P h := k1
  simp only [q0, q10, q12, q14, q16, q18, q23, q24] at k1
  obtain t1 := zk_s10_l (P := P) (h := h) (jk := r 0) (jo := r 1) (jt := r 2) (jm := r 3) (M := r 4) (Z := r 5) (i := r 6) (k := r 7) (o := r 8) (t := r 9) (m := r 10) (a := r 11) (b := r 12) (c := r 13) (d := r 14) a1 a2 a3 a4 a5 a6 a7 a8 a9 a10 s1 s2 s3 s4 s5 s6 s7 s8 k1
  obtain ⟨rq, hr⟩ : ∃ rq : Nat → Int, (∀ i, i < 15 → rq i = r i) := ⟨r, fun i hi => rfl⟩
  have v0 : rq 0 = r 0 := hr 0 (by decide)
  have v1 : rq 1 = r 1 := hr 1 (by decide)
  have v2 : rq 2 = r 2 := hr 2 (by decide)
  have v3 : rq 3 = r 3 := hr 3 (by decide)
  have v4 : rq 4 = r 4 := hr 4 (by decide)
  have v5 : rq 5 = r 5 := hr 5 (by decide)
  have v6 : rq 6 = r 6 := hr 6 (by decide)
  have g0 : zq_ev rq (0, [(0, 1)]) = r 0 := zu_f1 v0
  have g1 : zq_ev rq (0, [(1, 1)]) = r 1 := zu_f1 v1
  have g2 : zq_ev rq (0, [(2, 1)]) = r 2 := zu_f1 v2
  have g3 : zq_ev rq (0, [(3, 1)]) = r 3 := zu_f1 v3
  have g4 : zq_ev rq (0, [(4, 1)]) = r 4 := zu_f1 v4
  have g5 : zq_ev rq (0, [(5, 1)]) = r 5 := zu_f1 v5
  have g6 : zq_ev rq (1, [(6, 1)]) = r 6 + 1 := zu_f2 v6 _
  exact ⟨_, List.mem_cons_self .., rq, hr, zq_MeS_mk rfl hT (zq_all_nil) zq_fan (zq_fan) rfl (zu_fac ((x_SH0 _ _ _).mpr (by show zk_SH 35 (zq_ev rq (0, [(0, 1)])) (zq_ev rq (0, [(1, 1)])) (zq_ev rq (0, [(2, 1)])) (zq_ev rq (0, [(3, 1)])) (zq_ev rq (0, [(4, 1)])) (zq_ev rq (0, [(5, 1)])) (zq_ev rq (1, [(6, 1)])) (zq_ev rq (1, [(6, 1)])) P h; simp only [g0, g1, g2, g3, g4, g5, g6]; exact t1)) zq_fan)⟩
noncomputable def zk_s20 : zq_S × List zq_S := (([], [], [(-15, [(6, 1)]), (15, [(6, -1)])], [], [], [], [(295, [(0, [(0, 1)]), (0, [(1, 1)]), (0, [(2, 1)]), (0, [(3, 1)]), (0, [(4, 1)]), (0, [(5, 1)]), (0, [(6, 1)]), (0, [(6, 1)])])], 7), [([], [], [], [], [], [], [(293, [(0, [(0, 1)]), (0, [(1, 1)]), (0, [(2, 1)]), (0, [(3, 1)]), (15, []), (0, [(4, 1)]), (0, [(7, 1)])]), (313, [(0, [(5, 1)]), (0, [(7, 1)])])], 8)])
theorem zk_s20_l {P : zq_Ty} {h : zq_H} {jk jo jt jm M Z l : Int} (a1 : 0 ≤ l - 15) (a2 : 0 ≤ -l + 15) (k1 : zk_SH 35 jk jo jt jm M Z l l P h) : (∃ N : Int, zk_ZC 35 jk jo jt jm 15 M N P h ∧ zm_DR Z N P h) := by
  obtain ⟨w1, w2, w3, w4, n0, n1, n2, w5, w6⟩ := k1
  refine ⟨zz_dr Z, ⟨w1, w2, w3, w4, by omega, by omega, fun i x y => ?_⟩, rfl⟩
  obtain ⟨e1, e2⟩ := w5 i x (by omega)
  refine ⟨?_, fun j p q => ?_⟩
  · rw [zz_dr_dg (by omega), show 12 * i + 11 + 12 = 12 * (i + 1) + 11 by omega]; exact e1
  · rw [zz_dr_dg (by omega), show 12 * i + j + 12 = 12 * (i + 1) + j by omega, e2 j p q]
    have en : ∀ j : Int, 0 ≤ j → zk_N Z 16 M (i + 1) j = zk_N (zz_dr Z) 15 M i j := fun j p => by
      unfold zk_N
      by_cases e : i + 1 < 15
      · rw [if_pos (by omega), if_pos e, zz_dr_dg (by omega)]; congr 1; omega
      · rw [if_neg (by omega), if_neg e]
    unfold zk_U
    rw [en j p, en 10 (by omega)]
theorem zk_s20_ok {w : zq_Wd} (x_SH0 : zj_is w 295 (fun q => zk_SH 35 (q 0) (q 1) (q 2) (q 3) (q 4) (q 5) (q 6) (q 7))) (x_ZC0 : zj_is w 293 (fun q => zk_ZC 35 (q 0) (q 1) (q 2) (q 3) (q 4) (q 5) (q 6))) (x_DR : zj_is w 313 (fun q => zm_DR (q 0) (q 1))) : zq_okG1 w zk_s20 := by
  refine ⟨rfl, rfl, zu_fac ⟨rfl, by decide⟩ zq_fan, ?_⟩
  intro r P h H hM
  have q0 : zq_ev r (-15, [(6, 1)]) = r 6 - 15 := zu_e3 _ _ _
  have q1 : zq_ev r (15, [(6, -1)]) = -r 6 + 15 := zu_e5 _ _ _
  have q2 : zq_ev r (0, [(0, 1)]) = r 0 := zu_e1 _ _
  have q3 : zq_ev r (0, [(1, 1)]) = r 1 := zu_e1 _ _
  have q4 : zq_ev r (0, [(2, 1)]) = r 2 := zu_e1 _ _
  have q5 : zq_ev r (0, [(3, 1)]) = r 3 := zu_e1 _ _
  have q6 : zq_ev r (0, [(4, 1)]) = r 4 := zu_e1 _ _
  have q7 : zq_ev r (0, [(5, 1)]) = r 5 := zu_e1 _ _
  have q8 : zq_ev r (0, [(6, 1)]) = r 6 := zu_e1 _ _
  obtain ⟨hT, hC, hF, hS, -, hK⟩ := hM
  have c := hC.1
  have a1 := zq_all_1 c
  rw [q0] at a1
  have c := zq_all_t c
  have a2 := zq_all_1 c
  rw [q1] at a2
  have k1 := zj_use x_SH0 (hK)
  have k1 : zk_SH 35 (zq_ev r (0, [(0, 1)])) (zq_ev r (0, [(1, 1)])) (zq_ev r (0, [(2, 1)])) (zq_ev r (0, [(3, 1)])) (zq_ev r (0, [(4, 1)])) (zq_ev r (0, [(5, 1)])) (zq_ev r (0, [(6, 1)])) (zq_ev r (0, [(6, 1)])) P h := k1
  simp only [q2, q3, q4, q5, q6, q7, q8] at k1
  obtain ⟨y_0, t1, t2⟩ := zk_s20_l (P := P) (h := h) (jk := r 0) (jo := r 1) (jt := r 2) (jm := r 3) (M := r 4) (Z := r 5) (l := r 6) a1 a2 k1
  obtain ⟨rq, hr, w7⟩ : ∃ rq : Nat → Int, (∀ i, i < 7 → rq i = r i) ∧ rq 7 = y_0 := ⟨zq_up r 7 y_0, fun i hi => by rw [zu_up_ne (by omega)], rfl⟩
  have v0 : rq 0 = r 0 := hr 0 (by decide)
  have v1 : rq 1 = r 1 := hr 1 (by decide)
  have v2 : rq 2 = r 2 := hr 2 (by decide)
  have v3 : rq 3 = r 3 := hr 3 (by decide)
  have v4 : rq 4 = r 4 := hr 4 (by decide)
  have v5 : rq 5 = r 5 := hr 5 (by decide)
  have g0 : zq_ev rq (0, [(5, 1)]) = r 5 := zu_f1 v5
  have g1 : zq_ev rq (0, [(7, 1)]) = y_0 := zu_f1 w7
  have g2 : zq_ev rq (0, [(0, 1)]) = r 0 := zu_f1 v0
  have g3 : zq_ev rq (0, [(1, 1)]) = r 1 := zu_f1 v1
  have g4 : zq_ev rq (0, [(2, 1)]) = r 2 := zu_f1 v2
  have g5 : zq_ev rq (0, [(3, 1)]) = r 3 := zu_f1 v3
  have g6 : zq_ev rq (15, []) = 15 := zu_e0 _ _
  have g7 : zq_ev rq (0, [(4, 1)]) = r 4 := zu_f1 v4
  exact ⟨_, List.mem_cons_self .., rq, hr, zq_MeS_mk rfl hT (zq_all_nil) zq_fan (zq_fan) rfl (zu_fac ((x_ZC0 _ _ _).mpr (by show zk_ZC 35 (zq_ev rq (0, [(0, 1)])) (zq_ev rq (0, [(1, 1)])) (zq_ev rq (0, [(2, 1)])) (zq_ev rq (0, [(3, 1)])) (zq_ev rq (15, [])) (zq_ev rq (0, [(4, 1)])) (zq_ev rq (0, [(7, 1)])) P h; simp only [g1, g2, g3, g4, g5, g6, g7]; exact t1)) (zu_fac ((x_DR _ _ _).mpr (by show zm_DR (zq_ev rq (0, [(5, 1)])) (zq_ev rq (0, [(7, 1)])) P h; simp only [g0, g1]; exact t2)) zq_fan))⟩
noncomputable def zk_a0 : zq_S × List zq_S := (([], [], [(0, [(4, 1)]), (15, [(4, -1)]), (0, [(7, 1)]), (3, [(7, -1)]), (-1, [(4, -1), (12, 1)]), (1, [(4, 1), (12, -1)])], [], [((0, [(0, 1)]), (0, [(4, 1)]), (0, [(7, 1)])), ((0, [(1, 1)]), (0, [(4, 1)]), (0, [(8, 1)])), ((0, [(2, 1)]), (0, [(4, 1)]), (0, [(9, 1)])), ((0, [(3, 1)]), (0, [(4, 1)]), (0, [(10, 1)]))], [], [(293, [(0, [(0, 1)]), (0, [(1, 1)]), (0, [(2, 1)]), (0, [(3, 1)]), (0, [(4, 1)]), (0, [(5, 1)]), (0, [(6, 1)])]), (292, [(0, [(7, 1)]), (0, [(8, 1)]), (0, [(9, 1)]), (0, [(10, 1)]), (0, [(11, 1)]), (0, [(5, 1)])])], 13), [([], [], [], [], [], [], [(293, [(0, [(0, 1)]), (0, [(1, 1)]), (0, [(2, 1)]), (0, [(3, 1)]), (0, [(12, 1)]), (0, [(11, 1)]), (0, [(13, 1)])]), (291, [(0, [(6, 1)]), (0, [(4, 1)]), (0, [(5, 1)]), (0, [(7, 1)]), (0, [(12, 1)]), (0, [(13, 1)])])], 14)])
theorem zk_a0_l {P : zq_Ty} {h : zq_H} {jk jo jt jm n M Z k o t m N u : Int} (a1 : 0 ≤ n) (a2 : 0 ≤ -n + 15) (a3 : 0 ≤ k) (a4 : 0 ≤ -k + 3) (a5 : 0 ≤ -n + u - 1) (a6 : 0 ≤ n - u + 1) (s1 : 0 ≤ jk ∧ P (jk).toNat ≠ none ∧ h (jk).toNat n = k) (s2 : 0 ≤ jo ∧ P (jo).toNat ≠ none ∧ h (jo).toNat n = o) (s3 : 0 ≤ jt ∧ P (jt).toNat ≠ none ∧ h (jt).toNat n = t) (s4 : 0 ≤ jm ∧ P (jm).toNat ≠ none ∧ h (jm).toNat n = m) (k1 : zk_ZC 35 jk jo jt jm n M Z P h) (k2 : zk_UU k o t m N M P h) : (∃ Y : Int, zk_ZC 35 jk jo jt jm u N Y P h ∧ zm_PZ Z n M k u Y P h) := by
  obtain ⟨w1, w2, w3, w4, n0, n1, w5⟩ := k1
  have k2 : ∀ j : Int, 0 ≤ j → j < 11 → zn_dg M j = zk_U k o t m (zn_dg N) j := k2
  have hk : zn_in k := by unfold zn_in; omega
  have key : ∀ i : Int, 0 ≤ i → i < n + 1 → zk_E (h jk.toNat) (h jo.toNat) (h jt.toNat) (h jm.toNat) (zz_st Z n M k) (n + 1) N i i := by
    intro i x y
    have lo : ∀ j : Int, 0 ≤ j → j < 12 * n → zn_dg (zz_st Z n M k) j = zn_dg Z j := fun j p q => zz_st_lo (by omega) hk p q
    by_cases e : i = n
    · rw [e]
      refine ⟨?_, fun j p q => ?_⟩
      · rw [s1.2.2, zz_st_k hk]
      · rw [zz_st_in (by omega) hk p q, s1.2.2, s2.2.2, s3.2.2, s4.2.2, k2 j p q]
        have en : ∀ j : Int, zk_N (zz_st Z n M k) (n + 1) N n j = zn_dg N j := fun j => by unfold zk_N; rw [if_neg (by omega)]
        unfold zk_U
        rw [en j, en 10]
    · obtain ⟨e1, e2⟩ := w5 i x (by omega)
      refine ⟨by rw [lo _ (by omega) (by omega)]; exact e1, fun j p q => ?_⟩
      rw [lo _ (by omega) (by omega), e2 j p q]
      have en : ∀ j : Int, 0 ≤ j → j < 11 → zk_N (zz_st Z n M k) (n + 1) N i j = zk_N Z n M i j := fun j p q => by
        unfold zk_N
        rw [if_pos (by omega)]
        by_cases e3 : i + 1 < n
        · rw [if_pos e3, lo _ (by omega) (by omega)]
        · rw [if_neg e3, show i + 1 = n by omega, zz_st_in (by omega) hk p q]
      unfold zk_U
      rw [en j p q, en 10 (by omega) (by omega)]
  
  have hu : u = n + 1 := by omega
  subst hu
  exact ⟨zz_st Z n M k, ⟨w1, w2, w3, w4, by omega, by omega, key⟩, by unfold zz_n; rw [if_neg (by omega)], by unfold zz_Z; rw [if_neg (by omega)]⟩
theorem zk_a0_ok {w : zq_Wd} (x_ZC0 : zj_is w 293 (fun q => zk_ZC 35 (q 0) (q 1) (q 2) (q 3) (q 4) (q 5) (q 6))) (x_UU : zj_is w 292 (fun q => zk_UU (q 0) (q 1) (q 2) (q 3) (q 4) (q 5))) (x_PZ : zj_is w 291 (fun q => zm_PZ (q 0) (q 1) (q 2) (q 3) (q 4) (q 5))) : zq_okG1 w zk_a0 := by
  refine ⟨rfl, rfl, zu_fac ⟨rfl, by decide⟩ zq_fan, ?_⟩
  intro r P h H hM
  have q0 : zq_ev r (0, [(4, 1)]) = r 4 := zu_e1 _ _
  have q1 : zq_ev r (15, [(4, -1)]) = -r 4 + 15 := zu_e5 _ _ _
  have q2 : zq_ev r (0, [(7, 1)]) = r 7 := zu_e1 _ _
  have q3 : zq_ev r (3, [(7, -1)]) = -r 7 + 3 := zu_e5 _ _ _
  have q4 : zq_ev r (-1, [(4, -1), (12, 1)]) = -r 4 + r 12 - 1 := by simp only [zq_ev, zq_ts] <;> omega
  have q5 : zq_ev r (1, [(4, 1), (12, -1)]) = r 4 - r 12 + 1 := by simp only [zq_ev, zq_ts] <;> omega
  have q6 : zq_ev r (0, [(0, 1)]) = r 0 := zu_e1 _ _
  have q7 : zq_ev r (0, [(1, 1)]) = r 1 := zu_e1 _ _
  have q8 : zq_ev r (0, [(8, 1)]) = r 8 := zu_e1 _ _
  have q9 : zq_ev r (0, [(2, 1)]) = r 2 := zu_e1 _ _
  have q10 : zq_ev r (0, [(9, 1)]) = r 9 := zu_e1 _ _
  have q11 : zq_ev r (0, [(3, 1)]) = r 3 := zu_e1 _ _
  have q12 : zq_ev r (0, [(10, 1)]) = r 10 := zu_e1 _ _
  have q13 : zq_ev r (0, [(5, 1)]) = r 5 := zu_e1 _ _
  have q14 : zq_ev r (0, [(6, 1)]) = r 6 := zu_e1 _ _
  have q15 : zq_ev r (0, [(11, 1)]) = r 11 := zu_e1 _ _
  obtain ⟨hT, hC, hF, hS, -, hK⟩ := hM
  have c := hC.1
  have a1 := zq_all_1 c
  rw [q0] at a1
  have c := zq_all_t c
  have a2 := zq_all_1 c
  rw [q1] at a2
  have c := zq_all_t c
  have a3 := zq_all_1 c
  rw [q2] at a3
  have c := zq_all_t c
  have a4 := zq_all_1 c
  rw [q3] at a4
  have c := zq_all_t c
  have a5 := zq_all_1 c
  rw [q4] at a5
  have c := zq_all_t c
  have a6 := zq_all_1 c
  rw [q5] at a6
  have s1 := zq_okS_1 (hS)
  simp only [q0, q2, q6] at s1
  have s2 := zq_okS_1 (zq_okS_t (hS))
  simp only [q0, q7, q8] at s2
  have s3 := zq_okS_1 (zq_okS_t (zq_okS_t (hS)))
  simp only [q0, q10, q9] at s3
  have s4 := zq_okS_1 (zq_okS_t (zq_okS_t (zq_okS_t (hS))))
  simp only [q0, q11, q12] at s4
  have k1 := zj_use x_ZC0 (hK)
  have k1 : zk_ZC 35 (zq_ev r (0, [(0, 1)])) (zq_ev r (0, [(1, 1)])) (zq_ev r (0, [(2, 1)])) (zq_ev r (0, [(3, 1)])) (zq_ev r (0, [(4, 1)])) (zq_ev r (0, [(5, 1)])) (zq_ev r (0, [(6, 1)])) P h := k1
  simp only [q0, q11, q13, q14, q6, q7, q9] at k1
  have k2 := zj_use x_UU (zq_okX_t (hK))
  have k2 : zk_UU (zq_ev r (0, [(7, 1)])) (zq_ev r (0, [(8, 1)])) (zq_ev r (0, [(9, 1)])) (zq_ev r (0, [(10, 1)])) (zq_ev r (0, [(11, 1)])) (zq_ev r (0, [(5, 1)])) P h := k2
  simp only [q10, q12, q13, q15, q2, q8] at k2
  obtain ⟨y_0, t1, t2⟩ := zk_a0_l (P := P) (h := h) (jk := r 0) (jo := r 1) (jt := r 2) (jm := r 3) (n := r 4) (M := r 5) (Z := r 6) (k := r 7) (o := r 8) (t := r 9) (m := r 10) (N := r 11) (u := r 12) a1 a2 a3 a4 a5 a6 s1 s2 s3 s4 k1 k2
  obtain ⟨rq, hr, w13⟩ : ∃ rq : Nat → Int, (∀ i, i < 13 → rq i = r i) ∧ rq 13 = y_0 := ⟨zq_up r 13 y_0, fun i hi => by rw [zu_up_ne (by omega)], rfl⟩
  have v0 : rq 0 = r 0 := hr 0 (by decide)
  have v1 : rq 1 = r 1 := hr 1 (by decide)
  have v2 : rq 2 = r 2 := hr 2 (by decide)
  have v3 : rq 3 = r 3 := hr 3 (by decide)
  have v4 : rq 4 = r 4 := hr 4 (by decide)
  have v5 : rq 5 = r 5 := hr 5 (by decide)
  have v6 : rq 6 = r 6 := hr 6 (by decide)
  have v7 : rq 7 = r 7 := hr 7 (by decide)
  have v11 : rq 11 = r 11 := hr 11 (by decide)
  have v12 : rq 12 = r 12 := hr 12 (by decide)
  have g0 : zq_ev rq (0, [(6, 1)]) = r 6 := zu_f1 v6
  have g1 : zq_ev rq (0, [(4, 1)]) = r 4 := zu_f1 v4
  have g2 : zq_ev rq (0, [(5, 1)]) = r 5 := zu_f1 v5
  have g3 : zq_ev rq (0, [(7, 1)]) = r 7 := zu_f1 v7
  have g4 : zq_ev rq (0, [(12, 1)]) = r 12 := zu_f1 v12
  have g5 : zq_ev rq (0, [(13, 1)]) = y_0 := zu_f1 w13
  have g6 : zq_ev rq (0, [(0, 1)]) = r 0 := zu_f1 v0
  have g7 : zq_ev rq (0, [(1, 1)]) = r 1 := zu_f1 v1
  have g8 : zq_ev rq (0, [(2, 1)]) = r 2 := zu_f1 v2
  have g9 : zq_ev rq (0, [(3, 1)]) = r 3 := zu_f1 v3
  have g10 : zq_ev rq (0, [(11, 1)]) = r 11 := zu_f1 v11
  exact ⟨_, List.mem_cons_self .., rq, hr, zq_MeS_mk rfl hT (zq_all_nil) zq_fan (zq_fan) rfl (zu_fac ((x_ZC0 _ _ _).mpr (by show zk_ZC 35 (zq_ev rq (0, [(0, 1)])) (zq_ev rq (0, [(1, 1)])) (zq_ev rq (0, [(2, 1)])) (zq_ev rq (0, [(3, 1)])) (zq_ev rq (0, [(12, 1)])) (zq_ev rq (0, [(11, 1)])) (zq_ev rq (0, [(13, 1)])) P h; simp only [g10, g4, g5, g6, g7, g8, g9]; exact t1)) (zu_fac ((x_PZ _ _ _).mpr (by show zm_PZ (zq_ev rq (0, [(6, 1)])) (zq_ev rq (0, [(4, 1)])) (zq_ev rq (0, [(5, 1)])) (zq_ev rq (0, [(7, 1)])) (zq_ev rq (0, [(12, 1)])) (zq_ev rq (0, [(13, 1)])) P h; simp only [g0, g1, g2, g3, g4, g5]; exact t2)) zq_fan))⟩
noncomputable def zk_b0 : zq_S × List zq_S := (([], [], [(-16, [(4, 1)]), (16, [(4, -1)]), (0, [(8, 1)]), (3, [(8, -1)]), (-16, [(13, 1)]), (16, [(13, -1)])], [], [((0, [(0, 1)]), (15, []), (0, [(8, 1)])), ((0, [(1, 1)]), (15, []), (0, [(9, 1)])), ((0, [(2, 1)]), (15, []), (0, [(10, 1)])), ((0, [(3, 1)]), (15, []), (0, [(11, 1)]))], [], [(293, [(0, [(0, 1)]), (0, [(1, 1)]), (0, [(2, 1)]), (0, [(3, 1)]), (15, []), (0, [(5, 1)]), (0, [(7, 1)])]), (292, [(0, [(8, 1)]), (0, [(9, 1)]), (0, [(10, 1)]), (0, [(11, 1)]), (0, [(12, 1)]), (0, [(5, 1)])]), (313, [(0, [(6, 1)]), (0, [(7, 1)])])], 14), [([], [], [], [], [], [], [(293, [(0, [(0, 1)]), (0, [(1, 1)]), (0, [(2, 1)]), (0, [(3, 1)]), (0, [(13, 1)]), (0, [(12, 1)]), (0, [(14, 1)])]), (291, [(0, [(6, 1)]), (0, [(4, 1)]), (0, [(5, 1)]), (0, [(8, 1)]), (0, [(13, 1)]), (0, [(14, 1)])])], 15)])
theorem zk_b0_l {P : zq_Ty} {h : zq_H} {jk jo jt jm n M Z X k o t m N u : Int} (a1 : 0 ≤ n - 16) (a2 : 0 ≤ -n + 16) (a3 : 0 ≤ k) (a4 : 0 ≤ -k + 3) (a5 : 0 ≤ u - 16) (a6 : 0 ≤ -u + 16) (s1 : 0 ≤ jk ∧ P (jk).toNat ≠ none ∧ h (jk).toNat 15 = k) (s2 : 0 ≤ jo ∧ P (jo).toNat ≠ none ∧ h (jo).toNat 15 = o) (s3 : 0 ≤ jt ∧ P (jt).toNat ≠ none ∧ h (jt).toNat 15 = t) (s4 : 0 ≤ jm ∧ P (jm).toNat ≠ none ∧ h (jm).toNat 15 = m) (k1 : zk_ZC 35 jk jo jt jm 15 M X P h) (k2 : zk_UU k o t m N M P h) (k3 : zm_DR Z X P h) : (∃ Y : Int, zk_ZC 35 jk jo jt jm u N Y P h ∧ zm_PZ Z n M k u Y P h) := by
  obtain ⟨w1, w2, w3, w4, n0, n1, w5⟩ := k1
  have k2 : ∀ j : Int, 0 ≤ j → j < 11 → zn_dg M j = zk_U k o t m (zn_dg N) j := k2
  have hk : zn_in k := by unfold zn_in; omega
  have key : ∀ i : Int, 0 ≤ i → i < 15 + 1 → zk_E (h jk.toNat) (h jo.toNat) (h jt.toNat) (h jm.toNat) (zz_st X 15 M k) (15 + 1) N i i := by
    intro i x y
    have lo : ∀ j : Int, 0 ≤ j → j < 12 * 15 → zn_dg (zz_st X 15 M k) j = zn_dg X j := fun j p q => zz_st_lo (by omega) hk p q
    by_cases e : i = 15
    · rw [e]
      refine ⟨?_, fun j p q => ?_⟩
      · rw [s1.2.2, zz_st_k hk]
      · rw [zz_st_in (by omega) hk p q, s1.2.2, s2.2.2, s3.2.2, s4.2.2, k2 j p q]
        have en : ∀ j : Int, zk_N (zz_st X 15 M k) (15 + 1) N 15 j = zn_dg N j := fun j => by unfold zk_N; rw [if_neg (by omega)]
        unfold zk_U
        rw [en j, en 10]
    · obtain ⟨e1, e2⟩ := w5 i x (by omega)
      refine ⟨by rw [lo _ (by omega) (by omega)]; exact e1, fun j p q => ?_⟩
      rw [lo _ (by omega) (by omega), e2 j p q]
      have en : ∀ j : Int, 0 ≤ j → j < 11 → zk_N (zz_st X 15 M k) (15 + 1) N i j = zk_N X 15 M i j := fun j p q => by
        unfold zk_N
        rw [if_pos (by omega)]
        by_cases e3 : i + 1 < 15
        · rw [if_pos e3, lo _ (by omega) (by omega)]
        · rw [if_neg e3, show i + 1 = 15 by omega, zz_st_in (by omega) hk p q]
      unfold zk_U
      rw [en j p q, en 10 (by omega) (by omega)]
  
  have hu : u = 15 + 1 := by omega
  subst hu
  have k3 : X = zz_dr Z := k3
  exact ⟨zz_st X 15 M k, ⟨w1, w2, w3, w4, by omega, by omega, key⟩, by unfold zz_n; rw [if_pos (by omega)]; omega, by unfold zz_Z; rw [if_pos (by omega), k3]⟩
theorem zk_b0_ok {w : zq_Wd} (x_ZC0 : zj_is w 293 (fun q => zk_ZC 35 (q 0) (q 1) (q 2) (q 3) (q 4) (q 5) (q 6))) (x_UU : zj_is w 292 (fun q => zk_UU (q 0) (q 1) (q 2) (q 3) (q 4) (q 5))) (x_DR : zj_is w 313 (fun q => zm_DR (q 0) (q 1))) (x_PZ : zj_is w 291 (fun q => zm_PZ (q 0) (q 1) (q 2) (q 3) (q 4) (q 5))) : zq_okG1 w zk_b0 := by
  refine ⟨rfl, rfl, zu_fac ⟨rfl, by decide⟩ zq_fan, ?_⟩
  intro r P h H hM
  have q0 : zq_ev r (-16, [(4, 1)]) = r 4 - 16 := zu_e3 _ _ _
  have q1 : zq_ev r (16, [(4, -1)]) = -r 4 + 16 := zu_e5 _ _ _
  have q2 : zq_ev r (0, [(8, 1)]) = r 8 := zu_e1 _ _
  have q3 : zq_ev r (3, [(8, -1)]) = -r 8 + 3 := zu_e5 _ _ _
  have q4 : zq_ev r (-16, [(13, 1)]) = r 13 - 16 := zu_e3 _ _ _
  have q5 : zq_ev r (16, [(13, -1)]) = -r 13 + 16 := zu_e5 _ _ _
  have q6 : zq_ev r (0, [(0, 1)]) = r 0 := zu_e1 _ _
  have q7 : zq_ev r (15, []) = 15 := zu_e0 _ _
  have q8 : zq_ev r (0, [(1, 1)]) = r 1 := zu_e1 _ _
  have q9 : zq_ev r (0, [(9, 1)]) = r 9 := zu_e1 _ _
  have q10 : zq_ev r (0, [(2, 1)]) = r 2 := zu_e1 _ _
  have q11 : zq_ev r (0, [(10, 1)]) = r 10 := zu_e1 _ _
  have q12 : zq_ev r (0, [(3, 1)]) = r 3 := zu_e1 _ _
  have q13 : zq_ev r (0, [(11, 1)]) = r 11 := zu_e1 _ _
  have q14 : zq_ev r (0, [(5, 1)]) = r 5 := zu_e1 _ _
  have q15 : zq_ev r (0, [(7, 1)]) = r 7 := zu_e1 _ _
  have q16 : zq_ev r (0, [(12, 1)]) = r 12 := zu_e1 _ _
  have q17 : zq_ev r (0, [(6, 1)]) = r 6 := zu_e1 _ _
  obtain ⟨hT, hC, hF, hS, -, hK⟩ := hM
  have c := hC.1
  have a1 := zq_all_1 c
  rw [q0] at a1
  have c := zq_all_t c
  have a2 := zq_all_1 c
  rw [q1] at a2
  have c := zq_all_t c
  have a3 := zq_all_1 c
  rw [q2] at a3
  have c := zq_all_t c
  have a4 := zq_all_1 c
  rw [q3] at a4
  have c := zq_all_t c
  have a5 := zq_all_1 c
  rw [q4] at a5
  have c := zq_all_t c
  have a6 := zq_all_1 c
  rw [q5] at a6
  have s1 := zq_okS_1 (hS)
  simp only [q2, q6, q7] at s1
  have s2 := zq_okS_1 (zq_okS_t (hS))
  simp only [q7, q8, q9] at s2
  have s3 := zq_okS_1 (zq_okS_t (zq_okS_t (hS)))
  simp only [q10, q11, q7] at s3
  have s4 := zq_okS_1 (zq_okS_t (zq_okS_t (zq_okS_t (hS))))
  simp only [q12, q13, q7] at s4
  have k1 := zj_use x_ZC0 (hK)
  have k1 : zk_ZC 35 (zq_ev r (0, [(0, 1)])) (zq_ev r (0, [(1, 1)])) (zq_ev r (0, [(2, 1)])) (zq_ev r (0, [(3, 1)])) (zq_ev r (15, [])) (zq_ev r (0, [(5, 1)])) (zq_ev r (0, [(7, 1)])) P h := k1
  simp only [q10, q12, q14, q15, q6, q7, q8] at k1
  have k2 := zj_use x_UU (zq_okX_t (hK))
  have k2 : zk_UU (zq_ev r (0, [(8, 1)])) (zq_ev r (0, [(9, 1)])) (zq_ev r (0, [(10, 1)])) (zq_ev r (0, [(11, 1)])) (zq_ev r (0, [(12, 1)])) (zq_ev r (0, [(5, 1)])) P h := k2
  simp only [q11, q13, q14, q16, q2, q9] at k2
  have k3 := zj_use x_DR (zq_okX_t (zq_okX_t (hK)))
  have k3 : zm_DR (zq_ev r (0, [(6, 1)])) (zq_ev r (0, [(7, 1)])) P h := k3
  simp only [q15, q17] at k3
  obtain ⟨y_0, t1, t2⟩ := zk_b0_l (P := P) (h := h) (jk := r 0) (jo := r 1) (jt := r 2) (jm := r 3) (n := r 4) (M := r 5) (Z := r 6) (X := r 7) (k := r 8) (o := r 9) (t := r 10) (m := r 11) (N := r 12) (u := r 13) a1 a2 a3 a4 a5 a6 s1 s2 s3 s4 k1 k2 k3
  obtain ⟨rq, hr, w14⟩ : ∃ rq : Nat → Int, (∀ i, i < 14 → rq i = r i) ∧ rq 14 = y_0 := ⟨zq_up r 14 y_0, fun i hi => by rw [zu_up_ne (by omega)], rfl⟩
  have v0 : rq 0 = r 0 := hr 0 (by decide)
  have v1 : rq 1 = r 1 := hr 1 (by decide)
  have v2 : rq 2 = r 2 := hr 2 (by decide)
  have v3 : rq 3 = r 3 := hr 3 (by decide)
  have v4 : rq 4 = r 4 := hr 4 (by decide)
  have v5 : rq 5 = r 5 := hr 5 (by decide)
  have v6 : rq 6 = r 6 := hr 6 (by decide)
  have v8 : rq 8 = r 8 := hr 8 (by decide)
  have v12 : rq 12 = r 12 := hr 12 (by decide)
  have v13 : rq 13 = r 13 := hr 13 (by decide)
  have g0 : zq_ev rq (0, [(6, 1)]) = r 6 := zu_f1 v6
  have g1 : zq_ev rq (0, [(4, 1)]) = r 4 := zu_f1 v4
  have g2 : zq_ev rq (0, [(5, 1)]) = r 5 := zu_f1 v5
  have g3 : zq_ev rq (0, [(8, 1)]) = r 8 := zu_f1 v8
  have g4 : zq_ev rq (0, [(13, 1)]) = r 13 := zu_f1 v13
  have g5 : zq_ev rq (0, [(14, 1)]) = y_0 := zu_f1 w14
  have g6 : zq_ev rq (0, [(0, 1)]) = r 0 := zu_f1 v0
  have g7 : zq_ev rq (0, [(1, 1)]) = r 1 := zu_f1 v1
  have g8 : zq_ev rq (0, [(2, 1)]) = r 2 := zu_f1 v2
  have g9 : zq_ev rq (0, [(3, 1)]) = r 3 := zu_f1 v3
  have g10 : zq_ev rq (0, [(12, 1)]) = r 12 := zu_f1 v12
  exact ⟨_, List.mem_cons_self .., rq, hr, zq_MeS_mk rfl hT (zq_all_nil) zq_fan (zq_fan) rfl (zu_fac ((x_ZC0 _ _ _).mpr (by show zk_ZC 35 (zq_ev rq (0, [(0, 1)])) (zq_ev rq (0, [(1, 1)])) (zq_ev rq (0, [(2, 1)])) (zq_ev rq (0, [(3, 1)])) (zq_ev rq (0, [(13, 1)])) (zq_ev rq (0, [(12, 1)])) (zq_ev rq (0, [(14, 1)])) P h; simp only [g10, g4, g5, g6, g7, g8, g9]; exact t1)) (zu_fac ((x_PZ _ _ _).mpr (by show zm_PZ (zq_ev rq (0, [(6, 1)])) (zq_ev rq (0, [(4, 1)])) (zq_ev rq (0, [(5, 1)])) (zq_ev rq (0, [(8, 1)])) (zq_ev rq (0, [(13, 1)])) (zq_ev rq (0, [(14, 1)])) P h; simp only [g0, g1, g2, g3, g4, g5]; exact t2)) zq_fan))⟩
noncomputable def zk_s01 : zq_S × List zq_S := (([], [], [(-16, [(6, 1)]), (16, [(6, -1)])], [], [], [], [(294, [(0, [(0, 1)]), (0, [(1, 1)]), (0, [(2, 1)]), (0, [(3, 1)]), (0, [(6, 1)]), (0, [(4, 1)]), (0, [(5, 1)])])], 7), [([], [], [], [], [], [], [(296, [(0, [(0, 1)]), (0, [(1, 1)]), (0, [(2, 1)]), (0, [(3, 1)]), (0, [(4, 1)]), (0, [(5, 1)]), (0, []), (0, [])])], 7)])
theorem zk_s01_l {P : zq_Ty} {h : zq_H} {jk jo jt jm M Z n : Int} (a1 : 0 ≤ n - 16) (a2 : 0 ≤ -n + 16) (k1 : zk_ZC 50 jk jo jt jm n M Z P h) : (zk_SH 50 jk jo jt jm M Z 0 0 P h) := by
  obtain ⟨w1, w2, w3, w4, n0, n1, w5⟩ := k1
  have hn : n = 16 := by omega
  subst hn
  exact ⟨w1, w2, w3, w4, by omega, by omega, by omega, fun q x y => by omega, fun q x y => w5 q x y⟩
theorem zk_s01_ok {w : zq_Wd} (x_ZC1 : zj_is w 294 (fun q => zk_ZC 50 (q 0) (q 1) (q 2) (q 3) (q 4) (q 5) (q 6))) (x_SH1 : zj_is w 296 (fun q => zk_SH 50 (q 0) (q 1) (q 2) (q 3) (q 4) (q 5) (q 6) (q 7))) : zq_okG1 w zk_s01 := by
  refine ⟨rfl, rfl, zu_fac ⟨rfl, by decide⟩ zq_fan, ?_⟩
  intro r P h H hM
  have q0 : zq_ev r (-16, [(6, 1)]) = r 6 - 16 := zu_e3 _ _ _
  have q1 : zq_ev r (16, [(6, -1)]) = -r 6 + 16 := zu_e5 _ _ _
  have q2 : zq_ev r (0, [(0, 1)]) = r 0 := zu_e1 _ _
  have q3 : zq_ev r (0, [(1, 1)]) = r 1 := zu_e1 _ _
  have q4 : zq_ev r (0, [(2, 1)]) = r 2 := zu_e1 _ _
  have q5 : zq_ev r (0, [(3, 1)]) = r 3 := zu_e1 _ _
  have q6 : zq_ev r (0, [(6, 1)]) = r 6 := zu_e1 _ _
  have q7 : zq_ev r (0, [(4, 1)]) = r 4 := zu_e1 _ _
  have q8 : zq_ev r (0, [(5, 1)]) = r 5 := zu_e1 _ _
  obtain ⟨hT, hC, hF, hS, -, hK⟩ := hM
  have c := hC.1
  have a1 := zq_all_1 c
  rw [q0] at a1
  have c := zq_all_t c
  have a2 := zq_all_1 c
  rw [q1] at a2
  have k1 := zj_use x_ZC1 (hK)
  have k1 : zk_ZC 50 (zq_ev r (0, [(0, 1)])) (zq_ev r (0, [(1, 1)])) (zq_ev r (0, [(2, 1)])) (zq_ev r (0, [(3, 1)])) (zq_ev r (0, [(6, 1)])) (zq_ev r (0, [(4, 1)])) (zq_ev r (0, [(5, 1)])) P h := k1
  simp only [q2, q3, q4, q5, q6, q7, q8] at k1
  obtain t1 := zk_s01_l (P := P) (h := h) (jk := r 0) (jo := r 1) (jt := r 2) (jm := r 3) (M := r 4) (Z := r 5) (n := r 6) a1 a2 k1
  obtain ⟨rq, hr⟩ : ∃ rq : Nat → Int, (∀ i, i < 7 → rq i = r i) := ⟨r, fun i hi => rfl⟩
  have v0 : rq 0 = r 0 := hr 0 (by decide)
  have v1 : rq 1 = r 1 := hr 1 (by decide)
  have v2 : rq 2 = r 2 := hr 2 (by decide)
  have v3 : rq 3 = r 3 := hr 3 (by decide)
  have v4 : rq 4 = r 4 := hr 4 (by decide)
  have v5 : rq 5 = r 5 := hr 5 (by decide)
  have g0 : zq_ev rq (0, [(0, 1)]) = r 0 := zu_f1 v0
  have g1 : zq_ev rq (0, [(1, 1)]) = r 1 := zu_f1 v1
  have g2 : zq_ev rq (0, [(2, 1)]) = r 2 := zu_f1 v2
  have g3 : zq_ev rq (0, [(3, 1)]) = r 3 := zu_f1 v3
  have g4 : zq_ev rq (0, [(4, 1)]) = r 4 := zu_f1 v4
  have g5 : zq_ev rq (0, [(5, 1)]) = r 5 := zu_f1 v5
  have g6 : zq_ev rq (0, []) = 0 := zu_e0 _ _
  exact ⟨_, List.mem_cons_self .., rq, hr, zq_MeS_mk rfl hT (zq_all_nil) zq_fan (zq_fan) rfl (zu_fac ((x_SH1 _ _ _).mpr (by show zk_SH 50 (zq_ev rq (0, [(0, 1)])) (zq_ev rq (0, [(1, 1)])) (zq_ev rq (0, [(2, 1)])) (zq_ev rq (0, [(3, 1)])) (zq_ev rq (0, [(4, 1)])) (zq_ev rq (0, [(5, 1)])) (zq_ev rq (0, [])) (zq_ev rq (0, [])) P h; simp only [g0, g1, g2, g3, g4, g5, g6]; exact t1)) zq_fan)⟩
noncomputable def zk_sw1 : zq_S × List zq_S := (([], [], [(0, [(7, -1), (8, 1)]), (16, [(8, -1)])], [], [], [], [(296, [(0, [(0, 1)]), (0, [(1, 1)]), (0, [(2, 1)]), (0, [(3, 1)]), (0, [(4, 1)]), (0, [(5, 1)]), (0, [(6, 1)]), (0, [(7, 1)])])], 9), [([], [], [], [], [], [], [(296, [(0, [(0, 1)]), (0, [(1, 1)]), (0, [(2, 1)]), (0, [(3, 1)]), (0, [(4, 1)]), (0, [(5, 1)]), (0, [(6, 1)]), (0, [(8, 1)])])], 9)])
theorem zk_sw1_l {P : zq_Ty} {h : zq_H} {jk jo jt jm M Z l u v : Int} (a1 : 0 ≤ -u + v) (a2 : 0 ≤ -v + 16) (k1 : zk_SH 50 jk jo jt jm M Z l u P h) : (zk_SH 50 jk jo jt jm M Z l v P h) := by
  obtain ⟨w1, w2, w3, w4, n0, n1, n2, w5, w6⟩ := k1
  exact ⟨w1, w2, w3, w4, n0, by omega, by omega, w5, fun q x y => w6 q (by omega) y⟩
theorem zk_sw1_ok {w : zq_Wd} (x_SH1 : zj_is w 296 (fun q => zk_SH 50 (q 0) (q 1) (q 2) (q 3) (q 4) (q 5) (q 6) (q 7))) : zq_okG1 w zk_sw1 := by
  refine ⟨rfl, rfl, zu_fac ⟨rfl, by decide⟩ zq_fan, ?_⟩
  intro r P h H hM
  have q0 : zq_ev r (0, [(7, -1), (8, 1)]) = -r 7 + r 8 := by simp only [zq_ev, zq_ts] <;> omega
  have q1 : zq_ev r (16, [(8, -1)]) = -r 8 + 16 := zu_e5 _ _ _
  have q2 : zq_ev r (0, [(0, 1)]) = r 0 := zu_e1 _ _
  have q3 : zq_ev r (0, [(1, 1)]) = r 1 := zu_e1 _ _
  have q4 : zq_ev r (0, [(2, 1)]) = r 2 := zu_e1 _ _
  have q5 : zq_ev r (0, [(3, 1)]) = r 3 := zu_e1 _ _
  have q6 : zq_ev r (0, [(4, 1)]) = r 4 := zu_e1 _ _
  have q7 : zq_ev r (0, [(5, 1)]) = r 5 := zu_e1 _ _
  have q8 : zq_ev r (0, [(6, 1)]) = r 6 := zu_e1 _ _
  have q9 : zq_ev r (0, [(7, 1)]) = r 7 := zu_e1 _ _
  obtain ⟨hT, hC, hF, hS, -, hK⟩ := hM
  have c := hC.1
  have a1 := zq_all_1 c
  rw [q0] at a1
  have c := zq_all_t c
  have a2 := zq_all_1 c
  rw [q1] at a2
  have k1 := zj_use x_SH1 (hK)
  have k1 : zk_SH 50 (zq_ev r (0, [(0, 1)])) (zq_ev r (0, [(1, 1)])) (zq_ev r (0, [(2, 1)])) (zq_ev r (0, [(3, 1)])) (zq_ev r (0, [(4, 1)])) (zq_ev r (0, [(5, 1)])) (zq_ev r (0, [(6, 1)])) (zq_ev r (0, [(7, 1)])) P h := k1
  simp only [q2, q3, q4, q5, q6, q7, q8, q9] at k1
  obtain t1 := zk_sw1_l (P := P) (h := h) (jk := r 0) (jo := r 1) (jt := r 2) (jm := r 3) (M := r 4) (Z := r 5) (l := r 6) (u := r 7) (v := r 8) a1 a2 k1
  obtain ⟨rq, hr⟩ : ∃ rq : Nat → Int, (∀ i, i < 9 → rq i = r i) := ⟨r, fun i hi => rfl⟩
  have v0 : rq 0 = r 0 := hr 0 (by decide)
  have v1 : rq 1 = r 1 := hr 1 (by decide)
  have v2 : rq 2 = r 2 := hr 2 (by decide)
  have v3 : rq 3 = r 3 := hr 3 (by decide)
  have v4 : rq 4 = r 4 := hr 4 (by decide)
  have v5 : rq 5 = r 5 := hr 5 (by decide)
  have v6 : rq 6 = r 6 := hr 6 (by decide)
  have v8 : rq 8 = r 8 := hr 8 (by decide)
  have g0 : zq_ev rq (0, [(0, 1)]) = r 0 := zu_f1 v0
  have g1 : zq_ev rq (0, [(1, 1)]) = r 1 := zu_f1 v1
  have g2 : zq_ev rq (0, [(2, 1)]) = r 2 := zu_f1 v2
  have g3 : zq_ev rq (0, [(3, 1)]) = r 3 := zu_f1 v3
  have g4 : zq_ev rq (0, [(4, 1)]) = r 4 := zu_f1 v4
  have g5 : zq_ev rq (0, [(5, 1)]) = r 5 := zu_f1 v5
  have g6 : zq_ev rq (0, [(6, 1)]) = r 6 := zu_f1 v6
  have g7 : zq_ev rq (0, [(8, 1)]) = r 8 := zu_f1 v8
  exact ⟨_, List.mem_cons_self .., rq, hr, zq_MeS_mk rfl hT (zq_all_nil) zq_fan (zq_fan) rfl (zu_fac ((x_SH1 _ _ _).mpr (by show zk_SH 50 (zq_ev rq (0, [(0, 1)])) (zq_ev rq (0, [(1, 1)])) (zq_ev rq (0, [(2, 1)])) (zq_ev rq (0, [(3, 1)])) (zq_ev rq (0, [(4, 1)])) (zq_ev rq (0, [(5, 1)])) (zq_ev rq (0, [(6, 1)])) (zq_ev rq (0, [(8, 1)])) P h; simp only [g0, g1, g2, g3, g4, g5, g6, g7]; exact t1)) zq_fan)⟩
noncomputable def zk_s11 : zq_S × List zq_S := (([], [], [(0, [(6, 1)]), (14, [(6, -1)]), (0, [(7, -1), (11, 1)]), (0, [(7, 1), (11, -1)]), (0, [(8, -1), (12, 1)]), (0, [(8, 1), (12, -1)]), (0, [(9, -1), (13, 1)]), (0, [(9, 1), (13, -1)]), (0, [(10, -1), (14, 1)]), (0, [(10, 1), (14, -1)])], [], [((0, [(0, 1)]), (0, [(6, 1)]), (0, [(7, 1)])), ((0, [(1, 1)]), (0, [(6, 1)]), (0, [(8, 1)])), ((0, [(2, 1)]), (0, [(6, 1)]), (0, [(9, 1)])), ((0, [(3, 1)]), (0, [(6, 1)]), (0, [(10, 1)])), ((0, [(0, 1)]), (1, [(6, 1)]), (0, [(11, 1)])), ((0, [(1, 1)]), (1, [(6, 1)]), (0, [(12, 1)])), ((0, [(2, 1)]), (1, [(6, 1)]), (0, [(13, 1)])), ((0, [(3, 1)]), (1, [(6, 1)]), (0, [(14, 1)]))], [], [(296, [(0, [(0, 1)]), (0, [(1, 1)]), (0, [(2, 1)]), (0, [(3, 1)]), (0, [(4, 1)]), (0, [(5, 1)]), (0, [(6, 1)]), (1, [(6, 1)])])], 15), [([], [], [], [], [], [], [(296, [(0, [(0, 1)]), (0, [(1, 1)]), (0, [(2, 1)]), (0, [(3, 1)]), (0, [(4, 1)]), (0, [(5, 1)]), (1, [(6, 1)]), (1, [(6, 1)])])], 15)])
theorem zk_s11_l {P : zq_Ty} {h : zq_H} {jk jo jt jm M Z i k o t m a b c d : Int} (a1 : 0 ≤ i) (a2 : 0 ≤ -i + 14) (a3 : 0 ≤ -k + a) (a4 : 0 ≤ k - a) (a5 : 0 ≤ -o + b) (a6 : 0 ≤ o - b) (a7 : 0 ≤ -t + c) (a8 : 0 ≤ t - c) (a9 : 0 ≤ -m + d) (a10 : 0 ≤ m - d) (s1 : 0 ≤ jk ∧ P (jk).toNat ≠ none ∧ h (jk).toNat i = k) (s2 : 0 ≤ jo ∧ P (jo).toNat ≠ none ∧ h (jo).toNat i = o) (s3 : 0 ≤ jt ∧ P (jt).toNat ≠ none ∧ h (jt).toNat i = t) (s4 : 0 ≤ jm ∧ P (jm).toNat ≠ none ∧ h (jm).toNat i = m) (s5 : 0 ≤ jk ∧ P (jk).toNat ≠ none ∧ h (jk).toNat (i + 1) = a) (s6 : 0 ≤ jo ∧ P (jo).toNat ≠ none ∧ h (jo).toNat (i + 1) = b) (s7 : 0 ≤ jt ∧ P (jt).toNat ≠ none ∧ h (jt).toNat (i + 1) = c) (s8 : 0 ≤ jm ∧ P (jm).toNat ≠ none ∧ h (jm).toNat (i + 1) = d) (k1 : zk_SH 50 jk jo jt jm M Z i (i + 1) P h) : (zk_SH 50 jk jo jt jm M Z (i + 1) (i + 1) P h) := by
  obtain ⟨w1, w2, w3, w4, n0, n1, n2, w5, w6⟩ := k1
  refine ⟨w1, w2, w3, w4, by omega, by omega, by omega, fun q x y => ?_, fun q x y => w6 q x y⟩
  by_cases e : q = i
  · have h9 := w6 (i + 1) (by omega) (by omega)
    unfold zk_E at h9 ⊢
    rw [s5.2.2, s6.2.2, s7.2.2, s8.2.2] at h9
    rw [e, s1.2.2, s2.2.2, s3.2.2, s4.2.2, show k = a by omega, show o = b by omega, show t = c by omega, show m = d by omega]
    exact h9
  · exact w5 q x (by omega)
theorem zk_s11_ok {w : zq_Wd} (x_SH1 : zj_is w 296 (fun q => zk_SH 50 (q 0) (q 1) (q 2) (q 3) (q 4) (q 5) (q 6) (q 7))) : zq_okG1 w zk_s11 := by
  refine ⟨rfl, rfl, zu_fac ⟨rfl, by decide⟩ zq_fan, ?_⟩
  intro r P h H hM
  have q0 : zq_ev r (0, [(6, 1)]) = r 6 := zu_e1 _ _
  have q1 : zq_ev r (14, [(6, -1)]) = -r 6 + 14 := zu_e5 _ _ _
  have q2 : zq_ev r (0, [(7, -1), (11, 1)]) = -r 7 + r 11 := by simp only [zq_ev, zq_ts] <;> omega
  have q3 : zq_ev r (0, [(7, 1), (11, -1)]) = r 7 - r 11 := by simp only [zq_ev, zq_ts] <;> omega
  have q4 : zq_ev r (0, [(8, -1), (12, 1)]) = -r 8 + r 12 := by simp only [zq_ev, zq_ts] <;> omega
  have q5 : zq_ev r (0, [(8, 1), (12, -1)]) = r 8 - r 12 := by simp only [zq_ev, zq_ts] <;> omega
  have q6 : zq_ev r (0, [(9, -1), (13, 1)]) = -r 9 + r 13 := by simp only [zq_ev, zq_ts] <;> omega
  have q7 : zq_ev r (0, [(9, 1), (13, -1)]) = r 9 - r 13 := by simp only [zq_ev, zq_ts] <;> omega
  have q8 : zq_ev r (0, [(10, -1), (14, 1)]) = -r 10 + r 14 := by simp only [zq_ev, zq_ts] <;> omega
  have q9 : zq_ev r (0, [(10, 1), (14, -1)]) = r 10 - r 14 := by simp only [zq_ev, zq_ts] <;> omega
  have q10 : zq_ev r (0, [(0, 1)]) = r 0 := zu_e1 _ _
  have q11 : zq_ev r (0, [(7, 1)]) = r 7 := zu_e1 _ _
  have q12 : zq_ev r (0, [(1, 1)]) = r 1 := zu_e1 _ _
  have q13 : zq_ev r (0, [(8, 1)]) = r 8 := zu_e1 _ _
  have q14 : zq_ev r (0, [(2, 1)]) = r 2 := zu_e1 _ _
  have q15 : zq_ev r (0, [(9, 1)]) = r 9 := zu_e1 _ _
  have q16 : zq_ev r (0, [(3, 1)]) = r 3 := zu_e1 _ _
  have q17 : zq_ev r (0, [(10, 1)]) = r 10 := zu_e1 _ _
  have q18 : zq_ev r (1, [(6, 1)]) = r 6 + 1 := zu_e2 _ _ _
  have q19 : zq_ev r (0, [(11, 1)]) = r 11 := zu_e1 _ _
  have q20 : zq_ev r (0, [(12, 1)]) = r 12 := zu_e1 _ _
  have q21 : zq_ev r (0, [(13, 1)]) = r 13 := zu_e1 _ _
  have q22 : zq_ev r (0, [(14, 1)]) = r 14 := zu_e1 _ _
  have q23 : zq_ev r (0, [(4, 1)]) = r 4 := zu_e1 _ _
  have q24 : zq_ev r (0, [(5, 1)]) = r 5 := zu_e1 _ _
  obtain ⟨hT, hC, hF, hS, -, hK⟩ := hM
  have c := hC.1
  have a1 := zq_all_1 c
  rw [q0] at a1
  have c := zq_all_t c
  have a2 := zq_all_1 c
  rw [q1] at a2
  have c := zq_all_t c
  have a3 := zq_all_1 c
  rw [q2] at a3
  have c := zq_all_t c
  have a4 := zq_all_1 c
  rw [q3] at a4
  have c := zq_all_t c
  have a5 := zq_all_1 c
  rw [q4] at a5
  have c := zq_all_t c
  have a6 := zq_all_1 c
  rw [q5] at a6
  have c := zq_all_t c
  have a7 := zq_all_1 c
  rw [q6] at a7
  have c := zq_all_t c
  have a8 := zq_all_1 c
  rw [q7] at a8
  have c := zq_all_t c
  have a9 := zq_all_1 c
  rw [q8] at a9
  have c := zq_all_t c
  have a10 := zq_all_1 c
  rw [q9] at a10
  have s1 := zq_okS_1 (hS)
  simp only [q0, q10, q11] at s1
  have s2 := zq_okS_1 (zq_okS_t (hS))
  simp only [q0, q12, q13] at s2
  have s3 := zq_okS_1 (zq_okS_t (zq_okS_t (hS)))
  simp only [q0, q14, q15] at s3
  have s4 := zq_okS_1 (zq_okS_t (zq_okS_t (zq_okS_t (hS))))
  simp only [q0, q16, q17] at s4
  have s5 := zq_okS_1 (zq_okS_t (zq_okS_t (zq_okS_t (zq_okS_t (hS)))))
  simp only [q10, q18, q19] at s5
  have s6 := zq_okS_1 (zq_okS_t (zq_okS_t (zq_okS_t (zq_okS_t (zq_okS_t (hS))))))
  simp only [q12, q18, q20] at s6
  have s7 := zq_okS_1 (zq_okS_t (zq_okS_t (zq_okS_t (zq_okS_t (zq_okS_t (zq_okS_t (hS)))))))
  simp only [q14, q18, q21] at s7
  have s8 := zq_okS_1 (zq_okS_t (zq_okS_t (zq_okS_t (zq_okS_t (zq_okS_t (zq_okS_t (zq_okS_t (hS))))))))
  simp only [q16, q18, q22] at s8
  have k1 := zj_use x_SH1 (hK)
  have k1 : zk_SH 50 (zq_ev r (0, [(0, 1)])) (zq_ev r (0, [(1, 1)])) (zq_ev r (0, [(2, 1)])) (zq_ev r (0, [(3, 1)])) (zq_ev r (0, [(4, 1)])) (zq_ev r (0, [(5, 1)])) (zq_ev r (0, [(6, 1)])) (zq_ev r (1, [(6, 1)])) P h := k1
  simp only [q0, q10, q12, q14, q16, q18, q23, q24] at k1
  obtain t1 := zk_s11_l (P := P) (h := h) (jk := r 0) (jo := r 1) (jt := r 2) (jm := r 3) (M := r 4) (Z := r 5) (i := r 6) (k := r 7) (o := r 8) (t := r 9) (m := r 10) (a := r 11) (b := r 12) (c := r 13) (d := r 14) a1 a2 a3 a4 a5 a6 a7 a8 a9 a10 s1 s2 s3 s4 s5 s6 s7 s8 k1
  obtain ⟨rq, hr⟩ : ∃ rq : Nat → Int, (∀ i, i < 15 → rq i = r i) := ⟨r, fun i hi => rfl⟩
  have v0 : rq 0 = r 0 := hr 0 (by decide)
  have v1 : rq 1 = r 1 := hr 1 (by decide)
  have v2 : rq 2 = r 2 := hr 2 (by decide)
  have v3 : rq 3 = r 3 := hr 3 (by decide)
  have v4 : rq 4 = r 4 := hr 4 (by decide)
  have v5 : rq 5 = r 5 := hr 5 (by decide)
  have v6 : rq 6 = r 6 := hr 6 (by decide)
  have g0 : zq_ev rq (0, [(0, 1)]) = r 0 := zu_f1 v0
  have g1 : zq_ev rq (0, [(1, 1)]) = r 1 := zu_f1 v1
  have g2 : zq_ev rq (0, [(2, 1)]) = r 2 := zu_f1 v2
  have g3 : zq_ev rq (0, [(3, 1)]) = r 3 := zu_f1 v3
  have g4 : zq_ev rq (0, [(4, 1)]) = r 4 := zu_f1 v4
  have g5 : zq_ev rq (0, [(5, 1)]) = r 5 := zu_f1 v5
  have g6 : zq_ev rq (1, [(6, 1)]) = r 6 + 1 := zu_f2 v6 _
  exact ⟨_, List.mem_cons_self .., rq, hr, zq_MeS_mk rfl hT (zq_all_nil) zq_fan (zq_fan) rfl (zu_fac ((x_SH1 _ _ _).mpr (by show zk_SH 50 (zq_ev rq (0, [(0, 1)])) (zq_ev rq (0, [(1, 1)])) (zq_ev rq (0, [(2, 1)])) (zq_ev rq (0, [(3, 1)])) (zq_ev rq (0, [(4, 1)])) (zq_ev rq (0, [(5, 1)])) (zq_ev rq (1, [(6, 1)])) (zq_ev rq (1, [(6, 1)])) P h; simp only [g0, g1, g2, g3, g4, g5, g6]; exact t1)) zq_fan)⟩
noncomputable def zk_s21 : zq_S × List zq_S := (([], [], [(-15, [(6, 1)]), (15, [(6, -1)])], [], [], [], [(296, [(0, [(0, 1)]), (0, [(1, 1)]), (0, [(2, 1)]), (0, [(3, 1)]), (0, [(4, 1)]), (0, [(5, 1)]), (0, [(6, 1)]), (0, [(6, 1)])])], 7), [([], [], [], [], [], [], [(294, [(0, [(0, 1)]), (0, [(1, 1)]), (0, [(2, 1)]), (0, [(3, 1)]), (15, []), (0, [(4, 1)]), (0, [(7, 1)])]), (313, [(0, [(5, 1)]), (0, [(7, 1)])])], 8)])
theorem zk_s21_l {P : zq_Ty} {h : zq_H} {jk jo jt jm M Z l : Int} (a1 : 0 ≤ l - 15) (a2 : 0 ≤ -l + 15) (k1 : zk_SH 50 jk jo jt jm M Z l l P h) : (∃ N : Int, zk_ZC 50 jk jo jt jm 15 M N P h ∧ zm_DR Z N P h) := by
  obtain ⟨w1, w2, w3, w4, n0, n1, n2, w5, w6⟩ := k1
  refine ⟨zz_dr Z, ⟨w1, w2, w3, w4, by omega, by omega, fun i x y => ?_⟩, rfl⟩
  obtain ⟨e1, e2⟩ := w5 i x (by omega)
  refine ⟨?_, fun j p q => ?_⟩
  · rw [zz_dr_dg (by omega), show 12 * i + 11 + 12 = 12 * (i + 1) + 11 by omega]; exact e1
  · rw [zz_dr_dg (by omega), show 12 * i + j + 12 = 12 * (i + 1) + j by omega, e2 j p q]
    have en : ∀ j : Int, 0 ≤ j → zk_N Z 16 M (i + 1) j = zk_N (zz_dr Z) 15 M i j := fun j p => by
      unfold zk_N
      by_cases e : i + 1 < 15
      · rw [if_pos (by omega), if_pos e, zz_dr_dg (by omega)]; congr 1; omega
      · rw [if_neg (by omega), if_neg e]
    unfold zk_U
    rw [en j p, en 10 (by omega)]
theorem zk_s21_ok {w : zq_Wd} (x_SH1 : zj_is w 296 (fun q => zk_SH 50 (q 0) (q 1) (q 2) (q 3) (q 4) (q 5) (q 6) (q 7))) (x_ZC1 : zj_is w 294 (fun q => zk_ZC 50 (q 0) (q 1) (q 2) (q 3) (q 4) (q 5) (q 6))) (x_DR : zj_is w 313 (fun q => zm_DR (q 0) (q 1))) : zq_okG1 w zk_s21 := by
  refine ⟨rfl, rfl, zu_fac ⟨rfl, by decide⟩ zq_fan, ?_⟩
  intro r P h H hM
  have q0 : zq_ev r (-15, [(6, 1)]) = r 6 - 15 := zu_e3 _ _ _
  have q1 : zq_ev r (15, [(6, -1)]) = -r 6 + 15 := zu_e5 _ _ _
  have q2 : zq_ev r (0, [(0, 1)]) = r 0 := zu_e1 _ _
  have q3 : zq_ev r (0, [(1, 1)]) = r 1 := zu_e1 _ _
  have q4 : zq_ev r (0, [(2, 1)]) = r 2 := zu_e1 _ _
  have q5 : zq_ev r (0, [(3, 1)]) = r 3 := zu_e1 _ _
  have q6 : zq_ev r (0, [(4, 1)]) = r 4 := zu_e1 _ _
  have q7 : zq_ev r (0, [(5, 1)]) = r 5 := zu_e1 _ _
  have q8 : zq_ev r (0, [(6, 1)]) = r 6 := zu_e1 _ _
  obtain ⟨hT, hC, hF, hS, -, hK⟩ := hM
  have c := hC.1
  have a1 := zq_all_1 c
  rw [q0] at a1
  have c := zq_all_t c
  have a2 := zq_all_1 c
  rw [q1] at a2
  have k1 := zj_use x_SH1 (hK)
  have k1 : zk_SH 50 (zq_ev r (0, [(0, 1)])) (zq_ev r (0, [(1, 1)])) (zq_ev r (0, [(2, 1)])) (zq_ev r (0, [(3, 1)])) (zq_ev r (0, [(4, 1)])) (zq_ev r (0, [(5, 1)])) (zq_ev r (0, [(6, 1)])) (zq_ev r (0, [(6, 1)])) P h := k1
  simp only [q2, q3, q4, q5, q6, q7, q8] at k1
  obtain ⟨y_0, t1, t2⟩ := zk_s21_l (P := P) (h := h) (jk := r 0) (jo := r 1) (jt := r 2) (jm := r 3) (M := r 4) (Z := r 5) (l := r 6) a1 a2 k1
  obtain ⟨rq, hr, w7⟩ : ∃ rq : Nat → Int, (∀ i, i < 7 → rq i = r i) ∧ rq 7 = y_0 := ⟨zq_up r 7 y_0, fun i hi => by rw [zu_up_ne (by omega)], rfl⟩
  have v0 : rq 0 = r 0 := hr 0 (by decide)
  have v1 : rq 1 = r 1 := hr 1 (by decide)
  have v2 : rq 2 = r 2 := hr 2 (by decide)
  have v3 : rq 3 = r 3 := hr 3 (by decide)
  have v4 : rq 4 = r 4 := hr 4 (by decide)
  have v5 : rq 5 = r 5 := hr 5 (by decide)
  have g0 : zq_ev rq (0, [(5, 1)]) = r 5 := zu_f1 v5
  have g1 : zq_ev rq (0, [(7, 1)]) = y_0 := zu_f1 w7
  have g2 : zq_ev rq (0, [(0, 1)]) = r 0 := zu_f1 v0
  have g3 : zq_ev rq (0, [(1, 1)]) = r 1 := zu_f1 v1
  have g4 : zq_ev rq (0, [(2, 1)]) = r 2 := zu_f1 v2
  have g5 : zq_ev rq (0, [(3, 1)]) = r 3 := zu_f1 v3
  have g6 : zq_ev rq (15, []) = 15 := zu_e0 _ _
  have g7 : zq_ev rq (0, [(4, 1)]) = r 4 := zu_f1 v4
  exact ⟨_, List.mem_cons_self .., rq, hr, zq_MeS_mk rfl hT (zq_all_nil) zq_fan (zq_fan) rfl (zu_fac ((x_ZC1 _ _ _).mpr (by show zk_ZC 50 (zq_ev rq (0, [(0, 1)])) (zq_ev rq (0, [(1, 1)])) (zq_ev rq (0, [(2, 1)])) (zq_ev rq (0, [(3, 1)])) (zq_ev rq (15, [])) (zq_ev rq (0, [(4, 1)])) (zq_ev rq (0, [(7, 1)])) P h; simp only [g1, g2, g3, g4, g5, g6, g7]; exact t1)) (zu_fac ((x_DR _ _ _).mpr (by show zm_DR (zq_ev rq (0, [(5, 1)])) (zq_ev rq (0, [(7, 1)])) P h; simp only [g0, g1]; exact t2)) zq_fan))⟩
noncomputable def zk_a1 : zq_S × List zq_S := (([], [], [(0, [(4, 1)]), (15, [(4, -1)]), (0, [(7, 1)]), (3, [(7, -1)]), (-1, [(4, -1), (12, 1)]), (1, [(4, 1), (12, -1)])], [], [((0, [(0, 1)]), (0, [(4, 1)]), (0, [(7, 1)])), ((0, [(1, 1)]), (0, [(4, 1)]), (0, [(8, 1)])), ((0, [(2, 1)]), (0, [(4, 1)]), (0, [(9, 1)])), ((0, [(3, 1)]), (0, [(4, 1)]), (0, [(10, 1)]))], [], [(294, [(0, [(0, 1)]), (0, [(1, 1)]), (0, [(2, 1)]), (0, [(3, 1)]), (0, [(4, 1)]), (0, [(5, 1)]), (0, [(6, 1)])]), (292, [(0, [(7, 1)]), (0, [(8, 1)]), (0, [(9, 1)]), (0, [(10, 1)]), (0, [(11, 1)]), (0, [(5, 1)])])], 13), [([], [], [], [], [], [], [(294, [(0, [(0, 1)]), (0, [(1, 1)]), (0, [(2, 1)]), (0, [(3, 1)]), (0, [(12, 1)]), (0, [(11, 1)]), (0, [(13, 1)])]), (291, [(0, [(6, 1)]), (0, [(4, 1)]), (0, [(5, 1)]), (0, [(7, 1)]), (0, [(12, 1)]), (0, [(13, 1)])])], 14)])
theorem zk_a1_l {P : zq_Ty} {h : zq_H} {jk jo jt jm n M Z k o t m N u : Int} (a1 : 0 ≤ n) (a2 : 0 ≤ -n + 15) (a3 : 0 ≤ k) (a4 : 0 ≤ -k + 3) (a5 : 0 ≤ -n + u - 1) (a6 : 0 ≤ n - u + 1) (s1 : 0 ≤ jk ∧ P (jk).toNat ≠ none ∧ h (jk).toNat n = k) (s2 : 0 ≤ jo ∧ P (jo).toNat ≠ none ∧ h (jo).toNat n = o) (s3 : 0 ≤ jt ∧ P (jt).toNat ≠ none ∧ h (jt).toNat n = t) (s4 : 0 ≤ jm ∧ P (jm).toNat ≠ none ∧ h (jm).toNat n = m) (k1 : zk_ZC 50 jk jo jt jm n M Z P h) (k2 : zk_UU k o t m N M P h) : (∃ Y : Int, zk_ZC 50 jk jo jt jm u N Y P h ∧ zm_PZ Z n M k u Y P h) := by
  obtain ⟨w1, w2, w3, w4, n0, n1, w5⟩ := k1
  have k2 : ∀ j : Int, 0 ≤ j → j < 11 → zn_dg M j = zk_U k o t m (zn_dg N) j := k2
  have hk : zn_in k := by unfold zn_in; omega
  have key : ∀ i : Int, 0 ≤ i → i < n + 1 → zk_E (h jk.toNat) (h jo.toNat) (h jt.toNat) (h jm.toNat) (zz_st Z n M k) (n + 1) N i i := by
    intro i x y
    have lo : ∀ j : Int, 0 ≤ j → j < 12 * n → zn_dg (zz_st Z n M k) j = zn_dg Z j := fun j p q => zz_st_lo (by omega) hk p q
    by_cases e : i = n
    · rw [e]
      refine ⟨?_, fun j p q => ?_⟩
      · rw [s1.2.2, zz_st_k hk]
      · rw [zz_st_in (by omega) hk p q, s1.2.2, s2.2.2, s3.2.2, s4.2.2, k2 j p q]
        have en : ∀ j : Int, zk_N (zz_st Z n M k) (n + 1) N n j = zn_dg N j := fun j => by unfold zk_N; rw [if_neg (by omega)]
        unfold zk_U
        rw [en j, en 10]
    · obtain ⟨e1, e2⟩ := w5 i x (by omega)
      refine ⟨by rw [lo _ (by omega) (by omega)]; exact e1, fun j p q => ?_⟩
      rw [lo _ (by omega) (by omega), e2 j p q]
      have en : ∀ j : Int, 0 ≤ j → j < 11 → zk_N (zz_st Z n M k) (n + 1) N i j = zk_N Z n M i j := fun j p q => by
        unfold zk_N
        rw [if_pos (by omega)]
        by_cases e3 : i + 1 < n
        · rw [if_pos e3, lo _ (by omega) (by omega)]
        · rw [if_neg e3, show i + 1 = n by omega, zz_st_in (by omega) hk p q]
      unfold zk_U
      rw [en j p q, en 10 (by omega) (by omega)]
  
  have hu : u = n + 1 := by omega
  subst hu
  exact ⟨zz_st Z n M k, ⟨w1, w2, w3, w4, by omega, by omega, key⟩, by unfold zz_n; rw [if_neg (by omega)], by unfold zz_Z; rw [if_neg (by omega)]⟩
theorem zk_a1_ok {w : zq_Wd} (x_ZC1 : zj_is w 294 (fun q => zk_ZC 50 (q 0) (q 1) (q 2) (q 3) (q 4) (q 5) (q 6))) (x_UU : zj_is w 292 (fun q => zk_UU (q 0) (q 1) (q 2) (q 3) (q 4) (q 5))) (x_PZ : zj_is w 291 (fun q => zm_PZ (q 0) (q 1) (q 2) (q 3) (q 4) (q 5))) : zq_okG1 w zk_a1 := by
  refine ⟨rfl, rfl, zu_fac ⟨rfl, by decide⟩ zq_fan, ?_⟩
  intro r P h H hM
  have q0 : zq_ev r (0, [(4, 1)]) = r 4 := zu_e1 _ _
  have q1 : zq_ev r (15, [(4, -1)]) = -r 4 + 15 := zu_e5 _ _ _
  have q2 : zq_ev r (0, [(7, 1)]) = r 7 := zu_e1 _ _
  have q3 : zq_ev r (3, [(7, -1)]) = -r 7 + 3 := zu_e5 _ _ _
  have q4 : zq_ev r (-1, [(4, -1), (12, 1)]) = -r 4 + r 12 - 1 := by simp only [zq_ev, zq_ts] <;> omega
  have q5 : zq_ev r (1, [(4, 1), (12, -1)]) = r 4 - r 12 + 1 := by simp only [zq_ev, zq_ts] <;> omega
  have q6 : zq_ev r (0, [(0, 1)]) = r 0 := zu_e1 _ _
  have q7 : zq_ev r (0, [(1, 1)]) = r 1 := zu_e1 _ _
  have q8 : zq_ev r (0, [(8, 1)]) = r 8 := zu_e1 _ _
  have q9 : zq_ev r (0, [(2, 1)]) = r 2 := zu_e1 _ _
  have q10 : zq_ev r (0, [(9, 1)]) = r 9 := zu_e1 _ _
  have q11 : zq_ev r (0, [(3, 1)]) = r 3 := zu_e1 _ _
  have q12 : zq_ev r (0, [(10, 1)]) = r 10 := zu_e1 _ _
  have q13 : zq_ev r (0, [(5, 1)]) = r 5 := zu_e1 _ _
  have q14 : zq_ev r (0, [(6, 1)]) = r 6 := zu_e1 _ _
  have q15 : zq_ev r (0, [(11, 1)]) = r 11 := zu_e1 _ _
  obtain ⟨hT, hC, hF, hS, -, hK⟩ := hM
  have c := hC.1
  have a1 := zq_all_1 c
  rw [q0] at a1
  have c := zq_all_t c
  have a2 := zq_all_1 c
  rw [q1] at a2
  have c := zq_all_t c
  have a3 := zq_all_1 c
  rw [q2] at a3
  have c := zq_all_t c
  have a4 := zq_all_1 c
  rw [q3] at a4
  have c := zq_all_t c
  have a5 := zq_all_1 c
  rw [q4] at a5
  have c := zq_all_t c
  have a6 := zq_all_1 c
  rw [q5] at a6
  have s1 := zq_okS_1 (hS)
  simp only [q0, q2, q6] at s1
  have s2 := zq_okS_1 (zq_okS_t (hS))
  simp only [q0, q7, q8] at s2
  have s3 := zq_okS_1 (zq_okS_t (zq_okS_t (hS)))
  simp only [q0, q10, q9] at s3
  have s4 := zq_okS_1 (zq_okS_t (zq_okS_t (zq_okS_t (hS))))
  simp only [q0, q11, q12] at s4
  have k1 := zj_use x_ZC1 (hK)
  have k1 : zk_ZC 50 (zq_ev r (0, [(0, 1)])) (zq_ev r (0, [(1, 1)])) (zq_ev r (0, [(2, 1)])) (zq_ev r (0, [(3, 1)])) (zq_ev r (0, [(4, 1)])) (zq_ev r (0, [(5, 1)])) (zq_ev r (0, [(6, 1)])) P h := k1
  simp only [q0, q11, q13, q14, q6, q7, q9] at k1
  have k2 := zj_use x_UU (zq_okX_t (hK))
  have k2 : zk_UU (zq_ev r (0, [(7, 1)])) (zq_ev r (0, [(8, 1)])) (zq_ev r (0, [(9, 1)])) (zq_ev r (0, [(10, 1)])) (zq_ev r (0, [(11, 1)])) (zq_ev r (0, [(5, 1)])) P h := k2
  simp only [q10, q12, q13, q15, q2, q8] at k2
  obtain ⟨y_0, t1, t2⟩ := zk_a1_l (P := P) (h := h) (jk := r 0) (jo := r 1) (jt := r 2) (jm := r 3) (n := r 4) (M := r 5) (Z := r 6) (k := r 7) (o := r 8) (t := r 9) (m := r 10) (N := r 11) (u := r 12) a1 a2 a3 a4 a5 a6 s1 s2 s3 s4 k1 k2
  obtain ⟨rq, hr, w13⟩ : ∃ rq : Nat → Int, (∀ i, i < 13 → rq i = r i) ∧ rq 13 = y_0 := ⟨zq_up r 13 y_0, fun i hi => by rw [zu_up_ne (by omega)], rfl⟩
  have v0 : rq 0 = r 0 := hr 0 (by decide)
  have v1 : rq 1 = r 1 := hr 1 (by decide)
  have v2 : rq 2 = r 2 := hr 2 (by decide)
  have v3 : rq 3 = r 3 := hr 3 (by decide)
  have v4 : rq 4 = r 4 := hr 4 (by decide)
  have v5 : rq 5 = r 5 := hr 5 (by decide)
  have v6 : rq 6 = r 6 := hr 6 (by decide)
  have v7 : rq 7 = r 7 := hr 7 (by decide)
  have v11 : rq 11 = r 11 := hr 11 (by decide)
  have v12 : rq 12 = r 12 := hr 12 (by decide)
  have g0 : zq_ev rq (0, [(6, 1)]) = r 6 := zu_f1 v6
  have g1 : zq_ev rq (0, [(4, 1)]) = r 4 := zu_f1 v4
  have g2 : zq_ev rq (0, [(5, 1)]) = r 5 := zu_f1 v5
  have g3 : zq_ev rq (0, [(7, 1)]) = r 7 := zu_f1 v7
  have g4 : zq_ev rq (0, [(12, 1)]) = r 12 := zu_f1 v12
  have g5 : zq_ev rq (0, [(13, 1)]) = y_0 := zu_f1 w13
  have g6 : zq_ev rq (0, [(0, 1)]) = r 0 := zu_f1 v0
  have g7 : zq_ev rq (0, [(1, 1)]) = r 1 := zu_f1 v1
  have g8 : zq_ev rq (0, [(2, 1)]) = r 2 := zu_f1 v2
  have g9 : zq_ev rq (0, [(3, 1)]) = r 3 := zu_f1 v3
  have g10 : zq_ev rq (0, [(11, 1)]) = r 11 := zu_f1 v11
  exact ⟨_, List.mem_cons_self .., rq, hr, zq_MeS_mk rfl hT (zq_all_nil) zq_fan (zq_fan) rfl (zu_fac ((x_ZC1 _ _ _).mpr (by show zk_ZC 50 (zq_ev rq (0, [(0, 1)])) (zq_ev rq (0, [(1, 1)])) (zq_ev rq (0, [(2, 1)])) (zq_ev rq (0, [(3, 1)])) (zq_ev rq (0, [(12, 1)])) (zq_ev rq (0, [(11, 1)])) (zq_ev rq (0, [(13, 1)])) P h; simp only [g10, g4, g5, g6, g7, g8, g9]; exact t1)) (zu_fac ((x_PZ _ _ _).mpr (by show zm_PZ (zq_ev rq (0, [(6, 1)])) (zq_ev rq (0, [(4, 1)])) (zq_ev rq (0, [(5, 1)])) (zq_ev rq (0, [(7, 1)])) (zq_ev rq (0, [(12, 1)])) (zq_ev rq (0, [(13, 1)])) P h; simp only [g0, g1, g2, g3, g4, g5]; exact t2)) zq_fan))⟩
noncomputable def zk_b1 : zq_S × List zq_S := (([], [], [(-16, [(4, 1)]), (16, [(4, -1)]), (0, [(8, 1)]), (3, [(8, -1)]), (-16, [(13, 1)]), (16, [(13, -1)])], [], [((0, [(0, 1)]), (15, []), (0, [(8, 1)])), ((0, [(1, 1)]), (15, []), (0, [(9, 1)])), ((0, [(2, 1)]), (15, []), (0, [(10, 1)])), ((0, [(3, 1)]), (15, []), (0, [(11, 1)]))], [], [(294, [(0, [(0, 1)]), (0, [(1, 1)]), (0, [(2, 1)]), (0, [(3, 1)]), (15, []), (0, [(5, 1)]), (0, [(7, 1)])]), (292, [(0, [(8, 1)]), (0, [(9, 1)]), (0, [(10, 1)]), (0, [(11, 1)]), (0, [(12, 1)]), (0, [(5, 1)])]), (313, [(0, [(6, 1)]), (0, [(7, 1)])])], 14), [([], [], [], [], [], [], [(294, [(0, [(0, 1)]), (0, [(1, 1)]), (0, [(2, 1)]), (0, [(3, 1)]), (0, [(13, 1)]), (0, [(12, 1)]), (0, [(14, 1)])]), (291, [(0, [(6, 1)]), (0, [(4, 1)]), (0, [(5, 1)]), (0, [(8, 1)]), (0, [(13, 1)]), (0, [(14, 1)])])], 15)])
theorem zk_b1_l {P : zq_Ty} {h : zq_H} {jk jo jt jm n M Z X k o t m N u : Int} (a1 : 0 ≤ n - 16) (a2 : 0 ≤ -n + 16) (a3 : 0 ≤ k) (a4 : 0 ≤ -k + 3) (a5 : 0 ≤ u - 16) (a6 : 0 ≤ -u + 16) (s1 : 0 ≤ jk ∧ P (jk).toNat ≠ none ∧ h (jk).toNat 15 = k) (s2 : 0 ≤ jo ∧ P (jo).toNat ≠ none ∧ h (jo).toNat 15 = o) (s3 : 0 ≤ jt ∧ P (jt).toNat ≠ none ∧ h (jt).toNat 15 = t) (s4 : 0 ≤ jm ∧ P (jm).toNat ≠ none ∧ h (jm).toNat 15 = m) (k1 : zk_ZC 50 jk jo jt jm 15 M X P h) (k2 : zk_UU k o t m N M P h) (k3 : zm_DR Z X P h) : (∃ Y : Int, zk_ZC 50 jk jo jt jm u N Y P h ∧ zm_PZ Z n M k u Y P h) := by
  obtain ⟨w1, w2, w3, w4, n0, n1, w5⟩ := k1
  have k2 : ∀ j : Int, 0 ≤ j → j < 11 → zn_dg M j = zk_U k o t m (zn_dg N) j := k2
  have hk : zn_in k := by unfold zn_in; omega
  have key : ∀ i : Int, 0 ≤ i → i < 15 + 1 → zk_E (h jk.toNat) (h jo.toNat) (h jt.toNat) (h jm.toNat) (zz_st X 15 M k) (15 + 1) N i i := by
    intro i x y
    have lo : ∀ j : Int, 0 ≤ j → j < 12 * 15 → zn_dg (zz_st X 15 M k) j = zn_dg X j := fun j p q => zz_st_lo (by omega) hk p q
    by_cases e : i = 15
    · rw [e]
      refine ⟨?_, fun j p q => ?_⟩
      · rw [s1.2.2, zz_st_k hk]
      · rw [zz_st_in (by omega) hk p q, s1.2.2, s2.2.2, s3.2.2, s4.2.2, k2 j p q]
        have en : ∀ j : Int, zk_N (zz_st X 15 M k) (15 + 1) N 15 j = zn_dg N j := fun j => by unfold zk_N; rw [if_neg (by omega)]
        unfold zk_U
        rw [en j, en 10]
    · obtain ⟨e1, e2⟩ := w5 i x (by omega)
      refine ⟨by rw [lo _ (by omega) (by omega)]; exact e1, fun j p q => ?_⟩
      rw [lo _ (by omega) (by omega), e2 j p q]
      have en : ∀ j : Int, 0 ≤ j → j < 11 → zk_N (zz_st X 15 M k) (15 + 1) N i j = zk_N X 15 M i j := fun j p q => by
        unfold zk_N
        rw [if_pos (by omega)]
        by_cases e3 : i + 1 < 15
        · rw [if_pos e3, lo _ (by omega) (by omega)]
        · rw [if_neg e3, show i + 1 = 15 by omega, zz_st_in (by omega) hk p q]
      unfold zk_U
      rw [en j p q, en 10 (by omega) (by omega)]
  
  have hu : u = 15 + 1 := by omega
  subst hu
  have k3 : X = zz_dr Z := k3
  exact ⟨zz_st X 15 M k, ⟨w1, w2, w3, w4, by omega, by omega, key⟩, by unfold zz_n; rw [if_pos (by omega)]; omega, by unfold zz_Z; rw [if_pos (by omega), k3]⟩
theorem zk_b1_ok {w : zq_Wd} (x_ZC1 : zj_is w 294 (fun q => zk_ZC 50 (q 0) (q 1) (q 2) (q 3) (q 4) (q 5) (q 6))) (x_UU : zj_is w 292 (fun q => zk_UU (q 0) (q 1) (q 2) (q 3) (q 4) (q 5))) (x_DR : zj_is w 313 (fun q => zm_DR (q 0) (q 1))) (x_PZ : zj_is w 291 (fun q => zm_PZ (q 0) (q 1) (q 2) (q 3) (q 4) (q 5))) : zq_okG1 w zk_b1 := by
  refine ⟨rfl, rfl, zu_fac ⟨rfl, by decide⟩ zq_fan, ?_⟩
  intro r P h H hM
  have q0 : zq_ev r (-16, [(4, 1)]) = r 4 - 16 := zu_e3 _ _ _
  have q1 : zq_ev r (16, [(4, -1)]) = -r 4 + 16 := zu_e5 _ _ _
  have q2 : zq_ev r (0, [(8, 1)]) = r 8 := zu_e1 _ _
  have q3 : zq_ev r (3, [(8, -1)]) = -r 8 + 3 := zu_e5 _ _ _
  have q4 : zq_ev r (-16, [(13, 1)]) = r 13 - 16 := zu_e3 _ _ _
  have q5 : zq_ev r (16, [(13, -1)]) = -r 13 + 16 := zu_e5 _ _ _
  have q6 : zq_ev r (0, [(0, 1)]) = r 0 := zu_e1 _ _
  have q7 : zq_ev r (15, []) = 15 := zu_e0 _ _
  have q8 : zq_ev r (0, [(1, 1)]) = r 1 := zu_e1 _ _
  have q9 : zq_ev r (0, [(9, 1)]) = r 9 := zu_e1 _ _
  have q10 : zq_ev r (0, [(2, 1)]) = r 2 := zu_e1 _ _
  have q11 : zq_ev r (0, [(10, 1)]) = r 10 := zu_e1 _ _
  have q12 : zq_ev r (0, [(3, 1)]) = r 3 := zu_e1 _ _
  have q13 : zq_ev r (0, [(11, 1)]) = r 11 := zu_e1 _ _
  have q14 : zq_ev r (0, [(5, 1)]) = r 5 := zu_e1 _ _
  have q15 : zq_ev r (0, [(7, 1)]) = r 7 := zu_e1 _ _
  have q16 : zq_ev r (0, [(12, 1)]) = r 12 := zu_e1 _ _
  have q17 : zq_ev r (0, [(6, 1)]) = r 6 := zu_e1 _ _
  obtain ⟨hT, hC, hF, hS, -, hK⟩ := hM
  have c := hC.1
  have a1 := zq_all_1 c
  rw [q0] at a1
  have c := zq_all_t c
  have a2 := zq_all_1 c
  rw [q1] at a2
  have c := zq_all_t c
  have a3 := zq_all_1 c
  rw [q2] at a3
  have c := zq_all_t c
  have a4 := zq_all_1 c
  rw [q3] at a4
  have c := zq_all_t c
  have a5 := zq_all_1 c
  rw [q4] at a5
  have c := zq_all_t c
  have a6 := zq_all_1 c
  rw [q5] at a6
  have s1 := zq_okS_1 (hS)
  simp only [q2, q6, q7] at s1
  have s2 := zq_okS_1 (zq_okS_t (hS))
  simp only [q7, q8, q9] at s2
  have s3 := zq_okS_1 (zq_okS_t (zq_okS_t (hS)))
  simp only [q10, q11, q7] at s3
  have s4 := zq_okS_1 (zq_okS_t (zq_okS_t (zq_okS_t (hS))))
  simp only [q12, q13, q7] at s4
  have k1 := zj_use x_ZC1 (hK)
  have k1 : zk_ZC 50 (zq_ev r (0, [(0, 1)])) (zq_ev r (0, [(1, 1)])) (zq_ev r (0, [(2, 1)])) (zq_ev r (0, [(3, 1)])) (zq_ev r (15, [])) (zq_ev r (0, [(5, 1)])) (zq_ev r (0, [(7, 1)])) P h := k1
  simp only [q10, q12, q14, q15, q6, q7, q8] at k1
  have k2 := zj_use x_UU (zq_okX_t (hK))
  have k2 : zk_UU (zq_ev r (0, [(8, 1)])) (zq_ev r (0, [(9, 1)])) (zq_ev r (0, [(10, 1)])) (zq_ev r (0, [(11, 1)])) (zq_ev r (0, [(12, 1)])) (zq_ev r (0, [(5, 1)])) P h := k2
  simp only [q11, q13, q14, q16, q2, q9] at k2
  have k3 := zj_use x_DR (zq_okX_t (zq_okX_t (hK)))
  have k3 : zm_DR (zq_ev r (0, [(6, 1)])) (zq_ev r (0, [(7, 1)])) P h := k3
  simp only [q15, q17] at k3
  obtain ⟨y_0, t1, t2⟩ := zk_b1_l (P := P) (h := h) (jk := r 0) (jo := r 1) (jt := r 2) (jm := r 3) (n := r 4) (M := r 5) (Z := r 6) (X := r 7) (k := r 8) (o := r 9) (t := r 10) (m := r 11) (N := r 12) (u := r 13) a1 a2 a3 a4 a5 a6 s1 s2 s3 s4 k1 k2 k3
  obtain ⟨rq, hr, w14⟩ : ∃ rq : Nat → Int, (∀ i, i < 14 → rq i = r i) ∧ rq 14 = y_0 := ⟨zq_up r 14 y_0, fun i hi => by rw [zu_up_ne (by omega)], rfl⟩
  have v0 : rq 0 = r 0 := hr 0 (by decide)
  have v1 : rq 1 = r 1 := hr 1 (by decide)
  have v2 : rq 2 = r 2 := hr 2 (by decide)
  have v3 : rq 3 = r 3 := hr 3 (by decide)
  have v4 : rq 4 = r 4 := hr 4 (by decide)
  have v5 : rq 5 = r 5 := hr 5 (by decide)
  have v6 : rq 6 = r 6 := hr 6 (by decide)
  have v8 : rq 8 = r 8 := hr 8 (by decide)
  have v12 : rq 12 = r 12 := hr 12 (by decide)
  have v13 : rq 13 = r 13 := hr 13 (by decide)
  have g0 : zq_ev rq (0, [(6, 1)]) = r 6 := zu_f1 v6
  have g1 : zq_ev rq (0, [(4, 1)]) = r 4 := zu_f1 v4
  have g2 : zq_ev rq (0, [(5, 1)]) = r 5 := zu_f1 v5
  have g3 : zq_ev rq (0, [(8, 1)]) = r 8 := zu_f1 v8
  have g4 : zq_ev rq (0, [(13, 1)]) = r 13 := zu_f1 v13
  have g5 : zq_ev rq (0, [(14, 1)]) = y_0 := zu_f1 w14
  have g6 : zq_ev rq (0, [(0, 1)]) = r 0 := zu_f1 v0
  have g7 : zq_ev rq (0, [(1, 1)]) = r 1 := zu_f1 v1
  have g8 : zq_ev rq (0, [(2, 1)]) = r 2 := zu_f1 v2
  have g9 : zq_ev rq (0, [(3, 1)]) = r 3 := zu_f1 v3
  have g10 : zq_ev rq (0, [(12, 1)]) = r 12 := zu_f1 v12
  exact ⟨_, List.mem_cons_self .., rq, hr, zq_MeS_mk rfl hT (zq_all_nil) zq_fan (zq_fan) rfl (zu_fac ((x_ZC1 _ _ _).mpr (by show zk_ZC 50 (zq_ev rq (0, [(0, 1)])) (zq_ev rq (0, [(1, 1)])) (zq_ev rq (0, [(2, 1)])) (zq_ev rq (0, [(3, 1)])) (zq_ev rq (0, [(13, 1)])) (zq_ev rq (0, [(12, 1)])) (zq_ev rq (0, [(14, 1)])) P h; simp only [g10, g4, g5, g6, g7, g8, g9]; exact t1)) (zu_fac ((x_PZ _ _ _).mpr (by show zm_PZ (zq_ev rq (0, [(6, 1)])) (zq_ev rq (0, [(4, 1)])) (zq_ev rq (0, [(5, 1)])) (zq_ev rq (0, [(8, 1)])) (zq_ev rq (0, [(13, 1)])) (zq_ev rq (0, [(14, 1)])) P h; simp only [g0, g1, g2, g3, g4, g5]; exact t2)) zq_fan))⟩
noncomputable def zo_w1a : zq_S × List zq_S := (([], [], [(-1, [(3, -1)])], [], [], [], [], 5), [([], [], [], [], [], [], [(301, [(0, [(0, 1)]), (0, [(1, 1)]), (0, [(2, 1)]), (0, [(3, 1)]), (0, [(4, 1)]), (-1, []), (0, [(0, 1)]), (0, [(1, 1)]), (0, [(2, 1)])])], 5)])
theorem zo_w1a_l {P : zq_Ty} {h : zq_H} {M n Z q c : Int} (a1 : 0 ≤ -q - 1) : (zk_WN M n Z q c (-1) M n Z P h) := by
  exact Or.inl ⟨by omega, rfl, rfl, rfl, rfl⟩
theorem zo_w1a_ok {w : zq_Wd} (x_WN : zj_is w 301 (fun q => zk_WN (q 0) (q 1) (q 2) (q 3) (q 4) (q 5) (q 6) (q 7) (q 8))) : zq_okG1 w zo_w1a := by
  refine ⟨rfl, rfl, zu_fac ⟨rfl, by decide⟩ zq_fan, ?_⟩
  intro r P h H hM
  have q0 : zq_ev r (-1, [(3, -1)]) = -r 3 - 1 := zu_e6 _ _ _
  obtain ⟨hT, hC, hF, hS, -, hK⟩ := hM
  have c := hC.1
  have a1 := zq_all_1 c
  rw [q0] at a1
  obtain t1 := zo_w1a_l (P := P) (h := h) (M := r 0) (n := r 1) (Z := r 2) (q := r 3) (c := r 4) a1
  obtain ⟨rq, hr⟩ : ∃ rq : Nat → Int, (∀ i, i < 5 → rq i = r i) := ⟨r, fun i hi => rfl⟩
  have v0 : rq 0 = r 0 := hr 0 (by decide)
  have v1 : rq 1 = r 1 := hr 1 (by decide)
  have v2 : rq 2 = r 2 := hr 2 (by decide)
  have v3 : rq 3 = r 3 := hr 3 (by decide)
  have v4 : rq 4 = r 4 := hr 4 (by decide)
  have g0 : zq_ev rq (0, [(0, 1)]) = r 0 := zu_f1 v0
  have g1 : zq_ev rq (0, [(1, 1)]) = r 1 := zu_f1 v1
  have g2 : zq_ev rq (0, [(2, 1)]) = r 2 := zu_f1 v2
  have g3 : zq_ev rq (0, [(3, 1)]) = r 3 := zu_f1 v3
  have g4 : zq_ev rq (0, [(4, 1)]) = r 4 := zu_f1 v4
  have g5 : zq_ev rq (-1, []) = -1 := zu_e0 _ _
  exact ⟨_, List.mem_cons_self .., rq, hr, zq_MeS_mk rfl hT (zq_all_nil) zq_fan (zq_fan) rfl (zu_fac ((x_WN _ _ _).mpr (by show zk_WN (zq_ev rq (0, [(0, 1)])) (zq_ev rq (0, [(1, 1)])) (zq_ev rq (0, [(2, 1)])) (zq_ev rq (0, [(3, 1)])) (zq_ev rq (0, [(4, 1)])) (zq_ev rq (-1, [])) (zq_ev rq (0, [(0, 1)])) (zq_ev rq (0, [(1, 1)])) (zq_ev rq (0, [(2, 1)])) P h; simp only [g0, g1, g2, g3, g4, g5]; exact t1)) zq_fan)⟩
noncomputable def zo_w1b : zq_S × List zq_S := (([], [], [(-4, [(3, 1)])], [], [], [], [], 5), [([], [], [], [], [], [], [(301, [(0, [(0, 1)]), (0, [(1, 1)]), (0, [(2, 1)]), (0, [(3, 1)]), (0, [(4, 1)]), (-1, []), (0, [(0, 1)]), (0, [(1, 1)]), (0, [(2, 1)])])], 5)])
theorem zo_w1b_l {P : zq_Ty} {h : zq_H} {M n Z q c : Int} (a1 : 0 ≤ q - 4) : (zk_WN M n Z q c (-1) M n Z P h) := by
  exact Or.inl ⟨by omega, rfl, rfl, rfl, rfl⟩
theorem zo_w1b_ok {w : zq_Wd} (x_WN : zj_is w 301 (fun q => zk_WN (q 0) (q 1) (q 2) (q 3) (q 4) (q 5) (q 6) (q 7) (q 8))) : zq_okG1 w zo_w1b := by
  refine ⟨rfl, rfl, zu_fac ⟨rfl, by decide⟩ zq_fan, ?_⟩
  intro r P h H hM
  have q0 : zq_ev r (-4, [(3, 1)]) = r 3 - 4 := zu_e3 _ _ _
  obtain ⟨hT, hC, hF, hS, -, hK⟩ := hM
  have c := hC.1
  have a1 := zq_all_1 c
  rw [q0] at a1
  obtain t1 := zo_w1b_l (P := P) (h := h) (M := r 0) (n := r 1) (Z := r 2) (q := r 3) (c := r 4) a1
  obtain ⟨rq, hr⟩ : ∃ rq : Nat → Int, (∀ i, i < 5 → rq i = r i) := ⟨r, fun i hi => rfl⟩
  have v0 : rq 0 = r 0 := hr 0 (by decide)
  have v1 : rq 1 = r 1 := hr 1 (by decide)
  have v2 : rq 2 = r 2 := hr 2 (by decide)
  have v3 : rq 3 = r 3 := hr 3 (by decide)
  have v4 : rq 4 = r 4 := hr 4 (by decide)
  have g0 : zq_ev rq (0, [(0, 1)]) = r 0 := zu_f1 v0
  have g1 : zq_ev rq (0, [(1, 1)]) = r 1 := zu_f1 v1
  have g2 : zq_ev rq (0, [(2, 1)]) = r 2 := zu_f1 v2
  have g3 : zq_ev rq (0, [(3, 1)]) = r 3 := zu_f1 v3
  have g4 : zq_ev rq (0, [(4, 1)]) = r 4 := zu_f1 v4
  have g5 : zq_ev rq (-1, []) = -1 := zu_e0 _ _
  exact ⟨_, List.mem_cons_self .., rq, hr, zq_MeS_mk rfl hT (zq_all_nil) zq_fan (zq_fan) rfl (zu_fac ((x_WN _ _ _).mpr (by show zk_WN (zq_ev rq (0, [(0, 1)])) (zq_ev rq (0, [(1, 1)])) (zq_ev rq (0, [(2, 1)])) (zq_ev rq (0, [(3, 1)])) (zq_ev rq (0, [(4, 1)])) (zq_ev rq (-1, [])) (zq_ev rq (0, [(0, 1)])) (zq_ev rq (0, [(1, 1)])) (zq_ev rq (0, [(2, 1)])) P h; simp only [g0, g1, g2, g3, g4, g5]; exact t1)) zq_fan)⟩
noncomputable def zo_w1c : zq_S × List zq_S := (([], [], [(-1, [(4, -1)])], [], [], [], [], 5), [([], [], [], [], [], [], [(301, [(0, [(0, 1)]), (0, [(1, 1)]), (0, [(2, 1)]), (0, [(3, 1)]), (0, [(4, 1)]), (-1, []), (0, [(0, 1)]), (0, [(1, 1)]), (0, [(2, 1)])])], 5)])
theorem zo_w1c_l {P : zq_Ty} {h : zq_H} {M n Z q c : Int} (a1 : 0 ≤ -c - 1) : (zk_WN M n Z q c (-1) M n Z P h) := by
  exact Or.inl ⟨by omega, rfl, rfl, rfl, rfl⟩
theorem zo_w1c_ok {w : zq_Wd} (x_WN : zj_is w 301 (fun q => zk_WN (q 0) (q 1) (q 2) (q 3) (q 4) (q 5) (q 6) (q 7) (q 8))) : zq_okG1 w zo_w1c := by
  refine ⟨rfl, rfl, zu_fac ⟨rfl, by decide⟩ zq_fan, ?_⟩
  intro r P h H hM
  have q0 : zq_ev r (-1, [(4, -1)]) = -r 4 - 1 := zu_e6 _ _ _
  obtain ⟨hT, hC, hF, hS, -, hK⟩ := hM
  have c := hC.1
  have a1 := zq_all_1 c
  rw [q0] at a1
  obtain t1 := zo_w1c_l (P := P) (h := h) (M := r 0) (n := r 1) (Z := r 2) (q := r 3) (c := r 4) a1
  obtain ⟨rq, hr⟩ : ∃ rq : Nat → Int, (∀ i, i < 5 → rq i = r i) := ⟨r, fun i hi => rfl⟩
  have v0 : rq 0 = r 0 := hr 0 (by decide)
  have v1 : rq 1 = r 1 := hr 1 (by decide)
  have v2 : rq 2 = r 2 := hr 2 (by decide)
  have v3 : rq 3 = r 3 := hr 3 (by decide)
  have v4 : rq 4 = r 4 := hr 4 (by decide)
  have g0 : zq_ev rq (0, [(0, 1)]) = r 0 := zu_f1 v0
  have g1 : zq_ev rq (0, [(1, 1)]) = r 1 := zu_f1 v1
  have g2 : zq_ev rq (0, [(2, 1)]) = r 2 := zu_f1 v2
  have g3 : zq_ev rq (0, [(3, 1)]) = r 3 := zu_f1 v3
  have g4 : zq_ev rq (0, [(4, 1)]) = r 4 := zu_f1 v4
  have g5 : zq_ev rq (-1, []) = -1 := zu_e0 _ _
  exact ⟨_, List.mem_cons_self .., rq, hr, zq_MeS_mk rfl hT (zq_all_nil) zq_fan (zq_fan) rfl (zu_fac ((x_WN _ _ _).mpr (by show zk_WN (zq_ev rq (0, [(0, 1)])) (zq_ev rq (0, [(1, 1)])) (zq_ev rq (0, [(2, 1)])) (zq_ev rq (0, [(3, 1)])) (zq_ev rq (0, [(4, 1)])) (zq_ev rq (-1, [])) (zq_ev rq (0, [(0, 1)])) (zq_ev rq (0, [(1, 1)])) (zq_ev rq (0, [(2, 1)])) P h; simp only [g0, g1, g2, g3, g4, g5]; exact t1)) zq_fan)⟩
noncomputable def zo_w1d : zq_S × List zq_S := (([], [], [(-7, [(4, 1)])], [], [], [], [], 5), [([], [], [], [], [], [], [(301, [(0, [(0, 1)]), (0, [(1, 1)]), (0, [(2, 1)]), (0, [(3, 1)]), (0, [(4, 1)]), (-1, []), (0, [(0, 1)]), (0, [(1, 1)]), (0, [(2, 1)])])], 5)])
theorem zo_w1d_l {P : zq_Ty} {h : zq_H} {M n Z q c : Int} (a1 : 0 ≤ c - 7) : (zk_WN M n Z q c (-1) M n Z P h) := by
  exact Or.inl ⟨by omega, rfl, rfl, rfl, rfl⟩
theorem zo_w1d_ok {w : zq_Wd} (x_WN : zj_is w 301 (fun q => zk_WN (q 0) (q 1) (q 2) (q 3) (q 4) (q 5) (q 6) (q 7) (q 8))) : zq_okG1 w zo_w1d := by
  refine ⟨rfl, rfl, zu_fac ⟨rfl, by decide⟩ zq_fan, ?_⟩
  intro r P h H hM
  have q0 : zq_ev r (-7, [(4, 1)]) = r 4 - 7 := zu_e3 _ _ _
  obtain ⟨hT, hC, hF, hS, -, hK⟩ := hM
  have c := hC.1
  have a1 := zq_all_1 c
  rw [q0] at a1
  obtain t1 := zo_w1d_l (P := P) (h := h) (M := r 0) (n := r 1) (Z := r 2) (q := r 3) (c := r 4) a1
  obtain ⟨rq, hr⟩ : ∃ rq : Nat → Int, (∀ i, i < 5 → rq i = r i) := ⟨r, fun i hi => rfl⟩
  have v0 : rq 0 = r 0 := hr 0 (by decide)
  have v1 : rq 1 = r 1 := hr 1 (by decide)
  have v2 : rq 2 = r 2 := hr 2 (by decide)
  have v3 : rq 3 = r 3 := hr 3 (by decide)
  have v4 : rq 4 = r 4 := hr 4 (by decide)
  have g0 : zq_ev rq (0, [(0, 1)]) = r 0 := zu_f1 v0
  have g1 : zq_ev rq (0, [(1, 1)]) = r 1 := zu_f1 v1
  have g2 : zq_ev rq (0, [(2, 1)]) = r 2 := zu_f1 v2
  have g3 : zq_ev rq (0, [(3, 1)]) = r 3 := zu_f1 v3
  have g4 : zq_ev rq (0, [(4, 1)]) = r 4 := zu_f1 v4
  have g5 : zq_ev rq (-1, []) = -1 := zu_e0 _ _
  exact ⟨_, List.mem_cons_self .., rq, hr, zq_MeS_mk rfl hT (zq_all_nil) zq_fan (zq_fan) rfl (zu_fac ((x_WN _ _ _).mpr (by show zk_WN (zq_ev rq (0, [(0, 1)])) (zq_ev rq (0, [(1, 1)])) (zq_ev rq (0, [(2, 1)])) (zq_ev rq (0, [(3, 1)])) (zq_ev rq (0, [(4, 1)])) (zq_ev rq (-1, [])) (zq_ev rq (0, [(0, 1)])) (zq_ev rq (0, [(1, 1)])) (zq_ev rq (0, [(2, 1)])) P h; simp only [g0, g1, g2, g3, g4, g5]; exact t1)) zq_fan)⟩
noncomputable def zo_w3 : zq_S × List zq_S := (([], [], [(0, [(3, 1)]), (3, [(3, -1)]), (0, [(4, 1)]), (6, [(4, -1)]), (0, [(4, -1), (5, 1)]), (0, [(4, 1), (5, -1)])], [], [], [], [(134, [(0, [(0, 1)]), (6, [(3, 1)]), (0, [(5, 1)])])], 6), [([], [], [], [], [], [], [(301, [(0, [(0, 1)]), (0, [(1, 1)]), (0, [(2, 1)]), (0, [(3, 1)]), (0, [(4, 1)]), (-3, []), (0, [(0, 1)]), (0, [(1, 1)]), (0, [(2, 1)])])], 6)])
theorem zo_w3_l {P : zq_Ty} {h : zq_H} {M n Z q c v : Int} (a1 : 0 ≤ q) (a2 : 0 ≤ -q + 3) (a3 : 0 ≤ c) (a4 : 0 ≤ -c + 6) (a5 : 0 ≤ -c + v) (a6 : 0 ≤ c - v) (k1 : zn_DG M (q + 6) v P h) : (zk_WN M n Z q c (-3) M n Z P h) := by
  have k1 : v = zn_dg M (q + 6) := k1
  exact Or.inr ⟨by omega, by omega, by omega, by omega, Or.inl ⟨by rw [show 6 + q = q + 6 by omega, ← k1]; omega, rfl, rfl, rfl, rfl⟩⟩
theorem zo_w3_ok {w : zq_Wd} (x_DG : zj_is w 134 (fun q => zn_DG (q 0) (q 1) (q 2))) (x_WN : zj_is w 301 (fun q => zk_WN (q 0) (q 1) (q 2) (q 3) (q 4) (q 5) (q 6) (q 7) (q 8))) : zq_okG1 w zo_w3 := by
  refine ⟨rfl, rfl, zu_fac ⟨rfl, by decide⟩ zq_fan, ?_⟩
  intro r P h H hM
  have q0 : zq_ev r (0, [(3, 1)]) = r 3 := zu_e1 _ _
  have q1 : zq_ev r (3, [(3, -1)]) = -r 3 + 3 := zu_e5 _ _ _
  have q2 : zq_ev r (0, [(4, 1)]) = r 4 := zu_e1 _ _
  have q3 : zq_ev r (6, [(4, -1)]) = -r 4 + 6 := zu_e5 _ _ _
  have q4 : zq_ev r (0, [(4, -1), (5, 1)]) = -r 4 + r 5 := by simp only [zq_ev, zq_ts] <;> omega
  have q5 : zq_ev r (0, [(4, 1), (5, -1)]) = r 4 - r 5 := by simp only [zq_ev, zq_ts] <;> omega
  have q6 : zq_ev r (0, [(0, 1)]) = r 0 := zu_e1 _ _
  have q7 : zq_ev r (6, [(3, 1)]) = r 3 + 6 := zu_e2 _ _ _
  have q8 : zq_ev r (0, [(5, 1)]) = r 5 := zu_e1 _ _
  obtain ⟨hT, hC, hF, hS, -, hK⟩ := hM
  have c := hC.1
  have a1 := zq_all_1 c
  rw [q0] at a1
  have c := zq_all_t c
  have a2 := zq_all_1 c
  rw [q1] at a2
  have c := zq_all_t c
  have a3 := zq_all_1 c
  rw [q2] at a3
  have c := zq_all_t c
  have a4 := zq_all_1 c
  rw [q3] at a4
  have c := zq_all_t c
  have a5 := zq_all_1 c
  rw [q4] at a5
  have c := zq_all_t c
  have a6 := zq_all_1 c
  rw [q5] at a6
  have k1 := zj_use x_DG (hK)
  have k1 : zn_DG (zq_ev r (0, [(0, 1)])) (zq_ev r (6, [(3, 1)])) (zq_ev r (0, [(5, 1)])) P h := k1
  simp only [q6, q7, q8] at k1
  obtain t1 := zo_w3_l (P := P) (h := h) (M := r 0) (n := r 1) (Z := r 2) (q := r 3) (c := r 4) (v := r 5) a1 a2 a3 a4 a5 a6 k1
  obtain ⟨rq, hr⟩ : ∃ rq : Nat → Int, (∀ i, i < 6 → rq i = r i) := ⟨r, fun i hi => rfl⟩
  have v0 : rq 0 = r 0 := hr 0 (by decide)
  have v1 : rq 1 = r 1 := hr 1 (by decide)
  have v2 : rq 2 = r 2 := hr 2 (by decide)
  have v3 : rq 3 = r 3 := hr 3 (by decide)
  have v4 : rq 4 = r 4 := hr 4 (by decide)
  have g0 : zq_ev rq (0, [(0, 1)]) = r 0 := zu_f1 v0
  have g1 : zq_ev rq (0, [(1, 1)]) = r 1 := zu_f1 v1
  have g2 : zq_ev rq (0, [(2, 1)]) = r 2 := zu_f1 v2
  have g3 : zq_ev rq (0, [(3, 1)]) = r 3 := zu_f1 v3
  have g4 : zq_ev rq (0, [(4, 1)]) = r 4 := zu_f1 v4
  have g5 : zq_ev rq (-3, []) = -3 := zu_e0 _ _
  exact ⟨_, List.mem_cons_self .., rq, hr, zq_MeS_mk rfl hT (zq_all_nil) zq_fan (zq_fan) rfl (zu_fac ((x_WN _ _ _).mpr (by show zk_WN (zq_ev rq (0, [(0, 1)])) (zq_ev rq (0, [(1, 1)])) (zq_ev rq (0, [(2, 1)])) (zq_ev rq (0, [(3, 1)])) (zq_ev rq (0, [(4, 1)])) (zq_ev rq (-3, [])) (zq_ev rq (0, [(0, 1)])) (zq_ev rq (0, [(1, 1)])) (zq_ev rq (0, [(2, 1)])) P h; simp only [g0, g1, g2, g3, g4, g5]; exact t1)) zq_fan)⟩
noncomputable def zo_wl : zq_S × List zq_S := (([], [], [(0, [(3, 1)]), (3, [(3, -1)]), (0, [(4, 1)]), (6, [(4, -1)]), (-1, [(4, 1), (5, -1)])], [], [], [], [(134, [(0, [(0, 1)]), (6, [(3, 1)]), (0, [(5, 1)])]), (290, [(0, [(0, 1)]), (6, [(3, 1)]), (0, [(4, 1)]), (0, [(6, 1)])]), (291, [(0, [(2, 1)]), (0, [(1, 1)]), (0, [(0, 1)]), (2, []), (0, [(7, 1)]), (0, [(8, 1)])])], 9), [([], [], [], [], [], [], [(301, [(0, [(0, 1)]), (0, [(1, 1)]), (0, [(2, 1)]), (0, [(3, 1)]), (0, [(4, 1)]), (0, [(5, 1)]), (0, [(6, 1)]), (0, [(7, 1)]), (0, [(8, 1)])])], 9)])
theorem zo_wl_l {P : zq_Ty} {h : zq_H} {M n Z q c v N m Y : Int} (a1 : 0 ≤ q) (a2 : 0 ≤ -q + 3) (a3 : 0 ≤ c) (a4 : 0 ≤ -c + 6) (a5 : 0 ≤ c - v - 1) (k1 : zn_DG M (q + 6) v P h) (k2 : zm_UM M (q + 6) c N P h) (k3 : zm_PZ Z n M 2 m Y P h) : (zk_WN M n Z q c v N m Y P h) := by
  have k1 : v = zn_dg M (q + 6) := k1
  have k2 : N = zm_st M (q + 6) c := k2
  exact Or.inr ⟨by omega, by omega, by omega, by omega, Or.inr ⟨by rw [show 6 + q = q + 6 by omega, ← k1]; omega, by rw [show 6 + q = q + 6 by omega]; exact k1, by rw [show 6 + q = q + 6 by omega]; exact k2, k3.1, k3.2⟩⟩
theorem zo_wl_ok {w : zq_Wd} (x_DG : zj_is w 134 (fun q => zn_DG (q 0) (q 1) (q 2))) (x_UM : zj_is w 290 (fun q => zm_UM (q 0) (q 1) (q 2) (q 3))) (x_PZ : zj_is w 291 (fun q => zm_PZ (q 0) (q 1) (q 2) (q 3) (q 4) (q 5))) (x_WN : zj_is w 301 (fun q => zk_WN (q 0) (q 1) (q 2) (q 3) (q 4) (q 5) (q 6) (q 7) (q 8))) : zq_okG1 w zo_wl := by
  refine ⟨rfl, rfl, zu_fac ⟨rfl, by decide⟩ zq_fan, ?_⟩
  intro r P h H hM
  have q0 : zq_ev r (0, [(3, 1)]) = r 3 := zu_e1 _ _
  have q1 : zq_ev r (3, [(3, -1)]) = -r 3 + 3 := zu_e5 _ _ _
  have q2 : zq_ev r (0, [(4, 1)]) = r 4 := zu_e1 _ _
  have q3 : zq_ev r (6, [(4, -1)]) = -r 4 + 6 := zu_e5 _ _ _
  have q4 : zq_ev r (-1, [(4, 1), (5, -1)]) = r 4 - r 5 - 1 := by simp only [zq_ev, zq_ts] <;> omega
  have q5 : zq_ev r (0, [(0, 1)]) = r 0 := zu_e1 _ _
  have q6 : zq_ev r (6, [(3, 1)]) = r 3 + 6 := zu_e2 _ _ _
  have q7 : zq_ev r (0, [(5, 1)]) = r 5 := zu_e1 _ _
  have q8 : zq_ev r (0, [(6, 1)]) = r 6 := zu_e1 _ _
  have q9 : zq_ev r (0, [(2, 1)]) = r 2 := zu_e1 _ _
  have q10 : zq_ev r (0, [(1, 1)]) = r 1 := zu_e1 _ _
  have q11 : zq_ev r (2, []) = 2 := zu_e0 _ _
  have q12 : zq_ev r (0, [(7, 1)]) = r 7 := zu_e1 _ _
  have q13 : zq_ev r (0, [(8, 1)]) = r 8 := zu_e1 _ _
  obtain ⟨hT, hC, hF, hS, -, hK⟩ := hM
  have c := hC.1
  have a1 := zq_all_1 c
  rw [q0] at a1
  have c := zq_all_t c
  have a2 := zq_all_1 c
  rw [q1] at a2
  have c := zq_all_t c
  have a3 := zq_all_1 c
  rw [q2] at a3
  have c := zq_all_t c
  have a4 := zq_all_1 c
  rw [q3] at a4
  have c := zq_all_t c
  have a5 := zq_all_1 c
  rw [q4] at a5
  have k1 := zj_use x_DG (hK)
  have k1 : zn_DG (zq_ev r (0, [(0, 1)])) (zq_ev r (6, [(3, 1)])) (zq_ev r (0, [(5, 1)])) P h := k1
  simp only [q5, q6, q7] at k1
  have k2 := zj_use x_UM (zq_okX_t (hK))
  have k2 : zm_UM (zq_ev r (0, [(0, 1)])) (zq_ev r (6, [(3, 1)])) (zq_ev r (0, [(4, 1)])) (zq_ev r (0, [(6, 1)])) P h := k2
  simp only [q2, q5, q6, q8] at k2
  have k3 := zj_use x_PZ (zq_okX_t (zq_okX_t (hK)))
  have k3 : zm_PZ (zq_ev r (0, [(2, 1)])) (zq_ev r (0, [(1, 1)])) (zq_ev r (0, [(0, 1)])) (zq_ev r (2, [])) (zq_ev r (0, [(7, 1)])) (zq_ev r (0, [(8, 1)])) P h := k3
  simp only [q10, q11, q12, q13, q5, q9] at k3
  obtain t1 := zo_wl_l (P := P) (h := h) (M := r 0) (n := r 1) (Z := r 2) (q := r 3) (c := r 4) (v := r 5) (N := r 6) (m := r 7) (Y := r 8) a1 a2 a3 a4 a5 k1 k2 k3
  obtain ⟨rq, hr⟩ : ∃ rq : Nat → Int, (∀ i, i < 9 → rq i = r i) := ⟨r, fun i hi => rfl⟩
  have v0 : rq 0 = r 0 := hr 0 (by decide)
  have v1 : rq 1 = r 1 := hr 1 (by decide)
  have v2 : rq 2 = r 2 := hr 2 (by decide)
  have v3 : rq 3 = r 3 := hr 3 (by decide)
  have v4 : rq 4 = r 4 := hr 4 (by decide)
  have v5 : rq 5 = r 5 := hr 5 (by decide)
  have v6 : rq 6 = r 6 := hr 6 (by decide)
  have v7 : rq 7 = r 7 := hr 7 (by decide)
  have v8 : rq 8 = r 8 := hr 8 (by decide)
  have g0 : zq_ev rq (0, [(0, 1)]) = r 0 := zu_f1 v0
  have g1 : zq_ev rq (0, [(1, 1)]) = r 1 := zu_f1 v1
  have g2 : zq_ev rq (0, [(2, 1)]) = r 2 := zu_f1 v2
  have g3 : zq_ev rq (0, [(3, 1)]) = r 3 := zu_f1 v3
  have g4 : zq_ev rq (0, [(4, 1)]) = r 4 := zu_f1 v4
  have g5 : zq_ev rq (0, [(5, 1)]) = r 5 := zu_f1 v5
  have g6 : zq_ev rq (0, [(6, 1)]) = r 6 := zu_f1 v6
  have g7 : zq_ev rq (0, [(7, 1)]) = r 7 := zu_f1 v7
  have g8 : zq_ev rq (0, [(8, 1)]) = r 8 := zu_f1 v8
  exact ⟨_, List.mem_cons_self .., rq, hr, zq_MeS_mk rfl hT (zq_all_nil) zq_fan (zq_fan) rfl (zu_fac ((x_WN _ _ _).mpr (by show zk_WN (zq_ev rq (0, [(0, 1)])) (zq_ev rq (0, [(1, 1)])) (zq_ev rq (0, [(2, 1)])) (zq_ev rq (0, [(3, 1)])) (zq_ev rq (0, [(4, 1)])) (zq_ev rq (0, [(5, 1)])) (zq_ev rq (0, [(6, 1)])) (zq_ev rq (0, [(7, 1)])) (zq_ev rq (0, [(8, 1)])) P h; simp only [g0, g1, g2, g3, g4, g5, g6, g7, g8]; exact t1)) zq_fan)⟩
noncomputable def zo_wg : zq_S × List zq_S := (([], [], [(0, [(3, 1)]), (3, [(3, -1)]), (0, [(4, 1)]), (6, [(4, -1)]), (-1, [(4, -1), (5, 1)])], [], [], [], [(134, [(0, [(0, 1)]), (6, [(3, 1)]), (0, [(5, 1)])]), (290, [(0, [(0, 1)]), (6, [(3, 1)]), (0, [(4, 1)]), (0, [(6, 1)])]), (291, [(0, [(2, 1)]), (0, [(1, 1)]), (0, [(0, 1)]), (2, []), (0, [(7, 1)]), (0, [(8, 1)])])], 9), [([], [], [], [], [], [], [(301, [(0, [(0, 1)]), (0, [(1, 1)]), (0, [(2, 1)]), (0, [(3, 1)]), (0, [(4, 1)]), (0, [(5, 1)]), (0, [(6, 1)]), (0, [(7, 1)]), (0, [(8, 1)])])], 9)])
theorem zo_wg_l {P : zq_Ty} {h : zq_H} {M n Z q c v N m Y : Int} (a1 : 0 ≤ q) (a2 : 0 ≤ -q + 3) (a3 : 0 ≤ c) (a4 : 0 ≤ -c + 6) (a5 : 0 ≤ -c + v - 1) (k1 : zn_DG M (q + 6) v P h) (k2 : zm_UM M (q + 6) c N P h) (k3 : zm_PZ Z n M 2 m Y P h) : (zk_WN M n Z q c v N m Y P h) := by
  have k1 : v = zn_dg M (q + 6) := k1
  have k2 : N = zm_st M (q + 6) c := k2
  exact Or.inr ⟨by omega, by omega, by omega, by omega, Or.inr ⟨by rw [show 6 + q = q + 6 by omega, ← k1]; omega, by rw [show 6 + q = q + 6 by omega]; exact k1, by rw [show 6 + q = q + 6 by omega]; exact k2, k3.1, k3.2⟩⟩
theorem zo_wg_ok {w : zq_Wd} (x_DG : zj_is w 134 (fun q => zn_DG (q 0) (q 1) (q 2))) (x_UM : zj_is w 290 (fun q => zm_UM (q 0) (q 1) (q 2) (q 3))) (x_PZ : zj_is w 291 (fun q => zm_PZ (q 0) (q 1) (q 2) (q 3) (q 4) (q 5))) (x_WN : zj_is w 301 (fun q => zk_WN (q 0) (q 1) (q 2) (q 3) (q 4) (q 5) (q 6) (q 7) (q 8))) : zq_okG1 w zo_wg := by
  refine ⟨rfl, rfl, zu_fac ⟨rfl, by decide⟩ zq_fan, ?_⟩
  intro r P h H hM
  have q0 : zq_ev r (0, [(3, 1)]) = r 3 := zu_e1 _ _
  have q1 : zq_ev r (3, [(3, -1)]) = -r 3 + 3 := zu_e5 _ _ _
  have q2 : zq_ev r (0, [(4, 1)]) = r 4 := zu_e1 _ _
  have q3 : zq_ev r (6, [(4, -1)]) = -r 4 + 6 := zu_e5 _ _ _
  have q4 : zq_ev r (-1, [(4, -1), (5, 1)]) = -r 4 + r 5 - 1 := by simp only [zq_ev, zq_ts] <;> omega
  have q5 : zq_ev r (0, [(0, 1)]) = r 0 := zu_e1 _ _
  have q6 : zq_ev r (6, [(3, 1)]) = r 3 + 6 := zu_e2 _ _ _
  have q7 : zq_ev r (0, [(5, 1)]) = r 5 := zu_e1 _ _
  have q8 : zq_ev r (0, [(6, 1)]) = r 6 := zu_e1 _ _
  have q9 : zq_ev r (0, [(2, 1)]) = r 2 := zu_e1 _ _
  have q10 : zq_ev r (0, [(1, 1)]) = r 1 := zu_e1 _ _
  have q11 : zq_ev r (2, []) = 2 := zu_e0 _ _
  have q12 : zq_ev r (0, [(7, 1)]) = r 7 := zu_e1 _ _
  have q13 : zq_ev r (0, [(8, 1)]) = r 8 := zu_e1 _ _
  obtain ⟨hT, hC, hF, hS, -, hK⟩ := hM
  have c := hC.1
  have a1 := zq_all_1 c
  rw [q0] at a1
  have c := zq_all_t c
  have a2 := zq_all_1 c
  rw [q1] at a2
  have c := zq_all_t c
  have a3 := zq_all_1 c
  rw [q2] at a3
  have c := zq_all_t c
  have a4 := zq_all_1 c
  rw [q3] at a4
  have c := zq_all_t c
  have a5 := zq_all_1 c
  rw [q4] at a5
  have k1 := zj_use x_DG (hK)
  have k1 : zn_DG (zq_ev r (0, [(0, 1)])) (zq_ev r (6, [(3, 1)])) (zq_ev r (0, [(5, 1)])) P h := k1
  simp only [q5, q6, q7] at k1
  have k2 := zj_use x_UM (zq_okX_t (hK))
  have k2 : zm_UM (zq_ev r (0, [(0, 1)])) (zq_ev r (6, [(3, 1)])) (zq_ev r (0, [(4, 1)])) (zq_ev r (0, [(6, 1)])) P h := k2
  simp only [q2, q5, q6, q8] at k2
  have k3 := zj_use x_PZ (zq_okX_t (zq_okX_t (hK)))
  have k3 : zm_PZ (zq_ev r (0, [(2, 1)])) (zq_ev r (0, [(1, 1)])) (zq_ev r (0, [(0, 1)])) (zq_ev r (2, [])) (zq_ev r (0, [(7, 1)])) (zq_ev r (0, [(8, 1)])) P h := k3
  simp only [q10, q11, q12, q13, q5, q9] at k3
  obtain t1 := zo_wg_l (P := P) (h := h) (M := r 0) (n := r 1) (Z := r 2) (q := r 3) (c := r 4) (v := r 5) (N := r 6) (m := r 7) (Y := r 8) a1 a2 a3 a4 a5 k1 k2 k3
  obtain ⟨rq, hr⟩ : ∃ rq : Nat → Int, (∀ i, i < 9 → rq i = r i) := ⟨r, fun i hi => rfl⟩
  have v0 : rq 0 = r 0 := hr 0 (by decide)
  have v1 : rq 1 = r 1 := hr 1 (by decide)
  have v2 : rq 2 = r 2 := hr 2 (by decide)
  have v3 : rq 3 = r 3 := hr 3 (by decide)
  have v4 : rq 4 = r 4 := hr 4 (by decide)
  have v5 : rq 5 = r 5 := hr 5 (by decide)
  have v6 : rq 6 = r 6 := hr 6 (by decide)
  have v7 : rq 7 = r 7 := hr 7 (by decide)
  have v8 : rq 8 = r 8 := hr 8 (by decide)
  have g0 : zq_ev rq (0, [(0, 1)]) = r 0 := zu_f1 v0
  have g1 : zq_ev rq (0, [(1, 1)]) = r 1 := zu_f1 v1
  have g2 : zq_ev rq (0, [(2, 1)]) = r 2 := zu_f1 v2
  have g3 : zq_ev rq (0, [(3, 1)]) = r 3 := zu_f1 v3
  have g4 : zq_ev rq (0, [(4, 1)]) = r 4 := zu_f1 v4
  have g5 : zq_ev rq (0, [(5, 1)]) = r 5 := zu_f1 v5
  have g6 : zq_ev rq (0, [(6, 1)]) = r 6 := zu_f1 v6
  have g7 : zq_ev rq (0, [(7, 1)]) = r 7 := zu_f1 v7
  have g8 : zq_ev rq (0, [(8, 1)]) = r 8 := zu_f1 v8
  exact ⟨_, List.mem_cons_self .., rq, hr, zq_MeS_mk rfl hT (zq_all_nil) zq_fan (zq_fan) rfl (zu_fac ((x_WN _ _ _).mpr (by show zk_WN (zq_ev rq (0, [(0, 1)])) (zq_ev rq (0, [(1, 1)])) (zq_ev rq (0, [(2, 1)])) (zq_ev rq (0, [(3, 1)])) (zq_ev rq (0, [(4, 1)])) (zq_ev rq (0, [(5, 1)])) (zq_ev rq (0, [(6, 1)])) (zq_ev rq (0, [(7, 1)])) (zq_ev rq (0, [(8, 1)])) P h; simp only [g0, g1, g2, g3, g4, g5, g6, g7, g8]; exact t1)) zq_fan)⟩
noncomputable def zo_p3 : zq_S × List zq_S := (([], [], [(-999, [(3, 1)])], [], [], [], [(134, [(0, [(0, 1)]), (10, []), (0, [(3, 1)])])], 4), [([], [], [], [], [], [], [(302, [(0, [(0, 1)]), (0, [(1, 1)]), (0, [(2, 1)]), (-3, []), (0, [(0, 1)]), (0, [(1, 1)]), (0, [(2, 1)])])], 4)])
theorem zo_p3_l {P : zq_Ty} {h : zq_H} {M n Z v : Int} (a1 : 0 ≤ v - 999) (k1 : zn_DG M 10 v P h) : (zk_PA M n Z (-3) M n Z P h) := by
  have k1 : v = zn_dg M 10 := k1
  exact Or.inl ⟨by omega, rfl, rfl, rfl, rfl⟩
theorem zo_p3_ok {w : zq_Wd} (x_DG : zj_is w 134 (fun q => zn_DG (q 0) (q 1) (q 2))) (x_PA : zj_is w 302 (fun q => zk_PA (q 0) (q 1) (q 2) (q 3) (q 4) (q 5) (q 6))) : zq_okG1 w zo_p3 := by
  refine ⟨rfl, rfl, zu_fac ⟨rfl, by decide⟩ zq_fan, ?_⟩
  intro r P h H hM
  have q0 : zq_ev r (-999, [(3, 1)]) = r 3 - 999 := zu_e3 _ _ _
  have q1 : zq_ev r (0, [(0, 1)]) = r 0 := zu_e1 _ _
  have q2 : zq_ev r (10, []) = 10 := zu_e0 _ _
  have q3 : zq_ev r (0, [(3, 1)]) = r 3 := zu_e1 _ _
  obtain ⟨hT, hC, hF, hS, -, hK⟩ := hM
  have c := hC.1
  have a1 := zq_all_1 c
  rw [q0] at a1
  have k1 := zj_use x_DG (hK)
  have k1 : zn_DG (zq_ev r (0, [(0, 1)])) (zq_ev r (10, [])) (zq_ev r (0, [(3, 1)])) P h := k1
  simp only [q1, q2, q3] at k1
  obtain t1 := zo_p3_l (P := P) (h := h) (M := r 0) (n := r 1) (Z := r 2) (v := r 3) a1 k1
  obtain ⟨rq, hr⟩ : ∃ rq : Nat → Int, (∀ i, i < 4 → rq i = r i) := ⟨r, fun i hi => rfl⟩
  have v0 : rq 0 = r 0 := hr 0 (by decide)
  have v1 : rq 1 = r 1 := hr 1 (by decide)
  have v2 : rq 2 = r 2 := hr 2 (by decide)
  have g0 : zq_ev rq (0, [(0, 1)]) = r 0 := zu_f1 v0
  have g1 : zq_ev rq (0, [(1, 1)]) = r 1 := zu_f1 v1
  have g2 : zq_ev rq (0, [(2, 1)]) = r 2 := zu_f1 v2
  have g3 : zq_ev rq (-3, []) = -3 := zu_e0 _ _
  exact ⟨_, List.mem_cons_self .., rq, hr, zq_MeS_mk rfl hT (zq_all_nil) zq_fan (zq_fan) rfl (zu_fac ((x_PA _ _ _).mpr (by show zk_PA (zq_ev rq (0, [(0, 1)])) (zq_ev rq (0, [(1, 1)])) (zq_ev rq (0, [(2, 1)])) (zq_ev rq (-3, [])) (zq_ev rq (0, [(0, 1)])) (zq_ev rq (0, [(1, 1)])) (zq_ev rq (0, [(2, 1)])) P h; simp only [g0, g1, g2, g3]; exact t1)) zq_fan)⟩
noncomputable def zo_p : zq_S × List zq_S := (([], [], [(998, [(3, -1)]), (-1, [(3, -1), (4, 1)]), (1, [(3, 1), (4, -1)])], [], [], [], [(134, [(0, [(0, 1)]), (10, []), (0, [(3, 1)])]), (290, [(0, [(0, 1)]), (10, []), (0, [(4, 1)]), (0, [(5, 1)])]), (291, [(0, [(2, 1)]), (0, [(1, 1)]), (0, [(0, 1)]), (3, []), (0, [(6, 1)]), (0, [(7, 1)])])], 8), [([], [], [], [], [], [], [(302, [(0, [(0, 1)]), (0, [(1, 1)]), (0, [(2, 1)]), (0, [(4, 1)]), (0, [(5, 1)]), (0, [(6, 1)]), (0, [(7, 1)])])], 8)])
theorem zo_p_l {P : zq_Ty} {h : zq_H} {M n Z v x N m Y : Int} (a1 : 0 ≤ -v + 998) (a2 : 0 ≤ -v + x - 1) (a3 : 0 ≤ v - x + 1) (k1 : zn_DG M 10 v P h) (k2 : zm_UM M 10 x N P h) (k3 : zm_PZ Z n M 3 m Y P h) : (zk_PA M n Z x N m Y P h) := by
  have k1 : v = zn_dg M 10 := k1
  have k2 : N = zm_st M 10 x := k2
  exact Or.inr ⟨by omega, by omega, by rw [k2, ← k1]; congr 1; omega, k3.1, k3.2⟩
theorem zo_p_ok {w : zq_Wd} (x_DG : zj_is w 134 (fun q => zn_DG (q 0) (q 1) (q 2))) (x_UM : zj_is w 290 (fun q => zm_UM (q 0) (q 1) (q 2) (q 3))) (x_PZ : zj_is w 291 (fun q => zm_PZ (q 0) (q 1) (q 2) (q 3) (q 4) (q 5))) (x_PA : zj_is w 302 (fun q => zk_PA (q 0) (q 1) (q 2) (q 3) (q 4) (q 5) (q 6))) : zq_okG1 w zo_p := by
  refine ⟨rfl, rfl, zu_fac ⟨rfl, by decide⟩ zq_fan, ?_⟩
  intro r P h H hM
  have q0 : zq_ev r (998, [(3, -1)]) = -r 3 + 998 := zu_e5 _ _ _
  have q1 : zq_ev r (-1, [(3, -1), (4, 1)]) = -r 3 + r 4 - 1 := by simp only [zq_ev, zq_ts] <;> omega
  have q2 : zq_ev r (1, [(3, 1), (4, -1)]) = r 3 - r 4 + 1 := by simp only [zq_ev, zq_ts] <;> omega
  have q3 : zq_ev r (0, [(0, 1)]) = r 0 := zu_e1 _ _
  have q4 : zq_ev r (10, []) = 10 := zu_e0 _ _
  have q5 : zq_ev r (0, [(3, 1)]) = r 3 := zu_e1 _ _
  have q6 : zq_ev r (0, [(4, 1)]) = r 4 := zu_e1 _ _
  have q7 : zq_ev r (0, [(5, 1)]) = r 5 := zu_e1 _ _
  have q8 : zq_ev r (0, [(2, 1)]) = r 2 := zu_e1 _ _
  have q9 : zq_ev r (0, [(1, 1)]) = r 1 := zu_e1 _ _
  have q10 : zq_ev r (3, []) = 3 := zu_e0 _ _
  have q11 : zq_ev r (0, [(6, 1)]) = r 6 := zu_e1 _ _
  have q12 : zq_ev r (0, [(7, 1)]) = r 7 := zu_e1 _ _
  obtain ⟨hT, hC, hF, hS, -, hK⟩ := hM
  have c := hC.1
  have a1 := zq_all_1 c
  rw [q0] at a1
  have c := zq_all_t c
  have a2 := zq_all_1 c
  rw [q1] at a2
  have c := zq_all_t c
  have a3 := zq_all_1 c
  rw [q2] at a3
  have k1 := zj_use x_DG (hK)
  have k1 : zn_DG (zq_ev r (0, [(0, 1)])) (zq_ev r (10, [])) (zq_ev r (0, [(3, 1)])) P h := k1
  simp only [q3, q4, q5] at k1
  have k2 := zj_use x_UM (zq_okX_t (hK))
  have k2 : zm_UM (zq_ev r (0, [(0, 1)])) (zq_ev r (10, [])) (zq_ev r (0, [(4, 1)])) (zq_ev r (0, [(5, 1)])) P h := k2
  simp only [q3, q4, q6, q7] at k2
  have k3 := zj_use x_PZ (zq_okX_t (zq_okX_t (hK)))
  have k3 : zm_PZ (zq_ev r (0, [(2, 1)])) (zq_ev r (0, [(1, 1)])) (zq_ev r (0, [(0, 1)])) (zq_ev r (3, [])) (zq_ev r (0, [(6, 1)])) (zq_ev r (0, [(7, 1)])) P h := k3
  simp only [q10, q11, q12, q3, q8, q9] at k3
  obtain t1 := zo_p_l (P := P) (h := h) (M := r 0) (n := r 1) (Z := r 2) (v := r 3) (x := r 4) (N := r 5) (m := r 6) (Y := r 7) a1 a2 a3 k1 k2 k3
  obtain ⟨rq, hr⟩ : ∃ rq : Nat → Int, (∀ i, i < 8 → rq i = r i) := ⟨r, fun i hi => rfl⟩
  have v0 : rq 0 = r 0 := hr 0 (by decide)
  have v1 : rq 1 = r 1 := hr 1 (by decide)
  have v2 : rq 2 = r 2 := hr 2 (by decide)
  have v4 : rq 4 = r 4 := hr 4 (by decide)
  have v5 : rq 5 = r 5 := hr 5 (by decide)
  have v6 : rq 6 = r 6 := hr 6 (by decide)
  have v7 : rq 7 = r 7 := hr 7 (by decide)
  have g0 : zq_ev rq (0, [(0, 1)]) = r 0 := zu_f1 v0
  have g1 : zq_ev rq (0, [(1, 1)]) = r 1 := zu_f1 v1
  have g2 : zq_ev rq (0, [(2, 1)]) = r 2 := zu_f1 v2
  have g3 : zq_ev rq (0, [(4, 1)]) = r 4 := zu_f1 v4
  have g4 : zq_ev rq (0, [(5, 1)]) = r 5 := zu_f1 v5
  have g5 : zq_ev rq (0, [(6, 1)]) = r 6 := zu_f1 v6
  have g6 : zq_ev rq (0, [(7, 1)]) = r 7 := zu_f1 v7
  exact ⟨_, List.mem_cons_self .., rq, hr, zq_MeS_mk rfl hT (zq_all_nil) zq_fan (zq_fan) rfl (zu_fac ((x_PA _ _ _).mpr (by show zk_PA (zq_ev rq (0, [(0, 1)])) (zq_ev rq (0, [(1, 1)])) (zq_ev rq (0, [(2, 1)])) (zq_ev rq (0, [(4, 1)])) (zq_ev rq (0, [(5, 1)])) (zq_ev rq (0, [(6, 1)])) (zq_ev rq (0, [(7, 1)])) P h; simp only [g0, g1, g2, g3, g4, g5, g6]; exact t1)) zq_fan)⟩
noncomputable def zo_y1a : zq_S × List zq_S := (([], [], [(0, [(6, -1)])], [], [], [], [], 7), [([], [], [], [], [], [], [(303, [(0, [(0, 1)]), (0, [(1, 1)]), (0, [(2, 1)]), (0, [(3, 1)]), (0, [(4, 1)]), (0, [(5, 1)]), (0, [(6, 1)]), (-1, []), (0, [(1, 1)]), (0, [(2, 1)]), (0, [(3, 1)])])], 7)])
theorem zo_y1a_l {P : zq_Ty} {h : zq_H} {p M n Z a b v : Int} (a1 : 0 ≤ -v) : (zk_PY p M n Z a b v (-1) M n Z P h) := by
  exact Or.inl ⟨Or.inl (by omega), rfl, rfl, rfl, rfl⟩
theorem zo_y1a_ok {w : zq_Wd} (x_PY : zj_is w 303 (fun q => zk_PY (q 0) (q 1) (q 2) (q 3) (q 4) (q 5) (q 6) (q 7) (q 8) (q 9) (q 10))) : zq_okG1 w zo_y1a := by
  refine ⟨rfl, rfl, zu_fac ⟨rfl, by decide⟩ zq_fan, ?_⟩
  intro r P h H hM
  have q0 : zq_ev r (0, [(6, -1)]) = -r 6 := zu_e4 _ _
  obtain ⟨hT, hC, hF, hS, -, hK⟩ := hM
  have c := hC.1
  have a1 := zq_all_1 c
  rw [q0] at a1
  obtain t1 := zo_y1a_l (P := P) (h := h) (p := r 0) (M := r 1) (n := r 2) (Z := r 3) (a := r 4) (b := r 5) (v := r 6) a1
  obtain ⟨rq, hr⟩ : ∃ rq : Nat → Int, (∀ i, i < 7 → rq i = r i) := ⟨r, fun i hi => rfl⟩
  have v0 : rq 0 = r 0 := hr 0 (by decide)
  have v1 : rq 1 = r 1 := hr 1 (by decide)
  have v2 : rq 2 = r 2 := hr 2 (by decide)
  have v3 : rq 3 = r 3 := hr 3 (by decide)
  have v4 : rq 4 = r 4 := hr 4 (by decide)
  have v5 : rq 5 = r 5 := hr 5 (by decide)
  have v6 : rq 6 = r 6 := hr 6 (by decide)
  have g0 : zq_ev rq (0, [(0, 1)]) = r 0 := zu_f1 v0
  have g1 : zq_ev rq (0, [(1, 1)]) = r 1 := zu_f1 v1
  have g2 : zq_ev rq (0, [(2, 1)]) = r 2 := zu_f1 v2
  have g3 : zq_ev rq (0, [(3, 1)]) = r 3 := zu_f1 v3
  have g4 : zq_ev rq (0, [(4, 1)]) = r 4 := zu_f1 v4
  have g5 : zq_ev rq (0, [(5, 1)]) = r 5 := zu_f1 v5
  have g6 : zq_ev rq (0, [(6, 1)]) = r 6 := zu_f1 v6
  have g7 : zq_ev rq (-1, []) = -1 := zu_e0 _ _
  exact ⟨_, List.mem_cons_self .., rq, hr, zq_MeS_mk rfl hT (zq_all_nil) zq_fan (zq_fan) rfl (zu_fac ((x_PY _ _ _).mpr (by show zk_PY (zq_ev rq (0, [(0, 1)])) (zq_ev rq (0, [(1, 1)])) (zq_ev rq (0, [(2, 1)])) (zq_ev rq (0, [(3, 1)])) (zq_ev rq (0, [(4, 1)])) (zq_ev rq (0, [(5, 1)])) (zq_ev rq (0, [(6, 1)])) (zq_ev rq (-1, [])) (zq_ev rq (0, [(1, 1)])) (zq_ev rq (0, [(2, 1)])) (zq_ev rq (0, [(3, 1)])) P h; simp only [g0, g1, g2, g3, g4, g5, g6, g7]; exact t1)) zq_fan)⟩
noncomputable def zo_y1b : zq_S × List zq_S := (([], [], [(-100, [(6, 1)])], [], [], [], [], 7), [([], [], [], [], [], [], [(303, [(0, [(0, 1)]), (0, [(1, 1)]), (0, [(2, 1)]), (0, [(3, 1)]), (0, [(4, 1)]), (0, [(5, 1)]), (0, [(6, 1)]), (-1, []), (0, [(1, 1)]), (0, [(2, 1)]), (0, [(3, 1)])])], 7)])
theorem zo_y1b_l {P : zq_Ty} {h : zq_H} {p M n Z a b v : Int} (a1 : 0 ≤ v - 100) : (zk_PY p M n Z a b v (-1) M n Z P h) := by
  exact Or.inl ⟨Or.inl (by omega), rfl, rfl, rfl, rfl⟩
theorem zo_y1b_ok {w : zq_Wd} (x_PY : zj_is w 303 (fun q => zk_PY (q 0) (q 1) (q 2) (q 3) (q 4) (q 5) (q 6) (q 7) (q 8) (q 9) (q 10))) : zq_okG1 w zo_y1b := by
  refine ⟨rfl, rfl, zu_fac ⟨rfl, by decide⟩ zq_fan, ?_⟩
  intro r P h H hM
  have q0 : zq_ev r (-100, [(6, 1)]) = r 6 - 100 := zu_e3 _ _ _
  obtain ⟨hT, hC, hF, hS, -, hK⟩ := hM
  have c := hC.1
  have a1 := zq_all_1 c
  rw [q0] at a1
  obtain t1 := zo_y1b_l (P := P) (h := h) (p := r 0) (M := r 1) (n := r 2) (Z := r 3) (a := r 4) (b := r 5) (v := r 6) a1
  obtain ⟨rq, hr⟩ : ∃ rq : Nat → Int, (∀ i, i < 7 → rq i = r i) := ⟨r, fun i hi => rfl⟩
  have v0 : rq 0 = r 0 := hr 0 (by decide)
  have v1 : rq 1 = r 1 := hr 1 (by decide)
  have v2 : rq 2 = r 2 := hr 2 (by decide)
  have v3 : rq 3 = r 3 := hr 3 (by decide)
  have v4 : rq 4 = r 4 := hr 4 (by decide)
  have v5 : rq 5 = r 5 := hr 5 (by decide)
  have v6 : rq 6 = r 6 := hr 6 (by decide)
  have g0 : zq_ev rq (0, [(0, 1)]) = r 0 := zu_f1 v0
  have g1 : zq_ev rq (0, [(1, 1)]) = r 1 := zu_f1 v1
  have g2 : zq_ev rq (0, [(2, 1)]) = r 2 := zu_f1 v2
  have g3 : zq_ev rq (0, [(3, 1)]) = r 3 := zu_f1 v3
  have g4 : zq_ev rq (0, [(4, 1)]) = r 4 := zu_f1 v4
  have g5 : zq_ev rq (0, [(5, 1)]) = r 5 := zu_f1 v5
  have g6 : zq_ev rq (0, [(6, 1)]) = r 6 := zu_f1 v6
  have g7 : zq_ev rq (-1, []) = -1 := zu_e0 _ _
  exact ⟨_, List.mem_cons_self .., rq, hr, zq_MeS_mk rfl hT (zq_all_nil) zq_fan (zq_fan) rfl (zu_fac ((x_PY _ _ _).mpr (by show zk_PY (zq_ev rq (0, [(0, 1)])) (zq_ev rq (0, [(1, 1)])) (zq_ev rq (0, [(2, 1)])) (zq_ev rq (0, [(3, 1)])) (zq_ev rq (0, [(4, 1)])) (zq_ev rq (0, [(5, 1)])) (zq_ev rq (0, [(6, 1)])) (zq_ev rq (-1, [])) (zq_ev rq (0, [(1, 1)])) (zq_ev rq (0, [(2, 1)])) (zq_ev rq (0, [(3, 1)])) P h; simp only [g0, g1, g2, g3, g4, g5, g6, g7]; exact t1)) zq_fan)⟩
noncomputable def zo_y1c : zq_S × List zq_S := (([], [], [(0, [(4, 1), (5, -1)]), (0, [(4, -1), (5, 1)])], [], [], [], [], 7), [([], [], [], [], [], [], [(303, [(0, [(0, 1)]), (0, [(1, 1)]), (0, [(2, 1)]), (0, [(3, 1)]), (0, [(4, 1)]), (0, [(5, 1)]), (0, [(6, 1)]), (-1, []), (0, [(1, 1)]), (0, [(2, 1)]), (0, [(3, 1)])])], 7)])
theorem zo_y1c_l {P : zq_Ty} {h : zq_H} {p M n Z a b v : Int} (a1 : 0 ≤ a - b) (a2 : 0 ≤ -a + b) : (zk_PY p M n Z a b v (-1) M n Z P h) := by
  exact Or.inl ⟨Or.inr (by omega), rfl, rfl, rfl, rfl⟩
theorem zo_y1c_ok {w : zq_Wd} (x_PY : zj_is w 303 (fun q => zk_PY (q 0) (q 1) (q 2) (q 3) (q 4) (q 5) (q 6) (q 7) (q 8) (q 9) (q 10))) : zq_okG1 w zo_y1c := by
  refine ⟨rfl, rfl, zu_fac ⟨rfl, by decide⟩ zq_fan, ?_⟩
  intro r P h H hM
  have q0 : zq_ev r (0, [(4, 1), (5, -1)]) = r 4 - r 5 := by simp only [zq_ev, zq_ts] <;> omega
  have q1 : zq_ev r (0, [(4, -1), (5, 1)]) = -r 4 + r 5 := by simp only [zq_ev, zq_ts] <;> omega
  obtain ⟨hT, hC, hF, hS, -, hK⟩ := hM
  have c := hC.1
  have a1 := zq_all_1 c
  rw [q0] at a1
  have c := zq_all_t c
  have a2 := zq_all_1 c
  rw [q1] at a2
  obtain t1 := zo_y1c_l (P := P) (h := h) (p := r 0) (M := r 1) (n := r 2) (Z := r 3) (a := r 4) (b := r 5) (v := r 6) a1 a2
  obtain ⟨rq, hr⟩ : ∃ rq : Nat → Int, (∀ i, i < 7 → rq i = r i) := ⟨r, fun i hi => rfl⟩
  have v0 : rq 0 = r 0 := hr 0 (by decide)
  have v1 : rq 1 = r 1 := hr 1 (by decide)
  have v2 : rq 2 = r 2 := hr 2 (by decide)
  have v3 : rq 3 = r 3 := hr 3 (by decide)
  have v4 : rq 4 = r 4 := hr 4 (by decide)
  have v5 : rq 5 = r 5 := hr 5 (by decide)
  have v6 : rq 6 = r 6 := hr 6 (by decide)
  have g0 : zq_ev rq (0, [(0, 1)]) = r 0 := zu_f1 v0
  have g1 : zq_ev rq (0, [(1, 1)]) = r 1 := zu_f1 v1
  have g2 : zq_ev rq (0, [(2, 1)]) = r 2 := zu_f1 v2
  have g3 : zq_ev rq (0, [(3, 1)]) = r 3 := zu_f1 v3
  have g4 : zq_ev rq (0, [(4, 1)]) = r 4 := zu_f1 v4
  have g5 : zq_ev rq (0, [(5, 1)]) = r 5 := zu_f1 v5
  have g6 : zq_ev rq (0, [(6, 1)]) = r 6 := zu_f1 v6
  have g7 : zq_ev rq (-1, []) = -1 := zu_e0 _ _
  exact ⟨_, List.mem_cons_self .., rq, hr, zq_MeS_mk rfl hT (zq_all_nil) zq_fan (zq_fan) rfl (zu_fac ((x_PY _ _ _).mpr (by show zk_PY (zq_ev rq (0, [(0, 1)])) (zq_ev rq (0, [(1, 1)])) (zq_ev rq (0, [(2, 1)])) (zq_ev rq (0, [(3, 1)])) (zq_ev rq (0, [(4, 1)])) (zq_ev rq (0, [(5, 1)])) (zq_ev rq (0, [(6, 1)])) (zq_ev rq (-1, [])) (zq_ev rq (0, [(1, 1)])) (zq_ev rq (0, [(2, 1)])) (zq_ev rq (0, [(3, 1)])) P h; simp only [g0, g1, g2, g3, g4, g5, g6, g7]; exact t1)) zq_fan)⟩
noncomputable def zo_y2al : zq_S × List zq_S := (([], [], [(-1, [(6, 1)]), (99, [(6, -1)]), (-1, [(4, -1), (5, 1)]), (-1, [(4, -1)])], [], [], [], [], 7), [([], [], [], [], [], [], [(303, [(0, [(0, 1)]), (0, [(1, 1)]), (0, [(2, 1)]), (0, [(3, 1)]), (0, [(4, 1)]), (0, [(5, 1)]), (0, [(6, 1)]), (-2, []), (0, [(1, 1)]), (0, [(2, 1)]), (0, [(3, 1)])])], 7)])
theorem zo_y2al_l {P : zq_Ty} {h : zq_H} {p M n Z a b v : Int} (a1 : 0 ≤ v - 1) (a2 : 0 ≤ -v + 99) (a3 : 0 ≤ -a + b - 1) (a4 : 0 ≤ -a - 1) : (zk_PY p M n Z a b v (-2) M n Z P h) := by
  exact Or.inr ⟨by omega, by omega, by omega, Or.inl ⟨by omega, rfl, rfl, rfl, rfl⟩⟩
theorem zo_y2al_ok {w : zq_Wd} (x_PY : zj_is w 303 (fun q => zk_PY (q 0) (q 1) (q 2) (q 3) (q 4) (q 5) (q 6) (q 7) (q 8) (q 9) (q 10))) : zq_okG1 w zo_y2al := by
  refine ⟨rfl, rfl, zu_fac ⟨rfl, by decide⟩ zq_fan, ?_⟩
  intro r P h H hM
  have q0 : zq_ev r (-1, [(6, 1)]) = r 6 - 1 := zu_e3 _ _ _
  have q1 : zq_ev r (99, [(6, -1)]) = -r 6 + 99 := zu_e5 _ _ _
  have q2 : zq_ev r (-1, [(4, -1), (5, 1)]) = -r 4 + r 5 - 1 := by simp only [zq_ev, zq_ts] <;> omega
  have q3 : zq_ev r (-1, [(4, -1)]) = -r 4 - 1 := zu_e6 _ _ _
  obtain ⟨hT, hC, hF, hS, -, hK⟩ := hM
  have c := hC.1
  have a1 := zq_all_1 c
  rw [q0] at a1
  have c := zq_all_t c
  have a2 := zq_all_1 c
  rw [q1] at a2
  have c := zq_all_t c
  have a3 := zq_all_1 c
  rw [q2] at a3
  have c := zq_all_t c
  have a4 := zq_all_1 c
  rw [q3] at a4
  obtain t1 := zo_y2al_l (P := P) (h := h) (p := r 0) (M := r 1) (n := r 2) (Z := r 3) (a := r 4) (b := r 5) (v := r 6) a1 a2 a3 a4
  obtain ⟨rq, hr⟩ : ∃ rq : Nat → Int, (∀ i, i < 7 → rq i = r i) := ⟨r, fun i hi => rfl⟩
  have v0 : rq 0 = r 0 := hr 0 (by decide)
  have v1 : rq 1 = r 1 := hr 1 (by decide)
  have v2 : rq 2 = r 2 := hr 2 (by decide)
  have v3 : rq 3 = r 3 := hr 3 (by decide)
  have v4 : rq 4 = r 4 := hr 4 (by decide)
  have v5 : rq 5 = r 5 := hr 5 (by decide)
  have v6 : rq 6 = r 6 := hr 6 (by decide)
  have g0 : zq_ev rq (0, [(0, 1)]) = r 0 := zu_f1 v0
  have g1 : zq_ev rq (0, [(1, 1)]) = r 1 := zu_f1 v1
  have g2 : zq_ev rq (0, [(2, 1)]) = r 2 := zu_f1 v2
  have g3 : zq_ev rq (0, [(3, 1)]) = r 3 := zu_f1 v3
  have g4 : zq_ev rq (0, [(4, 1)]) = r 4 := zu_f1 v4
  have g5 : zq_ev rq (0, [(5, 1)]) = r 5 := zu_f1 v5
  have g6 : zq_ev rq (0, [(6, 1)]) = r 6 := zu_f1 v6
  have g7 : zq_ev rq (-2, []) = -2 := zu_e0 _ _
  exact ⟨_, List.mem_cons_self .., rq, hr, zq_MeS_mk rfl hT (zq_all_nil) zq_fan (zq_fan) rfl (zu_fac ((x_PY _ _ _).mpr (by show zk_PY (zq_ev rq (0, [(0, 1)])) (zq_ev rq (0, [(1, 1)])) (zq_ev rq (0, [(2, 1)])) (zq_ev rq (0, [(3, 1)])) (zq_ev rq (0, [(4, 1)])) (zq_ev rq (0, [(5, 1)])) (zq_ev rq (0, [(6, 1)])) (zq_ev rq (-2, [])) (zq_ev rq (0, [(1, 1)])) (zq_ev rq (0, [(2, 1)])) (zq_ev rq (0, [(3, 1)])) P h; simp only [g0, g1, g2, g3, g4, g5, g6, g7]; exact t1)) zq_fan)⟩
noncomputable def zo_y2bl : zq_S × List zq_S := (([], [], [(-1, [(6, 1)]), (99, [(6, -1)]), (-1, [(4, -1), (5, 1)]), (0, [(0, -1), (4, 1)])], [], [], [], [], 7), [([], [], [], [], [], [], [(303, [(0, [(0, 1)]), (0, [(1, 1)]), (0, [(2, 1)]), (0, [(3, 1)]), (0, [(4, 1)]), (0, [(5, 1)]), (0, [(6, 1)]), (-2, []), (0, [(1, 1)]), (0, [(2, 1)]), (0, [(3, 1)])])], 7)])
theorem zo_y2bl_l {P : zq_Ty} {h : zq_H} {p M n Z a b v : Int} (a1 : 0 ≤ v - 1) (a2 : 0 ≤ -v + 99) (a3 : 0 ≤ -a + b - 1) (a4 : 0 ≤ -p + a) : (zk_PY p M n Z a b v (-2) M n Z P h) := by
  exact Or.inr ⟨by omega, by omega, by omega, Or.inl ⟨by omega, rfl, rfl, rfl, rfl⟩⟩
theorem zo_y2bl_ok {w : zq_Wd} (x_PY : zj_is w 303 (fun q => zk_PY (q 0) (q 1) (q 2) (q 3) (q 4) (q 5) (q 6) (q 7) (q 8) (q 9) (q 10))) : zq_okG1 w zo_y2bl := by
  refine ⟨rfl, rfl, zu_fac ⟨rfl, by decide⟩ zq_fan, ?_⟩
  intro r P h H hM
  have q0 : zq_ev r (-1, [(6, 1)]) = r 6 - 1 := zu_e3 _ _ _
  have q1 : zq_ev r (99, [(6, -1)]) = -r 6 + 99 := zu_e5 _ _ _
  have q2 : zq_ev r (-1, [(4, -1), (5, 1)]) = -r 4 + r 5 - 1 := by simp only [zq_ev, zq_ts] <;> omega
  have q3 : zq_ev r (0, [(0, -1), (4, 1)]) = -r 0 + r 4 := by simp only [zq_ev, zq_ts] <;> omega
  obtain ⟨hT, hC, hF, hS, -, hK⟩ := hM
  have c := hC.1
  have a1 := zq_all_1 c
  rw [q0] at a1
  have c := zq_all_t c
  have a2 := zq_all_1 c
  rw [q1] at a2
  have c := zq_all_t c
  have a3 := zq_all_1 c
  rw [q2] at a3
  have c := zq_all_t c
  have a4 := zq_all_1 c
  rw [q3] at a4
  obtain t1 := zo_y2bl_l (P := P) (h := h) (p := r 0) (M := r 1) (n := r 2) (Z := r 3) (a := r 4) (b := r 5) (v := r 6) a1 a2 a3 a4
  obtain ⟨rq, hr⟩ : ∃ rq : Nat → Int, (∀ i, i < 7 → rq i = r i) := ⟨r, fun i hi => rfl⟩
  have v0 : rq 0 = r 0 := hr 0 (by decide)
  have v1 : rq 1 = r 1 := hr 1 (by decide)
  have v2 : rq 2 = r 2 := hr 2 (by decide)
  have v3 : rq 3 = r 3 := hr 3 (by decide)
  have v4 : rq 4 = r 4 := hr 4 (by decide)
  have v5 : rq 5 = r 5 := hr 5 (by decide)
  have v6 : rq 6 = r 6 := hr 6 (by decide)
  have g0 : zq_ev rq (0, [(0, 1)]) = r 0 := zu_f1 v0
  have g1 : zq_ev rq (0, [(1, 1)]) = r 1 := zu_f1 v1
  have g2 : zq_ev rq (0, [(2, 1)]) = r 2 := zu_f1 v2
  have g3 : zq_ev rq (0, [(3, 1)]) = r 3 := zu_f1 v3
  have g4 : zq_ev rq (0, [(4, 1)]) = r 4 := zu_f1 v4
  have g5 : zq_ev rq (0, [(5, 1)]) = r 5 := zu_f1 v5
  have g6 : zq_ev rq (0, [(6, 1)]) = r 6 := zu_f1 v6
  have g7 : zq_ev rq (-2, []) = -2 := zu_e0 _ _
  exact ⟨_, List.mem_cons_self .., rq, hr, zq_MeS_mk rfl hT (zq_all_nil) zq_fan (zq_fan) rfl (zu_fac ((x_PY _ _ _).mpr (by show zk_PY (zq_ev rq (0, [(0, 1)])) (zq_ev rq (0, [(1, 1)])) (zq_ev rq (0, [(2, 1)])) (zq_ev rq (0, [(3, 1)])) (zq_ev rq (0, [(4, 1)])) (zq_ev rq (0, [(5, 1)])) (zq_ev rq (0, [(6, 1)])) (zq_ev rq (-2, [])) (zq_ev rq (0, [(1, 1)])) (zq_ev rq (0, [(2, 1)])) (zq_ev rq (0, [(3, 1)])) P h; simp only [g0, g1, g2, g3, g4, g5, g6, g7]; exact t1)) zq_fan)⟩
noncomputable def zo_y2cl : zq_S × List zq_S := (([], [], [(-1, [(6, 1)]), (99, [(6, -1)]), (-1, [(4, -1), (5, 1)]), (-1, [(5, -1)])], [], [], [], [], 7), [([], [], [], [], [], [], [(303, [(0, [(0, 1)]), (0, [(1, 1)]), (0, [(2, 1)]), (0, [(3, 1)]), (0, [(4, 1)]), (0, [(5, 1)]), (0, [(6, 1)]), (-2, []), (0, [(1, 1)]), (0, [(2, 1)]), (0, [(3, 1)])])], 7)])
theorem zo_y2cl_l {P : zq_Ty} {h : zq_H} {p M n Z a b v : Int} (a1 : 0 ≤ v - 1) (a2 : 0 ≤ -v + 99) (a3 : 0 ≤ -a + b - 1) (a4 : 0 ≤ -b - 1) : (zk_PY p M n Z a b v (-2) M n Z P h) := by
  exact Or.inr ⟨by omega, by omega, by omega, Or.inl ⟨by omega, rfl, rfl, rfl, rfl⟩⟩
theorem zo_y2cl_ok {w : zq_Wd} (x_PY : zj_is w 303 (fun q => zk_PY (q 0) (q 1) (q 2) (q 3) (q 4) (q 5) (q 6) (q 7) (q 8) (q 9) (q 10))) : zq_okG1 w zo_y2cl := by
  refine ⟨rfl, rfl, zu_fac ⟨rfl, by decide⟩ zq_fan, ?_⟩
  intro r P h H hM
  have q0 : zq_ev r (-1, [(6, 1)]) = r 6 - 1 := zu_e3 _ _ _
  have q1 : zq_ev r (99, [(6, -1)]) = -r 6 + 99 := zu_e5 _ _ _
  have q2 : zq_ev r (-1, [(4, -1), (5, 1)]) = -r 4 + r 5 - 1 := by simp only [zq_ev, zq_ts] <;> omega
  have q3 : zq_ev r (-1, [(5, -1)]) = -r 5 - 1 := zu_e6 _ _ _
  obtain ⟨hT, hC, hF, hS, -, hK⟩ := hM
  have c := hC.1
  have a1 := zq_all_1 c
  rw [q0] at a1
  have c := zq_all_t c
  have a2 := zq_all_1 c
  rw [q1] at a2
  have c := zq_all_t c
  have a3 := zq_all_1 c
  rw [q2] at a3
  have c := zq_all_t c
  have a4 := zq_all_1 c
  rw [q3] at a4
  obtain t1 := zo_y2cl_l (P := P) (h := h) (p := r 0) (M := r 1) (n := r 2) (Z := r 3) (a := r 4) (b := r 5) (v := r 6) a1 a2 a3 a4
  obtain ⟨rq, hr⟩ : ∃ rq : Nat → Int, (∀ i, i < 7 → rq i = r i) := ⟨r, fun i hi => rfl⟩
  have v0 : rq 0 = r 0 := hr 0 (by decide)
  have v1 : rq 1 = r 1 := hr 1 (by decide)
  have v2 : rq 2 = r 2 := hr 2 (by decide)
  have v3 : rq 3 = r 3 := hr 3 (by decide)
  have v4 : rq 4 = r 4 := hr 4 (by decide)
  have v5 : rq 5 = r 5 := hr 5 (by decide)
  have v6 : rq 6 = r 6 := hr 6 (by decide)
  have g0 : zq_ev rq (0, [(0, 1)]) = r 0 := zu_f1 v0
  have g1 : zq_ev rq (0, [(1, 1)]) = r 1 := zu_f1 v1
  have g2 : zq_ev rq (0, [(2, 1)]) = r 2 := zu_f1 v2
  have g3 : zq_ev rq (0, [(3, 1)]) = r 3 := zu_f1 v3
  have g4 : zq_ev rq (0, [(4, 1)]) = r 4 := zu_f1 v4
  have g5 : zq_ev rq (0, [(5, 1)]) = r 5 := zu_f1 v5
  have g6 : zq_ev rq (0, [(6, 1)]) = r 6 := zu_f1 v6
  have g7 : zq_ev rq (-2, []) = -2 := zu_e0 _ _
  exact ⟨_, List.mem_cons_self .., rq, hr, zq_MeS_mk rfl hT (zq_all_nil) zq_fan (zq_fan) rfl (zu_fac ((x_PY _ _ _).mpr (by show zk_PY (zq_ev rq (0, [(0, 1)])) (zq_ev rq (0, [(1, 1)])) (zq_ev rq (0, [(2, 1)])) (zq_ev rq (0, [(3, 1)])) (zq_ev rq (0, [(4, 1)])) (zq_ev rq (0, [(5, 1)])) (zq_ev rq (0, [(6, 1)])) (zq_ev rq (-2, [])) (zq_ev rq (0, [(1, 1)])) (zq_ev rq (0, [(2, 1)])) (zq_ev rq (0, [(3, 1)])) P h; simp only [g0, g1, g2, g3, g4, g5, g6, g7]; exact t1)) zq_fan)⟩
noncomputable def zo_y2dl : zq_S × List zq_S := (([], [], [(-1, [(6, 1)]), (99, [(6, -1)]), (-1, [(4, -1), (5, 1)]), (0, [(0, -1), (5, 1)])], [], [], [], [], 7), [([], [], [], [], [], [], [(303, [(0, [(0, 1)]), (0, [(1, 1)]), (0, [(2, 1)]), (0, [(3, 1)]), (0, [(4, 1)]), (0, [(5, 1)]), (0, [(6, 1)]), (-2, []), (0, [(1, 1)]), (0, [(2, 1)]), (0, [(3, 1)])])], 7)])
theorem zo_y2dl_l {P : zq_Ty} {h : zq_H} {p M n Z a b v : Int} (a1 : 0 ≤ v - 1) (a2 : 0 ≤ -v + 99) (a3 : 0 ≤ -a + b - 1) (a4 : 0 ≤ -p + b) : (zk_PY p M n Z a b v (-2) M n Z P h) := by
  exact Or.inr ⟨by omega, by omega, by omega, Or.inl ⟨by omega, rfl, rfl, rfl, rfl⟩⟩
theorem zo_y2dl_ok {w : zq_Wd} (x_PY : zj_is w 303 (fun q => zk_PY (q 0) (q 1) (q 2) (q 3) (q 4) (q 5) (q 6) (q 7) (q 8) (q 9) (q 10))) : zq_okG1 w zo_y2dl := by
  refine ⟨rfl, rfl, zu_fac ⟨rfl, by decide⟩ zq_fan, ?_⟩
  intro r P h H hM
  have q0 : zq_ev r (-1, [(6, 1)]) = r 6 - 1 := zu_e3 _ _ _
  have q1 : zq_ev r (99, [(6, -1)]) = -r 6 + 99 := zu_e5 _ _ _
  have q2 : zq_ev r (-1, [(4, -1), (5, 1)]) = -r 4 + r 5 - 1 := by simp only [zq_ev, zq_ts] <;> omega
  have q3 : zq_ev r (0, [(0, -1), (5, 1)]) = -r 0 + r 5 := by simp only [zq_ev, zq_ts] <;> omega
  obtain ⟨hT, hC, hF, hS, -, hK⟩ := hM
  have c := hC.1
  have a1 := zq_all_1 c
  rw [q0] at a1
  have c := zq_all_t c
  have a2 := zq_all_1 c
  rw [q1] at a2
  have c := zq_all_t c
  have a3 := zq_all_1 c
  rw [q2] at a3
  have c := zq_all_t c
  have a4 := zq_all_1 c
  rw [q3] at a4
  obtain t1 := zo_y2dl_l (P := P) (h := h) (p := r 0) (M := r 1) (n := r 2) (Z := r 3) (a := r 4) (b := r 5) (v := r 6) a1 a2 a3 a4
  obtain ⟨rq, hr⟩ : ∃ rq : Nat → Int, (∀ i, i < 7 → rq i = r i) := ⟨r, fun i hi => rfl⟩
  have v0 : rq 0 = r 0 := hr 0 (by decide)
  have v1 : rq 1 = r 1 := hr 1 (by decide)
  have v2 : rq 2 = r 2 := hr 2 (by decide)
  have v3 : rq 3 = r 3 := hr 3 (by decide)
  have v4 : rq 4 = r 4 := hr 4 (by decide)
  have v5 : rq 5 = r 5 := hr 5 (by decide)
  have v6 : rq 6 = r 6 := hr 6 (by decide)
  have g0 : zq_ev rq (0, [(0, 1)]) = r 0 := zu_f1 v0
  have g1 : zq_ev rq (0, [(1, 1)]) = r 1 := zu_f1 v1
  have g2 : zq_ev rq (0, [(2, 1)]) = r 2 := zu_f1 v2
  have g3 : zq_ev rq (0, [(3, 1)]) = r 3 := zu_f1 v3
  have g4 : zq_ev rq (0, [(4, 1)]) = r 4 := zu_f1 v4
  have g5 : zq_ev rq (0, [(5, 1)]) = r 5 := zu_f1 v5
  have g6 : zq_ev rq (0, [(6, 1)]) = r 6 := zu_f1 v6
  have g7 : zq_ev rq (-2, []) = -2 := zu_e0 _ _
  exact ⟨_, List.mem_cons_self .., rq, hr, zq_MeS_mk rfl hT (zq_all_nil) zq_fan (zq_fan) rfl (zu_fac ((x_PY _ _ _).mpr (by show zk_PY (zq_ev rq (0, [(0, 1)])) (zq_ev rq (0, [(1, 1)])) (zq_ev rq (0, [(2, 1)])) (zq_ev rq (0, [(3, 1)])) (zq_ev rq (0, [(4, 1)])) (zq_ev rq (0, [(5, 1)])) (zq_ev rq (0, [(6, 1)])) (zq_ev rq (-2, [])) (zq_ev rq (0, [(1, 1)])) (zq_ev rq (0, [(2, 1)])) (zq_ev rq (0, [(3, 1)])) P h; simp only [g0, g1, g2, g3, g4, g5, g6, g7]; exact t1)) zq_fan)⟩
noncomputable def zo_y3al : zq_S × List zq_S := (([], [], [(-1, [(6, 1)]), (99, [(6, -1)]), (-1, [(4, -1), (5, 1)]), (0, [(4, 1)]), (-1, [(0, 1), (4, -1)]), (0, [(5, 1)]), (-1, [(0, 1), (5, -1)]), (-10000, [(6, 1), (7, 1)])], [], [], [], [(134, [(0, [(1, 1)]), (0, [(4, 1)]), (0, [(7, 1)])])], 8), [([], [], [], [], [], [], [(303, [(0, [(0, 1)]), (0, [(1, 1)]), (0, [(2, 1)]), (0, [(3, 1)]), (0, [(4, 1)]), (0, [(5, 1)]), (0, [(6, 1)]), (-3, []), (0, [(1, 1)]), (0, [(2, 1)]), (0, [(3, 1)])])], 8)])
theorem zo_y3al_l {P : zq_Ty} {h : zq_H} {p M n Z a b v x : Int} (a1 : 0 ≤ v - 1) (a2 : 0 ≤ -v + 99) (a3 : 0 ≤ -a + b - 1) (a4 : 0 ≤ a) (a5 : 0 ≤ p - a - 1) (a6 : 0 ≤ b) (a7 : 0 ≤ p - b - 1) (a8 : 0 ≤ v + x - 10000) (k1 : zn_DG M a x P h) : (zk_PY p M n Z a b v (-3) M n Z P h) := by
  have k1 : x = zn_dg M a := k1
  exact Or.inr ⟨by omega, by omega, by omega, Or.inr ⟨by omega, by omega, by omega, by omega, Or.inl ⟨by omega, rfl, rfl, rfl, rfl⟩⟩⟩
theorem zo_y3al_ok {w : zq_Wd} (x_DG : zj_is w 134 (fun q => zn_DG (q 0) (q 1) (q 2))) (x_PY : zj_is w 303 (fun q => zk_PY (q 0) (q 1) (q 2) (q 3) (q 4) (q 5) (q 6) (q 7) (q 8) (q 9) (q 10))) : zq_okG1 w zo_y3al := by
  refine ⟨rfl, rfl, zu_fac ⟨rfl, by decide⟩ zq_fan, ?_⟩
  intro r P h H hM
  have q0 : zq_ev r (-1, [(6, 1)]) = r 6 - 1 := zu_e3 _ _ _
  have q1 : zq_ev r (99, [(6, -1)]) = -r 6 + 99 := zu_e5 _ _ _
  have q2 : zq_ev r (-1, [(4, -1), (5, 1)]) = -r 4 + r 5 - 1 := by simp only [zq_ev, zq_ts] <;> omega
  have q3 : zq_ev r (0, [(4, 1)]) = r 4 := zu_e1 _ _
  have q4 : zq_ev r (-1, [(0, 1), (4, -1)]) = r 0 - r 4 - 1 := by simp only [zq_ev, zq_ts] <;> omega
  have q5 : zq_ev r (0, [(5, 1)]) = r 5 := zu_e1 _ _
  have q6 : zq_ev r (-1, [(0, 1), (5, -1)]) = r 0 - r 5 - 1 := by simp only [zq_ev, zq_ts] <;> omega
  have q7 : zq_ev r (-10000, [(6, 1), (7, 1)]) = r 6 + r 7 - 10000 := by simp only [zq_ev, zq_ts] <;> omega
  have q8 : zq_ev r (0, [(1, 1)]) = r 1 := zu_e1 _ _
  have q9 : zq_ev r (0, [(7, 1)]) = r 7 := zu_e1 _ _
  obtain ⟨hT, hC, hF, hS, -, hK⟩ := hM
  have c := hC.1
  have a1 := zq_all_1 c
  rw [q0] at a1
  have c := zq_all_t c
  have a2 := zq_all_1 c
  rw [q1] at a2
  have c := zq_all_t c
  have a3 := zq_all_1 c
  rw [q2] at a3
  have c := zq_all_t c
  have a4 := zq_all_1 c
  rw [q3] at a4
  have c := zq_all_t c
  have a5 := zq_all_1 c
  rw [q4] at a5
  have c := zq_all_t c
  have a6 := zq_all_1 c
  rw [q5] at a6
  have c := zq_all_t c
  have a7 := zq_all_1 c
  rw [q6] at a7
  have c := zq_all_t c
  have a8 := zq_all_1 c
  rw [q7] at a8
  have k1 := zj_use x_DG (hK)
  have k1 : zn_DG (zq_ev r (0, [(1, 1)])) (zq_ev r (0, [(4, 1)])) (zq_ev r (0, [(7, 1)])) P h := k1
  simp only [q3, q8, q9] at k1
  obtain t1 := zo_y3al_l (P := P) (h := h) (p := r 0) (M := r 1) (n := r 2) (Z := r 3) (a := r 4) (b := r 5) (v := r 6) (x := r 7) a1 a2 a3 a4 a5 a6 a7 a8 k1
  obtain ⟨rq, hr⟩ : ∃ rq : Nat → Int, (∀ i, i < 8 → rq i = r i) := ⟨r, fun i hi => rfl⟩
  have v0 : rq 0 = r 0 := hr 0 (by decide)
  have v1 : rq 1 = r 1 := hr 1 (by decide)
  have v2 : rq 2 = r 2 := hr 2 (by decide)
  have v3 : rq 3 = r 3 := hr 3 (by decide)
  have v4 : rq 4 = r 4 := hr 4 (by decide)
  have v5 : rq 5 = r 5 := hr 5 (by decide)
  have v6 : rq 6 = r 6 := hr 6 (by decide)
  have g0 : zq_ev rq (0, [(0, 1)]) = r 0 := zu_f1 v0
  have g1 : zq_ev rq (0, [(1, 1)]) = r 1 := zu_f1 v1
  have g2 : zq_ev rq (0, [(2, 1)]) = r 2 := zu_f1 v2
  have g3 : zq_ev rq (0, [(3, 1)]) = r 3 := zu_f1 v3
  have g4 : zq_ev rq (0, [(4, 1)]) = r 4 := zu_f1 v4
  have g5 : zq_ev rq (0, [(5, 1)]) = r 5 := zu_f1 v5
  have g6 : zq_ev rq (0, [(6, 1)]) = r 6 := zu_f1 v6
  have g7 : zq_ev rq (-3, []) = -3 := zu_e0 _ _
  exact ⟨_, List.mem_cons_self .., rq, hr, zq_MeS_mk rfl hT (zq_all_nil) zq_fan (zq_fan) rfl (zu_fac ((x_PY _ _ _).mpr (by show zk_PY (zq_ev rq (0, [(0, 1)])) (zq_ev rq (0, [(1, 1)])) (zq_ev rq (0, [(2, 1)])) (zq_ev rq (0, [(3, 1)])) (zq_ev rq (0, [(4, 1)])) (zq_ev rq (0, [(5, 1)])) (zq_ev rq (0, [(6, 1)])) (zq_ev rq (-3, [])) (zq_ev rq (0, [(1, 1)])) (zq_ev rq (0, [(2, 1)])) (zq_ev rq (0, [(3, 1)])) P h; simp only [g0, g1, g2, g3, g4, g5, g6, g7]; exact t1)) zq_fan)⟩
noncomputable def zo_y3bl : zq_S × List zq_S := (([], [], [(-1, [(6, 1)]), (99, [(6, -1)]), (-1, [(4, -1), (5, 1)]), (0, [(4, 1)]), (-1, [(0, 1), (4, -1)]), (0, [(5, 1)]), (-1, [(0, 1), (5, -1)]), (-10000, [(6, 1), (7, -1)])], [], [], [], [(134, [(0, [(1, 1)]), (0, [(5, 1)]), (0, [(7, 1)])])], 8), [([], [], [], [], [], [], [(303, [(0, [(0, 1)]), (0, [(1, 1)]), (0, [(2, 1)]), (0, [(3, 1)]), (0, [(4, 1)]), (0, [(5, 1)]), (0, [(6, 1)]), (-3, []), (0, [(1, 1)]), (0, [(2, 1)]), (0, [(3, 1)])])], 8)])
theorem zo_y3bl_l {P : zq_Ty} {h : zq_H} {p M n Z a b v y : Int} (a1 : 0 ≤ v - 1) (a2 : 0 ≤ -v + 99) (a3 : 0 ≤ -a + b - 1) (a4 : 0 ≤ a) (a5 : 0 ≤ p - a - 1) (a6 : 0 ≤ b) (a7 : 0 ≤ p - b - 1) (a8 : 0 ≤ v - y - 10000) (k1 : zn_DG M b y P h) : (zk_PY p M n Z a b v (-3) M n Z P h) := by
  have k1 : y = zn_dg M b := k1
  exact Or.inr ⟨by omega, by omega, by omega, Or.inr ⟨by omega, by omega, by omega, by omega, Or.inl ⟨by omega, rfl, rfl, rfl, rfl⟩⟩⟩
theorem zo_y3bl_ok {w : zq_Wd} (x_DG : zj_is w 134 (fun q => zn_DG (q 0) (q 1) (q 2))) (x_PY : zj_is w 303 (fun q => zk_PY (q 0) (q 1) (q 2) (q 3) (q 4) (q 5) (q 6) (q 7) (q 8) (q 9) (q 10))) : zq_okG1 w zo_y3bl := by
  refine ⟨rfl, rfl, zu_fac ⟨rfl, by decide⟩ zq_fan, ?_⟩
  intro r P h H hM
  have q0 : zq_ev r (-1, [(6, 1)]) = r 6 - 1 := zu_e3 _ _ _
  have q1 : zq_ev r (99, [(6, -1)]) = -r 6 + 99 := zu_e5 _ _ _
  have q2 : zq_ev r (-1, [(4, -1), (5, 1)]) = -r 4 + r 5 - 1 := by simp only [zq_ev, zq_ts] <;> omega
  have q3 : zq_ev r (0, [(4, 1)]) = r 4 := zu_e1 _ _
  have q4 : zq_ev r (-1, [(0, 1), (4, -1)]) = r 0 - r 4 - 1 := by simp only [zq_ev, zq_ts] <;> omega
  have q5 : zq_ev r (0, [(5, 1)]) = r 5 := zu_e1 _ _
  have q6 : zq_ev r (-1, [(0, 1), (5, -1)]) = r 0 - r 5 - 1 := by simp only [zq_ev, zq_ts] <;> omega
  have q7 : zq_ev r (-10000, [(6, 1), (7, -1)]) = r 6 - r 7 - 10000 := by simp only [zq_ev, zq_ts] <;> omega
  have q8 : zq_ev r (0, [(1, 1)]) = r 1 := zu_e1 _ _
  have q9 : zq_ev r (0, [(7, 1)]) = r 7 := zu_e1 _ _
  obtain ⟨hT, hC, hF, hS, -, hK⟩ := hM
  have c := hC.1
  have a1 := zq_all_1 c
  rw [q0] at a1
  have c := zq_all_t c
  have a2 := zq_all_1 c
  rw [q1] at a2
  have c := zq_all_t c
  have a3 := zq_all_1 c
  rw [q2] at a3
  have c := zq_all_t c
  have a4 := zq_all_1 c
  rw [q3] at a4
  have c := zq_all_t c
  have a5 := zq_all_1 c
  rw [q4] at a5
  have c := zq_all_t c
  have a6 := zq_all_1 c
  rw [q5] at a6
  have c := zq_all_t c
  have a7 := zq_all_1 c
  rw [q6] at a7
  have c := zq_all_t c
  have a8 := zq_all_1 c
  rw [q7] at a8
  have k1 := zj_use x_DG (hK)
  have k1 : zn_DG (zq_ev r (0, [(1, 1)])) (zq_ev r (0, [(5, 1)])) (zq_ev r (0, [(7, 1)])) P h := k1
  simp only [q5, q8, q9] at k1
  obtain t1 := zo_y3bl_l (P := P) (h := h) (p := r 0) (M := r 1) (n := r 2) (Z := r 3) (a := r 4) (b := r 5) (v := r 6) (y := r 7) a1 a2 a3 a4 a5 a6 a7 a8 k1
  obtain ⟨rq, hr⟩ : ∃ rq : Nat → Int, (∀ i, i < 8 → rq i = r i) := ⟨r, fun i hi => rfl⟩
  have v0 : rq 0 = r 0 := hr 0 (by decide)
  have v1 : rq 1 = r 1 := hr 1 (by decide)
  have v2 : rq 2 = r 2 := hr 2 (by decide)
  have v3 : rq 3 = r 3 := hr 3 (by decide)
  have v4 : rq 4 = r 4 := hr 4 (by decide)
  have v5 : rq 5 = r 5 := hr 5 (by decide)
  have v6 : rq 6 = r 6 := hr 6 (by decide)
  have g0 : zq_ev rq (0, [(0, 1)]) = r 0 := zu_f1 v0
  have g1 : zq_ev rq (0, [(1, 1)]) = r 1 := zu_f1 v1
  have g2 : zq_ev rq (0, [(2, 1)]) = r 2 := zu_f1 v2
  have g3 : zq_ev rq (0, [(3, 1)]) = r 3 := zu_f1 v3
  have g4 : zq_ev rq (0, [(4, 1)]) = r 4 := zu_f1 v4
  have g5 : zq_ev rq (0, [(5, 1)]) = r 5 := zu_f1 v5
  have g6 : zq_ev rq (0, [(6, 1)]) = r 6 := zu_f1 v6
  have g7 : zq_ev rq (-3, []) = -3 := zu_e0 _ _
  exact ⟨_, List.mem_cons_self .., rq, hr, zq_MeS_mk rfl hT (zq_all_nil) zq_fan (zq_fan) rfl (zu_fac ((x_PY _ _ _).mpr (by show zk_PY (zq_ev rq (0, [(0, 1)])) (zq_ev rq (0, [(1, 1)])) (zq_ev rq (0, [(2, 1)])) (zq_ev rq (0, [(3, 1)])) (zq_ev rq (0, [(4, 1)])) (zq_ev rq (0, [(5, 1)])) (zq_ev rq (0, [(6, 1)])) (zq_ev rq (-3, [])) (zq_ev rq (0, [(1, 1)])) (zq_ev rq (0, [(2, 1)])) (zq_ev rq (0, [(3, 1)])) P h; simp only [g0, g1, g2, g3, g4, g5, g6, g7]; exact t1)) zq_fan)⟩
noncomputable def zo_yl : zq_S × List zq_S := (([], [], [(-1, [(6, 1)]), (99, [(6, -1)]), (-1, [(4, -1), (5, 1)]), (0, [(4, 1)]), (-1, [(0, 1), (4, -1)]), (0, [(5, 1)]), (-1, [(0, 1), (5, -1)]), (9999, [(6, -1), (7, -1)]), (9999, [(6, -1), (8, 1)]), (-9999, [(6, -1), (7, -1), (9, 1)]), (9999, [(6, 1), (7, 1), (9, -1)])], [], [], [], [(134, [(0, [(1, 1)]), (0, [(4, 1)]), (0, [(7, 1)])]), (134, [(0, [(1, 1)]), (0, [(5, 1)]), (0, [(8, 1)])]), (312, [(0, [(1, 1)]), (0, [(4, 1)]), (0, [(5, 1)]), (0, [(6, 1)]), (0, [(10, 1)])]), (291, [(0, [(3, 1)]), (0, [(2, 1)]), (0, [(1, 1)]), (1, []), (0, [(11, 1)]), (0, [(12, 1)])])], 13), [([], [], [], [], [], [], [(303, [(0, [(0, 1)]), (0, [(1, 1)]), (0, [(2, 1)]), (0, [(3, 1)]), (0, [(4, 1)]), (0, [(5, 1)]), (0, [(6, 1)]), (0, [(9, 1)]), (0, [(10, 1)]), (0, [(11, 1)]), (0, [(12, 1)])])], 13)])
theorem zo_yl_l {P : zq_Ty} {h : zq_H} {p M n Z a b v x y r N m Y : Int} (a1 : 0 ≤ v - 1) (a2 : 0 ≤ -v + 99) (a3 : 0 ≤ -a + b - 1) (a4 : 0 ≤ a) (a5 : 0 ≤ p - a - 1) (a6 : 0 ≤ b) (a7 : 0 ≤ p - b - 1) (a8 : 0 ≤ -v - x + 9999) (a9 : 0 ≤ -v + y + 9999) (a10 : 0 ≤ -v - x + r - 9999) (a11 : 0 ≤ v + x - r + 9999) (k1 : zn_DG M a x P h) (k2 : zn_DG M b y P h) (k3 : zk_MV M a b v N P h) (k4 : zm_PZ Z n M 1 m Y P h) : (zk_PY p M n Z a b v r N m Y P h) := by
  have k1 : x = zn_dg M a := k1
  have k2 : y = zn_dg M b := k2
  exact Or.inr ⟨by omega, by omega, by omega, Or.inr ⟨by omega, by omega, by omega, by omega, Or.inr ⟨by omega, by omega, by omega, k3, k4.1, k4.2⟩⟩⟩
theorem zo_yl_ok {w : zq_Wd} (x_DG : zj_is w 134 (fun q => zn_DG (q 0) (q 1) (q 2))) (x_MV : zj_is w 312 (fun q => zk_MV (q 0) (q 1) (q 2) (q 3) (q 4))) (x_PZ : zj_is w 291 (fun q => zm_PZ (q 0) (q 1) (q 2) (q 3) (q 4) (q 5))) (x_PY : zj_is w 303 (fun q => zk_PY (q 0) (q 1) (q 2) (q 3) (q 4) (q 5) (q 6) (q 7) (q 8) (q 9) (q 10))) : zq_okG1 w zo_yl := by
  refine ⟨rfl, rfl, zu_fac ⟨rfl, by decide⟩ zq_fan, ?_⟩
  intro r P h H hM
  have q0 : zq_ev r (-1, [(6, 1)]) = r 6 - 1 := zu_e3 _ _ _
  have q1 : zq_ev r (99, [(6, -1)]) = -r 6 + 99 := zu_e5 _ _ _
  have q2 : zq_ev r (-1, [(4, -1), (5, 1)]) = -r 4 + r 5 - 1 := by simp only [zq_ev, zq_ts] <;> omega
  have q3 : zq_ev r (0, [(4, 1)]) = r 4 := zu_e1 _ _
  have q4 : zq_ev r (-1, [(0, 1), (4, -1)]) = r 0 - r 4 - 1 := by simp only [zq_ev, zq_ts] <;> omega
  have q5 : zq_ev r (0, [(5, 1)]) = r 5 := zu_e1 _ _
  have q6 : zq_ev r (-1, [(0, 1), (5, -1)]) = r 0 - r 5 - 1 := by simp only [zq_ev, zq_ts] <;> omega
  have q7 : zq_ev r (9999, [(6, -1), (7, -1)]) = -r 6 - r 7 + 9999 := by simp only [zq_ev, zq_ts] <;> omega
  have q8 : zq_ev r (9999, [(6, -1), (8, 1)]) = -r 6 + r 8 + 9999 := by simp only [zq_ev, zq_ts] <;> omega
  have q9 : zq_ev r (-9999, [(6, -1), (7, -1), (9, 1)]) = -r 6 - r 7 + r 9 - 9999 := by simp only [zq_ev, zq_ts] <;> omega
  have q10 : zq_ev r (9999, [(6, 1), (7, 1), (9, -1)]) = r 6 + r 7 - r 9 + 9999 := by simp only [zq_ev, zq_ts] <;> omega
  have q11 : zq_ev r (0, [(1, 1)]) = r 1 := zu_e1 _ _
  have q12 : zq_ev r (0, [(7, 1)]) = r 7 := zu_e1 _ _
  have q13 : zq_ev r (0, [(8, 1)]) = r 8 := zu_e1 _ _
  have q14 : zq_ev r (0, [(6, 1)]) = r 6 := zu_e1 _ _
  have q15 : zq_ev r (0, [(10, 1)]) = r 10 := zu_e1 _ _
  have q16 : zq_ev r (0, [(3, 1)]) = r 3 := zu_e1 _ _
  have q17 : zq_ev r (0, [(2, 1)]) = r 2 := zu_e1 _ _
  have q18 : zq_ev r (1, []) = 1 := zu_e0 _ _
  have q19 : zq_ev r (0, [(11, 1)]) = r 11 := zu_e1 _ _
  have q20 : zq_ev r (0, [(12, 1)]) = r 12 := zu_e1 _ _
  obtain ⟨hT, hC, hF, hS, -, hK⟩ := hM
  have c := hC.1
  have a1 := zq_all_1 c
  rw [q0] at a1
  have c := zq_all_t c
  have a2 := zq_all_1 c
  rw [q1] at a2
  have c := zq_all_t c
  have a3 := zq_all_1 c
  rw [q2] at a3
  have c := zq_all_t c
  have a4 := zq_all_1 c
  rw [q3] at a4
  have c := zq_all_t c
  have a5 := zq_all_1 c
  rw [q4] at a5
  have c := zq_all_t c
  have a6 := zq_all_1 c
  rw [q5] at a6
  have c := zq_all_t c
  have a7 := zq_all_1 c
  rw [q6] at a7
  have c := zq_all_t c
  have a8 := zq_all_1 c
  rw [q7] at a8
  have c := zq_all_t c
  have a9 := zq_all_1 c
  rw [q8] at a9
  have c := zq_all_t c
  have a10 := zq_all_1 c
  rw [q9] at a10
  have c := zq_all_t c
  have a11 := zq_all_1 c
  rw [q10] at a11
  have k1 := zj_use x_DG (hK)
  have k1 : zn_DG (zq_ev r (0, [(1, 1)])) (zq_ev r (0, [(4, 1)])) (zq_ev r (0, [(7, 1)])) P h := k1
  simp only [q11, q12, q3] at k1
  have k2 := zj_use x_DG (zq_okX_t (hK))
  have k2 : zn_DG (zq_ev r (0, [(1, 1)])) (zq_ev r (0, [(5, 1)])) (zq_ev r (0, [(8, 1)])) P h := k2
  simp only [q11, q13, q5] at k2
  have k3 := zj_use x_MV (zq_okX_t (zq_okX_t (hK)))
  have k3 : zk_MV (zq_ev r (0, [(1, 1)])) (zq_ev r (0, [(4, 1)])) (zq_ev r (0, [(5, 1)])) (zq_ev r (0, [(6, 1)])) (zq_ev r (0, [(10, 1)])) P h := k3
  simp only [q11, q14, q15, q3, q5] at k3
  have k4 := zj_use x_PZ (zq_okX_t (zq_okX_t (zq_okX_t (hK))))
  have k4 : zm_PZ (zq_ev r (0, [(3, 1)])) (zq_ev r (0, [(2, 1)])) (zq_ev r (0, [(1, 1)])) (zq_ev r (1, [])) (zq_ev r (0, [(11, 1)])) (zq_ev r (0, [(12, 1)])) P h := k4
  simp only [q11, q16, q17, q18, q19, q20] at k4
  obtain t1 := zo_yl_l (P := P) (h := h) (p := r 0) (M := r 1) (n := r 2) (Z := r 3) (a := r 4) (b := r 5) (v := r 6) (x := r 7) (y := r 8) (r := r 9) (N := r 10) (m := r 11) (Y := r 12) a1 a2 a3 a4 a5 a6 a7 a8 a9 a10 a11 k1 k2 k3 k4
  obtain ⟨rq, hr⟩ : ∃ rq : Nat → Int, (∀ i, i < 13 → rq i = r i) := ⟨r, fun i hi => rfl⟩
  have v0 : rq 0 = r 0 := hr 0 (by decide)
  have v1 : rq 1 = r 1 := hr 1 (by decide)
  have v2 : rq 2 = r 2 := hr 2 (by decide)
  have v3 : rq 3 = r 3 := hr 3 (by decide)
  have v4 : rq 4 = r 4 := hr 4 (by decide)
  have v5 : rq 5 = r 5 := hr 5 (by decide)
  have v6 : rq 6 = r 6 := hr 6 (by decide)
  have v9 : rq 9 = r 9 := hr 9 (by decide)
  have v10 : rq 10 = r 10 := hr 10 (by decide)
  have v11 : rq 11 = r 11 := hr 11 (by decide)
  have v12 : rq 12 = r 12 := hr 12 (by decide)
  have g0 : zq_ev rq (0, [(0, 1)]) = r 0 := zu_f1 v0
  have g1 : zq_ev rq (0, [(1, 1)]) = r 1 := zu_f1 v1
  have g2 : zq_ev rq (0, [(2, 1)]) = r 2 := zu_f1 v2
  have g3 : zq_ev rq (0, [(3, 1)]) = r 3 := zu_f1 v3
  have g4 : zq_ev rq (0, [(4, 1)]) = r 4 := zu_f1 v4
  have g5 : zq_ev rq (0, [(5, 1)]) = r 5 := zu_f1 v5
  have g6 : zq_ev rq (0, [(6, 1)]) = r 6 := zu_f1 v6
  have g7 : zq_ev rq (0, [(9, 1)]) = r 9 := zu_f1 v9
  have g8 : zq_ev rq (0, [(10, 1)]) = r 10 := zu_f1 v10
  have g9 : zq_ev rq (0, [(11, 1)]) = r 11 := zu_f1 v11
  have g10 : zq_ev rq (0, [(12, 1)]) = r 12 := zu_f1 v12
  exact ⟨_, List.mem_cons_self .., rq, hr, zq_MeS_mk rfl hT (zq_all_nil) zq_fan (zq_fan) rfl (zu_fac ((x_PY _ _ _).mpr (by show zk_PY (zq_ev rq (0, [(0, 1)])) (zq_ev rq (0, [(1, 1)])) (zq_ev rq (0, [(2, 1)])) (zq_ev rq (0, [(3, 1)])) (zq_ev rq (0, [(4, 1)])) (zq_ev rq (0, [(5, 1)])) (zq_ev rq (0, [(6, 1)])) (zq_ev rq (0, [(9, 1)])) (zq_ev rq (0, [(10, 1)])) (zq_ev rq (0, [(11, 1)])) (zq_ev rq (0, [(12, 1)])) P h; simp only [g0, g1, g10, g2, g3, g4, g5, g6, g7, g8, g9]; exact t1)) zq_fan)⟩
noncomputable def zo_y2ag : zq_S × List zq_S := (([], [], [(-1, [(6, 1)]), (99, [(6, -1)]), (-1, [(4, 1), (5, -1)]), (-1, [(4, -1)])], [], [], [], [], 7), [([], [], [], [], [], [], [(303, [(0, [(0, 1)]), (0, [(1, 1)]), (0, [(2, 1)]), (0, [(3, 1)]), (0, [(4, 1)]), (0, [(5, 1)]), (0, [(6, 1)]), (-2, []), (0, [(1, 1)]), (0, [(2, 1)]), (0, [(3, 1)])])], 7)])
theorem zo_y2ag_l {P : zq_Ty} {h : zq_H} {p M n Z a b v : Int} (a1 : 0 ≤ v - 1) (a2 : 0 ≤ -v + 99) (a3 : 0 ≤ a - b - 1) (a4 : 0 ≤ -a - 1) : (zk_PY p M n Z a b v (-2) M n Z P h) := by
  exact Or.inr ⟨by omega, by omega, by omega, Or.inl ⟨by omega, rfl, rfl, rfl, rfl⟩⟩
theorem zo_y2ag_ok {w : zq_Wd} (x_PY : zj_is w 303 (fun q => zk_PY (q 0) (q 1) (q 2) (q 3) (q 4) (q 5) (q 6) (q 7) (q 8) (q 9) (q 10))) : zq_okG1 w zo_y2ag := by
  refine ⟨rfl, rfl, zu_fac ⟨rfl, by decide⟩ zq_fan, ?_⟩
  intro r P h H hM
  have q0 : zq_ev r (-1, [(6, 1)]) = r 6 - 1 := zu_e3 _ _ _
  have q1 : zq_ev r (99, [(6, -1)]) = -r 6 + 99 := zu_e5 _ _ _
  have q2 : zq_ev r (-1, [(4, 1), (5, -1)]) = r 4 - r 5 - 1 := by simp only [zq_ev, zq_ts] <;> omega
  have q3 : zq_ev r (-1, [(4, -1)]) = -r 4 - 1 := zu_e6 _ _ _
  obtain ⟨hT, hC, hF, hS, -, hK⟩ := hM
  have c := hC.1
  have a1 := zq_all_1 c
  rw [q0] at a1
  have c := zq_all_t c
  have a2 := zq_all_1 c
  rw [q1] at a2
  have c := zq_all_t c
  have a3 := zq_all_1 c
  rw [q2] at a3
  have c := zq_all_t c
  have a4 := zq_all_1 c
  rw [q3] at a4
  obtain t1 := zo_y2ag_l (P := P) (h := h) (p := r 0) (M := r 1) (n := r 2) (Z := r 3) (a := r 4) (b := r 5) (v := r 6) a1 a2 a3 a4
  obtain ⟨rq, hr⟩ : ∃ rq : Nat → Int, (∀ i, i < 7 → rq i = r i) := ⟨r, fun i hi => rfl⟩
  have v0 : rq 0 = r 0 := hr 0 (by decide)
  have v1 : rq 1 = r 1 := hr 1 (by decide)
  have v2 : rq 2 = r 2 := hr 2 (by decide)
  have v3 : rq 3 = r 3 := hr 3 (by decide)
  have v4 : rq 4 = r 4 := hr 4 (by decide)
  have v5 : rq 5 = r 5 := hr 5 (by decide)
  have v6 : rq 6 = r 6 := hr 6 (by decide)
  have g0 : zq_ev rq (0, [(0, 1)]) = r 0 := zu_f1 v0
  have g1 : zq_ev rq (0, [(1, 1)]) = r 1 := zu_f1 v1
  have g2 : zq_ev rq (0, [(2, 1)]) = r 2 := zu_f1 v2
  have g3 : zq_ev rq (0, [(3, 1)]) = r 3 := zu_f1 v3
  have g4 : zq_ev rq (0, [(4, 1)]) = r 4 := zu_f1 v4
  have g5 : zq_ev rq (0, [(5, 1)]) = r 5 := zu_f1 v5
  have g6 : zq_ev rq (0, [(6, 1)]) = r 6 := zu_f1 v6
  have g7 : zq_ev rq (-2, []) = -2 := zu_e0 _ _
  exact ⟨_, List.mem_cons_self .., rq, hr, zq_MeS_mk rfl hT (zq_all_nil) zq_fan (zq_fan) rfl (zu_fac ((x_PY _ _ _).mpr (by show zk_PY (zq_ev rq (0, [(0, 1)])) (zq_ev rq (0, [(1, 1)])) (zq_ev rq (0, [(2, 1)])) (zq_ev rq (0, [(3, 1)])) (zq_ev rq (0, [(4, 1)])) (zq_ev rq (0, [(5, 1)])) (zq_ev rq (0, [(6, 1)])) (zq_ev rq (-2, [])) (zq_ev rq (0, [(1, 1)])) (zq_ev rq (0, [(2, 1)])) (zq_ev rq (0, [(3, 1)])) P h; simp only [g0, g1, g2, g3, g4, g5, g6, g7]; exact t1)) zq_fan)⟩
noncomputable def zo_y2bg : zq_S × List zq_S := (([], [], [(-1, [(6, 1)]), (99, [(6, -1)]), (-1, [(4, 1), (5, -1)]), (0, [(0, -1), (4, 1)])], [], [], [], [], 7), [([], [], [], [], [], [], [(303, [(0, [(0, 1)]), (0, [(1, 1)]), (0, [(2, 1)]), (0, [(3, 1)]), (0, [(4, 1)]), (0, [(5, 1)]), (0, [(6, 1)]), (-2, []), (0, [(1, 1)]), (0, [(2, 1)]), (0, [(3, 1)])])], 7)])
theorem zo_y2bg_l {P : zq_Ty} {h : zq_H} {p M n Z a b v : Int} (a1 : 0 ≤ v - 1) (a2 : 0 ≤ -v + 99) (a3 : 0 ≤ a - b - 1) (a4 : 0 ≤ -p + a) : (zk_PY p M n Z a b v (-2) M n Z P h) := by
  exact Or.inr ⟨by omega, by omega, by omega, Or.inl ⟨by omega, rfl, rfl, rfl, rfl⟩⟩
theorem zo_y2bg_ok {w : zq_Wd} (x_PY : zj_is w 303 (fun q => zk_PY (q 0) (q 1) (q 2) (q 3) (q 4) (q 5) (q 6) (q 7) (q 8) (q 9) (q 10))) : zq_okG1 w zo_y2bg := by
  refine ⟨rfl, rfl, zu_fac ⟨rfl, by decide⟩ zq_fan, ?_⟩
  intro r P h H hM
  have q0 : zq_ev r (-1, [(6, 1)]) = r 6 - 1 := zu_e3 _ _ _
  have q1 : zq_ev r (99, [(6, -1)]) = -r 6 + 99 := zu_e5 _ _ _
  have q2 : zq_ev r (-1, [(4, 1), (5, -1)]) = r 4 - r 5 - 1 := by simp only [zq_ev, zq_ts] <;> omega
  have q3 : zq_ev r (0, [(0, -1), (4, 1)]) = -r 0 + r 4 := by simp only [zq_ev, zq_ts] <;> omega
  obtain ⟨hT, hC, hF, hS, -, hK⟩ := hM
  have c := hC.1
  have a1 := zq_all_1 c
  rw [q0] at a1
  have c := zq_all_t c
  have a2 := zq_all_1 c
  rw [q1] at a2
  have c := zq_all_t c
  have a3 := zq_all_1 c
  rw [q2] at a3
  have c := zq_all_t c
  have a4 := zq_all_1 c
  rw [q3] at a4
  obtain t1 := zo_y2bg_l (P := P) (h := h) (p := r 0) (M := r 1) (n := r 2) (Z := r 3) (a := r 4) (b := r 5) (v := r 6) a1 a2 a3 a4
  obtain ⟨rq, hr⟩ : ∃ rq : Nat → Int, (∀ i, i < 7 → rq i = r i) := ⟨r, fun i hi => rfl⟩
  have v0 : rq 0 = r 0 := hr 0 (by decide)
  have v1 : rq 1 = r 1 := hr 1 (by decide)
  have v2 : rq 2 = r 2 := hr 2 (by decide)
  have v3 : rq 3 = r 3 := hr 3 (by decide)
  have v4 : rq 4 = r 4 := hr 4 (by decide)
  have v5 : rq 5 = r 5 := hr 5 (by decide)
  have v6 : rq 6 = r 6 := hr 6 (by decide)
  have g0 : zq_ev rq (0, [(0, 1)]) = r 0 := zu_f1 v0
  have g1 : zq_ev rq (0, [(1, 1)]) = r 1 := zu_f1 v1
  have g2 : zq_ev rq (0, [(2, 1)]) = r 2 := zu_f1 v2
  have g3 : zq_ev rq (0, [(3, 1)]) = r 3 := zu_f1 v3
  have g4 : zq_ev rq (0, [(4, 1)]) = r 4 := zu_f1 v4
  have g5 : zq_ev rq (0, [(5, 1)]) = r 5 := zu_f1 v5
  have g6 : zq_ev rq (0, [(6, 1)]) = r 6 := zu_f1 v6
  have g7 : zq_ev rq (-2, []) = -2 := zu_e0 _ _
  exact ⟨_, List.mem_cons_self .., rq, hr, zq_MeS_mk rfl hT (zq_all_nil) zq_fan (zq_fan) rfl (zu_fac ((x_PY _ _ _).mpr (by show zk_PY (zq_ev rq (0, [(0, 1)])) (zq_ev rq (0, [(1, 1)])) (zq_ev rq (0, [(2, 1)])) (zq_ev rq (0, [(3, 1)])) (zq_ev rq (0, [(4, 1)])) (zq_ev rq (0, [(5, 1)])) (zq_ev rq (0, [(6, 1)])) (zq_ev rq (-2, [])) (zq_ev rq (0, [(1, 1)])) (zq_ev rq (0, [(2, 1)])) (zq_ev rq (0, [(3, 1)])) P h; simp only [g0, g1, g2, g3, g4, g5, g6, g7]; exact t1)) zq_fan)⟩
noncomputable def zo_y2cg : zq_S × List zq_S := (([], [], [(-1, [(6, 1)]), (99, [(6, -1)]), (-1, [(4, 1), (5, -1)]), (-1, [(5, -1)])], [], [], [], [], 7), [([], [], [], [], [], [], [(303, [(0, [(0, 1)]), (0, [(1, 1)]), (0, [(2, 1)]), (0, [(3, 1)]), (0, [(4, 1)]), (0, [(5, 1)]), (0, [(6, 1)]), (-2, []), (0, [(1, 1)]), (0, [(2, 1)]), (0, [(3, 1)])])], 7)])
theorem zo_y2cg_l {P : zq_Ty} {h : zq_H} {p M n Z a b v : Int} (a1 : 0 ≤ v - 1) (a2 : 0 ≤ -v + 99) (a3 : 0 ≤ a - b - 1) (a4 : 0 ≤ -b - 1) : (zk_PY p M n Z a b v (-2) M n Z P h) := by
  exact Or.inr ⟨by omega, by omega, by omega, Or.inl ⟨by omega, rfl, rfl, rfl, rfl⟩⟩
theorem zo_y2cg_ok {w : zq_Wd} (x_PY : zj_is w 303 (fun q => zk_PY (q 0) (q 1) (q 2) (q 3) (q 4) (q 5) (q 6) (q 7) (q 8) (q 9) (q 10))) : zq_okG1 w zo_y2cg := by
  refine ⟨rfl, rfl, zu_fac ⟨rfl, by decide⟩ zq_fan, ?_⟩
  intro r P h H hM
  have q0 : zq_ev r (-1, [(6, 1)]) = r 6 - 1 := zu_e3 _ _ _
  have q1 : zq_ev r (99, [(6, -1)]) = -r 6 + 99 := zu_e5 _ _ _
  have q2 : zq_ev r (-1, [(4, 1), (5, -1)]) = r 4 - r 5 - 1 := by simp only [zq_ev, zq_ts] <;> omega
  have q3 : zq_ev r (-1, [(5, -1)]) = -r 5 - 1 := zu_e6 _ _ _
  obtain ⟨hT, hC, hF, hS, -, hK⟩ := hM
  have c := hC.1
  have a1 := zq_all_1 c
  rw [q0] at a1
  have c := zq_all_t c
  have a2 := zq_all_1 c
  rw [q1] at a2
  have c := zq_all_t c
  have a3 := zq_all_1 c
  rw [q2] at a3
  have c := zq_all_t c
  have a4 := zq_all_1 c
  rw [q3] at a4
  obtain t1 := zo_y2cg_l (P := P) (h := h) (p := r 0) (M := r 1) (n := r 2) (Z := r 3) (a := r 4) (b := r 5) (v := r 6) a1 a2 a3 a4
  obtain ⟨rq, hr⟩ : ∃ rq : Nat → Int, (∀ i, i < 7 → rq i = r i) := ⟨r, fun i hi => rfl⟩
  have v0 : rq 0 = r 0 := hr 0 (by decide)
  have v1 : rq 1 = r 1 := hr 1 (by decide)
  have v2 : rq 2 = r 2 := hr 2 (by decide)
  have v3 : rq 3 = r 3 := hr 3 (by decide)
  have v4 : rq 4 = r 4 := hr 4 (by decide)
  have v5 : rq 5 = r 5 := hr 5 (by decide)
  have v6 : rq 6 = r 6 := hr 6 (by decide)
  have g0 : zq_ev rq (0, [(0, 1)]) = r 0 := zu_f1 v0
  have g1 : zq_ev rq (0, [(1, 1)]) = r 1 := zu_f1 v1
  have g2 : zq_ev rq (0, [(2, 1)]) = r 2 := zu_f1 v2
  have g3 : zq_ev rq (0, [(3, 1)]) = r 3 := zu_f1 v3
  have g4 : zq_ev rq (0, [(4, 1)]) = r 4 := zu_f1 v4
  have g5 : zq_ev rq (0, [(5, 1)]) = r 5 := zu_f1 v5
  have g6 : zq_ev rq (0, [(6, 1)]) = r 6 := zu_f1 v6
  have g7 : zq_ev rq (-2, []) = -2 := zu_e0 _ _
  exact ⟨_, List.mem_cons_self .., rq, hr, zq_MeS_mk rfl hT (zq_all_nil) zq_fan (zq_fan) rfl (zu_fac ((x_PY _ _ _).mpr (by show zk_PY (zq_ev rq (0, [(0, 1)])) (zq_ev rq (0, [(1, 1)])) (zq_ev rq (0, [(2, 1)])) (zq_ev rq (0, [(3, 1)])) (zq_ev rq (0, [(4, 1)])) (zq_ev rq (0, [(5, 1)])) (zq_ev rq (0, [(6, 1)])) (zq_ev rq (-2, [])) (zq_ev rq (0, [(1, 1)])) (zq_ev rq (0, [(2, 1)])) (zq_ev rq (0, [(3, 1)])) P h; simp only [g0, g1, g2, g3, g4, g5, g6, g7]; exact t1)) zq_fan)⟩
noncomputable def zo_y2dg : zq_S × List zq_S := (([], [], [(-1, [(6, 1)]), (99, [(6, -1)]), (-1, [(4, 1), (5, -1)]), (0, [(0, -1), (5, 1)])], [], [], [], [], 7), [([], [], [], [], [], [], [(303, [(0, [(0, 1)]), (0, [(1, 1)]), (0, [(2, 1)]), (0, [(3, 1)]), (0, [(4, 1)]), (0, [(5, 1)]), (0, [(6, 1)]), (-2, []), (0, [(1, 1)]), (0, [(2, 1)]), (0, [(3, 1)])])], 7)])
theorem zo_y2dg_l {P : zq_Ty} {h : zq_H} {p M n Z a b v : Int} (a1 : 0 ≤ v - 1) (a2 : 0 ≤ -v + 99) (a3 : 0 ≤ a - b - 1) (a4 : 0 ≤ -p + b) : (zk_PY p M n Z a b v (-2) M n Z P h) := by
  exact Or.inr ⟨by omega, by omega, by omega, Or.inl ⟨by omega, rfl, rfl, rfl, rfl⟩⟩
theorem zo_y2dg_ok {w : zq_Wd} (x_PY : zj_is w 303 (fun q => zk_PY (q 0) (q 1) (q 2) (q 3) (q 4) (q 5) (q 6) (q 7) (q 8) (q 9) (q 10))) : zq_okG1 w zo_y2dg := by
  refine ⟨rfl, rfl, zu_fac ⟨rfl, by decide⟩ zq_fan, ?_⟩
  intro r P h H hM
  have q0 : zq_ev r (-1, [(6, 1)]) = r 6 - 1 := zu_e3 _ _ _
  have q1 : zq_ev r (99, [(6, -1)]) = -r 6 + 99 := zu_e5 _ _ _
  have q2 : zq_ev r (-1, [(4, 1), (5, -1)]) = r 4 - r 5 - 1 := by simp only [zq_ev, zq_ts] <;> omega
  have q3 : zq_ev r (0, [(0, -1), (5, 1)]) = -r 0 + r 5 := by simp only [zq_ev, zq_ts] <;> omega
  obtain ⟨hT, hC, hF, hS, -, hK⟩ := hM
  have c := hC.1
  have a1 := zq_all_1 c
  rw [q0] at a1
  have c := zq_all_t c
  have a2 := zq_all_1 c
  rw [q1] at a2
  have c := zq_all_t c
  have a3 := zq_all_1 c
  rw [q2] at a3
  have c := zq_all_t c
  have a4 := zq_all_1 c
  rw [q3] at a4
  obtain t1 := zo_y2dg_l (P := P) (h := h) (p := r 0) (M := r 1) (n := r 2) (Z := r 3) (a := r 4) (b := r 5) (v := r 6) a1 a2 a3 a4
  obtain ⟨rq, hr⟩ : ∃ rq : Nat → Int, (∀ i, i < 7 → rq i = r i) := ⟨r, fun i hi => rfl⟩
  have v0 : rq 0 = r 0 := hr 0 (by decide)
  have v1 : rq 1 = r 1 := hr 1 (by decide)
  have v2 : rq 2 = r 2 := hr 2 (by decide)
  have v3 : rq 3 = r 3 := hr 3 (by decide)
  have v4 : rq 4 = r 4 := hr 4 (by decide)
  have v5 : rq 5 = r 5 := hr 5 (by decide)
  have v6 : rq 6 = r 6 := hr 6 (by decide)
  have g0 : zq_ev rq (0, [(0, 1)]) = r 0 := zu_f1 v0
  have g1 : zq_ev rq (0, [(1, 1)]) = r 1 := zu_f1 v1
  have g2 : zq_ev rq (0, [(2, 1)]) = r 2 := zu_f1 v2
  have g3 : zq_ev rq (0, [(3, 1)]) = r 3 := zu_f1 v3
  have g4 : zq_ev rq (0, [(4, 1)]) = r 4 := zu_f1 v4
  have g5 : zq_ev rq (0, [(5, 1)]) = r 5 := zu_f1 v5
  have g6 : zq_ev rq (0, [(6, 1)]) = r 6 := zu_f1 v6
  have g7 : zq_ev rq (-2, []) = -2 := zu_e0 _ _
  exact ⟨_, List.mem_cons_self .., rq, hr, zq_MeS_mk rfl hT (zq_all_nil) zq_fan (zq_fan) rfl (zu_fac ((x_PY _ _ _).mpr (by show zk_PY (zq_ev rq (0, [(0, 1)])) (zq_ev rq (0, [(1, 1)])) (zq_ev rq (0, [(2, 1)])) (zq_ev rq (0, [(3, 1)])) (zq_ev rq (0, [(4, 1)])) (zq_ev rq (0, [(5, 1)])) (zq_ev rq (0, [(6, 1)])) (zq_ev rq (-2, [])) (zq_ev rq (0, [(1, 1)])) (zq_ev rq (0, [(2, 1)])) (zq_ev rq (0, [(3, 1)])) P h; simp only [g0, g1, g2, g3, g4, g5, g6, g7]; exact t1)) zq_fan)⟩
noncomputable def zo_y3ag : zq_S × List zq_S := (([], [], [(-1, [(6, 1)]), (99, [(6, -1)]), (-1, [(4, 1), (5, -1)]), (0, [(4, 1)]), (-1, [(0, 1), (4, -1)]), (0, [(5, 1)]), (-1, [(0, 1), (5, -1)]), (-10000, [(6, 1), (7, 1)])], [], [], [], [(134, [(0, [(1, 1)]), (0, [(4, 1)]), (0, [(7, 1)])])], 8), [([], [], [], [], [], [], [(303, [(0, [(0, 1)]), (0, [(1, 1)]), (0, [(2, 1)]), (0, [(3, 1)]), (0, [(4, 1)]), (0, [(5, 1)]), (0, [(6, 1)]), (-3, []), (0, [(1, 1)]), (0, [(2, 1)]), (0, [(3, 1)])])], 8)])
theorem zo_y3ag_l {P : zq_Ty} {h : zq_H} {p M n Z a b v x : Int} (a1 : 0 ≤ v - 1) (a2 : 0 ≤ -v + 99) (a3 : 0 ≤ a - b - 1) (a4 : 0 ≤ a) (a5 : 0 ≤ p - a - 1) (a6 : 0 ≤ b) (a7 : 0 ≤ p - b - 1) (a8 : 0 ≤ v + x - 10000) (k1 : zn_DG M a x P h) : (zk_PY p M n Z a b v (-3) M n Z P h) := by
  have k1 : x = zn_dg M a := k1
  exact Or.inr ⟨by omega, by omega, by omega, Or.inr ⟨by omega, by omega, by omega, by omega, Or.inl ⟨by omega, rfl, rfl, rfl, rfl⟩⟩⟩
theorem zo_y3ag_ok {w : zq_Wd} (x_DG : zj_is w 134 (fun q => zn_DG (q 0) (q 1) (q 2))) (x_PY : zj_is w 303 (fun q => zk_PY (q 0) (q 1) (q 2) (q 3) (q 4) (q 5) (q 6) (q 7) (q 8) (q 9) (q 10))) : zq_okG1 w zo_y3ag := by
  refine ⟨rfl, rfl, zu_fac ⟨rfl, by decide⟩ zq_fan, ?_⟩
  intro r P h H hM
  have q0 : zq_ev r (-1, [(6, 1)]) = r 6 - 1 := zu_e3 _ _ _
  have q1 : zq_ev r (99, [(6, -1)]) = -r 6 + 99 := zu_e5 _ _ _
  have q2 : zq_ev r (-1, [(4, 1), (5, -1)]) = r 4 - r 5 - 1 := by simp only [zq_ev, zq_ts] <;> omega
  have q3 : zq_ev r (0, [(4, 1)]) = r 4 := zu_e1 _ _
  have q4 : zq_ev r (-1, [(0, 1), (4, -1)]) = r 0 - r 4 - 1 := by simp only [zq_ev, zq_ts] <;> omega
  have q5 : zq_ev r (0, [(5, 1)]) = r 5 := zu_e1 _ _
  have q6 : zq_ev r (-1, [(0, 1), (5, -1)]) = r 0 - r 5 - 1 := by simp only [zq_ev, zq_ts] <;> omega
  have q7 : zq_ev r (-10000, [(6, 1), (7, 1)]) = r 6 + r 7 - 10000 := by simp only [zq_ev, zq_ts] <;> omega
  have q8 : zq_ev r (0, [(1, 1)]) = r 1 := zu_e1 _ _
  have q9 : zq_ev r (0, [(7, 1)]) = r 7 := zu_e1 _ _
  obtain ⟨hT, hC, hF, hS, -, hK⟩ := hM
  have c := hC.1
  have a1 := zq_all_1 c
  rw [q0] at a1
  have c := zq_all_t c
  have a2 := zq_all_1 c
  rw [q1] at a2
  have c := zq_all_t c
  have a3 := zq_all_1 c
  rw [q2] at a3
  have c := zq_all_t c
  have a4 := zq_all_1 c
  rw [q3] at a4
  have c := zq_all_t c
  have a5 := zq_all_1 c
  rw [q4] at a5
  have c := zq_all_t c
  have a6 := zq_all_1 c
  rw [q5] at a6
  have c := zq_all_t c
  have a7 := zq_all_1 c
  rw [q6] at a7
  have c := zq_all_t c
  have a8 := zq_all_1 c
  rw [q7] at a8
  have k1 := zj_use x_DG (hK)
  have k1 : zn_DG (zq_ev r (0, [(1, 1)])) (zq_ev r (0, [(4, 1)])) (zq_ev r (0, [(7, 1)])) P h := k1
  simp only [q3, q8, q9] at k1
  obtain t1 := zo_y3ag_l (P := P) (h := h) (p := r 0) (M := r 1) (n := r 2) (Z := r 3) (a := r 4) (b := r 5) (v := r 6) (x := r 7) a1 a2 a3 a4 a5 a6 a7 a8 k1
  obtain ⟨rq, hr⟩ : ∃ rq : Nat → Int, (∀ i, i < 8 → rq i = r i) := ⟨r, fun i hi => rfl⟩
  have v0 : rq 0 = r 0 := hr 0 (by decide)
  have v1 : rq 1 = r 1 := hr 1 (by decide)
  have v2 : rq 2 = r 2 := hr 2 (by decide)
  have v3 : rq 3 = r 3 := hr 3 (by decide)
  have v4 : rq 4 = r 4 := hr 4 (by decide)
  have v5 : rq 5 = r 5 := hr 5 (by decide)
  have v6 : rq 6 = r 6 := hr 6 (by decide)
  have g0 : zq_ev rq (0, [(0, 1)]) = r 0 := zu_f1 v0
  have g1 : zq_ev rq (0, [(1, 1)]) = r 1 := zu_f1 v1
  have g2 : zq_ev rq (0, [(2, 1)]) = r 2 := zu_f1 v2
  have g3 : zq_ev rq (0, [(3, 1)]) = r 3 := zu_f1 v3
  have g4 : zq_ev rq (0, [(4, 1)]) = r 4 := zu_f1 v4
  have g5 : zq_ev rq (0, [(5, 1)]) = r 5 := zu_f1 v5
  have g6 : zq_ev rq (0, [(6, 1)]) = r 6 := zu_f1 v6
  have g7 : zq_ev rq (-3, []) = -3 := zu_e0 _ _
  exact ⟨_, List.mem_cons_self .., rq, hr, zq_MeS_mk rfl hT (zq_all_nil) zq_fan (zq_fan) rfl (zu_fac ((x_PY _ _ _).mpr (by show zk_PY (zq_ev rq (0, [(0, 1)])) (zq_ev rq (0, [(1, 1)])) (zq_ev rq (0, [(2, 1)])) (zq_ev rq (0, [(3, 1)])) (zq_ev rq (0, [(4, 1)])) (zq_ev rq (0, [(5, 1)])) (zq_ev rq (0, [(6, 1)])) (zq_ev rq (-3, [])) (zq_ev rq (0, [(1, 1)])) (zq_ev rq (0, [(2, 1)])) (zq_ev rq (0, [(3, 1)])) P h; simp only [g0, g1, g2, g3, g4, g5, g6, g7]; exact t1)) zq_fan)⟩
noncomputable def zo_y3bg : zq_S × List zq_S := (([], [], [(-1, [(6, 1)]), (99, [(6, -1)]), (-1, [(4, 1), (5, -1)]), (0, [(4, 1)]), (-1, [(0, 1), (4, -1)]), (0, [(5, 1)]), (-1, [(0, 1), (5, -1)]), (-10000, [(6, 1), (7, -1)])], [], [], [], [(134, [(0, [(1, 1)]), (0, [(5, 1)]), (0, [(7, 1)])])], 8), [([], [], [], [], [], [], [(303, [(0, [(0, 1)]), (0, [(1, 1)]), (0, [(2, 1)]), (0, [(3, 1)]), (0, [(4, 1)]), (0, [(5, 1)]), (0, [(6, 1)]), (-3, []), (0, [(1, 1)]), (0, [(2, 1)]), (0, [(3, 1)])])], 8)])
theorem zo_y3bg_l {P : zq_Ty} {h : zq_H} {p M n Z a b v y : Int} (a1 : 0 ≤ v - 1) (a2 : 0 ≤ -v + 99) (a3 : 0 ≤ a - b - 1) (a4 : 0 ≤ a) (a5 : 0 ≤ p - a - 1) (a6 : 0 ≤ b) (a7 : 0 ≤ p - b - 1) (a8 : 0 ≤ v - y - 10000) (k1 : zn_DG M b y P h) : (zk_PY p M n Z a b v (-3) M n Z P h) := by
  have k1 : y = zn_dg M b := k1
  exact Or.inr ⟨by omega, by omega, by omega, Or.inr ⟨by omega, by omega, by omega, by omega, Or.inl ⟨by omega, rfl, rfl, rfl, rfl⟩⟩⟩
theorem zo_y3bg_ok {w : zq_Wd} (x_DG : zj_is w 134 (fun q => zn_DG (q 0) (q 1) (q 2))) (x_PY : zj_is w 303 (fun q => zk_PY (q 0) (q 1) (q 2) (q 3) (q 4) (q 5) (q 6) (q 7) (q 8) (q 9) (q 10))) : zq_okG1 w zo_y3bg := by
  refine ⟨rfl, rfl, zu_fac ⟨rfl, by decide⟩ zq_fan, ?_⟩
  intro r P h H hM
  have q0 : zq_ev r (-1, [(6, 1)]) = r 6 - 1 := zu_e3 _ _ _
  have q1 : zq_ev r (99, [(6, -1)]) = -r 6 + 99 := zu_e5 _ _ _
  have q2 : zq_ev r (-1, [(4, 1), (5, -1)]) = r 4 - r 5 - 1 := by simp only [zq_ev, zq_ts] <;> omega
  have q3 : zq_ev r (0, [(4, 1)]) = r 4 := zu_e1 _ _
  have q4 : zq_ev r (-1, [(0, 1), (4, -1)]) = r 0 - r 4 - 1 := by simp only [zq_ev, zq_ts] <;> omega
  have q5 : zq_ev r (0, [(5, 1)]) = r 5 := zu_e1 _ _
  have q6 : zq_ev r (-1, [(0, 1), (5, -1)]) = r 0 - r 5 - 1 := by simp only [zq_ev, zq_ts] <;> omega
  have q7 : zq_ev r (-10000, [(6, 1), (7, -1)]) = r 6 - r 7 - 10000 := by simp only [zq_ev, zq_ts] <;> omega
  have q8 : zq_ev r (0, [(1, 1)]) = r 1 := zu_e1 _ _
  have q9 : zq_ev r (0, [(7, 1)]) = r 7 := zu_e1 _ _
  obtain ⟨hT, hC, hF, hS, -, hK⟩ := hM
  have c := hC.1
  have a1 := zq_all_1 c
  rw [q0] at a1
  have c := zq_all_t c
  have a2 := zq_all_1 c
  rw [q1] at a2
  have c := zq_all_t c
  have a3 := zq_all_1 c
  rw [q2] at a3
  have c := zq_all_t c
  have a4 := zq_all_1 c
  rw [q3] at a4
  have c := zq_all_t c
  have a5 := zq_all_1 c
  rw [q4] at a5
  have c := zq_all_t c
  have a6 := zq_all_1 c
  rw [q5] at a6
  have c := zq_all_t c
  have a7 := zq_all_1 c
  rw [q6] at a7
  have c := zq_all_t c
  have a8 := zq_all_1 c
  rw [q7] at a8
  have k1 := zj_use x_DG (hK)
  have k1 : zn_DG (zq_ev r (0, [(1, 1)])) (zq_ev r (0, [(5, 1)])) (zq_ev r (0, [(7, 1)])) P h := k1
  simp only [q5, q8, q9] at k1
  obtain t1 := zo_y3bg_l (P := P) (h := h) (p := r 0) (M := r 1) (n := r 2) (Z := r 3) (a := r 4) (b := r 5) (v := r 6) (y := r 7) a1 a2 a3 a4 a5 a6 a7 a8 k1
  obtain ⟨rq, hr⟩ : ∃ rq : Nat → Int, (∀ i, i < 8 → rq i = r i) := ⟨r, fun i hi => rfl⟩
  have v0 : rq 0 = r 0 := hr 0 (by decide)
  have v1 : rq 1 = r 1 := hr 1 (by decide)
  have v2 : rq 2 = r 2 := hr 2 (by decide)
  have v3 : rq 3 = r 3 := hr 3 (by decide)
  have v4 : rq 4 = r 4 := hr 4 (by decide)
  have v5 : rq 5 = r 5 := hr 5 (by decide)
  have v6 : rq 6 = r 6 := hr 6 (by decide)
  have g0 : zq_ev rq (0, [(0, 1)]) = r 0 := zu_f1 v0
  have g1 : zq_ev rq (0, [(1, 1)]) = r 1 := zu_f1 v1
  have g2 : zq_ev rq (0, [(2, 1)]) = r 2 := zu_f1 v2
  have g3 : zq_ev rq (0, [(3, 1)]) = r 3 := zu_f1 v3
  have g4 : zq_ev rq (0, [(4, 1)]) = r 4 := zu_f1 v4
  have g5 : zq_ev rq (0, [(5, 1)]) = r 5 := zu_f1 v5
  have g6 : zq_ev rq (0, [(6, 1)]) = r 6 := zu_f1 v6
  have g7 : zq_ev rq (-3, []) = -3 := zu_e0 _ _
  exact ⟨_, List.mem_cons_self .., rq, hr, zq_MeS_mk rfl hT (zq_all_nil) zq_fan (zq_fan) rfl (zu_fac ((x_PY _ _ _).mpr (by show zk_PY (zq_ev rq (0, [(0, 1)])) (zq_ev rq (0, [(1, 1)])) (zq_ev rq (0, [(2, 1)])) (zq_ev rq (0, [(3, 1)])) (zq_ev rq (0, [(4, 1)])) (zq_ev rq (0, [(5, 1)])) (zq_ev rq (0, [(6, 1)])) (zq_ev rq (-3, [])) (zq_ev rq (0, [(1, 1)])) (zq_ev rq (0, [(2, 1)])) (zq_ev rq (0, [(3, 1)])) P h; simp only [g0, g1, g2, g3, g4, g5, g6, g7]; exact t1)) zq_fan)⟩
noncomputable def zo_yg : zq_S × List zq_S := (([], [], [(-1, [(6, 1)]), (99, [(6, -1)]), (-1, [(4, 1), (5, -1)]), (0, [(4, 1)]), (-1, [(0, 1), (4, -1)]), (0, [(5, 1)]), (-1, [(0, 1), (5, -1)]), (9999, [(6, -1), (7, -1)]), (9999, [(6, -1), (8, 1)]), (-9999, [(6, -1), (7, -1), (9, 1)]), (9999, [(6, 1), (7, 1), (9, -1)])], [], [], [], [(134, [(0, [(1, 1)]), (0, [(4, 1)]), (0, [(7, 1)])]), (134, [(0, [(1, 1)]), (0, [(5, 1)]), (0, [(8, 1)])]), (312, [(0, [(1, 1)]), (0, [(4, 1)]), (0, [(5, 1)]), (0, [(6, 1)]), (0, [(10, 1)])]), (291, [(0, [(3, 1)]), (0, [(2, 1)]), (0, [(1, 1)]), (1, []), (0, [(11, 1)]), (0, [(12, 1)])])], 13), [([], [], [], [], [], [], [(303, [(0, [(0, 1)]), (0, [(1, 1)]), (0, [(2, 1)]), (0, [(3, 1)]), (0, [(4, 1)]), (0, [(5, 1)]), (0, [(6, 1)]), (0, [(9, 1)]), (0, [(10, 1)]), (0, [(11, 1)]), (0, [(12, 1)])])], 13)])
theorem zo_yg_l {P : zq_Ty} {h : zq_H} {p M n Z a b v x y r N m Y : Int} (a1 : 0 ≤ v - 1) (a2 : 0 ≤ -v + 99) (a3 : 0 ≤ a - b - 1) (a4 : 0 ≤ a) (a5 : 0 ≤ p - a - 1) (a6 : 0 ≤ b) (a7 : 0 ≤ p - b - 1) (a8 : 0 ≤ -v - x + 9999) (a9 : 0 ≤ -v + y + 9999) (a10 : 0 ≤ -v - x + r - 9999) (a11 : 0 ≤ v + x - r + 9999) (k1 : zn_DG M a x P h) (k2 : zn_DG M b y P h) (k3 : zk_MV M a b v N P h) (k4 : zm_PZ Z n M 1 m Y P h) : (zk_PY p M n Z a b v r N m Y P h) := by
  have k1 : x = zn_dg M a := k1
  have k2 : y = zn_dg M b := k2
  exact Or.inr ⟨by omega, by omega, by omega, Or.inr ⟨by omega, by omega, by omega, by omega, Or.inr ⟨by omega, by omega, by omega, k3, k4.1, k4.2⟩⟩⟩
theorem zo_yg_ok {w : zq_Wd} (x_DG : zj_is w 134 (fun q => zn_DG (q 0) (q 1) (q 2))) (x_MV : zj_is w 312 (fun q => zk_MV (q 0) (q 1) (q 2) (q 3) (q 4))) (x_PZ : zj_is w 291 (fun q => zm_PZ (q 0) (q 1) (q 2) (q 3) (q 4) (q 5))) (x_PY : zj_is w 303 (fun q => zk_PY (q 0) (q 1) (q 2) (q 3) (q 4) (q 5) (q 6) (q 7) (q 8) (q 9) (q 10))) : zq_okG1 w zo_yg := by
  refine ⟨rfl, rfl, zu_fac ⟨rfl, by decide⟩ zq_fan, ?_⟩
  intro r P h H hM
  have q0 : zq_ev r (-1, [(6, 1)]) = r 6 - 1 := zu_e3 _ _ _
  have q1 : zq_ev r (99, [(6, -1)]) = -r 6 + 99 := zu_e5 _ _ _
  have q2 : zq_ev r (-1, [(4, 1), (5, -1)]) = r 4 - r 5 - 1 := by simp only [zq_ev, zq_ts] <;> omega
  have q3 : zq_ev r (0, [(4, 1)]) = r 4 := zu_e1 _ _
  have q4 : zq_ev r (-1, [(0, 1), (4, -1)]) = r 0 - r 4 - 1 := by simp only [zq_ev, zq_ts] <;> omega
  have q5 : zq_ev r (0, [(5, 1)]) = r 5 := zu_e1 _ _
  have q6 : zq_ev r (-1, [(0, 1), (5, -1)]) = r 0 - r 5 - 1 := by simp only [zq_ev, zq_ts] <;> omega
  have q7 : zq_ev r (9999, [(6, -1), (7, -1)]) = -r 6 - r 7 + 9999 := by simp only [zq_ev, zq_ts] <;> omega
  have q8 : zq_ev r (9999, [(6, -1), (8, 1)]) = -r 6 + r 8 + 9999 := by simp only [zq_ev, zq_ts] <;> omega
  have q9 : zq_ev r (-9999, [(6, -1), (7, -1), (9, 1)]) = -r 6 - r 7 + r 9 - 9999 := by simp only [zq_ev, zq_ts] <;> omega
  have q10 : zq_ev r (9999, [(6, 1), (7, 1), (9, -1)]) = r 6 + r 7 - r 9 + 9999 := by simp only [zq_ev, zq_ts] <;> omega
  have q11 : zq_ev r (0, [(1, 1)]) = r 1 := zu_e1 _ _
  have q12 : zq_ev r (0, [(7, 1)]) = r 7 := zu_e1 _ _
  have q13 : zq_ev r (0, [(8, 1)]) = r 8 := zu_e1 _ _
  have q14 : zq_ev r (0, [(6, 1)]) = r 6 := zu_e1 _ _
  have q15 : zq_ev r (0, [(10, 1)]) = r 10 := zu_e1 _ _
  have q16 : zq_ev r (0, [(3, 1)]) = r 3 := zu_e1 _ _
  have q17 : zq_ev r (0, [(2, 1)]) = r 2 := zu_e1 _ _
  have q18 : zq_ev r (1, []) = 1 := zu_e0 _ _
  have q19 : zq_ev r (0, [(11, 1)]) = r 11 := zu_e1 _ _
  have q20 : zq_ev r (0, [(12, 1)]) = r 12 := zu_e1 _ _
  obtain ⟨hT, hC, hF, hS, -, hK⟩ := hM
  have c := hC.1
  have a1 := zq_all_1 c
  rw [q0] at a1
  have c := zq_all_t c
  have a2 := zq_all_1 c
  rw [q1] at a2
  have c := zq_all_t c
  have a3 := zq_all_1 c
  rw [q2] at a3
  have c := zq_all_t c
  have a4 := zq_all_1 c
  rw [q3] at a4
  have c := zq_all_t c
  have a5 := zq_all_1 c
  rw [q4] at a5
  have c := zq_all_t c
  have a6 := zq_all_1 c
  rw [q5] at a6
  have c := zq_all_t c
  have a7 := zq_all_1 c
  rw [q6] at a7
  have c := zq_all_t c
  have a8 := zq_all_1 c
  rw [q7] at a8
  have c := zq_all_t c
  have a9 := zq_all_1 c
  rw [q8] at a9
  have c := zq_all_t c
  have a10 := zq_all_1 c
  rw [q9] at a10
  have c := zq_all_t c
  have a11 := zq_all_1 c
  rw [q10] at a11
  have k1 := zj_use x_DG (hK)
  have k1 : zn_DG (zq_ev r (0, [(1, 1)])) (zq_ev r (0, [(4, 1)])) (zq_ev r (0, [(7, 1)])) P h := k1
  simp only [q11, q12, q3] at k1
  have k2 := zj_use x_DG (zq_okX_t (hK))
  have k2 : zn_DG (zq_ev r (0, [(1, 1)])) (zq_ev r (0, [(5, 1)])) (zq_ev r (0, [(8, 1)])) P h := k2
  simp only [q11, q13, q5] at k2
  have k3 := zj_use x_MV (zq_okX_t (zq_okX_t (hK)))
  have k3 : zk_MV (zq_ev r (0, [(1, 1)])) (zq_ev r (0, [(4, 1)])) (zq_ev r (0, [(5, 1)])) (zq_ev r (0, [(6, 1)])) (zq_ev r (0, [(10, 1)])) P h := k3
  simp only [q11, q14, q15, q3, q5] at k3
  have k4 := zj_use x_PZ (zq_okX_t (zq_okX_t (zq_okX_t (hK))))
  have k4 : zm_PZ (zq_ev r (0, [(3, 1)])) (zq_ev r (0, [(2, 1)])) (zq_ev r (0, [(1, 1)])) (zq_ev r (1, [])) (zq_ev r (0, [(11, 1)])) (zq_ev r (0, [(12, 1)])) P h := k4
  simp only [q11, q16, q17, q18, q19, q20] at k4
  obtain t1 := zo_yg_l (P := P) (h := h) (p := r 0) (M := r 1) (n := r 2) (Z := r 3) (a := r 4) (b := r 5) (v := r 6) (x := r 7) (y := r 8) (r := r 9) (N := r 10) (m := r 11) (Y := r 12) a1 a2 a3 a4 a5 a6 a7 a8 a9 a10 a11 k1 k2 k3 k4
  obtain ⟨rq, hr⟩ : ∃ rq : Nat → Int, (∀ i, i < 13 → rq i = r i) := ⟨r, fun i hi => rfl⟩
  have v0 : rq 0 = r 0 := hr 0 (by decide)
  have v1 : rq 1 = r 1 := hr 1 (by decide)
  have v2 : rq 2 = r 2 := hr 2 (by decide)
  have v3 : rq 3 = r 3 := hr 3 (by decide)
  have v4 : rq 4 = r 4 := hr 4 (by decide)
  have v5 : rq 5 = r 5 := hr 5 (by decide)
  have v6 : rq 6 = r 6 := hr 6 (by decide)
  have v9 : rq 9 = r 9 := hr 9 (by decide)
  have v10 : rq 10 = r 10 := hr 10 (by decide)
  have v11 : rq 11 = r 11 := hr 11 (by decide)
  have v12 : rq 12 = r 12 := hr 12 (by decide)
  have g0 : zq_ev rq (0, [(0, 1)]) = r 0 := zu_f1 v0
  have g1 : zq_ev rq (0, [(1, 1)]) = r 1 := zu_f1 v1
  have g2 : zq_ev rq (0, [(2, 1)]) = r 2 := zu_f1 v2
  have g3 : zq_ev rq (0, [(3, 1)]) = r 3 := zu_f1 v3
  have g4 : zq_ev rq (0, [(4, 1)]) = r 4 := zu_f1 v4
  have g5 : zq_ev rq (0, [(5, 1)]) = r 5 := zu_f1 v5
  have g6 : zq_ev rq (0, [(6, 1)]) = r 6 := zu_f1 v6
  have g7 : zq_ev rq (0, [(9, 1)]) = r 9 := zu_f1 v9
  have g8 : zq_ev rq (0, [(10, 1)]) = r 10 := zu_f1 v10
  have g9 : zq_ev rq (0, [(11, 1)]) = r 11 := zu_f1 v11
  have g10 : zq_ev rq (0, [(12, 1)]) = r 12 := zu_f1 v12
  exact ⟨_, List.mem_cons_self .., rq, hr, zq_MeS_mk rfl hT (zq_all_nil) zq_fan (zq_fan) rfl (zu_fac ((x_PY _ _ _).mpr (by show zk_PY (zq_ev rq (0, [(0, 1)])) (zq_ev rq (0, [(1, 1)])) (zq_ev rq (0, [(2, 1)])) (zq_ev rq (0, [(3, 1)])) (zq_ev rq (0, [(4, 1)])) (zq_ev rq (0, [(5, 1)])) (zq_ev rq (0, [(6, 1)])) (zq_ev rq (0, [(9, 1)])) (zq_ev rq (0, [(10, 1)])) (zq_ev rq (0, [(11, 1)])) (zq_ev rq (0, [(12, 1)])) P h; simp only [g0, g1, g10, g2, g3, g4, g5, g6, g7, g8, g9]; exact t1)) zq_fan)⟩
noncomputable def zo_c1a : zq_S × List zq_S := (([], [], [(-1, [(11, -1)])], [], [], [], [], 12), [([], [], [], [], [], [], [(304, [(0, [(0, 1)]), (0, [(1, 1)]), (0, [(2, 1)]), (0, [(3, 1)]), (0, [(4, 1)]), (0, [(5, 1)]), (0, [(6, 1)]), (0, [(7, 1)]), (0, [(8, 1)]), (0, [(9, 1)]), (0, [(10, 1)]), (0, [(11, 1)]), (-1, []), (0, [(6, 1)]), (0, [(7, 1)]), (0, [(8, 1)])])], 12)])
theorem zo_c1a_l {P : zq_Ty} {h : zq_H} {S m e T f u M n Z d w p : Int} (a1 : 0 ≤ -p - 1) : (zk_CM S m e T f u M n Z d w p (-1) M n Z P h) := by
  exact Or.inl ⟨by omega, rfl, rfl, rfl, rfl⟩
theorem zo_c1a_ok {w : zq_Wd} (x_CM : zj_is w 304 (fun q => zk_CM (q 0) (q 1) (q 2) (q 3) (q 4) (q 5) (q 6) (q 7) (q 8) (q 9) (q 10) (q 11) (q 12) (q 13) (q 14) (q 15))) : zq_okG1 w zo_c1a := by
  refine ⟨rfl, rfl, zu_fac ⟨rfl, by decide⟩ zq_fan, ?_⟩
  intro r P h H hM
  have q0 : zq_ev r (-1, [(11, -1)]) = -r 11 - 1 := zu_e6 _ _ _
  obtain ⟨hT, hC, hF, hS, -, hK⟩ := hM
  have c := hC.1
  have a1 := zq_all_1 c
  rw [q0] at a1
  obtain t1 := zo_c1a_l (P := P) (h := h) (S := r 0) (m := r 1) (e := r 2) (T := r 3) (f := r 4) (u := r 5) (M := r 6) (n := r 7) (Z := r 8) (d := r 9) (w := r 10) (p := r 11) a1
  obtain ⟨rq, hr⟩ : ∃ rq : Nat → Int, (∀ i, i < 12 → rq i = r i) := ⟨r, fun i hi => rfl⟩
  have v0 : rq 0 = r 0 := hr 0 (by decide)
  have v1 : rq 1 = r 1 := hr 1 (by decide)
  have v2 : rq 2 = r 2 := hr 2 (by decide)
  have v3 : rq 3 = r 3 := hr 3 (by decide)
  have v4 : rq 4 = r 4 := hr 4 (by decide)
  have v5 : rq 5 = r 5 := hr 5 (by decide)
  have v6 : rq 6 = r 6 := hr 6 (by decide)
  have v7 : rq 7 = r 7 := hr 7 (by decide)
  have v8 : rq 8 = r 8 := hr 8 (by decide)
  have v9 : rq 9 = r 9 := hr 9 (by decide)
  have v10 : rq 10 = r 10 := hr 10 (by decide)
  have v11 : rq 11 = r 11 := hr 11 (by decide)
  have g0 : zq_ev rq (0, [(0, 1)]) = r 0 := zu_f1 v0
  have g1 : zq_ev rq (0, [(1, 1)]) = r 1 := zu_f1 v1
  have g2 : zq_ev rq (0, [(2, 1)]) = r 2 := zu_f1 v2
  have g3 : zq_ev rq (0, [(3, 1)]) = r 3 := zu_f1 v3
  have g4 : zq_ev rq (0, [(4, 1)]) = r 4 := zu_f1 v4
  have g5 : zq_ev rq (0, [(5, 1)]) = r 5 := zu_f1 v5
  have g6 : zq_ev rq (0, [(6, 1)]) = r 6 := zu_f1 v6
  have g7 : zq_ev rq (0, [(7, 1)]) = r 7 := zu_f1 v7
  have g8 : zq_ev rq (0, [(8, 1)]) = r 8 := zu_f1 v8
  have g9 : zq_ev rq (0, [(9, 1)]) = r 9 := zu_f1 v9
  have g10 : zq_ev rq (0, [(10, 1)]) = r 10 := zu_f1 v10
  have g11 : zq_ev rq (0, [(11, 1)]) = r 11 := zu_f1 v11
  have g12 : zq_ev rq (-1, []) = -1 := zu_e0 _ _
  exact ⟨_, List.mem_cons_self .., rq, hr, zq_MeS_mk rfl hT (zq_all_nil) zq_fan (zq_fan) rfl (zu_fac ((x_CM _ _ _).mpr (by show zk_CM (zq_ev rq (0, [(0, 1)])) (zq_ev rq (0, [(1, 1)])) (zq_ev rq (0, [(2, 1)])) (zq_ev rq (0, [(3, 1)])) (zq_ev rq (0, [(4, 1)])) (zq_ev rq (0, [(5, 1)])) (zq_ev rq (0, [(6, 1)])) (zq_ev rq (0, [(7, 1)])) (zq_ev rq (0, [(8, 1)])) (zq_ev rq (0, [(9, 1)])) (zq_ev rq (0, [(10, 1)])) (zq_ev rq (0, [(11, 1)])) (zq_ev rq (-1, [])) (zq_ev rq (0, [(6, 1)])) (zq_ev rq (0, [(7, 1)])) (zq_ev rq (0, [(8, 1)])) P h; simp only [g0, g1, g10, g11, g12, g2, g3, g4, g5, g6, g7, g8, g9]; exact t1)) zq_fan)⟩
noncomputable def zo_c1b : zq_S × List zq_S := (([], [], [(-4, [(11, 1)])], [], [], [], [], 12), [([], [], [], [], [], [], [(304, [(0, [(0, 1)]), (0, [(1, 1)]), (0, [(2, 1)]), (0, [(3, 1)]), (0, [(4, 1)]), (0, [(5, 1)]), (0, [(6, 1)]), (0, [(7, 1)]), (0, [(8, 1)]), (0, [(9, 1)]), (0, [(10, 1)]), (0, [(11, 1)]), (-1, []), (0, [(6, 1)]), (0, [(7, 1)]), (0, [(8, 1)])])], 12)])
theorem zo_c1b_l {P : zq_Ty} {h : zq_H} {S m e T f u M n Z d w p : Int} (a1 : 0 ≤ p - 4) : (zk_CM S m e T f u M n Z d w p (-1) M n Z P h) := by
  exact Or.inl ⟨by omega, rfl, rfl, rfl, rfl⟩
theorem zo_c1b_ok {w : zq_Wd} (x_CM : zj_is w 304 (fun q => zk_CM (q 0) (q 1) (q 2) (q 3) (q 4) (q 5) (q 6) (q 7) (q 8) (q 9) (q 10) (q 11) (q 12) (q 13) (q 14) (q 15))) : zq_okG1 w zo_c1b := by
  refine ⟨rfl, rfl, zu_fac ⟨rfl, by decide⟩ zq_fan, ?_⟩
  intro r P h H hM
  have q0 : zq_ev r (-4, [(11, 1)]) = r 11 - 4 := zu_e3 _ _ _
  obtain ⟨hT, hC, hF, hS, -, hK⟩ := hM
  have c := hC.1
  have a1 := zq_all_1 c
  rw [q0] at a1
  obtain t1 := zo_c1b_l (P := P) (h := h) (S := r 0) (m := r 1) (e := r 2) (T := r 3) (f := r 4) (u := r 5) (M := r 6) (n := r 7) (Z := r 8) (d := r 9) (w := r 10) (p := r 11) a1
  obtain ⟨rq, hr⟩ : ∃ rq : Nat → Int, (∀ i, i < 12 → rq i = r i) := ⟨r, fun i hi => rfl⟩
  have v0 : rq 0 = r 0 := hr 0 (by decide)
  have v1 : rq 1 = r 1 := hr 1 (by decide)
  have v2 : rq 2 = r 2 := hr 2 (by decide)
  have v3 : rq 3 = r 3 := hr 3 (by decide)
  have v4 : rq 4 = r 4 := hr 4 (by decide)
  have v5 : rq 5 = r 5 := hr 5 (by decide)
  have v6 : rq 6 = r 6 := hr 6 (by decide)
  have v7 : rq 7 = r 7 := hr 7 (by decide)
  have v8 : rq 8 = r 8 := hr 8 (by decide)
  have v9 : rq 9 = r 9 := hr 9 (by decide)
  have v10 : rq 10 = r 10 := hr 10 (by decide)
  have v11 : rq 11 = r 11 := hr 11 (by decide)
  have g0 : zq_ev rq (0, [(0, 1)]) = r 0 := zu_f1 v0
  have g1 : zq_ev rq (0, [(1, 1)]) = r 1 := zu_f1 v1
  have g2 : zq_ev rq (0, [(2, 1)]) = r 2 := zu_f1 v2
  have g3 : zq_ev rq (0, [(3, 1)]) = r 3 := zu_f1 v3
  have g4 : zq_ev rq (0, [(4, 1)]) = r 4 := zu_f1 v4
  have g5 : zq_ev rq (0, [(5, 1)]) = r 5 := zu_f1 v5
  have g6 : zq_ev rq (0, [(6, 1)]) = r 6 := zu_f1 v6
  have g7 : zq_ev rq (0, [(7, 1)]) = r 7 := zu_f1 v7
  have g8 : zq_ev rq (0, [(8, 1)]) = r 8 := zu_f1 v8
  have g9 : zq_ev rq (0, [(9, 1)]) = r 9 := zu_f1 v9
  have g10 : zq_ev rq (0, [(10, 1)]) = r 10 := zu_f1 v10
  have g11 : zq_ev rq (0, [(11, 1)]) = r 11 := zu_f1 v11
  have g12 : zq_ev rq (-1, []) = -1 := zu_e0 _ _
  exact ⟨_, List.mem_cons_self .., rq, hr, zq_MeS_mk rfl hT (zq_all_nil) zq_fan (zq_fan) rfl (zu_fac ((x_CM _ _ _).mpr (by show zk_CM (zq_ev rq (0, [(0, 1)])) (zq_ev rq (0, [(1, 1)])) (zq_ev rq (0, [(2, 1)])) (zq_ev rq (0, [(3, 1)])) (zq_ev rq (0, [(4, 1)])) (zq_ev rq (0, [(5, 1)])) (zq_ev rq (0, [(6, 1)])) (zq_ev rq (0, [(7, 1)])) (zq_ev rq (0, [(8, 1)])) (zq_ev rq (0, [(9, 1)])) (zq_ev rq (0, [(10, 1)])) (zq_ev rq (0, [(11, 1)])) (zq_ev rq (-1, [])) (zq_ev rq (0, [(6, 1)])) (zq_ev rq (0, [(7, 1)])) (zq_ev rq (0, [(8, 1)])) P h; simp only [g0, g1, g10, g11, g12, g2, g3, g4, g5, g6, g7, g8, g9]; exact t1)) zq_fan)⟩
noncomputable def zo_c2a : zq_S × List zq_S := (([], [], [(0, [(11, 1)]), (3, [(11, -1)]), (-1, [(9, -1)])], [], [], [], [], 12), [([], [], [], [], [], [], [(304, [(0, [(0, 1)]), (0, [(1, 1)]), (0, [(2, 1)]), (0, [(3, 1)]), (0, [(4, 1)]), (0, [(5, 1)]), (0, [(6, 1)]), (0, [(7, 1)]), (0, [(8, 1)]), (0, [(9, 1)]), (0, [(10, 1)]), (0, [(11, 1)]), (-2, []), (0, [(6, 1)]), (0, [(7, 1)]), (0, [(8, 1)])])], 12)])
theorem zo_c2a_l {P : zq_Ty} {h : zq_H} {S m e T f u M n Z d w p : Int} (a1 : 0 ≤ p) (a2 : 0 ≤ -p + 3) (a3 : 0 ≤ -d - 1) : (zk_CM S m e T f u M n Z d w p (-2) M n Z P h) := by
  exact Or.inr ⟨by omega, by omega, Or.inl ⟨by omega, rfl, rfl, rfl, rfl⟩⟩
theorem zo_c2a_ok {w : zq_Wd} (x_CM : zj_is w 304 (fun q => zk_CM (q 0) (q 1) (q 2) (q 3) (q 4) (q 5) (q 6) (q 7) (q 8) (q 9) (q 10) (q 11) (q 12) (q 13) (q 14) (q 15))) : zq_okG1 w zo_c2a := by
  refine ⟨rfl, rfl, zu_fac ⟨rfl, by decide⟩ zq_fan, ?_⟩
  intro r P h H hM
  have q0 : zq_ev r (0, [(11, 1)]) = r 11 := zu_e1 _ _
  have q1 : zq_ev r (3, [(11, -1)]) = -r 11 + 3 := zu_e5 _ _ _
  have q2 : zq_ev r (-1, [(9, -1)]) = -r 9 - 1 := zu_e6 _ _ _
  obtain ⟨hT, hC, hF, hS, -, hK⟩ := hM
  have c := hC.1
  have a1 := zq_all_1 c
  rw [q0] at a1
  have c := zq_all_t c
  have a2 := zq_all_1 c
  rw [q1] at a2
  have c := zq_all_t c
  have a3 := zq_all_1 c
  rw [q2] at a3
  obtain t1 := zo_c2a_l (P := P) (h := h) (S := r 0) (m := r 1) (e := r 2) (T := r 3) (f := r 4) (u := r 5) (M := r 6) (n := r 7) (Z := r 8) (d := r 9) (w := r 10) (p := r 11) a1 a2 a3
  obtain ⟨rq, hr⟩ : ∃ rq : Nat → Int, (∀ i, i < 12 → rq i = r i) := ⟨r, fun i hi => rfl⟩
  have v0 : rq 0 = r 0 := hr 0 (by decide)
  have v1 : rq 1 = r 1 := hr 1 (by decide)
  have v2 : rq 2 = r 2 := hr 2 (by decide)
  have v3 : rq 3 = r 3 := hr 3 (by decide)
  have v4 : rq 4 = r 4 := hr 4 (by decide)
  have v5 : rq 5 = r 5 := hr 5 (by decide)
  have v6 : rq 6 = r 6 := hr 6 (by decide)
  have v7 : rq 7 = r 7 := hr 7 (by decide)
  have v8 : rq 8 = r 8 := hr 8 (by decide)
  have v9 : rq 9 = r 9 := hr 9 (by decide)
  have v10 : rq 10 = r 10 := hr 10 (by decide)
  have v11 : rq 11 = r 11 := hr 11 (by decide)
  have g0 : zq_ev rq (0, [(0, 1)]) = r 0 := zu_f1 v0
  have g1 : zq_ev rq (0, [(1, 1)]) = r 1 := zu_f1 v1
  have g2 : zq_ev rq (0, [(2, 1)]) = r 2 := zu_f1 v2
  have g3 : zq_ev rq (0, [(3, 1)]) = r 3 := zu_f1 v3
  have g4 : zq_ev rq (0, [(4, 1)]) = r 4 := zu_f1 v4
  have g5 : zq_ev rq (0, [(5, 1)]) = r 5 := zu_f1 v5
  have g6 : zq_ev rq (0, [(6, 1)]) = r 6 := zu_f1 v6
  have g7 : zq_ev rq (0, [(7, 1)]) = r 7 := zu_f1 v7
  have g8 : zq_ev rq (0, [(8, 1)]) = r 8 := zu_f1 v8
  have g9 : zq_ev rq (0, [(9, 1)]) = r 9 := zu_f1 v9
  have g10 : zq_ev rq (0, [(10, 1)]) = r 10 := zu_f1 v10
  have g11 : zq_ev rq (0, [(11, 1)]) = r 11 := zu_f1 v11
  have g12 : zq_ev rq (-2, []) = -2 := zu_e0 _ _
  exact ⟨_, List.mem_cons_self .., rq, hr, zq_MeS_mk rfl hT (zq_all_nil) zq_fan (zq_fan) rfl (zu_fac ((x_CM _ _ _).mpr (by show zk_CM (zq_ev rq (0, [(0, 1)])) (zq_ev rq (0, [(1, 1)])) (zq_ev rq (0, [(2, 1)])) (zq_ev rq (0, [(3, 1)])) (zq_ev rq (0, [(4, 1)])) (zq_ev rq (0, [(5, 1)])) (zq_ev rq (0, [(6, 1)])) (zq_ev rq (0, [(7, 1)])) (zq_ev rq (0, [(8, 1)])) (zq_ev rq (0, [(9, 1)])) (zq_ev rq (0, [(10, 1)])) (zq_ev rq (0, [(11, 1)])) (zq_ev rq (-2, [])) (zq_ev rq (0, [(6, 1)])) (zq_ev rq (0, [(7, 1)])) (zq_ev rq (0, [(8, 1)])) P h; simp only [g0, g1, g10, g11, g12, g2, g3, g4, g5, g6, g7, g8, g9]; exact t1)) zq_fan)⟩
noncomputable def zo_c2b : zq_S × List zq_S := (([], [], [(0, [(11, 1)]), (3, [(11, -1)]), (0, [(2, -1), (9, 1)])], [], [], [], [], 12), [([], [], [], [], [], [], [(304, [(0, [(0, 1)]), (0, [(1, 1)]), (0, [(2, 1)]), (0, [(3, 1)]), (0, [(4, 1)]), (0, [(5, 1)]), (0, [(6, 1)]), (0, [(7, 1)]), (0, [(8, 1)]), (0, [(9, 1)]), (0, [(10, 1)]), (0, [(11, 1)]), (-2, []), (0, [(6, 1)]), (0, [(7, 1)]), (0, [(8, 1)])])], 12)])
theorem zo_c2b_l {P : zq_Ty} {h : zq_H} {S m e T f u M n Z d w p : Int} (a1 : 0 ≤ p) (a2 : 0 ≤ -p + 3) (a3 : 0 ≤ -e + d) : (zk_CM S m e T f u M n Z d w p (-2) M n Z P h) := by
  exact Or.inr ⟨by omega, by omega, Or.inl ⟨by omega, rfl, rfl, rfl, rfl⟩⟩
theorem zo_c2b_ok {w : zq_Wd} (x_CM : zj_is w 304 (fun q => zk_CM (q 0) (q 1) (q 2) (q 3) (q 4) (q 5) (q 6) (q 7) (q 8) (q 9) (q 10) (q 11) (q 12) (q 13) (q 14) (q 15))) : zq_okG1 w zo_c2b := by
  refine ⟨rfl, rfl, zu_fac ⟨rfl, by decide⟩ zq_fan, ?_⟩
  intro r P h H hM
  have q0 : zq_ev r (0, [(11, 1)]) = r 11 := zu_e1 _ _
  have q1 : zq_ev r (3, [(11, -1)]) = -r 11 + 3 := zu_e5 _ _ _
  have q2 : zq_ev r (0, [(2, -1), (9, 1)]) = -r 2 + r 9 := by simp only [zq_ev, zq_ts] <;> omega
  obtain ⟨hT, hC, hF, hS, -, hK⟩ := hM
  have c := hC.1
  have a1 := zq_all_1 c
  rw [q0] at a1
  have c := zq_all_t c
  have a2 := zq_all_1 c
  rw [q1] at a2
  have c := zq_all_t c
  have a3 := zq_all_1 c
  rw [q2] at a3
  obtain t1 := zo_c2b_l (P := P) (h := h) (S := r 0) (m := r 1) (e := r 2) (T := r 3) (f := r 4) (u := r 5) (M := r 6) (n := r 7) (Z := r 8) (d := r 9) (w := r 10) (p := r 11) a1 a2 a3
  obtain ⟨rq, hr⟩ : ∃ rq : Nat → Int, (∀ i, i < 12 → rq i = r i) := ⟨r, fun i hi => rfl⟩
  have v0 : rq 0 = r 0 := hr 0 (by decide)
  have v1 : rq 1 = r 1 := hr 1 (by decide)
  have v2 : rq 2 = r 2 := hr 2 (by decide)
  have v3 : rq 3 = r 3 := hr 3 (by decide)
  have v4 : rq 4 = r 4 := hr 4 (by decide)
  have v5 : rq 5 = r 5 := hr 5 (by decide)
  have v6 : rq 6 = r 6 := hr 6 (by decide)
  have v7 : rq 7 = r 7 := hr 7 (by decide)
  have v8 : rq 8 = r 8 := hr 8 (by decide)
  have v9 : rq 9 = r 9 := hr 9 (by decide)
  have v10 : rq 10 = r 10 := hr 10 (by decide)
  have v11 : rq 11 = r 11 := hr 11 (by decide)
  have g0 : zq_ev rq (0, [(0, 1)]) = r 0 := zu_f1 v0
  have g1 : zq_ev rq (0, [(1, 1)]) = r 1 := zu_f1 v1
  have g2 : zq_ev rq (0, [(2, 1)]) = r 2 := zu_f1 v2
  have g3 : zq_ev rq (0, [(3, 1)]) = r 3 := zu_f1 v3
  have g4 : zq_ev rq (0, [(4, 1)]) = r 4 := zu_f1 v4
  have g5 : zq_ev rq (0, [(5, 1)]) = r 5 := zu_f1 v5
  have g6 : zq_ev rq (0, [(6, 1)]) = r 6 := zu_f1 v6
  have g7 : zq_ev rq (0, [(7, 1)]) = r 7 := zu_f1 v7
  have g8 : zq_ev rq (0, [(8, 1)]) = r 8 := zu_f1 v8
  have g9 : zq_ev rq (0, [(9, 1)]) = r 9 := zu_f1 v9
  have g10 : zq_ev rq (0, [(10, 1)]) = r 10 := zu_f1 v10
  have g11 : zq_ev rq (0, [(11, 1)]) = r 11 := zu_f1 v11
  have g12 : zq_ev rq (-2, []) = -2 := zu_e0 _ _
  exact ⟨_, List.mem_cons_self .., rq, hr, zq_MeS_mk rfl hT (zq_all_nil) zq_fan (zq_fan) rfl (zu_fac ((x_CM _ _ _).mpr (by show zk_CM (zq_ev rq (0, [(0, 1)])) (zq_ev rq (0, [(1, 1)])) (zq_ev rq (0, [(2, 1)])) (zq_ev rq (0, [(3, 1)])) (zq_ev rq (0, [(4, 1)])) (zq_ev rq (0, [(5, 1)])) (zq_ev rq (0, [(6, 1)])) (zq_ev rq (0, [(7, 1)])) (zq_ev rq (0, [(8, 1)])) (zq_ev rq (0, [(9, 1)])) (zq_ev rq (0, [(10, 1)])) (zq_ev rq (0, [(11, 1)])) (zq_ev rq (-2, [])) (zq_ev rq (0, [(6, 1)])) (zq_ev rq (0, [(7, 1)])) (zq_ev rq (0, [(8, 1)])) P h; simp only [g0, g1, g10, g11, g12, g2, g3, g4, g5, g6, g7, g8, g9]; exact t1)) zq_fan)⟩
noncomputable def zo_c2c : zq_S × List zq_S := (([], [], [(0, [(11, 1)]), (3, [(11, -1)]), (-1, [(10, -1)])], [], [], [], [], 12), [([], [], [], [], [], [], [(304, [(0, [(0, 1)]), (0, [(1, 1)]), (0, [(2, 1)]), (0, [(3, 1)]), (0, [(4, 1)]), (0, [(5, 1)]), (0, [(6, 1)]), (0, [(7, 1)]), (0, [(8, 1)]), (0, [(9, 1)]), (0, [(10, 1)]), (0, [(11, 1)]), (-2, []), (0, [(6, 1)]), (0, [(7, 1)]), (0, [(8, 1)])])], 12)])
theorem zo_c2c_l {P : zq_Ty} {h : zq_H} {S m e T f u M n Z d w p : Int} (a1 : 0 ≤ p) (a2 : 0 ≤ -p + 3) (a3 : 0 ≤ -w - 1) : (zk_CM S m e T f u M n Z d w p (-2) M n Z P h) := by
  exact Or.inr ⟨by omega, by omega, Or.inl ⟨by omega, rfl, rfl, rfl, rfl⟩⟩
theorem zo_c2c_ok {w : zq_Wd} (x_CM : zj_is w 304 (fun q => zk_CM (q 0) (q 1) (q 2) (q 3) (q 4) (q 5) (q 6) (q 7) (q 8) (q 9) (q 10) (q 11) (q 12) (q 13) (q 14) (q 15))) : zq_okG1 w zo_c2c := by
  refine ⟨rfl, rfl, zu_fac ⟨rfl, by decide⟩ zq_fan, ?_⟩
  intro r P h H hM
  have q0 : zq_ev r (0, [(11, 1)]) = r 11 := zu_e1 _ _
  have q1 : zq_ev r (3, [(11, -1)]) = -r 11 + 3 := zu_e5 _ _ _
  have q2 : zq_ev r (-1, [(10, -1)]) = -r 10 - 1 := zu_e6 _ _ _
  obtain ⟨hT, hC, hF, hS, -, hK⟩ := hM
  have c := hC.1
  have a1 := zq_all_1 c
  rw [q0] at a1
  have c := zq_all_t c
  have a2 := zq_all_1 c
  rw [q1] at a2
  have c := zq_all_t c
  have a3 := zq_all_1 c
  rw [q2] at a3
  obtain t1 := zo_c2c_l (P := P) (h := h) (S := r 0) (m := r 1) (e := r 2) (T := r 3) (f := r 4) (u := r 5) (M := r 6) (n := r 7) (Z := r 8) (d := r 9) (w := r 10) (p := r 11) a1 a2 a3
  obtain ⟨rq, hr⟩ : ∃ rq : Nat → Int, (∀ i, i < 12 → rq i = r i) := ⟨r, fun i hi => rfl⟩
  have v0 : rq 0 = r 0 := hr 0 (by decide)
  have v1 : rq 1 = r 1 := hr 1 (by decide)
  have v2 : rq 2 = r 2 := hr 2 (by decide)
  have v3 : rq 3 = r 3 := hr 3 (by decide)
  have v4 : rq 4 = r 4 := hr 4 (by decide)
  have v5 : rq 5 = r 5 := hr 5 (by decide)
  have v6 : rq 6 = r 6 := hr 6 (by decide)
  have v7 : rq 7 = r 7 := hr 7 (by decide)
  have v8 : rq 8 = r 8 := hr 8 (by decide)
  have v9 : rq 9 = r 9 := hr 9 (by decide)
  have v10 : rq 10 = r 10 := hr 10 (by decide)
  have v11 : rq 11 = r 11 := hr 11 (by decide)
  have g0 : zq_ev rq (0, [(0, 1)]) = r 0 := zu_f1 v0
  have g1 : zq_ev rq (0, [(1, 1)]) = r 1 := zu_f1 v1
  have g2 : zq_ev rq (0, [(2, 1)]) = r 2 := zu_f1 v2
  have g3 : zq_ev rq (0, [(3, 1)]) = r 3 := zu_f1 v3
  have g4 : zq_ev rq (0, [(4, 1)]) = r 4 := zu_f1 v4
  have g5 : zq_ev rq (0, [(5, 1)]) = r 5 := zu_f1 v5
  have g6 : zq_ev rq (0, [(6, 1)]) = r 6 := zu_f1 v6
  have g7 : zq_ev rq (0, [(7, 1)]) = r 7 := zu_f1 v7
  have g8 : zq_ev rq (0, [(8, 1)]) = r 8 := zu_f1 v8
  have g9 : zq_ev rq (0, [(9, 1)]) = r 9 := zu_f1 v9
  have g10 : zq_ev rq (0, [(10, 1)]) = r 10 := zu_f1 v10
  have g11 : zq_ev rq (0, [(11, 1)]) = r 11 := zu_f1 v11
  have g12 : zq_ev rq (-2, []) = -2 := zu_e0 _ _
  exact ⟨_, List.mem_cons_self .., rq, hr, zq_MeS_mk rfl hT (zq_all_nil) zq_fan (zq_fan) rfl (zu_fac ((x_CM _ _ _).mpr (by show zk_CM (zq_ev rq (0, [(0, 1)])) (zq_ev rq (0, [(1, 1)])) (zq_ev rq (0, [(2, 1)])) (zq_ev rq (0, [(3, 1)])) (zq_ev rq (0, [(4, 1)])) (zq_ev rq (0, [(5, 1)])) (zq_ev rq (0, [(6, 1)])) (zq_ev rq (0, [(7, 1)])) (zq_ev rq (0, [(8, 1)])) (zq_ev rq (0, [(9, 1)])) (zq_ev rq (0, [(10, 1)])) (zq_ev rq (0, [(11, 1)])) (zq_ev rq (-2, [])) (zq_ev rq (0, [(6, 1)])) (zq_ev rq (0, [(7, 1)])) (zq_ev rq (0, [(8, 1)])) P h; simp only [g0, g1, g10, g11, g12, g2, g3, g4, g5, g6, g7, g8, g9]; exact t1)) zq_fan)⟩
noncomputable def zo_c2d : zq_S × List zq_S := (([], [], [(0, [(11, 1)]), (3, [(11, -1)]), (0, [(1, -1), (10, 1)])], [], [], [], [], 12), [([], [], [], [], [], [], [(304, [(0, [(0, 1)]), (0, [(1, 1)]), (0, [(2, 1)]), (0, [(3, 1)]), (0, [(4, 1)]), (0, [(5, 1)]), (0, [(6, 1)]), (0, [(7, 1)]), (0, [(8, 1)]), (0, [(9, 1)]), (0, [(10, 1)]), (0, [(11, 1)]), (-2, []), (0, [(6, 1)]), (0, [(7, 1)]), (0, [(8, 1)])])], 12)])
theorem zo_c2d_l {P : zq_Ty} {h : zq_H} {S m e T f u M n Z d w p : Int} (a1 : 0 ≤ p) (a2 : 0 ≤ -p + 3) (a3 : 0 ≤ -m + w) : (zk_CM S m e T f u M n Z d w p (-2) M n Z P h) := by
  exact Or.inr ⟨by omega, by omega, Or.inl ⟨by omega, rfl, rfl, rfl, rfl⟩⟩
theorem zo_c2d_ok {w : zq_Wd} (x_CM : zj_is w 304 (fun q => zk_CM (q 0) (q 1) (q 2) (q 3) (q 4) (q 5) (q 6) (q 7) (q 8) (q 9) (q 10) (q 11) (q 12) (q 13) (q 14) (q 15))) : zq_okG1 w zo_c2d := by
  refine ⟨rfl, rfl, zu_fac ⟨rfl, by decide⟩ zq_fan, ?_⟩
  intro r P h H hM
  have q0 : zq_ev r (0, [(11, 1)]) = r 11 := zu_e1 _ _
  have q1 : zq_ev r (3, [(11, -1)]) = -r 11 + 3 := zu_e5 _ _ _
  have q2 : zq_ev r (0, [(1, -1), (10, 1)]) = -r 1 + r 10 := by simp only [zq_ev, zq_ts] <;> omega
  obtain ⟨hT, hC, hF, hS, -, hK⟩ := hM
  have c := hC.1
  have a1 := zq_all_1 c
  rw [q0] at a1
  have c := zq_all_t c
  have a2 := zq_all_1 c
  rw [q1] at a2
  have c := zq_all_t c
  have a3 := zq_all_1 c
  rw [q2] at a3
  obtain t1 := zo_c2d_l (P := P) (h := h) (S := r 0) (m := r 1) (e := r 2) (T := r 3) (f := r 4) (u := r 5) (M := r 6) (n := r 7) (Z := r 8) (d := r 9) (w := r 10) (p := r 11) a1 a2 a3
  obtain ⟨rq, hr⟩ : ∃ rq : Nat → Int, (∀ i, i < 12 → rq i = r i) := ⟨r, fun i hi => rfl⟩
  have v0 : rq 0 = r 0 := hr 0 (by decide)
  have v1 : rq 1 = r 1 := hr 1 (by decide)
  have v2 : rq 2 = r 2 := hr 2 (by decide)
  have v3 : rq 3 = r 3 := hr 3 (by decide)
  have v4 : rq 4 = r 4 := hr 4 (by decide)
  have v5 : rq 5 = r 5 := hr 5 (by decide)
  have v6 : rq 6 = r 6 := hr 6 (by decide)
  have v7 : rq 7 = r 7 := hr 7 (by decide)
  have v8 : rq 8 = r 8 := hr 8 (by decide)
  have v9 : rq 9 = r 9 := hr 9 (by decide)
  have v10 : rq 10 = r 10 := hr 10 (by decide)
  have v11 : rq 11 = r 11 := hr 11 (by decide)
  have g0 : zq_ev rq (0, [(0, 1)]) = r 0 := zu_f1 v0
  have g1 : zq_ev rq (0, [(1, 1)]) = r 1 := zu_f1 v1
  have g2 : zq_ev rq (0, [(2, 1)]) = r 2 := zu_f1 v2
  have g3 : zq_ev rq (0, [(3, 1)]) = r 3 := zu_f1 v3
  have g4 : zq_ev rq (0, [(4, 1)]) = r 4 := zu_f1 v4
  have g5 : zq_ev rq (0, [(5, 1)]) = r 5 := zu_f1 v5
  have g6 : zq_ev rq (0, [(6, 1)]) = r 6 := zu_f1 v6
  have g7 : zq_ev rq (0, [(7, 1)]) = r 7 := zu_f1 v7
  have g8 : zq_ev rq (0, [(8, 1)]) = r 8 := zu_f1 v8
  have g9 : zq_ev rq (0, [(9, 1)]) = r 9 := zu_f1 v9
  have g10 : zq_ev rq (0, [(10, 1)]) = r 10 := zu_f1 v10
  have g11 : zq_ev rq (0, [(11, 1)]) = r 11 := zu_f1 v11
  have g12 : zq_ev rq (-2, []) = -2 := zu_e0 _ _
  exact ⟨_, List.mem_cons_self .., rq, hr, zq_MeS_mk rfl hT (zq_all_nil) zq_fan (zq_fan) rfl (zu_fac ((x_CM _ _ _).mpr (by show zk_CM (zq_ev rq (0, [(0, 1)])) (zq_ev rq (0, [(1, 1)])) (zq_ev rq (0, [(2, 1)])) (zq_ev rq (0, [(3, 1)])) (zq_ev rq (0, [(4, 1)])) (zq_ev rq (0, [(5, 1)])) (zq_ev rq (0, [(6, 1)])) (zq_ev rq (0, [(7, 1)])) (zq_ev rq (0, [(8, 1)])) (zq_ev rq (0, [(9, 1)])) (zq_ev rq (0, [(10, 1)])) (zq_ev rq (0, [(11, 1)])) (zq_ev rq (-2, [])) (zq_ev rq (0, [(6, 1)])) (zq_ev rq (0, [(7, 1)])) (zq_ev rq (0, [(8, 1)])) P h; simp only [g0, g1, g10, g11, g12, g2, g3, g4, g5, g6, g7, g8, g9]; exact t1)) zq_fan)⟩
noncomputable def zo_c7 : zq_S × List zq_S := (([], [], [(0, [(11, 1)]), (3, [(11, -1)]), (0, [(9, 1)]), (-1, [(2, 1), (9, -1)]), (0, [(10, 1)]), (-1, [(1, 1), (10, -1)]), (0, [(15, -1), (16, -1), (17, 1)]), (0, [(15, 1), (16, 1), (17, -1)]), (-7, [(13, 1)]), (7, [(13, -1)])], [], [], [], [(236, [(0, [(12, 1)]), (0, [(0, 1)]), (0, [(9, 1)]), (0, [(10, 1)]), (0, [(11, 1)]), (0, [(17, 1)]), (0, [(5, 1)])]), (237, [(0, [(3, 1)]), (0, [(4, 1)]), (0, [(12, 1)]), (0, [(10, 1)]), (0, [(1, 1)]), (0, [(13, 1)])]), (238, [(0, [(3, 1)]), (0, [(4, 1)]), (0, [(12, 1)]), (0, [(0, 1)]), (0, [(9, 1)]), (0, [(14, 1)])]), (134, [(0, [(6, 1)]), (10, []), (0, [(15, 1)])]), (134, [(0, [(6, 1)]), (6, [(11, 1)]), (0, [(16, 1)])])], 18), [([], [], [], [], [], [], [(304, [(0, [(0, 1)]), (0, [(1, 1)]), (0, [(2, 1)]), (0, [(3, 1)]), (0, [(4, 1)]), (0, [(5, 1)]), (0, [(6, 1)]), (0, [(7, 1)]), (0, [(8, 1)]), (0, [(9, 1)]), (0, [(10, 1)]), (0, [(11, 1)]), (-3, []), (0, [(6, 1)]), (0, [(7, 1)]), (0, [(8, 1)])])], 18)])
theorem zo_c7_l {P : zq_Ty} {h : zq_H} {S m e T f u M n Z d w p W a o x v y : Int} (a1 : 0 ≤ p) (a2 : 0 ≤ -p + 3) (a3 : 0 ≤ d) (a4 : 0 ≤ e - d - 1) (a5 : 0 ≤ w) (a6 : 0 ≤ m - w - 1) (a7 : 0 ≤ -x - v + y) (a8 : 0 ≤ x + v - y) (a9 : 0 ≤ a - 7) (a10 : 0 ≤ -a + 7) (k1 : zl_WW W S d w p y u P h) (k2 : zl_RW T f W w m a P h) (k3 : zl_RO T f W S d o P h) (k4 : zn_DG M 10 x P h) (k5 : zn_DG M (p + 6) v P h) : (zk_CM S m e T f u M n Z d w p (-3) M n Z P h) := by
  have k4 : x = zn_dg M 10 := k4
  have k5 : v = zn_dg M (p + 6) := k5
  have hy : y = zn_dg M 10 + zn_dg M (6 + p) := by rw [show 6 + p = p + 6 by omega, ← k4, ← k5]; omega
  rw [hy] at k1
  refine Or.inr ⟨by omega, by omega, Or.inr ⟨by omega, by omega, by omega, by omega, W, a, k1, k2, ?_⟩⟩
  exact Or.inl ⟨by omega, rfl, rfl, rfl, rfl⟩
theorem zo_c7_ok {w : zq_Wd} (x_WW : zj_is w 236 (fun q => zl_WW (q 0) (q 1) (q 2) (q 3) (q 4) (q 5) (q 6))) (x_RW : zj_is w 237 (fun q => zl_RW (q 0) (q 1) (q 2) (q 3) (q 4) (q 5))) (x_RO : zj_is w 238 (fun q => zl_RO (q 0) (q 1) (q 2) (q 3) (q 4) (q 5))) (x_DG : zj_is w 134 (fun q => zn_DG (q 0) (q 1) (q 2))) (x_CM : zj_is w 304 (fun q => zk_CM (q 0) (q 1) (q 2) (q 3) (q 4) (q 5) (q 6) (q 7) (q 8) (q 9) (q 10) (q 11) (q 12) (q 13) (q 14) (q 15))) : zq_okG1 w zo_c7 := by
  refine ⟨rfl, rfl, zu_fac ⟨rfl, by decide⟩ zq_fan, ?_⟩
  intro r P h H hM
  have q0 : zq_ev r (0, [(11, 1)]) = r 11 := zu_e1 _ _
  have q1 : zq_ev r (3, [(11, -1)]) = -r 11 + 3 := zu_e5 _ _ _
  have q2 : zq_ev r (0, [(9, 1)]) = r 9 := zu_e1 _ _
  have q3 : zq_ev r (-1, [(2, 1), (9, -1)]) = r 2 - r 9 - 1 := by simp only [zq_ev, zq_ts] <;> omega
  have q4 : zq_ev r (0, [(10, 1)]) = r 10 := zu_e1 _ _
  have q5 : zq_ev r (-1, [(1, 1), (10, -1)]) = r 1 - r 10 - 1 := by simp only [zq_ev, zq_ts] <;> omega
  have q6 : zq_ev r (0, [(15, -1), (16, -1), (17, 1)]) = -r 15 - r 16 + r 17 := by simp only [zq_ev, zq_ts] <;> omega
  have q7 : zq_ev r (0, [(15, 1), (16, 1), (17, -1)]) = r 15 + r 16 - r 17 := by simp only [zq_ev, zq_ts] <;> omega
  have q8 : zq_ev r (-7, [(13, 1)]) = r 13 - 7 := zu_e3 _ _ _
  have q9 : zq_ev r (7, [(13, -1)]) = -r 13 + 7 := zu_e5 _ _ _
  have q10 : zq_ev r (0, [(12, 1)]) = r 12 := zu_e1 _ _
  have q11 : zq_ev r (0, [(0, 1)]) = r 0 := zu_e1 _ _
  have q12 : zq_ev r (0, [(17, 1)]) = r 17 := zu_e1 _ _
  have q13 : zq_ev r (0, [(5, 1)]) = r 5 := zu_e1 _ _
  have q14 : zq_ev r (0, [(3, 1)]) = r 3 := zu_e1 _ _
  have q15 : zq_ev r (0, [(4, 1)]) = r 4 := zu_e1 _ _
  have q16 : zq_ev r (0, [(1, 1)]) = r 1 := zu_e1 _ _
  have q17 : zq_ev r (0, [(13, 1)]) = r 13 := zu_e1 _ _
  have q18 : zq_ev r (0, [(14, 1)]) = r 14 := zu_e1 _ _
  have q19 : zq_ev r (0, [(6, 1)]) = r 6 := zu_e1 _ _
  have q20 : zq_ev r (10, []) = 10 := zu_e0 _ _
  have q21 : zq_ev r (0, [(15, 1)]) = r 15 := zu_e1 _ _
  have q22 : zq_ev r (6, [(11, 1)]) = r 11 + 6 := zu_e2 _ _ _
  have q23 : zq_ev r (0, [(16, 1)]) = r 16 := zu_e1 _ _
  obtain ⟨hT, hC, hF, hS, -, hK⟩ := hM
  have c := hC.1
  have a1 := zq_all_1 c
  rw [q0] at a1
  have c := zq_all_t c
  have a2 := zq_all_1 c
  rw [q1] at a2
  have c := zq_all_t c
  have a3 := zq_all_1 c
  rw [q2] at a3
  have c := zq_all_t c
  have a4 := zq_all_1 c
  rw [q3] at a4
  have c := zq_all_t c
  have a5 := zq_all_1 c
  rw [q4] at a5
  have c := zq_all_t c
  have a6 := zq_all_1 c
  rw [q5] at a6
  have c := zq_all_t c
  have a7 := zq_all_1 c
  rw [q6] at a7
  have c := zq_all_t c
  have a8 := zq_all_1 c
  rw [q7] at a8
  have c := zq_all_t c
  have a9 := zq_all_1 c
  rw [q8] at a9
  have c := zq_all_t c
  have a10 := zq_all_1 c
  rw [q9] at a10
  have k1 := zj_use x_WW (hK)
  have k1 : zl_WW (zq_ev r (0, [(12, 1)])) (zq_ev r (0, [(0, 1)])) (zq_ev r (0, [(9, 1)])) (zq_ev r (0, [(10, 1)])) (zq_ev r (0, [(11, 1)])) (zq_ev r (0, [(17, 1)])) (zq_ev r (0, [(5, 1)])) P h := k1
  simp only [q0, q10, q11, q12, q13, q2, q4] at k1
  have k2 := zj_use x_RW (zq_okX_t (hK))
  have k2 : zl_RW (zq_ev r (0, [(3, 1)])) (zq_ev r (0, [(4, 1)])) (zq_ev r (0, [(12, 1)])) (zq_ev r (0, [(10, 1)])) (zq_ev r (0, [(1, 1)])) (zq_ev r (0, [(13, 1)])) P h := k2
  simp only [q10, q14, q15, q16, q17, q4] at k2
  have k3 := zj_use x_RO (zq_okX_t (zq_okX_t (hK)))
  have k3 : zl_RO (zq_ev r (0, [(3, 1)])) (zq_ev r (0, [(4, 1)])) (zq_ev r (0, [(12, 1)])) (zq_ev r (0, [(0, 1)])) (zq_ev r (0, [(9, 1)])) (zq_ev r (0, [(14, 1)])) P h := k3
  simp only [q10, q11, q14, q15, q18, q2] at k3
  have k4 := zj_use x_DG (zq_okX_t (zq_okX_t (zq_okX_t (hK))))
  have k4 : zn_DG (zq_ev r (0, [(6, 1)])) (zq_ev r (10, [])) (zq_ev r (0, [(15, 1)])) P h := k4
  simp only [q19, q20, q21] at k4
  have k5 := zj_use x_DG (zq_okX_t (zq_okX_t (zq_okX_t (zq_okX_t (hK)))))
  have k5 : zn_DG (zq_ev r (0, [(6, 1)])) (zq_ev r (6, [(11, 1)])) (zq_ev r (0, [(16, 1)])) P h := k5
  simp only [q19, q22, q23] at k5
  obtain t1 := zo_c7_l (P := P) (h := h) (S := r 0) (m := r 1) (e := r 2) (T := r 3) (f := r 4) (u := r 5) (M := r 6) (n := r 7) (Z := r 8) (d := r 9) (w := r 10) (p := r 11) (W := r 12) (a := r 13) (o := r 14) (x := r 15) (v := r 16) (y := r 17) a1 a2 a3 a4 a5 a6 a7 a8 a9 a10 k1 k2 k3 k4 k5
  obtain ⟨rq, hr⟩ : ∃ rq : Nat → Int, (∀ i, i < 18 → rq i = r i) := ⟨r, fun i hi => rfl⟩
  have v0 : rq 0 = r 0 := hr 0 (by decide)
  have v1 : rq 1 = r 1 := hr 1 (by decide)
  have v2 : rq 2 = r 2 := hr 2 (by decide)
  have v3 : rq 3 = r 3 := hr 3 (by decide)
  have v4 : rq 4 = r 4 := hr 4 (by decide)
  have v5 : rq 5 = r 5 := hr 5 (by decide)
  have v6 : rq 6 = r 6 := hr 6 (by decide)
  have v7 : rq 7 = r 7 := hr 7 (by decide)
  have v8 : rq 8 = r 8 := hr 8 (by decide)
  have v9 : rq 9 = r 9 := hr 9 (by decide)
  have v10 : rq 10 = r 10 := hr 10 (by decide)
  have v11 : rq 11 = r 11 := hr 11 (by decide)
  have g0 : zq_ev rq (0, [(0, 1)]) = r 0 := zu_f1 v0
  have g1 : zq_ev rq (0, [(1, 1)]) = r 1 := zu_f1 v1
  have g2 : zq_ev rq (0, [(2, 1)]) = r 2 := zu_f1 v2
  have g3 : zq_ev rq (0, [(3, 1)]) = r 3 := zu_f1 v3
  have g4 : zq_ev rq (0, [(4, 1)]) = r 4 := zu_f1 v4
  have g5 : zq_ev rq (0, [(5, 1)]) = r 5 := zu_f1 v5
  have g6 : zq_ev rq (0, [(6, 1)]) = r 6 := zu_f1 v6
  have g7 : zq_ev rq (0, [(7, 1)]) = r 7 := zu_f1 v7
  have g8 : zq_ev rq (0, [(8, 1)]) = r 8 := zu_f1 v8
  have g9 : zq_ev rq (0, [(9, 1)]) = r 9 := zu_f1 v9
  have g10 : zq_ev rq (0, [(10, 1)]) = r 10 := zu_f1 v10
  have g11 : zq_ev rq (0, [(11, 1)]) = r 11 := zu_f1 v11
  have g12 : zq_ev rq (-3, []) = -3 := zu_e0 _ _
  exact ⟨_, List.mem_cons_self .., rq, hr, zq_MeS_mk rfl hT (zq_all_nil) zq_fan (zq_fan) rfl (zu_fac ((x_CM _ _ _).mpr (by show zk_CM (zq_ev rq (0, [(0, 1)])) (zq_ev rq (0, [(1, 1)])) (zq_ev rq (0, [(2, 1)])) (zq_ev rq (0, [(3, 1)])) (zq_ev rq (0, [(4, 1)])) (zq_ev rq (0, [(5, 1)])) (zq_ev rq (0, [(6, 1)])) (zq_ev rq (0, [(7, 1)])) (zq_ev rq (0, [(8, 1)])) (zq_ev rq (0, [(9, 1)])) (zq_ev rq (0, [(10, 1)])) (zq_ev rq (0, [(11, 1)])) (zq_ev rq (-3, [])) (zq_ev rq (0, [(6, 1)])) (zq_ev rq (0, [(7, 1)])) (zq_ev rq (0, [(8, 1)])) P h; simp only [g0, g1, g10, g11, g12, g2, g3, g4, g5, g6, g7, g8, g9]; exact t1)) zq_fan)⟩
noncomputable def zo_c6 : zq_S × List zq_S := (([], [], [(0, [(11, 1)]), (3, [(11, -1)]), (0, [(9, 1)]), (-1, [(2, 1), (9, -1)]), (0, [(10, 1)]), (-1, [(1, 1), (10, -1)]), (0, [(15, -1), (16, -1), (17, 1)]), (0, [(15, 1), (16, 1), (17, -1)]), (-6, [(13, 1)]), (6, [(13, -1)])], [], [], [], [(236, [(0, [(12, 1)]), (0, [(0, 1)]), (0, [(9, 1)]), (0, [(10, 1)]), (0, [(11, 1)]), (0, [(17, 1)]), (0, [(5, 1)])]), (237, [(0, [(3, 1)]), (0, [(4, 1)]), (0, [(12, 1)]), (0, [(10, 1)]), (0, [(1, 1)]), (0, [(13, 1)])]), (238, [(0, [(3, 1)]), (0, [(4, 1)]), (0, [(12, 1)]), (0, [(0, 1)]), (0, [(9, 1)]), (0, [(14, 1)])]), (134, [(0, [(6, 1)]), (10, []), (0, [(15, 1)])]), (134, [(0, [(6, 1)]), (6, [(11, 1)]), (0, [(16, 1)])]), (291, [(0, [(8, 1)]), (0, [(7, 1)]), (0, [(6, 1)]), (0, []), (0, [(18, 1)]), (0, [(19, 1)])]), (312, [(0, [(6, 1)]), (0, [(20, 1)]), (0, [(21, 1)]), (0, []), (0, [(22, 1)])]), (314, [(0, [(6, 1)])])], 23), [([], [], [], [], [], [], [(304, [(0, [(0, 1)]), (0, [(1, 1)]), (0, [(2, 1)]), (0, [(3, 1)]), (0, [(4, 1)]), (0, [(5, 1)]), (0, [(6, 1)]), (0, [(7, 1)]), (0, [(8, 1)]), (0, [(9, 1)]), (0, [(10, 1)]), (0, [(11, 1)]), (0, [(13, 1)]), (0, [(22, 1)]), (0, [(18, 1)]), (0, [(19, 1)])])], 23)])
theorem zo_c6_l {P : zq_Ty} {h : zq_H} {S m e T f u M n Z d w p W a o x v y q Y i j N : Int} (a1 : 0 ≤ p) (a2 : 0 ≤ -p + 3) (a3 : 0 ≤ d) (a4 : 0 ≤ e - d - 1) (a5 : 0 ≤ w) (a6 : 0 ≤ m - w - 1) (a7 : 0 ≤ -x - v + y) (a8 : 0 ≤ x + v - y) (a9 : 0 ≤ a - 6) (a10 : 0 ≤ -a + 6) (k1 : zl_WW W S d w p y u P h) (k2 : zl_RW T f W w m a P h) (k3 : zl_RO T f W S d o P h) (k4 : zn_DG M 10 x P h) (k5 : zn_DG M (p + 6) v P h) (k6 : zm_PZ Z n M 0 q Y P h) (k7 : zk_MV M i j 0 N P h) (k8 : zm_CN M P h) : (zk_CM S m e T f u M n Z d w p a N q Y P h) := by
  have k4 : x = zn_dg M 10 := k4
  have k5 : v = zn_dg M (p + 6) := k5
  have hy : y = zn_dg M 10 + zn_dg M (6 + p) := by rw [show 6 + p = p + 6 by omega, ← k4, ← k5]; omega
  rw [hy] at k1
  refine Or.inr ⟨by omega, by omega, Or.inr ⟨by omega, by omega, by omega, by omega, W, a, k1, k2, ?_⟩⟩
  have k7 : N = zk_mv M i j 0 := k7
  have hN : N = M := by
    rw [k7, show M = zm_pk (zn_dg M) 11 from k8]
    unfold zk_mv
    refine zm_pk_cg 11 (fun j2 p2 q2 => ?_)
    rw [← show M = zm_pk (zn_dg M) 11 from k8]
    show zn_dg M j2 + (if j2 = i then (0 : Int) else 0) - (if j2 = j then (0 : Int) else 0) = zn_dg M j2
    split <;> split <;> omega
  exact Or.inr (Or.inl ⟨by omega, by omega, by omega, rfl, hN, k6.1, k6.2⟩)
theorem zo_c6_ok {w : zq_Wd} (x_WW : zj_is w 236 (fun q => zl_WW (q 0) (q 1) (q 2) (q 3) (q 4) (q 5) (q 6))) (x_RW : zj_is w 237 (fun q => zl_RW (q 0) (q 1) (q 2) (q 3) (q 4) (q 5))) (x_RO : zj_is w 238 (fun q => zl_RO (q 0) (q 1) (q 2) (q 3) (q 4) (q 5))) (x_DG : zj_is w 134 (fun q => zn_DG (q 0) (q 1) (q 2))) (x_PZ : zj_is w 291 (fun q => zm_PZ (q 0) (q 1) (q 2) (q 3) (q 4) (q 5))) (x_MV : zj_is w 312 (fun q => zk_MV (q 0) (q 1) (q 2) (q 3) (q 4))) (x_CN : zj_is w 314 (fun q => zm_CN (q 0))) (x_CM : zj_is w 304 (fun q => zk_CM (q 0) (q 1) (q 2) (q 3) (q 4) (q 5) (q 6) (q 7) (q 8) (q 9) (q 10) (q 11) (q 12) (q 13) (q 14) (q 15))) : zq_okG1 w zo_c6 := by
  refine ⟨rfl, rfl, zu_fac ⟨rfl, by decide⟩ zq_fan, ?_⟩
  intro r P h H hM
  have q0 : zq_ev r (0, [(11, 1)]) = r 11 := zu_e1 _ _
  have q1 : zq_ev r (3, [(11, -1)]) = -r 11 + 3 := zu_e5 _ _ _
  have q2 : zq_ev r (0, [(9, 1)]) = r 9 := zu_e1 _ _
  have q3 : zq_ev r (-1, [(2, 1), (9, -1)]) = r 2 - r 9 - 1 := by simp only [zq_ev, zq_ts] <;> omega
  have q4 : zq_ev r (0, [(10, 1)]) = r 10 := zu_e1 _ _
  have q5 : zq_ev r (-1, [(1, 1), (10, -1)]) = r 1 - r 10 - 1 := by simp only [zq_ev, zq_ts] <;> omega
  have q6 : zq_ev r (0, [(15, -1), (16, -1), (17, 1)]) = -r 15 - r 16 + r 17 := by simp only [zq_ev, zq_ts] <;> omega
  have q7 : zq_ev r (0, [(15, 1), (16, 1), (17, -1)]) = r 15 + r 16 - r 17 := by simp only [zq_ev, zq_ts] <;> omega
  have q8 : zq_ev r (-6, [(13, 1)]) = r 13 - 6 := zu_e3 _ _ _
  have q9 : zq_ev r (6, [(13, -1)]) = -r 13 + 6 := zu_e5 _ _ _
  have q10 : zq_ev r (0, [(12, 1)]) = r 12 := zu_e1 _ _
  have q11 : zq_ev r (0, [(0, 1)]) = r 0 := zu_e1 _ _
  have q12 : zq_ev r (0, [(17, 1)]) = r 17 := zu_e1 _ _
  have q13 : zq_ev r (0, [(5, 1)]) = r 5 := zu_e1 _ _
  have q14 : zq_ev r (0, [(3, 1)]) = r 3 := zu_e1 _ _
  have q15 : zq_ev r (0, [(4, 1)]) = r 4 := zu_e1 _ _
  have q16 : zq_ev r (0, [(1, 1)]) = r 1 := zu_e1 _ _
  have q17 : zq_ev r (0, [(13, 1)]) = r 13 := zu_e1 _ _
  have q18 : zq_ev r (0, [(14, 1)]) = r 14 := zu_e1 _ _
  have q19 : zq_ev r (0, [(6, 1)]) = r 6 := zu_e1 _ _
  have q20 : zq_ev r (10, []) = 10 := zu_e0 _ _
  have q21 : zq_ev r (0, [(15, 1)]) = r 15 := zu_e1 _ _
  have q22 : zq_ev r (6, [(11, 1)]) = r 11 + 6 := zu_e2 _ _ _
  have q23 : zq_ev r (0, [(16, 1)]) = r 16 := zu_e1 _ _
  have q24 : zq_ev r (0, [(8, 1)]) = r 8 := zu_e1 _ _
  have q25 : zq_ev r (0, [(7, 1)]) = r 7 := zu_e1 _ _
  have q26 : zq_ev r (0, []) = 0 := zu_e0 _ _
  have q27 : zq_ev r (0, [(18, 1)]) = r 18 := zu_e1 _ _
  have q28 : zq_ev r (0, [(19, 1)]) = r 19 := zu_e1 _ _
  have q29 : zq_ev r (0, [(20, 1)]) = r 20 := zu_e1 _ _
  have q30 : zq_ev r (0, [(21, 1)]) = r 21 := zu_e1 _ _
  have q31 : zq_ev r (0, [(22, 1)]) = r 22 := zu_e1 _ _
  obtain ⟨hT, hC, hF, hS, -, hK⟩ := hM
  have c := hC.1
  have a1 := zq_all_1 c
  rw [q0] at a1
  have c := zq_all_t c
  have a2 := zq_all_1 c
  rw [q1] at a2
  have c := zq_all_t c
  have a3 := zq_all_1 c
  rw [q2] at a3
  have c := zq_all_t c
  have a4 := zq_all_1 c
  rw [q3] at a4
  have c := zq_all_t c
  have a5 := zq_all_1 c
  rw [q4] at a5
  have c := zq_all_t c
  have a6 := zq_all_1 c
  rw [q5] at a6
  have c := zq_all_t c
  have a7 := zq_all_1 c
  rw [q6] at a7
  have c := zq_all_t c
  have a8 := zq_all_1 c
  rw [q7] at a8
  have c := zq_all_t c
  have a9 := zq_all_1 c
  rw [q8] at a9
  have c := zq_all_t c
  have a10 := zq_all_1 c
  rw [q9] at a10
  have k1 := zj_use x_WW (hK)
  have k1 : zl_WW (zq_ev r (0, [(12, 1)])) (zq_ev r (0, [(0, 1)])) (zq_ev r (0, [(9, 1)])) (zq_ev r (0, [(10, 1)])) (zq_ev r (0, [(11, 1)])) (zq_ev r (0, [(17, 1)])) (zq_ev r (0, [(5, 1)])) P h := k1
  simp only [q0, q10, q11, q12, q13, q2, q4] at k1
  have k2 := zj_use x_RW (zq_okX_t (hK))
  have k2 : zl_RW (zq_ev r (0, [(3, 1)])) (zq_ev r (0, [(4, 1)])) (zq_ev r (0, [(12, 1)])) (zq_ev r (0, [(10, 1)])) (zq_ev r (0, [(1, 1)])) (zq_ev r (0, [(13, 1)])) P h := k2
  simp only [q10, q14, q15, q16, q17, q4] at k2
  have k3 := zj_use x_RO (zq_okX_t (zq_okX_t (hK)))
  have k3 : zl_RO (zq_ev r (0, [(3, 1)])) (zq_ev r (0, [(4, 1)])) (zq_ev r (0, [(12, 1)])) (zq_ev r (0, [(0, 1)])) (zq_ev r (0, [(9, 1)])) (zq_ev r (0, [(14, 1)])) P h := k3
  simp only [q10, q11, q14, q15, q18, q2] at k3
  have k4 := zj_use x_DG (zq_okX_t (zq_okX_t (zq_okX_t (hK))))
  have k4 : zn_DG (zq_ev r (0, [(6, 1)])) (zq_ev r (10, [])) (zq_ev r (0, [(15, 1)])) P h := k4
  simp only [q19, q20, q21] at k4
  have k5 := zj_use x_DG (zq_okX_t (zq_okX_t (zq_okX_t (zq_okX_t (hK)))))
  have k5 : zn_DG (zq_ev r (0, [(6, 1)])) (zq_ev r (6, [(11, 1)])) (zq_ev r (0, [(16, 1)])) P h := k5
  simp only [q19, q22, q23] at k5
  have k6 := zj_use x_PZ (zq_okX_t (zq_okX_t (zq_okX_t (zq_okX_t (zq_okX_t (hK))))))
  have k6 : zm_PZ (zq_ev r (0, [(8, 1)])) (zq_ev r (0, [(7, 1)])) (zq_ev r (0, [(6, 1)])) (zq_ev r (0, [])) (zq_ev r (0, [(18, 1)])) (zq_ev r (0, [(19, 1)])) P h := k6
  simp only [q19, q24, q25, q26, q27, q28] at k6
  have k7 := zj_use x_MV (zq_okX_t (zq_okX_t (zq_okX_t (zq_okX_t (zq_okX_t (zq_okX_t (hK)))))))
  have k7 : zk_MV (zq_ev r (0, [(6, 1)])) (zq_ev r (0, [(20, 1)])) (zq_ev r (0, [(21, 1)])) (zq_ev r (0, [])) (zq_ev r (0, [(22, 1)])) P h := k7
  simp only [q19, q26, q29, q30, q31] at k7
  have k8 := zj_use x_CN (zq_okX_t (zq_okX_t (zq_okX_t (zq_okX_t (zq_okX_t (zq_okX_t (zq_okX_t (hK))))))))
  have k8 : zm_CN (zq_ev r (0, [(6, 1)])) P h := k8
  simp only [q19] at k8
  obtain t1 := zo_c6_l (P := P) (h := h) (S := r 0) (m := r 1) (e := r 2) (T := r 3) (f := r 4) (u := r 5) (M := r 6) (n := r 7) (Z := r 8) (d := r 9) (w := r 10) (p := r 11) (W := r 12) (a := r 13) (o := r 14) (x := r 15) (v := r 16) (y := r 17) (q := r 18) (Y := r 19) (i := r 20) (j := r 21) (N := r 22) a1 a2 a3 a4 a5 a6 a7 a8 a9 a10 k1 k2 k3 k4 k5 k6 k7 k8
  obtain ⟨rq, hr⟩ : ∃ rq : Nat → Int, (∀ i, i < 23 → rq i = r i) := ⟨r, fun i hi => rfl⟩
  have v0 : rq 0 = r 0 := hr 0 (by decide)
  have v1 : rq 1 = r 1 := hr 1 (by decide)
  have v2 : rq 2 = r 2 := hr 2 (by decide)
  have v3 : rq 3 = r 3 := hr 3 (by decide)
  have v4 : rq 4 = r 4 := hr 4 (by decide)
  have v5 : rq 5 = r 5 := hr 5 (by decide)
  have v6 : rq 6 = r 6 := hr 6 (by decide)
  have v7 : rq 7 = r 7 := hr 7 (by decide)
  have v8 : rq 8 = r 8 := hr 8 (by decide)
  have v9 : rq 9 = r 9 := hr 9 (by decide)
  have v10 : rq 10 = r 10 := hr 10 (by decide)
  have v11 : rq 11 = r 11 := hr 11 (by decide)
  have v13 : rq 13 = r 13 := hr 13 (by decide)
  have v18 : rq 18 = r 18 := hr 18 (by decide)
  have v19 : rq 19 = r 19 := hr 19 (by decide)
  have v22 : rq 22 = r 22 := hr 22 (by decide)
  have g0 : zq_ev rq (0, [(0, 1)]) = r 0 := zu_f1 v0
  have g1 : zq_ev rq (0, [(1, 1)]) = r 1 := zu_f1 v1
  have g2 : zq_ev rq (0, [(2, 1)]) = r 2 := zu_f1 v2
  have g3 : zq_ev rq (0, [(3, 1)]) = r 3 := zu_f1 v3
  have g4 : zq_ev rq (0, [(4, 1)]) = r 4 := zu_f1 v4
  have g5 : zq_ev rq (0, [(5, 1)]) = r 5 := zu_f1 v5
  have g6 : zq_ev rq (0, [(6, 1)]) = r 6 := zu_f1 v6
  have g7 : zq_ev rq (0, [(7, 1)]) = r 7 := zu_f1 v7
  have g8 : zq_ev rq (0, [(8, 1)]) = r 8 := zu_f1 v8
  have g9 : zq_ev rq (0, [(9, 1)]) = r 9 := zu_f1 v9
  have g10 : zq_ev rq (0, [(10, 1)]) = r 10 := zu_f1 v10
  have g11 : zq_ev rq (0, [(11, 1)]) = r 11 := zu_f1 v11
  have g12 : zq_ev rq (0, [(13, 1)]) = r 13 := zu_f1 v13
  have g13 : zq_ev rq (0, [(22, 1)]) = r 22 := zu_f1 v22
  have g14 : zq_ev rq (0, [(18, 1)]) = r 18 := zu_f1 v18
  have g15 : zq_ev rq (0, [(19, 1)]) = r 19 := zu_f1 v19
  exact ⟨_, List.mem_cons_self .., rq, hr, zq_MeS_mk rfl hT (zq_all_nil) zq_fan (zq_fan) rfl (zu_fac ((x_CM _ _ _).mpr (by show zk_CM (zq_ev rq (0, [(0, 1)])) (zq_ev rq (0, [(1, 1)])) (zq_ev rq (0, [(2, 1)])) (zq_ev rq (0, [(3, 1)])) (zq_ev rq (0, [(4, 1)])) (zq_ev rq (0, [(5, 1)])) (zq_ev rq (0, [(6, 1)])) (zq_ev rq (0, [(7, 1)])) (zq_ev rq (0, [(8, 1)])) (zq_ev rq (0, [(9, 1)])) (zq_ev rq (0, [(10, 1)])) (zq_ev rq (0, [(11, 1)])) (zq_ev rq (0, [(13, 1)])) (zq_ev rq (0, [(22, 1)])) (zq_ev rq (0, [(18, 1)])) (zq_ev rq (0, [(19, 1)])) P h; simp only [g0, g1, g10, g11, g12, g13, g14, g15, g2, g3, g4, g5, g6, g7, g8, g9]; exact t1)) zq_fan)⟩
noncomputable def zo_cw : zq_S × List zq_S := (([], [], [(0, [(11, 1)]), (3, [(11, -1)]), (0, [(9, 1)]), (-1, [(2, 1), (9, -1)]), (0, [(10, 1)]), (-1, [(1, 1), (10, -1)]), (0, [(15, -1), (16, -1), (17, 1)]), (0, [(15, 1), (16, 1), (17, -1)]), (0, [(10, -1), (13, 1)]), (0, [(10, 1), (13, -1)]), (5, [(13, -1)])], [], [], [], [(236, [(0, [(12, 1)]), (0, [(0, 1)]), (0, [(9, 1)]), (0, [(10, 1)]), (0, [(11, 1)]), (0, [(17, 1)]), (0, [(5, 1)])]), (237, [(0, [(3, 1)]), (0, [(4, 1)]), (0, [(12, 1)]), (0, [(10, 1)]), (0, [(1, 1)]), (0, [(13, 1)])]), (238, [(0, [(3, 1)]), (0, [(4, 1)]), (0, [(12, 1)]), (0, [(0, 1)]), (0, [(9, 1)]), (0, [(14, 1)])]), (134, [(0, [(6, 1)]), (10, []), (0, [(15, 1)])]), (134, [(0, [(6, 1)]), (6, [(11, 1)]), (0, [(16, 1)])]), (291, [(0, [(8, 1)]), (0, [(7, 1)]), (0, [(6, 1)]), (0, []), (0, [(18, 1)]), (0, [(19, 1)])]), (312, [(0, [(6, 1)]), (0, [(20, 1)]), (0, [(21, 1)]), (0, []), (0, [(22, 1)])]), (314, [(0, [(6, 1)])])], 23), [([], [], [], [], [], [], [(304, [(0, [(0, 1)]), (0, [(1, 1)]), (0, [(2, 1)]), (0, [(3, 1)]), (0, [(4, 1)]), (0, [(5, 1)]), (0, [(6, 1)]), (0, [(7, 1)]), (0, [(8, 1)]), (0, [(9, 1)]), (0, [(10, 1)]), (0, [(11, 1)]), (0, [(13, 1)]), (0, [(22, 1)]), (0, [(18, 1)]), (0, [(19, 1)])])], 23)])
theorem zo_cw_l {P : zq_Ty} {h : zq_H} {S m e T f u M n Z d w p W a o x v y q Y i j N : Int} (a1 : 0 ≤ p) (a2 : 0 ≤ -p + 3) (a3 : 0 ≤ d) (a4 : 0 ≤ e - d - 1) (a5 : 0 ≤ w) (a6 : 0 ≤ m - w - 1) (a7 : 0 ≤ -x - v + y) (a8 : 0 ≤ x + v - y) (a9 : 0 ≤ -w + a) (a10 : 0 ≤ w - a) (a11 : 0 ≤ -a + 5) (k1 : zl_WW W S d w p y u P h) (k2 : zl_RW T f W w m a P h) (k3 : zl_RO T f W S d o P h) (k4 : zn_DG M 10 x P h) (k5 : zn_DG M (p + 6) v P h) (k6 : zm_PZ Z n M 0 q Y P h) (k7 : zk_MV M i j 0 N P h) (k8 : zm_CN M P h) : (zk_CM S m e T f u M n Z d w p a N q Y P h) := by
  have k4 : x = zn_dg M 10 := k4
  have k5 : v = zn_dg M (p + 6) := k5
  have hy : y = zn_dg M 10 + zn_dg M (6 + p) := by rw [show 6 + p = p + 6 by omega, ← k4, ← k5]; omega
  rw [hy] at k1
  refine Or.inr ⟨by omega, by omega, Or.inr ⟨by omega, by omega, by omega, by omega, W, a, k1, k2, ?_⟩⟩
  have k7 : N = zk_mv M i j 0 := k7
  have hN : N = M := by
    rw [k7, show M = zm_pk (zn_dg M) 11 from k8]
    unfold zk_mv
    refine zm_pk_cg 11 (fun j2 p2 q2 => ?_)
    rw [← show M = zm_pk (zn_dg M) 11 from k8]
    show zn_dg M j2 + (if j2 = i then (0 : Int) else 0) - (if j2 = j then (0 : Int) else 0) = zn_dg M j2
    split <;> split <;> omega
  exact Or.inr (Or.inl ⟨by omega, by omega, by omega, rfl, hN, k6.1, k6.2⟩)
theorem zo_cw_ok {w : zq_Wd} (x_WW : zj_is w 236 (fun q => zl_WW (q 0) (q 1) (q 2) (q 3) (q 4) (q 5) (q 6))) (x_RW : zj_is w 237 (fun q => zl_RW (q 0) (q 1) (q 2) (q 3) (q 4) (q 5))) (x_RO : zj_is w 238 (fun q => zl_RO (q 0) (q 1) (q 2) (q 3) (q 4) (q 5))) (x_DG : zj_is w 134 (fun q => zn_DG (q 0) (q 1) (q 2))) (x_PZ : zj_is w 291 (fun q => zm_PZ (q 0) (q 1) (q 2) (q 3) (q 4) (q 5))) (x_MV : zj_is w 312 (fun q => zk_MV (q 0) (q 1) (q 2) (q 3) (q 4))) (x_CN : zj_is w 314 (fun q => zm_CN (q 0))) (x_CM : zj_is w 304 (fun q => zk_CM (q 0) (q 1) (q 2) (q 3) (q 4) (q 5) (q 6) (q 7) (q 8) (q 9) (q 10) (q 11) (q 12) (q 13) (q 14) (q 15))) : zq_okG1 w zo_cw := by
  refine ⟨rfl, rfl, zu_fac ⟨rfl, by decide⟩ zq_fan, ?_⟩
  intro r P h H hM
  have q0 : zq_ev r (0, [(11, 1)]) = r 11 := zu_e1 _ _
  have q1 : zq_ev r (3, [(11, -1)]) = -r 11 + 3 := zu_e5 _ _ _
  have q2 : zq_ev r (0, [(9, 1)]) = r 9 := zu_e1 _ _
  have q3 : zq_ev r (-1, [(2, 1), (9, -1)]) = r 2 - r 9 - 1 := by simp only [zq_ev, zq_ts] <;> omega
  have q4 : zq_ev r (0, [(10, 1)]) = r 10 := zu_e1 _ _
  have q5 : zq_ev r (-1, [(1, 1), (10, -1)]) = r 1 - r 10 - 1 := by simp only [zq_ev, zq_ts] <;> omega
  have q6 : zq_ev r (0, [(15, -1), (16, -1), (17, 1)]) = -r 15 - r 16 + r 17 := by simp only [zq_ev, zq_ts] <;> omega
  have q7 : zq_ev r (0, [(15, 1), (16, 1), (17, -1)]) = r 15 + r 16 - r 17 := by simp only [zq_ev, zq_ts] <;> omega
  have q8 : zq_ev r (0, [(10, -1), (13, 1)]) = -r 10 + r 13 := by simp only [zq_ev, zq_ts] <;> omega
  have q9 : zq_ev r (0, [(10, 1), (13, -1)]) = r 10 - r 13 := by simp only [zq_ev, zq_ts] <;> omega
  have q10 : zq_ev r (5, [(13, -1)]) = -r 13 + 5 := zu_e5 _ _ _
  have q11 : zq_ev r (0, [(12, 1)]) = r 12 := zu_e1 _ _
  have q12 : zq_ev r (0, [(0, 1)]) = r 0 := zu_e1 _ _
  have q13 : zq_ev r (0, [(17, 1)]) = r 17 := zu_e1 _ _
  have q14 : zq_ev r (0, [(5, 1)]) = r 5 := zu_e1 _ _
  have q15 : zq_ev r (0, [(3, 1)]) = r 3 := zu_e1 _ _
  have q16 : zq_ev r (0, [(4, 1)]) = r 4 := zu_e1 _ _
  have q17 : zq_ev r (0, [(1, 1)]) = r 1 := zu_e1 _ _
  have q18 : zq_ev r (0, [(13, 1)]) = r 13 := zu_e1 _ _
  have q19 : zq_ev r (0, [(14, 1)]) = r 14 := zu_e1 _ _
  have q20 : zq_ev r (0, [(6, 1)]) = r 6 := zu_e1 _ _
  have q21 : zq_ev r (10, []) = 10 := zu_e0 _ _
  have q22 : zq_ev r (0, [(15, 1)]) = r 15 := zu_e1 _ _
  have q23 : zq_ev r (6, [(11, 1)]) = r 11 + 6 := zu_e2 _ _ _
  have q24 : zq_ev r (0, [(16, 1)]) = r 16 := zu_e1 _ _
  have q25 : zq_ev r (0, [(8, 1)]) = r 8 := zu_e1 _ _
  have q26 : zq_ev r (0, [(7, 1)]) = r 7 := zu_e1 _ _
  have q27 : zq_ev r (0, []) = 0 := zu_e0 _ _
  have q28 : zq_ev r (0, [(18, 1)]) = r 18 := zu_e1 _ _
  have q29 : zq_ev r (0, [(19, 1)]) = r 19 := zu_e1 _ _
  have q30 : zq_ev r (0, [(20, 1)]) = r 20 := zu_e1 _ _
  have q31 : zq_ev r (0, [(21, 1)]) = r 21 := zu_e1 _ _
  have q32 : zq_ev r (0, [(22, 1)]) = r 22 := zu_e1 _ _
  obtain ⟨hT, hC, hF, hS, -, hK⟩ := hM
  have c := hC.1
  have a1 := zq_all_1 c
  rw [q0] at a1
  have c := zq_all_t c
  have a2 := zq_all_1 c
  rw [q1] at a2
  have c := zq_all_t c
  have a3 := zq_all_1 c
  rw [q2] at a3
  have c := zq_all_t c
  have a4 := zq_all_1 c
  rw [q3] at a4
  have c := zq_all_t c
  have a5 := zq_all_1 c
  rw [q4] at a5
  have c := zq_all_t c
  have a6 := zq_all_1 c
  rw [q5] at a6
  have c := zq_all_t c
  have a7 := zq_all_1 c
  rw [q6] at a7
  have c := zq_all_t c
  have a8 := zq_all_1 c
  rw [q7] at a8
  have c := zq_all_t c
  have a9 := zq_all_1 c
  rw [q8] at a9
  have c := zq_all_t c
  have a10 := zq_all_1 c
  rw [q9] at a10
  have c := zq_all_t c
  have a11 := zq_all_1 c
  rw [q10] at a11
  have k1 := zj_use x_WW (hK)
  have k1 : zl_WW (zq_ev r (0, [(12, 1)])) (zq_ev r (0, [(0, 1)])) (zq_ev r (0, [(9, 1)])) (zq_ev r (0, [(10, 1)])) (zq_ev r (0, [(11, 1)])) (zq_ev r (0, [(17, 1)])) (zq_ev r (0, [(5, 1)])) P h := k1
  simp only [q0, q11, q12, q13, q14, q2, q4] at k1
  have k2 := zj_use x_RW (zq_okX_t (hK))
  have k2 : zl_RW (zq_ev r (0, [(3, 1)])) (zq_ev r (0, [(4, 1)])) (zq_ev r (0, [(12, 1)])) (zq_ev r (0, [(10, 1)])) (zq_ev r (0, [(1, 1)])) (zq_ev r (0, [(13, 1)])) P h := k2
  simp only [q11, q15, q16, q17, q18, q4] at k2
  have k3 := zj_use x_RO (zq_okX_t (zq_okX_t (hK)))
  have k3 : zl_RO (zq_ev r (0, [(3, 1)])) (zq_ev r (0, [(4, 1)])) (zq_ev r (0, [(12, 1)])) (zq_ev r (0, [(0, 1)])) (zq_ev r (0, [(9, 1)])) (zq_ev r (0, [(14, 1)])) P h := k3
  simp only [q11, q12, q15, q16, q19, q2] at k3
  have k4 := zj_use x_DG (zq_okX_t (zq_okX_t (zq_okX_t (hK))))
  have k4 : zn_DG (zq_ev r (0, [(6, 1)])) (zq_ev r (10, [])) (zq_ev r (0, [(15, 1)])) P h := k4
  simp only [q20, q21, q22] at k4
  have k5 := zj_use x_DG (zq_okX_t (zq_okX_t (zq_okX_t (zq_okX_t (hK)))))
  have k5 : zn_DG (zq_ev r (0, [(6, 1)])) (zq_ev r (6, [(11, 1)])) (zq_ev r (0, [(16, 1)])) P h := k5
  simp only [q20, q23, q24] at k5
  have k6 := zj_use x_PZ (zq_okX_t (zq_okX_t (zq_okX_t (zq_okX_t (zq_okX_t (hK))))))
  have k6 : zm_PZ (zq_ev r (0, [(8, 1)])) (zq_ev r (0, [(7, 1)])) (zq_ev r (0, [(6, 1)])) (zq_ev r (0, [])) (zq_ev r (0, [(18, 1)])) (zq_ev r (0, [(19, 1)])) P h := k6
  simp only [q20, q25, q26, q27, q28, q29] at k6
  have k7 := zj_use x_MV (zq_okX_t (zq_okX_t (zq_okX_t (zq_okX_t (zq_okX_t (zq_okX_t (hK)))))))
  have k7 : zk_MV (zq_ev r (0, [(6, 1)])) (zq_ev r (0, [(20, 1)])) (zq_ev r (0, [(21, 1)])) (zq_ev r (0, [])) (zq_ev r (0, [(22, 1)])) P h := k7
  simp only [q20, q27, q30, q31, q32] at k7
  have k8 := zj_use x_CN (zq_okX_t (zq_okX_t (zq_okX_t (zq_okX_t (zq_okX_t (zq_okX_t (zq_okX_t (hK))))))))
  have k8 : zm_CN (zq_ev r (0, [(6, 1)])) P h := k8
  simp only [q20] at k8
  obtain t1 := zo_cw_l (P := P) (h := h) (S := r 0) (m := r 1) (e := r 2) (T := r 3) (f := r 4) (u := r 5) (M := r 6) (n := r 7) (Z := r 8) (d := r 9) (w := r 10) (p := r 11) (W := r 12) (a := r 13) (o := r 14) (x := r 15) (v := r 16) (y := r 17) (q := r 18) (Y := r 19) (i := r 20) (j := r 21) (N := r 22) a1 a2 a3 a4 a5 a6 a7 a8 a9 a10 a11 k1 k2 k3 k4 k5 k6 k7 k8
  obtain ⟨rq, hr⟩ : ∃ rq : Nat → Int, (∀ i, i < 23 → rq i = r i) := ⟨r, fun i hi => rfl⟩
  have v0 : rq 0 = r 0 := hr 0 (by decide)
  have v1 : rq 1 = r 1 := hr 1 (by decide)
  have v2 : rq 2 = r 2 := hr 2 (by decide)
  have v3 : rq 3 = r 3 := hr 3 (by decide)
  have v4 : rq 4 = r 4 := hr 4 (by decide)
  have v5 : rq 5 = r 5 := hr 5 (by decide)
  have v6 : rq 6 = r 6 := hr 6 (by decide)
  have v7 : rq 7 = r 7 := hr 7 (by decide)
  have v8 : rq 8 = r 8 := hr 8 (by decide)
  have v9 : rq 9 = r 9 := hr 9 (by decide)
  have v10 : rq 10 = r 10 := hr 10 (by decide)
  have v11 : rq 11 = r 11 := hr 11 (by decide)
  have v13 : rq 13 = r 13 := hr 13 (by decide)
  have v18 : rq 18 = r 18 := hr 18 (by decide)
  have v19 : rq 19 = r 19 := hr 19 (by decide)
  have v22 : rq 22 = r 22 := hr 22 (by decide)
  have g0 : zq_ev rq (0, [(0, 1)]) = r 0 := zu_f1 v0
  have g1 : zq_ev rq (0, [(1, 1)]) = r 1 := zu_f1 v1
  have g2 : zq_ev rq (0, [(2, 1)]) = r 2 := zu_f1 v2
  have g3 : zq_ev rq (0, [(3, 1)]) = r 3 := zu_f1 v3
  have g4 : zq_ev rq (0, [(4, 1)]) = r 4 := zu_f1 v4
  have g5 : zq_ev rq (0, [(5, 1)]) = r 5 := zu_f1 v5
  have g6 : zq_ev rq (0, [(6, 1)]) = r 6 := zu_f1 v6
  have g7 : zq_ev rq (0, [(7, 1)]) = r 7 := zu_f1 v7
  have g8 : zq_ev rq (0, [(8, 1)]) = r 8 := zu_f1 v8
  have g9 : zq_ev rq (0, [(9, 1)]) = r 9 := zu_f1 v9
  have g10 : zq_ev rq (0, [(10, 1)]) = r 10 := zu_f1 v10
  have g11 : zq_ev rq (0, [(11, 1)]) = r 11 := zu_f1 v11
  have g12 : zq_ev rq (0, [(13, 1)]) = r 13 := zu_f1 v13
  have g13 : zq_ev rq (0, [(22, 1)]) = r 22 := zu_f1 v22
  have g14 : zq_ev rq (0, [(18, 1)]) = r 18 := zu_f1 v18
  have g15 : zq_ev rq (0, [(19, 1)]) = r 19 := zu_f1 v19
  exact ⟨_, List.mem_cons_self .., rq, hr, zq_MeS_mk rfl hT (zq_all_nil) zq_fan (zq_fan) rfl (zu_fac ((x_CM _ _ _).mpr (by show zk_CM (zq_ev rq (0, [(0, 1)])) (zq_ev rq (0, [(1, 1)])) (zq_ev rq (0, [(2, 1)])) (zq_ev rq (0, [(3, 1)])) (zq_ev rq (0, [(4, 1)])) (zq_ev rq (0, [(5, 1)])) (zq_ev rq (0, [(6, 1)])) (zq_ev rq (0, [(7, 1)])) (zq_ev rq (0, [(8, 1)])) (zq_ev rq (0, [(9, 1)])) (zq_ev rq (0, [(10, 1)])) (zq_ev rq (0, [(11, 1)])) (zq_ev rq (0, [(13, 1)])) (zq_ev rq (0, [(22, 1)])) (zq_ev rq (0, [(18, 1)])) (zq_ev rq (0, [(19, 1)])) P h; simp only [g0, g1, g10, g11, g12, g13, g14, g15, g2, g3, g4, g5, g6, g7, g8, g9]; exact t1)) zq_fan)⟩
noncomputable def zo_c3al : zq_S × List zq_S := (([], [], [(0, [(11, 1)]), (3, [(11, -1)]), (0, [(9, 1)]), (-1, [(2, 1), (9, -1)]), (0, [(10, 1)]), (-1, [(1, 1), (10, -1)]), (0, [(15, -1), (16, -1), (17, 1)]), (0, [(15, 1), (16, 1), (17, -1)]), (5, [(13, -1)]), (-1, [(10, 1), (13, -1)]), (-10000, [(14, 1), (18, 1)])], [], [], [], [(236, [(0, [(12, 1)]), (0, [(0, 1)]), (0, [(9, 1)]), (0, [(10, 1)]), (0, [(11, 1)]), (0, [(17, 1)]), (0, [(5, 1)])]), (237, [(0, [(3, 1)]), (0, [(4, 1)]), (0, [(12, 1)]), (0, [(10, 1)]), (0, [(1, 1)]), (0, [(13, 1)])]), (238, [(0, [(3, 1)]), (0, [(4, 1)]), (0, [(12, 1)]), (0, [(0, 1)]), (0, [(9, 1)]), (0, [(14, 1)])]), (134, [(0, [(6, 1)]), (10, []), (0, [(15, 1)])]), (134, [(0, [(6, 1)]), (6, [(11, 1)]), (0, [(16, 1)])]), (134, [(0, [(6, 1)]), (0, [(10, 1)]), (0, [(18, 1)])])], 19), [([], [], [], [], [], [], [(304, [(0, [(0, 1)]), (0, [(1, 1)]), (0, [(2, 1)]), (0, [(3, 1)]), (0, [(4, 1)]), (0, [(5, 1)]), (0, [(6, 1)]), (0, [(7, 1)]), (0, [(8, 1)]), (0, [(9, 1)]), (0, [(10, 1)]), (0, [(11, 1)]), (-3, []), (0, [(6, 1)]), (0, [(7, 1)]), (0, [(8, 1)])])], 19)])
theorem zo_c3al_l {P : zq_Ty} {h : zq_H} {S m e T f u M n Z d w p W a o x v y i : Int} (a1 : 0 ≤ p) (a2 : 0 ≤ -p + 3) (a3 : 0 ≤ d) (a4 : 0 ≤ e - d - 1) (a5 : 0 ≤ w) (a6 : 0 ≤ m - w - 1) (a7 : 0 ≤ -x - v + y) (a8 : 0 ≤ x + v - y) (a9 : 0 ≤ -a + 5) (a10 : 0 ≤ w - a - 1) (a11 : 0 ≤ o + i - 10000) (k1 : zl_WW W S d w p y u P h) (k2 : zl_RW T f W w m a P h) (k3 : zl_RO T f W S d o P h) (k4 : zn_DG M 10 x P h) (k5 : zn_DG M (p + 6) v P h) (k6 : zn_DG M w i P h) : (zk_CM S m e T f u M n Z d w p (-3) M n Z P h) := by
  have k4 : x = zn_dg M 10 := k4
  have k5 : v = zn_dg M (p + 6) := k5
  have hy : y = zn_dg M 10 + zn_dg M (6 + p) := by rw [show 6 + p = p + 6 by omega, ← k4, ← k5]; omega
  rw [hy] at k1
  refine Or.inr ⟨by omega, by omega, Or.inr ⟨by omega, by omega, by omega, by omega, W, a, k1, k2, ?_⟩⟩
  have k6 : i = zn_dg M w := k6
  exact Or.inr (Or.inr ⟨by omega, by omega, by omega, o, k3, Or.inl ⟨by omega, rfl, rfl, rfl, rfl⟩⟩)
theorem zo_c3al_ok {w : zq_Wd} (x_WW : zj_is w 236 (fun q => zl_WW (q 0) (q 1) (q 2) (q 3) (q 4) (q 5) (q 6))) (x_RW : zj_is w 237 (fun q => zl_RW (q 0) (q 1) (q 2) (q 3) (q 4) (q 5))) (x_RO : zj_is w 238 (fun q => zl_RO (q 0) (q 1) (q 2) (q 3) (q 4) (q 5))) (x_DG : zj_is w 134 (fun q => zn_DG (q 0) (q 1) (q 2))) (x_CM : zj_is w 304 (fun q => zk_CM (q 0) (q 1) (q 2) (q 3) (q 4) (q 5) (q 6) (q 7) (q 8) (q 9) (q 10) (q 11) (q 12) (q 13) (q 14) (q 15))) : zq_okG1 w zo_c3al := by
  refine ⟨rfl, rfl, zu_fac ⟨rfl, by decide⟩ zq_fan, ?_⟩
  intro r P h H hM
  have q0 : zq_ev r (0, [(11, 1)]) = r 11 := zu_e1 _ _
  have q1 : zq_ev r (3, [(11, -1)]) = -r 11 + 3 := zu_e5 _ _ _
  have q2 : zq_ev r (0, [(9, 1)]) = r 9 := zu_e1 _ _
  have q3 : zq_ev r (-1, [(2, 1), (9, -1)]) = r 2 - r 9 - 1 := by simp only [zq_ev, zq_ts] <;> omega
  have q4 : zq_ev r (0, [(10, 1)]) = r 10 := zu_e1 _ _
  have q5 : zq_ev r (-1, [(1, 1), (10, -1)]) = r 1 - r 10 - 1 := by simp only [zq_ev, zq_ts] <;> omega
  have q6 : zq_ev r (0, [(15, -1), (16, -1), (17, 1)]) = -r 15 - r 16 + r 17 := by simp only [zq_ev, zq_ts] <;> omega
  have q7 : zq_ev r (0, [(15, 1), (16, 1), (17, -1)]) = r 15 + r 16 - r 17 := by simp only [zq_ev, zq_ts] <;> omega
  have q8 : zq_ev r (5, [(13, -1)]) = -r 13 + 5 := zu_e5 _ _ _
  have q9 : zq_ev r (-1, [(10, 1), (13, -1)]) = r 10 - r 13 - 1 := by simp only [zq_ev, zq_ts] <;> omega
  have q10 : zq_ev r (-10000, [(14, 1), (18, 1)]) = r 14 + r 18 - 10000 := by simp only [zq_ev, zq_ts] <;> omega
  have q11 : zq_ev r (0, [(12, 1)]) = r 12 := zu_e1 _ _
  have q12 : zq_ev r (0, [(0, 1)]) = r 0 := zu_e1 _ _
  have q13 : zq_ev r (0, [(17, 1)]) = r 17 := zu_e1 _ _
  have q14 : zq_ev r (0, [(5, 1)]) = r 5 := zu_e1 _ _
  have q15 : zq_ev r (0, [(3, 1)]) = r 3 := zu_e1 _ _
  have q16 : zq_ev r (0, [(4, 1)]) = r 4 := zu_e1 _ _
  have q17 : zq_ev r (0, [(1, 1)]) = r 1 := zu_e1 _ _
  have q18 : zq_ev r (0, [(13, 1)]) = r 13 := zu_e1 _ _
  have q19 : zq_ev r (0, [(14, 1)]) = r 14 := zu_e1 _ _
  have q20 : zq_ev r (0, [(6, 1)]) = r 6 := zu_e1 _ _
  have q21 : zq_ev r (10, []) = 10 := zu_e0 _ _
  have q22 : zq_ev r (0, [(15, 1)]) = r 15 := zu_e1 _ _
  have q23 : zq_ev r (6, [(11, 1)]) = r 11 + 6 := zu_e2 _ _ _
  have q24 : zq_ev r (0, [(16, 1)]) = r 16 := zu_e1 _ _
  have q25 : zq_ev r (0, [(18, 1)]) = r 18 := zu_e1 _ _
  obtain ⟨hT, hC, hF, hS, -, hK⟩ := hM
  have c := hC.1
  have a1 := zq_all_1 c
  rw [q0] at a1
  have c := zq_all_t c
  have a2 := zq_all_1 c
  rw [q1] at a2
  have c := zq_all_t c
  have a3 := zq_all_1 c
  rw [q2] at a3
  have c := zq_all_t c
  have a4 := zq_all_1 c
  rw [q3] at a4
  have c := zq_all_t c
  have a5 := zq_all_1 c
  rw [q4] at a5
  have c := zq_all_t c
  have a6 := zq_all_1 c
  rw [q5] at a6
  have c := zq_all_t c
  have a7 := zq_all_1 c
  rw [q6] at a7
  have c := zq_all_t c
  have a8 := zq_all_1 c
  rw [q7] at a8
  have c := zq_all_t c
  have a9 := zq_all_1 c
  rw [q8] at a9
  have c := zq_all_t c
  have a10 := zq_all_1 c
  rw [q9] at a10
  have c := zq_all_t c
  have a11 := zq_all_1 c
  rw [q10] at a11
  have k1 := zj_use x_WW (hK)
  have k1 : zl_WW (zq_ev r (0, [(12, 1)])) (zq_ev r (0, [(0, 1)])) (zq_ev r (0, [(9, 1)])) (zq_ev r (0, [(10, 1)])) (zq_ev r (0, [(11, 1)])) (zq_ev r (0, [(17, 1)])) (zq_ev r (0, [(5, 1)])) P h := k1
  simp only [q0, q11, q12, q13, q14, q2, q4] at k1
  have k2 := zj_use x_RW (zq_okX_t (hK))
  have k2 : zl_RW (zq_ev r (0, [(3, 1)])) (zq_ev r (0, [(4, 1)])) (zq_ev r (0, [(12, 1)])) (zq_ev r (0, [(10, 1)])) (zq_ev r (0, [(1, 1)])) (zq_ev r (0, [(13, 1)])) P h := k2
  simp only [q11, q15, q16, q17, q18, q4] at k2
  have k3 := zj_use x_RO (zq_okX_t (zq_okX_t (hK)))
  have k3 : zl_RO (zq_ev r (0, [(3, 1)])) (zq_ev r (0, [(4, 1)])) (zq_ev r (0, [(12, 1)])) (zq_ev r (0, [(0, 1)])) (zq_ev r (0, [(9, 1)])) (zq_ev r (0, [(14, 1)])) P h := k3
  simp only [q11, q12, q15, q16, q19, q2] at k3
  have k4 := zj_use x_DG (zq_okX_t (zq_okX_t (zq_okX_t (hK))))
  have k4 : zn_DG (zq_ev r (0, [(6, 1)])) (zq_ev r (10, [])) (zq_ev r (0, [(15, 1)])) P h := k4
  simp only [q20, q21, q22] at k4
  have k5 := zj_use x_DG (zq_okX_t (zq_okX_t (zq_okX_t (zq_okX_t (hK)))))
  have k5 : zn_DG (zq_ev r (0, [(6, 1)])) (zq_ev r (6, [(11, 1)])) (zq_ev r (0, [(16, 1)])) P h := k5
  simp only [q20, q23, q24] at k5
  have k6 := zj_use x_DG (zq_okX_t (zq_okX_t (zq_okX_t (zq_okX_t (zq_okX_t (hK))))))
  have k6 : zn_DG (zq_ev r (0, [(6, 1)])) (zq_ev r (0, [(10, 1)])) (zq_ev r (0, [(18, 1)])) P h := k6
  simp only [q20, q25, q4] at k6
  obtain t1 := zo_c3al_l (P := P) (h := h) (S := r 0) (m := r 1) (e := r 2) (T := r 3) (f := r 4) (u := r 5) (M := r 6) (n := r 7) (Z := r 8) (d := r 9) (w := r 10) (p := r 11) (W := r 12) (a := r 13) (o := r 14) (x := r 15) (v := r 16) (y := r 17) (i := r 18) a1 a2 a3 a4 a5 a6 a7 a8 a9 a10 a11 k1 k2 k3 k4 k5 k6
  obtain ⟨rq, hr⟩ : ∃ rq : Nat → Int, (∀ i, i < 19 → rq i = r i) := ⟨r, fun i hi => rfl⟩
  have v0 : rq 0 = r 0 := hr 0 (by decide)
  have v1 : rq 1 = r 1 := hr 1 (by decide)
  have v2 : rq 2 = r 2 := hr 2 (by decide)
  have v3 : rq 3 = r 3 := hr 3 (by decide)
  have v4 : rq 4 = r 4 := hr 4 (by decide)
  have v5 : rq 5 = r 5 := hr 5 (by decide)
  have v6 : rq 6 = r 6 := hr 6 (by decide)
  have v7 : rq 7 = r 7 := hr 7 (by decide)
  have v8 : rq 8 = r 8 := hr 8 (by decide)
  have v9 : rq 9 = r 9 := hr 9 (by decide)
  have v10 : rq 10 = r 10 := hr 10 (by decide)
  have v11 : rq 11 = r 11 := hr 11 (by decide)
  have g0 : zq_ev rq (0, [(0, 1)]) = r 0 := zu_f1 v0
  have g1 : zq_ev rq (0, [(1, 1)]) = r 1 := zu_f1 v1
  have g2 : zq_ev rq (0, [(2, 1)]) = r 2 := zu_f1 v2
  have g3 : zq_ev rq (0, [(3, 1)]) = r 3 := zu_f1 v3
  have g4 : zq_ev rq (0, [(4, 1)]) = r 4 := zu_f1 v4
  have g5 : zq_ev rq (0, [(5, 1)]) = r 5 := zu_f1 v5
  have g6 : zq_ev rq (0, [(6, 1)]) = r 6 := zu_f1 v6
  have g7 : zq_ev rq (0, [(7, 1)]) = r 7 := zu_f1 v7
  have g8 : zq_ev rq (0, [(8, 1)]) = r 8 := zu_f1 v8
  have g9 : zq_ev rq (0, [(9, 1)]) = r 9 := zu_f1 v9
  have g10 : zq_ev rq (0, [(10, 1)]) = r 10 := zu_f1 v10
  have g11 : zq_ev rq (0, [(11, 1)]) = r 11 := zu_f1 v11
  have g12 : zq_ev rq (-3, []) = -3 := zu_e0 _ _
  exact ⟨_, List.mem_cons_self .., rq, hr, zq_MeS_mk rfl hT (zq_all_nil) zq_fan (zq_fan) rfl (zu_fac ((x_CM _ _ _).mpr (by show zk_CM (zq_ev rq (0, [(0, 1)])) (zq_ev rq (0, [(1, 1)])) (zq_ev rq (0, [(2, 1)])) (zq_ev rq (0, [(3, 1)])) (zq_ev rq (0, [(4, 1)])) (zq_ev rq (0, [(5, 1)])) (zq_ev rq (0, [(6, 1)])) (zq_ev rq (0, [(7, 1)])) (zq_ev rq (0, [(8, 1)])) (zq_ev rq (0, [(9, 1)])) (zq_ev rq (0, [(10, 1)])) (zq_ev rq (0, [(11, 1)])) (zq_ev rq (-3, [])) (zq_ev rq (0, [(6, 1)])) (zq_ev rq (0, [(7, 1)])) (zq_ev rq (0, [(8, 1)])) P h; simp only [g0, g1, g10, g11, g12, g2, g3, g4, g5, g6, g7, g8, g9]; exact t1)) zq_fan)⟩
noncomputable def zo_c3bl : zq_S × List zq_S := (([], [], [(0, [(11, 1)]), (3, [(11, -1)]), (0, [(9, 1)]), (-1, [(2, 1), (9, -1)]), (0, [(10, 1)]), (-1, [(1, 1), (10, -1)]), (0, [(15, -1), (16, -1), (17, 1)]), (0, [(15, 1), (16, 1), (17, -1)]), (5, [(13, -1)]), (-1, [(10, 1), (13, -1)]), (-10000, [(14, 1), (18, -1)])], [], [], [], [(236, [(0, [(12, 1)]), (0, [(0, 1)]), (0, [(9, 1)]), (0, [(10, 1)]), (0, [(11, 1)]), (0, [(17, 1)]), (0, [(5, 1)])]), (237, [(0, [(3, 1)]), (0, [(4, 1)]), (0, [(12, 1)]), (0, [(10, 1)]), (0, [(1, 1)]), (0, [(13, 1)])]), (238, [(0, [(3, 1)]), (0, [(4, 1)]), (0, [(12, 1)]), (0, [(0, 1)]), (0, [(9, 1)]), (0, [(14, 1)])]), (134, [(0, [(6, 1)]), (10, []), (0, [(15, 1)])]), (134, [(0, [(6, 1)]), (6, [(11, 1)]), (0, [(16, 1)])]), (134, [(0, [(6, 1)]), (0, [(13, 1)]), (0, [(18, 1)])])], 19), [([], [], [], [], [], [], [(304, [(0, [(0, 1)]), (0, [(1, 1)]), (0, [(2, 1)]), (0, [(3, 1)]), (0, [(4, 1)]), (0, [(5, 1)]), (0, [(6, 1)]), (0, [(7, 1)]), (0, [(8, 1)]), (0, [(9, 1)]), (0, [(10, 1)]), (0, [(11, 1)]), (-3, []), (0, [(6, 1)]), (0, [(7, 1)]), (0, [(8, 1)])])], 19)])
theorem zo_c3bl_l {P : zq_Ty} {h : zq_H} {S m e T f u M n Z d w p W a o x v y j : Int} (a1 : 0 ≤ p) (a2 : 0 ≤ -p + 3) (a3 : 0 ≤ d) (a4 : 0 ≤ e - d - 1) (a5 : 0 ≤ w) (a6 : 0 ≤ m - w - 1) (a7 : 0 ≤ -x - v + y) (a8 : 0 ≤ x + v - y) (a9 : 0 ≤ -a + 5) (a10 : 0 ≤ w - a - 1) (a11 : 0 ≤ o - j - 10000) (k1 : zl_WW W S d w p y u P h) (k2 : zl_RW T f W w m a P h) (k3 : zl_RO T f W S d o P h) (k4 : zn_DG M 10 x P h) (k5 : zn_DG M (p + 6) v P h) (k6 : zn_DG M a j P h) : (zk_CM S m e T f u M n Z d w p (-3) M n Z P h) := by
  have k4 : x = zn_dg M 10 := k4
  have k5 : v = zn_dg M (p + 6) := k5
  have hy : y = zn_dg M 10 + zn_dg M (6 + p) := by rw [show 6 + p = p + 6 by omega, ← k4, ← k5]; omega
  rw [hy] at k1
  refine Or.inr ⟨by omega, by omega, Or.inr ⟨by omega, by omega, by omega, by omega, W, a, k1, k2, ?_⟩⟩
  have k6 : j = zn_dg M a := k6
  exact Or.inr (Or.inr ⟨by omega, by omega, by omega, o, k3, Or.inl ⟨by omega, rfl, rfl, rfl, rfl⟩⟩)
theorem zo_c3bl_ok {w : zq_Wd} (x_WW : zj_is w 236 (fun q => zl_WW (q 0) (q 1) (q 2) (q 3) (q 4) (q 5) (q 6))) (x_RW : zj_is w 237 (fun q => zl_RW (q 0) (q 1) (q 2) (q 3) (q 4) (q 5))) (x_RO : zj_is w 238 (fun q => zl_RO (q 0) (q 1) (q 2) (q 3) (q 4) (q 5))) (x_DG : zj_is w 134 (fun q => zn_DG (q 0) (q 1) (q 2))) (x_CM : zj_is w 304 (fun q => zk_CM (q 0) (q 1) (q 2) (q 3) (q 4) (q 5) (q 6) (q 7) (q 8) (q 9) (q 10) (q 11) (q 12) (q 13) (q 14) (q 15))) : zq_okG1 w zo_c3bl := by
  refine ⟨rfl, rfl, zu_fac ⟨rfl, by decide⟩ zq_fan, ?_⟩
  intro r P h H hM
  have q0 : zq_ev r (0, [(11, 1)]) = r 11 := zu_e1 _ _
  have q1 : zq_ev r (3, [(11, -1)]) = -r 11 + 3 := zu_e5 _ _ _
  have q2 : zq_ev r (0, [(9, 1)]) = r 9 := zu_e1 _ _
  have q3 : zq_ev r (-1, [(2, 1), (9, -1)]) = r 2 - r 9 - 1 := by simp only [zq_ev, zq_ts] <;> omega
  have q4 : zq_ev r (0, [(10, 1)]) = r 10 := zu_e1 _ _
  have q5 : zq_ev r (-1, [(1, 1), (10, -1)]) = r 1 - r 10 - 1 := by simp only [zq_ev, zq_ts] <;> omega
  have q6 : zq_ev r (0, [(15, -1), (16, -1), (17, 1)]) = -r 15 - r 16 + r 17 := by simp only [zq_ev, zq_ts] <;> omega
  have q7 : zq_ev r (0, [(15, 1), (16, 1), (17, -1)]) = r 15 + r 16 - r 17 := by simp only [zq_ev, zq_ts] <;> omega
  have q8 : zq_ev r (5, [(13, -1)]) = -r 13 + 5 := zu_e5 _ _ _
  have q9 : zq_ev r (-1, [(10, 1), (13, -1)]) = r 10 - r 13 - 1 := by simp only [zq_ev, zq_ts] <;> omega
  have q10 : zq_ev r (-10000, [(14, 1), (18, -1)]) = r 14 - r 18 - 10000 := by simp only [zq_ev, zq_ts] <;> omega
  have q11 : zq_ev r (0, [(12, 1)]) = r 12 := zu_e1 _ _
  have q12 : zq_ev r (0, [(0, 1)]) = r 0 := zu_e1 _ _
  have q13 : zq_ev r (0, [(17, 1)]) = r 17 := zu_e1 _ _
  have q14 : zq_ev r (0, [(5, 1)]) = r 5 := zu_e1 _ _
  have q15 : zq_ev r (0, [(3, 1)]) = r 3 := zu_e1 _ _
  have q16 : zq_ev r (0, [(4, 1)]) = r 4 := zu_e1 _ _
  have q17 : zq_ev r (0, [(1, 1)]) = r 1 := zu_e1 _ _
  have q18 : zq_ev r (0, [(13, 1)]) = r 13 := zu_e1 _ _
  have q19 : zq_ev r (0, [(14, 1)]) = r 14 := zu_e1 _ _
  have q20 : zq_ev r (0, [(6, 1)]) = r 6 := zu_e1 _ _
  have q21 : zq_ev r (10, []) = 10 := zu_e0 _ _
  have q22 : zq_ev r (0, [(15, 1)]) = r 15 := zu_e1 _ _
  have q23 : zq_ev r (6, [(11, 1)]) = r 11 + 6 := zu_e2 _ _ _
  have q24 : zq_ev r (0, [(16, 1)]) = r 16 := zu_e1 _ _
  have q25 : zq_ev r (0, [(18, 1)]) = r 18 := zu_e1 _ _
  obtain ⟨hT, hC, hF, hS, -, hK⟩ := hM
  have c := hC.1
  have a1 := zq_all_1 c
  rw [q0] at a1
  have c := zq_all_t c
  have a2 := zq_all_1 c
  rw [q1] at a2
  have c := zq_all_t c
  have a3 := zq_all_1 c
  rw [q2] at a3
  have c := zq_all_t c
  have a4 := zq_all_1 c
  rw [q3] at a4
  have c := zq_all_t c
  have a5 := zq_all_1 c
  rw [q4] at a5
  have c := zq_all_t c
  have a6 := zq_all_1 c
  rw [q5] at a6
  have c := zq_all_t c
  have a7 := zq_all_1 c
  rw [q6] at a7
  have c := zq_all_t c
  have a8 := zq_all_1 c
  rw [q7] at a8
  have c := zq_all_t c
  have a9 := zq_all_1 c
  rw [q8] at a9
  have c := zq_all_t c
  have a10 := zq_all_1 c
  rw [q9] at a10
  have c := zq_all_t c
  have a11 := zq_all_1 c
  rw [q10] at a11
  have k1 := zj_use x_WW (hK)
  have k1 : zl_WW (zq_ev r (0, [(12, 1)])) (zq_ev r (0, [(0, 1)])) (zq_ev r (0, [(9, 1)])) (zq_ev r (0, [(10, 1)])) (zq_ev r (0, [(11, 1)])) (zq_ev r (0, [(17, 1)])) (zq_ev r (0, [(5, 1)])) P h := k1
  simp only [q0, q11, q12, q13, q14, q2, q4] at k1
  have k2 := zj_use x_RW (zq_okX_t (hK))
  have k2 : zl_RW (zq_ev r (0, [(3, 1)])) (zq_ev r (0, [(4, 1)])) (zq_ev r (0, [(12, 1)])) (zq_ev r (0, [(10, 1)])) (zq_ev r (0, [(1, 1)])) (zq_ev r (0, [(13, 1)])) P h := k2
  simp only [q11, q15, q16, q17, q18, q4] at k2
  have k3 := zj_use x_RO (zq_okX_t (zq_okX_t (hK)))
  have k3 : zl_RO (zq_ev r (0, [(3, 1)])) (zq_ev r (0, [(4, 1)])) (zq_ev r (0, [(12, 1)])) (zq_ev r (0, [(0, 1)])) (zq_ev r (0, [(9, 1)])) (zq_ev r (0, [(14, 1)])) P h := k3
  simp only [q11, q12, q15, q16, q19, q2] at k3
  have k4 := zj_use x_DG (zq_okX_t (zq_okX_t (zq_okX_t (hK))))
  have k4 : zn_DG (zq_ev r (0, [(6, 1)])) (zq_ev r (10, [])) (zq_ev r (0, [(15, 1)])) P h := k4
  simp only [q20, q21, q22] at k4
  have k5 := zj_use x_DG (zq_okX_t (zq_okX_t (zq_okX_t (zq_okX_t (hK)))))
  have k5 : zn_DG (zq_ev r (0, [(6, 1)])) (zq_ev r (6, [(11, 1)])) (zq_ev r (0, [(16, 1)])) P h := k5
  simp only [q20, q23, q24] at k5
  have k6 := zj_use x_DG (zq_okX_t (zq_okX_t (zq_okX_t (zq_okX_t (zq_okX_t (hK))))))
  have k6 : zn_DG (zq_ev r (0, [(6, 1)])) (zq_ev r (0, [(13, 1)])) (zq_ev r (0, [(18, 1)])) P h := k6
  simp only [q18, q20, q25] at k6
  obtain t1 := zo_c3bl_l (P := P) (h := h) (S := r 0) (m := r 1) (e := r 2) (T := r 3) (f := r 4) (u := r 5) (M := r 6) (n := r 7) (Z := r 8) (d := r 9) (w := r 10) (p := r 11) (W := r 12) (a := r 13) (o := r 14) (x := r 15) (v := r 16) (y := r 17) (j := r 18) a1 a2 a3 a4 a5 a6 a7 a8 a9 a10 a11 k1 k2 k3 k4 k5 k6
  obtain ⟨rq, hr⟩ : ∃ rq : Nat → Int, (∀ i, i < 19 → rq i = r i) := ⟨r, fun i hi => rfl⟩
  have v0 : rq 0 = r 0 := hr 0 (by decide)
  have v1 : rq 1 = r 1 := hr 1 (by decide)
  have v2 : rq 2 = r 2 := hr 2 (by decide)
  have v3 : rq 3 = r 3 := hr 3 (by decide)
  have v4 : rq 4 = r 4 := hr 4 (by decide)
  have v5 : rq 5 = r 5 := hr 5 (by decide)
  have v6 : rq 6 = r 6 := hr 6 (by decide)
  have v7 : rq 7 = r 7 := hr 7 (by decide)
  have v8 : rq 8 = r 8 := hr 8 (by decide)
  have v9 : rq 9 = r 9 := hr 9 (by decide)
  have v10 : rq 10 = r 10 := hr 10 (by decide)
  have v11 : rq 11 = r 11 := hr 11 (by decide)
  have g0 : zq_ev rq (0, [(0, 1)]) = r 0 := zu_f1 v0
  have g1 : zq_ev rq (0, [(1, 1)]) = r 1 := zu_f1 v1
  have g2 : zq_ev rq (0, [(2, 1)]) = r 2 := zu_f1 v2
  have g3 : zq_ev rq (0, [(3, 1)]) = r 3 := zu_f1 v3
  have g4 : zq_ev rq (0, [(4, 1)]) = r 4 := zu_f1 v4
  have g5 : zq_ev rq (0, [(5, 1)]) = r 5 := zu_f1 v5
  have g6 : zq_ev rq (0, [(6, 1)]) = r 6 := zu_f1 v6
  have g7 : zq_ev rq (0, [(7, 1)]) = r 7 := zu_f1 v7
  have g8 : zq_ev rq (0, [(8, 1)]) = r 8 := zu_f1 v8
  have g9 : zq_ev rq (0, [(9, 1)]) = r 9 := zu_f1 v9
  have g10 : zq_ev rq (0, [(10, 1)]) = r 10 := zu_f1 v10
  have g11 : zq_ev rq (0, [(11, 1)]) = r 11 := zu_f1 v11
  have g12 : zq_ev rq (-3, []) = -3 := zu_e0 _ _
  exact ⟨_, List.mem_cons_self .., rq, hr, zq_MeS_mk rfl hT (zq_all_nil) zq_fan (zq_fan) rfl (zu_fac ((x_CM _ _ _).mpr (by show zk_CM (zq_ev rq (0, [(0, 1)])) (zq_ev rq (0, [(1, 1)])) (zq_ev rq (0, [(2, 1)])) (zq_ev rq (0, [(3, 1)])) (zq_ev rq (0, [(4, 1)])) (zq_ev rq (0, [(5, 1)])) (zq_ev rq (0, [(6, 1)])) (zq_ev rq (0, [(7, 1)])) (zq_ev rq (0, [(8, 1)])) (zq_ev rq (0, [(9, 1)])) (zq_ev rq (0, [(10, 1)])) (zq_ev rq (0, [(11, 1)])) (zq_ev rq (-3, [])) (zq_ev rq (0, [(6, 1)])) (zq_ev rq (0, [(7, 1)])) (zq_ev rq (0, [(8, 1)])) P h; simp only [g0, g1, g10, g11, g12, g2, g3, g4, g5, g6, g7, g8, g9]; exact t1)) zq_fan)⟩
noncomputable def zo_cl : zq_S × List zq_S := (([], [], [(0, [(11, 1)]), (3, [(11, -1)]), (0, [(9, 1)]), (-1, [(2, 1), (9, -1)]), (0, [(10, 1)]), (-1, [(1, 1), (10, -1)]), (0, [(15, -1), (16, -1), (17, 1)]), (0, [(15, 1), (16, 1), (17, -1)]), (5, [(13, -1)]), (-1, [(10, 1), (13, -1)]), (0, [(13, 1)]), (0, [(14, 1)]), (9999, [(14, -1), (18, -1)]), (9999, [(14, -1), (19, 1)])], [], [], [], [(236, [(0, [(12, 1)]), (0, [(0, 1)]), (0, [(9, 1)]), (0, [(10, 1)]), (0, [(11, 1)]), (0, [(17, 1)]), (0, [(5, 1)])]), (237, [(0, [(3, 1)]), (0, [(4, 1)]), (0, [(12, 1)]), (0, [(10, 1)]), (0, [(1, 1)]), (0, [(13, 1)])]), (238, [(0, [(3, 1)]), (0, [(4, 1)]), (0, [(12, 1)]), (0, [(0, 1)]), (0, [(9, 1)]), (0, [(14, 1)])]), (134, [(0, [(6, 1)]), (10, []), (0, [(15, 1)])]), (134, [(0, [(6, 1)]), (6, [(11, 1)]), (0, [(16, 1)])]), (134, [(0, [(6, 1)]), (0, [(10, 1)]), (0, [(18, 1)])]), (134, [(0, [(6, 1)]), (0, [(13, 1)]), (0, [(19, 1)])]), (312, [(0, [(6, 1)]), (0, [(10, 1)]), (0, [(13, 1)]), (0, [(14, 1)]), (0, [(20, 1)])]), (291, [(0, [(8, 1)]), (0, [(7, 1)]), (0, [(6, 1)]), (0, []), (0, [(21, 1)]), (0, [(22, 1)])])], 23), [([], [], [], [], [], [], [(304, [(0, [(0, 1)]), (0, [(1, 1)]), (0, [(2, 1)]), (0, [(3, 1)]), (0, [(4, 1)]), (0, [(5, 1)]), (0, [(6, 1)]), (0, [(7, 1)]), (0, [(8, 1)]), (0, [(9, 1)]), (0, [(10, 1)]), (0, [(11, 1)]), (0, [(13, 1)]), (0, [(20, 1)]), (0, [(21, 1)]), (0, [(22, 1)])])], 23)])
theorem zo_cl_l {P : zq_Ty} {h : zq_H} {S m e T f u M n Z d w p W a o x v y i j N q Y : Int} (a1 : 0 ≤ p) (a2 : 0 ≤ -p + 3) (a3 : 0 ≤ d) (a4 : 0 ≤ e - d - 1) (a5 : 0 ≤ w) (a6 : 0 ≤ m - w - 1) (a7 : 0 ≤ -x - v + y) (a8 : 0 ≤ x + v - y) (a9 : 0 ≤ -a + 5) (a10 : 0 ≤ w - a - 1) (a11 : 0 ≤ a) (a12 : 0 ≤ o) (a13 : 0 ≤ -o - i + 9999) (a14 : 0 ≤ -o + j + 9999) (k1 : zl_WW W S d w p y u P h) (k2 : zl_RW T f W w m a P h) (k3 : zl_RO T f W S d o P h) (k4 : zn_DG M 10 x P h) (k5 : zn_DG M (p + 6) v P h) (k6 : zn_DG M w i P h) (k7 : zn_DG M a j P h) (k8 : zk_MV M w a o N P h) (k9 : zm_PZ Z n M 0 q Y P h) : (zk_CM S m e T f u M n Z d w p a N q Y P h) := by
  have k4 : x = zn_dg M 10 := k4
  have k5 : v = zn_dg M (p + 6) := k5
  have hy : y = zn_dg M 10 + zn_dg M (6 + p) := by rw [show 6 + p = p + 6 by omega, ← k4, ← k5]; omega
  rw [hy] at k1
  refine Or.inr ⟨by omega, by omega, Or.inr ⟨by omega, by omega, by omega, by omega, W, a, k1, k2, ?_⟩⟩
  have k6 : i = zn_dg M w := k6
  have k7 : j = zn_dg M a := k7
  exact Or.inr (Or.inr ⟨by omega, by omega, by omega, o, k3, Or.inr ⟨by omega, by omega, by omega, by omega, rfl, k8, k9.1, k9.2⟩⟩)
theorem zo_cl_ok {w : zq_Wd} (x_WW : zj_is w 236 (fun q => zl_WW (q 0) (q 1) (q 2) (q 3) (q 4) (q 5) (q 6))) (x_RW : zj_is w 237 (fun q => zl_RW (q 0) (q 1) (q 2) (q 3) (q 4) (q 5))) (x_RO : zj_is w 238 (fun q => zl_RO (q 0) (q 1) (q 2) (q 3) (q 4) (q 5))) (x_DG : zj_is w 134 (fun q => zn_DG (q 0) (q 1) (q 2))) (x_MV : zj_is w 312 (fun q => zk_MV (q 0) (q 1) (q 2) (q 3) (q 4))) (x_PZ : zj_is w 291 (fun q => zm_PZ (q 0) (q 1) (q 2) (q 3) (q 4) (q 5))) (x_CM : zj_is w 304 (fun q => zk_CM (q 0) (q 1) (q 2) (q 3) (q 4) (q 5) (q 6) (q 7) (q 8) (q 9) (q 10) (q 11) (q 12) (q 13) (q 14) (q 15))) : zq_okG1 w zo_cl := by
  refine ⟨rfl, rfl, zu_fac ⟨rfl, by decide⟩ zq_fan, ?_⟩
  intro r P h H hM
  have q0 : zq_ev r (0, [(11, 1)]) = r 11 := zu_e1 _ _
  have q1 : zq_ev r (3, [(11, -1)]) = -r 11 + 3 := zu_e5 _ _ _
  have q2 : zq_ev r (0, [(9, 1)]) = r 9 := zu_e1 _ _
  have q3 : zq_ev r (-1, [(2, 1), (9, -1)]) = r 2 - r 9 - 1 := by simp only [zq_ev, zq_ts] <;> omega
  have q4 : zq_ev r (0, [(10, 1)]) = r 10 := zu_e1 _ _
  have q5 : zq_ev r (-1, [(1, 1), (10, -1)]) = r 1 - r 10 - 1 := by simp only [zq_ev, zq_ts] <;> omega
  have q6 : zq_ev r (0, [(15, -1), (16, -1), (17, 1)]) = -r 15 - r 16 + r 17 := by simp only [zq_ev, zq_ts] <;> omega
  have q7 : zq_ev r (0, [(15, 1), (16, 1), (17, -1)]) = r 15 + r 16 - r 17 := by simp only [zq_ev, zq_ts] <;> omega
  have q8 : zq_ev r (5, [(13, -1)]) = -r 13 + 5 := zu_e5 _ _ _
  have q9 : zq_ev r (-1, [(10, 1), (13, -1)]) = r 10 - r 13 - 1 := by simp only [zq_ev, zq_ts] <;> omega
  have q10 : zq_ev r (0, [(13, 1)]) = r 13 := zu_e1 _ _
  have q11 : zq_ev r (0, [(14, 1)]) = r 14 := zu_e1 _ _
  have q12 : zq_ev r (9999, [(14, -1), (18, -1)]) = -r 14 - r 18 + 9999 := by simp only [zq_ev, zq_ts] <;> omega
  have q13 : zq_ev r (9999, [(14, -1), (19, 1)]) = -r 14 + r 19 + 9999 := by simp only [zq_ev, zq_ts] <;> omega
  have q14 : zq_ev r (0, [(12, 1)]) = r 12 := zu_e1 _ _
  have q15 : zq_ev r (0, [(0, 1)]) = r 0 := zu_e1 _ _
  have q16 : zq_ev r (0, [(17, 1)]) = r 17 := zu_e1 _ _
  have q17 : zq_ev r (0, [(5, 1)]) = r 5 := zu_e1 _ _
  have q18 : zq_ev r (0, [(3, 1)]) = r 3 := zu_e1 _ _
  have q19 : zq_ev r (0, [(4, 1)]) = r 4 := zu_e1 _ _
  have q20 : zq_ev r (0, [(1, 1)]) = r 1 := zu_e1 _ _
  have q21 : zq_ev r (0, [(6, 1)]) = r 6 := zu_e1 _ _
  have q22 : zq_ev r (10, []) = 10 := zu_e0 _ _
  have q23 : zq_ev r (0, [(15, 1)]) = r 15 := zu_e1 _ _
  have q24 : zq_ev r (6, [(11, 1)]) = r 11 + 6 := zu_e2 _ _ _
  have q25 : zq_ev r (0, [(16, 1)]) = r 16 := zu_e1 _ _
  have q26 : zq_ev r (0, [(18, 1)]) = r 18 := zu_e1 _ _
  have q27 : zq_ev r (0, [(19, 1)]) = r 19 := zu_e1 _ _
  have q28 : zq_ev r (0, [(20, 1)]) = r 20 := zu_e1 _ _
  have q29 : zq_ev r (0, [(8, 1)]) = r 8 := zu_e1 _ _
  have q30 : zq_ev r (0, [(7, 1)]) = r 7 := zu_e1 _ _
  have q31 : zq_ev r (0, []) = 0 := zu_e0 _ _
  have q32 : zq_ev r (0, [(21, 1)]) = r 21 := zu_e1 _ _
  have q33 : zq_ev r (0, [(22, 1)]) = r 22 := zu_e1 _ _
  obtain ⟨hT, hC, hF, hS, -, hK⟩ := hM
  have c := hC.1
  have a1 := zq_all_1 c
  rw [q0] at a1
  have c := zq_all_t c
  have a2 := zq_all_1 c
  rw [q1] at a2
  have c := zq_all_t c
  have a3 := zq_all_1 c
  rw [q2] at a3
  have c := zq_all_t c
  have a4 := zq_all_1 c
  rw [q3] at a4
  have c := zq_all_t c
  have a5 := zq_all_1 c
  rw [q4] at a5
  have c := zq_all_t c
  have a6 := zq_all_1 c
  rw [q5] at a6
  have c := zq_all_t c
  have a7 := zq_all_1 c
  rw [q6] at a7
  have c := zq_all_t c
  have a8 := zq_all_1 c
  rw [q7] at a8
  have c := zq_all_t c
  have a9 := zq_all_1 c
  rw [q8] at a9
  have c := zq_all_t c
  have a10 := zq_all_1 c
  rw [q9] at a10
  have c := zq_all_t c
  have a11 := zq_all_1 c
  rw [q10] at a11
  have c := zq_all_t c
  have a12 := zq_all_1 c
  rw [q11] at a12
  have c := zq_all_t c
  have a13 := zq_all_1 c
  rw [q12] at a13
  have c := zq_all_t c
  have a14 := zq_all_1 c
  rw [q13] at a14
  have k1 := zj_use x_WW (hK)
  have k1 : zl_WW (zq_ev r (0, [(12, 1)])) (zq_ev r (0, [(0, 1)])) (zq_ev r (0, [(9, 1)])) (zq_ev r (0, [(10, 1)])) (zq_ev r (0, [(11, 1)])) (zq_ev r (0, [(17, 1)])) (zq_ev r (0, [(5, 1)])) P h := k1
  simp only [q0, q14, q15, q16, q17, q2, q4] at k1
  have k2 := zj_use x_RW (zq_okX_t (hK))
  have k2 : zl_RW (zq_ev r (0, [(3, 1)])) (zq_ev r (0, [(4, 1)])) (zq_ev r (0, [(12, 1)])) (zq_ev r (0, [(10, 1)])) (zq_ev r (0, [(1, 1)])) (zq_ev r (0, [(13, 1)])) P h := k2
  simp only [q10, q14, q18, q19, q20, q4] at k2
  have k3 := zj_use x_RO (zq_okX_t (zq_okX_t (hK)))
  have k3 : zl_RO (zq_ev r (0, [(3, 1)])) (zq_ev r (0, [(4, 1)])) (zq_ev r (0, [(12, 1)])) (zq_ev r (0, [(0, 1)])) (zq_ev r (0, [(9, 1)])) (zq_ev r (0, [(14, 1)])) P h := k3
  simp only [q11, q14, q15, q18, q19, q2] at k3
  have k4 := zj_use x_DG (zq_okX_t (zq_okX_t (zq_okX_t (hK))))
  have k4 : zn_DG (zq_ev r (0, [(6, 1)])) (zq_ev r (10, [])) (zq_ev r (0, [(15, 1)])) P h := k4
  simp only [q21, q22, q23] at k4
  have k5 := zj_use x_DG (zq_okX_t (zq_okX_t (zq_okX_t (zq_okX_t (hK)))))
  have k5 : zn_DG (zq_ev r (0, [(6, 1)])) (zq_ev r (6, [(11, 1)])) (zq_ev r (0, [(16, 1)])) P h := k5
  simp only [q21, q24, q25] at k5
  have k6 := zj_use x_DG (zq_okX_t (zq_okX_t (zq_okX_t (zq_okX_t (zq_okX_t (hK))))))
  have k6 : zn_DG (zq_ev r (0, [(6, 1)])) (zq_ev r (0, [(10, 1)])) (zq_ev r (0, [(18, 1)])) P h := k6
  simp only [q21, q26, q4] at k6
  have k7 := zj_use x_DG (zq_okX_t (zq_okX_t (zq_okX_t (zq_okX_t (zq_okX_t (zq_okX_t (hK)))))))
  have k7 : zn_DG (zq_ev r (0, [(6, 1)])) (zq_ev r (0, [(13, 1)])) (zq_ev r (0, [(19, 1)])) P h := k7
  simp only [q10, q21, q27] at k7
  have k8 := zj_use x_MV (zq_okX_t (zq_okX_t (zq_okX_t (zq_okX_t (zq_okX_t (zq_okX_t (zq_okX_t (hK))))))))
  have k8 : zk_MV (zq_ev r (0, [(6, 1)])) (zq_ev r (0, [(10, 1)])) (zq_ev r (0, [(13, 1)])) (zq_ev r (0, [(14, 1)])) (zq_ev r (0, [(20, 1)])) P h := k8
  simp only [q10, q11, q21, q28, q4] at k8
  have k9 := zj_use x_PZ (zq_okX_t (zq_okX_t (zq_okX_t (zq_okX_t (zq_okX_t (zq_okX_t (zq_okX_t (zq_okX_t (hK)))))))))
  have k9 : zm_PZ (zq_ev r (0, [(8, 1)])) (zq_ev r (0, [(7, 1)])) (zq_ev r (0, [(6, 1)])) (zq_ev r (0, [])) (zq_ev r (0, [(21, 1)])) (zq_ev r (0, [(22, 1)])) P h := k9
  simp only [q21, q29, q30, q31, q32, q33] at k9
  obtain t1 := zo_cl_l (P := P) (h := h) (S := r 0) (m := r 1) (e := r 2) (T := r 3) (f := r 4) (u := r 5) (M := r 6) (n := r 7) (Z := r 8) (d := r 9) (w := r 10) (p := r 11) (W := r 12) (a := r 13) (o := r 14) (x := r 15) (v := r 16) (y := r 17) (i := r 18) (j := r 19) (N := r 20) (q := r 21) (Y := r 22) a1 a2 a3 a4 a5 a6 a7 a8 a9 a10 a11 a12 a13 a14 k1 k2 k3 k4 k5 k6 k7 k8 k9
  obtain ⟨rq, hr⟩ : ∃ rq : Nat → Int, (∀ i, i < 23 → rq i = r i) := ⟨r, fun i hi => rfl⟩
  have v0 : rq 0 = r 0 := hr 0 (by decide)
  have v1 : rq 1 = r 1 := hr 1 (by decide)
  have v2 : rq 2 = r 2 := hr 2 (by decide)
  have v3 : rq 3 = r 3 := hr 3 (by decide)
  have v4 : rq 4 = r 4 := hr 4 (by decide)
  have v5 : rq 5 = r 5 := hr 5 (by decide)
  have v6 : rq 6 = r 6 := hr 6 (by decide)
  have v7 : rq 7 = r 7 := hr 7 (by decide)
  have v8 : rq 8 = r 8 := hr 8 (by decide)
  have v9 : rq 9 = r 9 := hr 9 (by decide)
  have v10 : rq 10 = r 10 := hr 10 (by decide)
  have v11 : rq 11 = r 11 := hr 11 (by decide)
  have v13 : rq 13 = r 13 := hr 13 (by decide)
  have v20 : rq 20 = r 20 := hr 20 (by decide)
  have v21 : rq 21 = r 21 := hr 21 (by decide)
  have v22 : rq 22 = r 22 := hr 22 (by decide)
  have g0 : zq_ev rq (0, [(0, 1)]) = r 0 := zu_f1 v0
  have g1 : zq_ev rq (0, [(1, 1)]) = r 1 := zu_f1 v1
  have g2 : zq_ev rq (0, [(2, 1)]) = r 2 := zu_f1 v2
  have g3 : zq_ev rq (0, [(3, 1)]) = r 3 := zu_f1 v3
  have g4 : zq_ev rq (0, [(4, 1)]) = r 4 := zu_f1 v4
  have g5 : zq_ev rq (0, [(5, 1)]) = r 5 := zu_f1 v5
  have g6 : zq_ev rq (0, [(6, 1)]) = r 6 := zu_f1 v6
  have g7 : zq_ev rq (0, [(7, 1)]) = r 7 := zu_f1 v7
  have g8 : zq_ev rq (0, [(8, 1)]) = r 8 := zu_f1 v8
  have g9 : zq_ev rq (0, [(9, 1)]) = r 9 := zu_f1 v9
  have g10 : zq_ev rq (0, [(10, 1)]) = r 10 := zu_f1 v10
  have g11 : zq_ev rq (0, [(11, 1)]) = r 11 := zu_f1 v11
  have g12 : zq_ev rq (0, [(13, 1)]) = r 13 := zu_f1 v13
  have g13 : zq_ev rq (0, [(20, 1)]) = r 20 := zu_f1 v20
  have g14 : zq_ev rq (0, [(21, 1)]) = r 21 := zu_f1 v21
  have g15 : zq_ev rq (0, [(22, 1)]) = r 22 := zu_f1 v22
  exact ⟨_, List.mem_cons_self .., rq, hr, zq_MeS_mk rfl hT (zq_all_nil) zq_fan (zq_fan) rfl (zu_fac ((x_CM _ _ _).mpr (by show zk_CM (zq_ev rq (0, [(0, 1)])) (zq_ev rq (0, [(1, 1)])) (zq_ev rq (0, [(2, 1)])) (zq_ev rq (0, [(3, 1)])) (zq_ev rq (0, [(4, 1)])) (zq_ev rq (0, [(5, 1)])) (zq_ev rq (0, [(6, 1)])) (zq_ev rq (0, [(7, 1)])) (zq_ev rq (0, [(8, 1)])) (zq_ev rq (0, [(9, 1)])) (zq_ev rq (0, [(10, 1)])) (zq_ev rq (0, [(11, 1)])) (zq_ev rq (0, [(13, 1)])) (zq_ev rq (0, [(20, 1)])) (zq_ev rq (0, [(21, 1)])) (zq_ev rq (0, [(22, 1)])) P h; simp only [g0, g1, g10, g11, g12, g13, g14, g15, g2, g3, g4, g5, g6, g7, g8, g9]; exact t1)) zq_fan)⟩
noncomputable def zo_c3ag : zq_S × List zq_S := (([], [], [(0, [(11, 1)]), (3, [(11, -1)]), (0, [(9, 1)]), (-1, [(2, 1), (9, -1)]), (0, [(10, 1)]), (-1, [(1, 1), (10, -1)]), (0, [(15, -1), (16, -1), (17, 1)]), (0, [(15, 1), (16, 1), (17, -1)]), (5, [(13, -1)]), (-1, [(10, -1), (13, 1)]), (-10000, [(14, 1), (18, 1)])], [], [], [], [(236, [(0, [(12, 1)]), (0, [(0, 1)]), (0, [(9, 1)]), (0, [(10, 1)]), (0, [(11, 1)]), (0, [(17, 1)]), (0, [(5, 1)])]), (237, [(0, [(3, 1)]), (0, [(4, 1)]), (0, [(12, 1)]), (0, [(10, 1)]), (0, [(1, 1)]), (0, [(13, 1)])]), (238, [(0, [(3, 1)]), (0, [(4, 1)]), (0, [(12, 1)]), (0, [(0, 1)]), (0, [(9, 1)]), (0, [(14, 1)])]), (134, [(0, [(6, 1)]), (10, []), (0, [(15, 1)])]), (134, [(0, [(6, 1)]), (6, [(11, 1)]), (0, [(16, 1)])]), (134, [(0, [(6, 1)]), (0, [(10, 1)]), (0, [(18, 1)])])], 19), [([], [], [], [], [], [], [(304, [(0, [(0, 1)]), (0, [(1, 1)]), (0, [(2, 1)]), (0, [(3, 1)]), (0, [(4, 1)]), (0, [(5, 1)]), (0, [(6, 1)]), (0, [(7, 1)]), (0, [(8, 1)]), (0, [(9, 1)]), (0, [(10, 1)]), (0, [(11, 1)]), (-3, []), (0, [(6, 1)]), (0, [(7, 1)]), (0, [(8, 1)])])], 19)])
theorem zo_c3ag_l {P : zq_Ty} {h : zq_H} {S m e T f u M n Z d w p W a o x v y i : Int} (a1 : 0 ≤ p) (a2 : 0 ≤ -p + 3) (a3 : 0 ≤ d) (a4 : 0 ≤ e - d - 1) (a5 : 0 ≤ w) (a6 : 0 ≤ m - w - 1) (a7 : 0 ≤ -x - v + y) (a8 : 0 ≤ x + v - y) (a9 : 0 ≤ -a + 5) (a10 : 0 ≤ -w + a - 1) (a11 : 0 ≤ o + i - 10000) (k1 : zl_WW W S d w p y u P h) (k2 : zl_RW T f W w m a P h) (k3 : zl_RO T f W S d o P h) (k4 : zn_DG M 10 x P h) (k5 : zn_DG M (p + 6) v P h) (k6 : zn_DG M w i P h) : (zk_CM S m e T f u M n Z d w p (-3) M n Z P h) := by
  have k4 : x = zn_dg M 10 := k4
  have k5 : v = zn_dg M (p + 6) := k5
  have hy : y = zn_dg M 10 + zn_dg M (6 + p) := by rw [show 6 + p = p + 6 by omega, ← k4, ← k5]; omega
  rw [hy] at k1
  refine Or.inr ⟨by omega, by omega, Or.inr ⟨by omega, by omega, by omega, by omega, W, a, k1, k2, ?_⟩⟩
  have k6 : i = zn_dg M w := k6
  exact Or.inr (Or.inr ⟨by omega, by omega, by omega, o, k3, Or.inl ⟨by omega, rfl, rfl, rfl, rfl⟩⟩)
theorem zo_c3ag_ok {w : zq_Wd} (x_WW : zj_is w 236 (fun q => zl_WW (q 0) (q 1) (q 2) (q 3) (q 4) (q 5) (q 6))) (x_RW : zj_is w 237 (fun q => zl_RW (q 0) (q 1) (q 2) (q 3) (q 4) (q 5))) (x_RO : zj_is w 238 (fun q => zl_RO (q 0) (q 1) (q 2) (q 3) (q 4) (q 5))) (x_DG : zj_is w 134 (fun q => zn_DG (q 0) (q 1) (q 2))) (x_CM : zj_is w 304 (fun q => zk_CM (q 0) (q 1) (q 2) (q 3) (q 4) (q 5) (q 6) (q 7) (q 8) (q 9) (q 10) (q 11) (q 12) (q 13) (q 14) (q 15))) : zq_okG1 w zo_c3ag := by
  refine ⟨rfl, rfl, zu_fac ⟨rfl, by decide⟩ zq_fan, ?_⟩
  intro r P h H hM
  have q0 : zq_ev r (0, [(11, 1)]) = r 11 := zu_e1 _ _
  have q1 : zq_ev r (3, [(11, -1)]) = -r 11 + 3 := zu_e5 _ _ _
  have q2 : zq_ev r (0, [(9, 1)]) = r 9 := zu_e1 _ _
  have q3 : zq_ev r (-1, [(2, 1), (9, -1)]) = r 2 - r 9 - 1 := by simp only [zq_ev, zq_ts] <;> omega
  have q4 : zq_ev r (0, [(10, 1)]) = r 10 := zu_e1 _ _
  have q5 : zq_ev r (-1, [(1, 1), (10, -1)]) = r 1 - r 10 - 1 := by simp only [zq_ev, zq_ts] <;> omega
  have q6 : zq_ev r (0, [(15, -1), (16, -1), (17, 1)]) = -r 15 - r 16 + r 17 := by simp only [zq_ev, zq_ts] <;> omega
  have q7 : zq_ev r (0, [(15, 1), (16, 1), (17, -1)]) = r 15 + r 16 - r 17 := by simp only [zq_ev, zq_ts] <;> omega
  have q8 : zq_ev r (5, [(13, -1)]) = -r 13 + 5 := zu_e5 _ _ _
  have q9 : zq_ev r (-1, [(10, -1), (13, 1)]) = -r 10 + r 13 - 1 := by simp only [zq_ev, zq_ts] <;> omega
  have q10 : zq_ev r (-10000, [(14, 1), (18, 1)]) = r 14 + r 18 - 10000 := by simp only [zq_ev, zq_ts] <;> omega
  have q11 : zq_ev r (0, [(12, 1)]) = r 12 := zu_e1 _ _
  have q12 : zq_ev r (0, [(0, 1)]) = r 0 := zu_e1 _ _
  have q13 : zq_ev r (0, [(17, 1)]) = r 17 := zu_e1 _ _
  have q14 : zq_ev r (0, [(5, 1)]) = r 5 := zu_e1 _ _
  have q15 : zq_ev r (0, [(3, 1)]) = r 3 := zu_e1 _ _
  have q16 : zq_ev r (0, [(4, 1)]) = r 4 := zu_e1 _ _
  have q17 : zq_ev r (0, [(1, 1)]) = r 1 := zu_e1 _ _
  have q18 : zq_ev r (0, [(13, 1)]) = r 13 := zu_e1 _ _
  have q19 : zq_ev r (0, [(14, 1)]) = r 14 := zu_e1 _ _
  have q20 : zq_ev r (0, [(6, 1)]) = r 6 := zu_e1 _ _
  have q21 : zq_ev r (10, []) = 10 := zu_e0 _ _
  have q22 : zq_ev r (0, [(15, 1)]) = r 15 := zu_e1 _ _
  have q23 : zq_ev r (6, [(11, 1)]) = r 11 + 6 := zu_e2 _ _ _
  have q24 : zq_ev r (0, [(16, 1)]) = r 16 := zu_e1 _ _
  have q25 : zq_ev r (0, [(18, 1)]) = r 18 := zu_e1 _ _
  obtain ⟨hT, hC, hF, hS, -, hK⟩ := hM
  have c := hC.1
  have a1 := zq_all_1 c
  rw [q0] at a1
  have c := zq_all_t c
  have a2 := zq_all_1 c
  rw [q1] at a2
  have c := zq_all_t c
  have a3 := zq_all_1 c
  rw [q2] at a3
  have c := zq_all_t c
  have a4 := zq_all_1 c
  rw [q3] at a4
  have c := zq_all_t c
  have a5 := zq_all_1 c
  rw [q4] at a5
  have c := zq_all_t c
  have a6 := zq_all_1 c
  rw [q5] at a6
  have c := zq_all_t c
  have a7 := zq_all_1 c
  rw [q6] at a7
  have c := zq_all_t c
  have a8 := zq_all_1 c
  rw [q7] at a8
  have c := zq_all_t c
  have a9 := zq_all_1 c
  rw [q8] at a9
  have c := zq_all_t c
  have a10 := zq_all_1 c
  rw [q9] at a10
  have c := zq_all_t c
  have a11 := zq_all_1 c
  rw [q10] at a11
  have k1 := zj_use x_WW (hK)
  have k1 : zl_WW (zq_ev r (0, [(12, 1)])) (zq_ev r (0, [(0, 1)])) (zq_ev r (0, [(9, 1)])) (zq_ev r (0, [(10, 1)])) (zq_ev r (0, [(11, 1)])) (zq_ev r (0, [(17, 1)])) (zq_ev r (0, [(5, 1)])) P h := k1
  simp only [q0, q11, q12, q13, q14, q2, q4] at k1
  have k2 := zj_use x_RW (zq_okX_t (hK))
  have k2 : zl_RW (zq_ev r (0, [(3, 1)])) (zq_ev r (0, [(4, 1)])) (zq_ev r (0, [(12, 1)])) (zq_ev r (0, [(10, 1)])) (zq_ev r (0, [(1, 1)])) (zq_ev r (0, [(13, 1)])) P h := k2
  simp only [q11, q15, q16, q17, q18, q4] at k2
  have k3 := zj_use x_RO (zq_okX_t (zq_okX_t (hK)))
  have k3 : zl_RO (zq_ev r (0, [(3, 1)])) (zq_ev r (0, [(4, 1)])) (zq_ev r (0, [(12, 1)])) (zq_ev r (0, [(0, 1)])) (zq_ev r (0, [(9, 1)])) (zq_ev r (0, [(14, 1)])) P h := k3
  simp only [q11, q12, q15, q16, q19, q2] at k3
  have k4 := zj_use x_DG (zq_okX_t (zq_okX_t (zq_okX_t (hK))))
  have k4 : zn_DG (zq_ev r (0, [(6, 1)])) (zq_ev r (10, [])) (zq_ev r (0, [(15, 1)])) P h := k4
  simp only [q20, q21, q22] at k4
  have k5 := zj_use x_DG (zq_okX_t (zq_okX_t (zq_okX_t (zq_okX_t (hK)))))
  have k5 : zn_DG (zq_ev r (0, [(6, 1)])) (zq_ev r (6, [(11, 1)])) (zq_ev r (0, [(16, 1)])) P h := k5
  simp only [q20, q23, q24] at k5
  have k6 := zj_use x_DG (zq_okX_t (zq_okX_t (zq_okX_t (zq_okX_t (zq_okX_t (hK))))))
  have k6 : zn_DG (zq_ev r (0, [(6, 1)])) (zq_ev r (0, [(10, 1)])) (zq_ev r (0, [(18, 1)])) P h := k6
  simp only [q20, q25, q4] at k6
  obtain t1 := zo_c3ag_l (P := P) (h := h) (S := r 0) (m := r 1) (e := r 2) (T := r 3) (f := r 4) (u := r 5) (M := r 6) (n := r 7) (Z := r 8) (d := r 9) (w := r 10) (p := r 11) (W := r 12) (a := r 13) (o := r 14) (x := r 15) (v := r 16) (y := r 17) (i := r 18) a1 a2 a3 a4 a5 a6 a7 a8 a9 a10 a11 k1 k2 k3 k4 k5 k6
  obtain ⟨rq, hr⟩ : ∃ rq : Nat → Int, (∀ i, i < 19 → rq i = r i) := ⟨r, fun i hi => rfl⟩
  have v0 : rq 0 = r 0 := hr 0 (by decide)
  have v1 : rq 1 = r 1 := hr 1 (by decide)
  have v2 : rq 2 = r 2 := hr 2 (by decide)
  have v3 : rq 3 = r 3 := hr 3 (by decide)
  have v4 : rq 4 = r 4 := hr 4 (by decide)
  have v5 : rq 5 = r 5 := hr 5 (by decide)
  have v6 : rq 6 = r 6 := hr 6 (by decide)
  have v7 : rq 7 = r 7 := hr 7 (by decide)
  have v8 : rq 8 = r 8 := hr 8 (by decide)
  have v9 : rq 9 = r 9 := hr 9 (by decide)
  have v10 : rq 10 = r 10 := hr 10 (by decide)
  have v11 : rq 11 = r 11 := hr 11 (by decide)
  have g0 : zq_ev rq (0, [(0, 1)]) = r 0 := zu_f1 v0
  have g1 : zq_ev rq (0, [(1, 1)]) = r 1 := zu_f1 v1
  have g2 : zq_ev rq (0, [(2, 1)]) = r 2 := zu_f1 v2
  have g3 : zq_ev rq (0, [(3, 1)]) = r 3 := zu_f1 v3
  have g4 : zq_ev rq (0, [(4, 1)]) = r 4 := zu_f1 v4
  have g5 : zq_ev rq (0, [(5, 1)]) = r 5 := zu_f1 v5
  have g6 : zq_ev rq (0, [(6, 1)]) = r 6 := zu_f1 v6
  have g7 : zq_ev rq (0, [(7, 1)]) = r 7 := zu_f1 v7
  have g8 : zq_ev rq (0, [(8, 1)]) = r 8 := zu_f1 v8
  have g9 : zq_ev rq (0, [(9, 1)]) = r 9 := zu_f1 v9
  have g10 : zq_ev rq (0, [(10, 1)]) = r 10 := zu_f1 v10
  have g11 : zq_ev rq (0, [(11, 1)]) = r 11 := zu_f1 v11
  have g12 : zq_ev rq (-3, []) = -3 := zu_e0 _ _
  exact ⟨_, List.mem_cons_self .., rq, hr, zq_MeS_mk rfl hT (zq_all_nil) zq_fan (zq_fan) rfl (zu_fac ((x_CM _ _ _).mpr (by show zk_CM (zq_ev rq (0, [(0, 1)])) (zq_ev rq (0, [(1, 1)])) (zq_ev rq (0, [(2, 1)])) (zq_ev rq (0, [(3, 1)])) (zq_ev rq (0, [(4, 1)])) (zq_ev rq (0, [(5, 1)])) (zq_ev rq (0, [(6, 1)])) (zq_ev rq (0, [(7, 1)])) (zq_ev rq (0, [(8, 1)])) (zq_ev rq (0, [(9, 1)])) (zq_ev rq (0, [(10, 1)])) (zq_ev rq (0, [(11, 1)])) (zq_ev rq (-3, [])) (zq_ev rq (0, [(6, 1)])) (zq_ev rq (0, [(7, 1)])) (zq_ev rq (0, [(8, 1)])) P h; simp only [g0, g1, g10, g11, g12, g2, g3, g4, g5, g6, g7, g8, g9]; exact t1)) zq_fan)⟩
noncomputable def zo_c3bg : zq_S × List zq_S := (([], [], [(0, [(11, 1)]), (3, [(11, -1)]), (0, [(9, 1)]), (-1, [(2, 1), (9, -1)]), (0, [(10, 1)]), (-1, [(1, 1), (10, -1)]), (0, [(15, -1), (16, -1), (17, 1)]), (0, [(15, 1), (16, 1), (17, -1)]), (5, [(13, -1)]), (-1, [(10, -1), (13, 1)]), (-10000, [(14, 1), (18, -1)])], [], [], [], [(236, [(0, [(12, 1)]), (0, [(0, 1)]), (0, [(9, 1)]), (0, [(10, 1)]), (0, [(11, 1)]), (0, [(17, 1)]), (0, [(5, 1)])]), (237, [(0, [(3, 1)]), (0, [(4, 1)]), (0, [(12, 1)]), (0, [(10, 1)]), (0, [(1, 1)]), (0, [(13, 1)])]), (238, [(0, [(3, 1)]), (0, [(4, 1)]), (0, [(12, 1)]), (0, [(0, 1)]), (0, [(9, 1)]), (0, [(14, 1)])]), (134, [(0, [(6, 1)]), (10, []), (0, [(15, 1)])]), (134, [(0, [(6, 1)]), (6, [(11, 1)]), (0, [(16, 1)])]), (134, [(0, [(6, 1)]), (0, [(13, 1)]), (0, [(18, 1)])])], 19), [([], [], [], [], [], [], [(304, [(0, [(0, 1)]), (0, [(1, 1)]), (0, [(2, 1)]), (0, [(3, 1)]), (0, [(4, 1)]), (0, [(5, 1)]), (0, [(6, 1)]), (0, [(7, 1)]), (0, [(8, 1)]), (0, [(9, 1)]), (0, [(10, 1)]), (0, [(11, 1)]), (-3, []), (0, [(6, 1)]), (0, [(7, 1)]), (0, [(8, 1)])])], 19)])
theorem zo_c3bg_l {P : zq_Ty} {h : zq_H} {S m e T f u M n Z d w p W a o x v y j : Int} (a1 : 0 ≤ p) (a2 : 0 ≤ -p + 3) (a3 : 0 ≤ d) (a4 : 0 ≤ e - d - 1) (a5 : 0 ≤ w) (a6 : 0 ≤ m - w - 1) (a7 : 0 ≤ -x - v + y) (a8 : 0 ≤ x + v - y) (a9 : 0 ≤ -a + 5) (a10 : 0 ≤ -w + a - 1) (a11 : 0 ≤ o - j - 10000) (k1 : zl_WW W S d w p y u P h) (k2 : zl_RW T f W w m a P h) (k3 : zl_RO T f W S d o P h) (k4 : zn_DG M 10 x P h) (k5 : zn_DG M (p + 6) v P h) (k6 : zn_DG M a j P h) : (zk_CM S m e T f u M n Z d w p (-3) M n Z P h) := by
  have k4 : x = zn_dg M 10 := k4
  have k5 : v = zn_dg M (p + 6) := k5
  have hy : y = zn_dg M 10 + zn_dg M (6 + p) := by rw [show 6 + p = p + 6 by omega, ← k4, ← k5]; omega
  rw [hy] at k1
  refine Or.inr ⟨by omega, by omega, Or.inr ⟨by omega, by omega, by omega, by omega, W, a, k1, k2, ?_⟩⟩
  have k6 : j = zn_dg M a := k6
  exact Or.inr (Or.inr ⟨by omega, by omega, by omega, o, k3, Or.inl ⟨by omega, rfl, rfl, rfl, rfl⟩⟩)
theorem zo_c3bg_ok {w : zq_Wd} (x_WW : zj_is w 236 (fun q => zl_WW (q 0) (q 1) (q 2) (q 3) (q 4) (q 5) (q 6))) (x_RW : zj_is w 237 (fun q => zl_RW (q 0) (q 1) (q 2) (q 3) (q 4) (q 5))) (x_RO : zj_is w 238 (fun q => zl_RO (q 0) (q 1) (q 2) (q 3) (q 4) (q 5))) (x_DG : zj_is w 134 (fun q => zn_DG (q 0) (q 1) (q 2))) (x_CM : zj_is w 304 (fun q => zk_CM (q 0) (q 1) (q 2) (q 3) (q 4) (q 5) (q 6) (q 7) (q 8) (q 9) (q 10) (q 11) (q 12) (q 13) (q 14) (q 15))) : zq_okG1 w zo_c3bg := by
  refine ⟨rfl, rfl, zu_fac ⟨rfl, by decide⟩ zq_fan, ?_⟩
  intro r P h H hM
  have q0 : zq_ev r (0, [(11, 1)]) = r 11 := zu_e1 _ _
  have q1 : zq_ev r (3, [(11, -1)]) = -r 11 + 3 := zu_e5 _ _ _
  have q2 : zq_ev r (0, [(9, 1)]) = r 9 := zu_e1 _ _
  have q3 : zq_ev r (-1, [(2, 1), (9, -1)]) = r 2 - r 9 - 1 := by simp only [zq_ev, zq_ts] <;> omega
  have q4 : zq_ev r (0, [(10, 1)]) = r 10 := zu_e1 _ _
  have q5 : zq_ev r (-1, [(1, 1), (10, -1)]) = r 1 - r 10 - 1 := by simp only [zq_ev, zq_ts] <;> omega
  have q6 : zq_ev r (0, [(15, -1), (16, -1), (17, 1)]) = -r 15 - r 16 + r 17 := by simp only [zq_ev, zq_ts] <;> omega
  have q7 : zq_ev r (0, [(15, 1), (16, 1), (17, -1)]) = r 15 + r 16 - r 17 := by simp only [zq_ev, zq_ts] <;> omega
  have q8 : zq_ev r (5, [(13, -1)]) = -r 13 + 5 := zu_e5 _ _ _
  have q9 : zq_ev r (-1, [(10, -1), (13, 1)]) = -r 10 + r 13 - 1 := by simp only [zq_ev, zq_ts] <;> omega
  have q10 : zq_ev r (-10000, [(14, 1), (18, -1)]) = r 14 - r 18 - 10000 := by simp only [zq_ev, zq_ts] <;> omega
  have q11 : zq_ev r (0, [(12, 1)]) = r 12 := zu_e1 _ _
  have q12 : zq_ev r (0, [(0, 1)]) = r 0 := zu_e1 _ _
  have q13 : zq_ev r (0, [(17, 1)]) = r 17 := zu_e1 _ _
  have q14 : zq_ev r (0, [(5, 1)]) = r 5 := zu_e1 _ _
  have q15 : zq_ev r (0, [(3, 1)]) = r 3 := zu_e1 _ _
  have q16 : zq_ev r (0, [(4, 1)]) = r 4 := zu_e1 _ _
  have q17 : zq_ev r (0, [(1, 1)]) = r 1 := zu_e1 _ _
  have q18 : zq_ev r (0, [(13, 1)]) = r 13 := zu_e1 _ _
  have q19 : zq_ev r (0, [(14, 1)]) = r 14 := zu_e1 _ _
  have q20 : zq_ev r (0, [(6, 1)]) = r 6 := zu_e1 _ _
  have q21 : zq_ev r (10, []) = 10 := zu_e0 _ _
  have q22 : zq_ev r (0, [(15, 1)]) = r 15 := zu_e1 _ _
  have q23 : zq_ev r (6, [(11, 1)]) = r 11 + 6 := zu_e2 _ _ _
  have q24 : zq_ev r (0, [(16, 1)]) = r 16 := zu_e1 _ _
  have q25 : zq_ev r (0, [(18, 1)]) = r 18 := zu_e1 _ _
  obtain ⟨hT, hC, hF, hS, -, hK⟩ := hM
  have c := hC.1
  have a1 := zq_all_1 c
  rw [q0] at a1
  have c := zq_all_t c
  have a2 := zq_all_1 c
  rw [q1] at a2
  have c := zq_all_t c
  have a3 := zq_all_1 c
  rw [q2] at a3
  have c := zq_all_t c
  have a4 := zq_all_1 c
  rw [q3] at a4
  have c := zq_all_t c
  have a5 := zq_all_1 c
  rw [q4] at a5
  have c := zq_all_t c
  have a6 := zq_all_1 c
  rw [q5] at a6
  have c := zq_all_t c
  have a7 := zq_all_1 c
  rw [q6] at a7
  have c := zq_all_t c
  have a8 := zq_all_1 c
  rw [q7] at a8
  have c := zq_all_t c
  have a9 := zq_all_1 c
  rw [q8] at a9
  have c := zq_all_t c
  have a10 := zq_all_1 c
  rw [q9] at a10
  have c := zq_all_t c
  have a11 := zq_all_1 c
  rw [q10] at a11
  have k1 := zj_use x_WW (hK)
  have k1 : zl_WW (zq_ev r (0, [(12, 1)])) (zq_ev r (0, [(0, 1)])) (zq_ev r (0, [(9, 1)])) (zq_ev r (0, [(10, 1)])) (zq_ev r (0, [(11, 1)])) (zq_ev r (0, [(17, 1)])) (zq_ev r (0, [(5, 1)])) P h := k1
  simp only [q0, q11, q12, q13, q14, q2, q4] at k1
  have k2 := zj_use x_RW (zq_okX_t (hK))
  have k2 : zl_RW (zq_ev r (0, [(3, 1)])) (zq_ev r (0, [(4, 1)])) (zq_ev r (0, [(12, 1)])) (zq_ev r (0, [(10, 1)])) (zq_ev r (0, [(1, 1)])) (zq_ev r (0, [(13, 1)])) P h := k2
  simp only [q11, q15, q16, q17, q18, q4] at k2
  have k3 := zj_use x_RO (zq_okX_t (zq_okX_t (hK)))
  have k3 : zl_RO (zq_ev r (0, [(3, 1)])) (zq_ev r (0, [(4, 1)])) (zq_ev r (0, [(12, 1)])) (zq_ev r (0, [(0, 1)])) (zq_ev r (0, [(9, 1)])) (zq_ev r (0, [(14, 1)])) P h := k3
  simp only [q11, q12, q15, q16, q19, q2] at k3
  have k4 := zj_use x_DG (zq_okX_t (zq_okX_t (zq_okX_t (hK))))
  have k4 : zn_DG (zq_ev r (0, [(6, 1)])) (zq_ev r (10, [])) (zq_ev r (0, [(15, 1)])) P h := k4
  simp only [q20, q21, q22] at k4
  have k5 := zj_use x_DG (zq_okX_t (zq_okX_t (zq_okX_t (zq_okX_t (hK)))))
  have k5 : zn_DG (zq_ev r (0, [(6, 1)])) (zq_ev r (6, [(11, 1)])) (zq_ev r (0, [(16, 1)])) P h := k5
  simp only [q20, q23, q24] at k5
  have k6 := zj_use x_DG (zq_okX_t (zq_okX_t (zq_okX_t (zq_okX_t (zq_okX_t (hK))))))
  have k6 : zn_DG (zq_ev r (0, [(6, 1)])) (zq_ev r (0, [(13, 1)])) (zq_ev r (0, [(18, 1)])) P h := k6
  simp only [q18, q20, q25] at k6
  obtain t1 := zo_c3bg_l (P := P) (h := h) (S := r 0) (m := r 1) (e := r 2) (T := r 3) (f := r 4) (u := r 5) (M := r 6) (n := r 7) (Z := r 8) (d := r 9) (w := r 10) (p := r 11) (W := r 12) (a := r 13) (o := r 14) (x := r 15) (v := r 16) (y := r 17) (j := r 18) a1 a2 a3 a4 a5 a6 a7 a8 a9 a10 a11 k1 k2 k3 k4 k5 k6
  obtain ⟨rq, hr⟩ : ∃ rq : Nat → Int, (∀ i, i < 19 → rq i = r i) := ⟨r, fun i hi => rfl⟩
  have v0 : rq 0 = r 0 := hr 0 (by decide)
  have v1 : rq 1 = r 1 := hr 1 (by decide)
  have v2 : rq 2 = r 2 := hr 2 (by decide)
  have v3 : rq 3 = r 3 := hr 3 (by decide)
  have v4 : rq 4 = r 4 := hr 4 (by decide)
  have v5 : rq 5 = r 5 := hr 5 (by decide)
  have v6 : rq 6 = r 6 := hr 6 (by decide)
  have v7 : rq 7 = r 7 := hr 7 (by decide)
  have v8 : rq 8 = r 8 := hr 8 (by decide)
  have v9 : rq 9 = r 9 := hr 9 (by decide)
  have v10 : rq 10 = r 10 := hr 10 (by decide)
  have v11 : rq 11 = r 11 := hr 11 (by decide)
  have g0 : zq_ev rq (0, [(0, 1)]) = r 0 := zu_f1 v0
  have g1 : zq_ev rq (0, [(1, 1)]) = r 1 := zu_f1 v1
  have g2 : zq_ev rq (0, [(2, 1)]) = r 2 := zu_f1 v2
  have g3 : zq_ev rq (0, [(3, 1)]) = r 3 := zu_f1 v3
  have g4 : zq_ev rq (0, [(4, 1)]) = r 4 := zu_f1 v4
  have g5 : zq_ev rq (0, [(5, 1)]) = r 5 := zu_f1 v5
  have g6 : zq_ev rq (0, [(6, 1)]) = r 6 := zu_f1 v6
  have g7 : zq_ev rq (0, [(7, 1)]) = r 7 := zu_f1 v7
  have g8 : zq_ev rq (0, [(8, 1)]) = r 8 := zu_f1 v8
  have g9 : zq_ev rq (0, [(9, 1)]) = r 9 := zu_f1 v9
  have g10 : zq_ev rq (0, [(10, 1)]) = r 10 := zu_f1 v10
  have g11 : zq_ev rq (0, [(11, 1)]) = r 11 := zu_f1 v11
  have g12 : zq_ev rq (-3, []) = -3 := zu_e0 _ _
  exact ⟨_, List.mem_cons_self .., rq, hr, zq_MeS_mk rfl hT (zq_all_nil) zq_fan (zq_fan) rfl (zu_fac ((x_CM _ _ _).mpr (by show zk_CM (zq_ev rq (0, [(0, 1)])) (zq_ev rq (0, [(1, 1)])) (zq_ev rq (0, [(2, 1)])) (zq_ev rq (0, [(3, 1)])) (zq_ev rq (0, [(4, 1)])) (zq_ev rq (0, [(5, 1)])) (zq_ev rq (0, [(6, 1)])) (zq_ev rq (0, [(7, 1)])) (zq_ev rq (0, [(8, 1)])) (zq_ev rq (0, [(9, 1)])) (zq_ev rq (0, [(10, 1)])) (zq_ev rq (0, [(11, 1)])) (zq_ev rq (-3, [])) (zq_ev rq (0, [(6, 1)])) (zq_ev rq (0, [(7, 1)])) (zq_ev rq (0, [(8, 1)])) P h; simp only [g0, g1, g10, g11, g12, g2, g3, g4, g5, g6, g7, g8, g9]; exact t1)) zq_fan)⟩
noncomputable def zo_cg : zq_S × List zq_S := (([], [], [(0, [(11, 1)]), (3, [(11, -1)]), (0, [(9, 1)]), (-1, [(2, 1), (9, -1)]), (0, [(10, 1)]), (-1, [(1, 1), (10, -1)]), (0, [(15, -1), (16, -1), (17, 1)]), (0, [(15, 1), (16, 1), (17, -1)]), (5, [(13, -1)]), (-1, [(10, -1), (13, 1)]), (0, [(13, 1)]), (0, [(14, 1)]), (9999, [(14, -1), (18, -1)]), (9999, [(14, -1), (19, 1)])], [], [], [], [(236, [(0, [(12, 1)]), (0, [(0, 1)]), (0, [(9, 1)]), (0, [(10, 1)]), (0, [(11, 1)]), (0, [(17, 1)]), (0, [(5, 1)])]), (237, [(0, [(3, 1)]), (0, [(4, 1)]), (0, [(12, 1)]), (0, [(10, 1)]), (0, [(1, 1)]), (0, [(13, 1)])]), (238, [(0, [(3, 1)]), (0, [(4, 1)]), (0, [(12, 1)]), (0, [(0, 1)]), (0, [(9, 1)]), (0, [(14, 1)])]), (134, [(0, [(6, 1)]), (10, []), (0, [(15, 1)])]), (134, [(0, [(6, 1)]), (6, [(11, 1)]), (0, [(16, 1)])]), (134, [(0, [(6, 1)]), (0, [(10, 1)]), (0, [(18, 1)])]), (134, [(0, [(6, 1)]), (0, [(13, 1)]), (0, [(19, 1)])]), (312, [(0, [(6, 1)]), (0, [(10, 1)]), (0, [(13, 1)]), (0, [(14, 1)]), (0, [(20, 1)])]), (291, [(0, [(8, 1)]), (0, [(7, 1)]), (0, [(6, 1)]), (0, []), (0, [(21, 1)]), (0, [(22, 1)])])], 23), [([], [], [], [], [], [], [(304, [(0, [(0, 1)]), (0, [(1, 1)]), (0, [(2, 1)]), (0, [(3, 1)]), (0, [(4, 1)]), (0, [(5, 1)]), (0, [(6, 1)]), (0, [(7, 1)]), (0, [(8, 1)]), (0, [(9, 1)]), (0, [(10, 1)]), (0, [(11, 1)]), (0, [(13, 1)]), (0, [(20, 1)]), (0, [(21, 1)]), (0, [(22, 1)])])], 23)])
theorem zo_cg_l {P : zq_Ty} {h : zq_H} {S m e T f u M n Z d w p W a o x v y i j N q Y : Int} (a1 : 0 ≤ p) (a2 : 0 ≤ -p + 3) (a3 : 0 ≤ d) (a4 : 0 ≤ e - d - 1) (a5 : 0 ≤ w) (a6 : 0 ≤ m - w - 1) (a7 : 0 ≤ -x - v + y) (a8 : 0 ≤ x + v - y) (a9 : 0 ≤ -a + 5) (a10 : 0 ≤ -w + a - 1) (a11 : 0 ≤ a) (a12 : 0 ≤ o) (a13 : 0 ≤ -o - i + 9999) (a14 : 0 ≤ -o + j + 9999) (k1 : zl_WW W S d w p y u P h) (k2 : zl_RW T f W w m a P h) (k3 : zl_RO T f W S d o P h) (k4 : zn_DG M 10 x P h) (k5 : zn_DG M (p + 6) v P h) (k6 : zn_DG M w i P h) (k7 : zn_DG M a j P h) (k8 : zk_MV M w a o N P h) (k9 : zm_PZ Z n M 0 q Y P h) : (zk_CM S m e T f u M n Z d w p a N q Y P h) := by
  have k4 : x = zn_dg M 10 := k4
  have k5 : v = zn_dg M (p + 6) := k5
  have hy : y = zn_dg M 10 + zn_dg M (6 + p) := by rw [show 6 + p = p + 6 by omega, ← k4, ← k5]; omega
  rw [hy] at k1
  refine Or.inr ⟨by omega, by omega, Or.inr ⟨by omega, by omega, by omega, by omega, W, a, k1, k2, ?_⟩⟩
  have k6 : i = zn_dg M w := k6
  have k7 : j = zn_dg M a := k7
  exact Or.inr (Or.inr ⟨by omega, by omega, by omega, o, k3, Or.inr ⟨by omega, by omega, by omega, by omega, rfl, k8, k9.1, k9.2⟩⟩)
theorem zo_cg_ok {w : zq_Wd} (x_WW : zj_is w 236 (fun q => zl_WW (q 0) (q 1) (q 2) (q 3) (q 4) (q 5) (q 6))) (x_RW : zj_is w 237 (fun q => zl_RW (q 0) (q 1) (q 2) (q 3) (q 4) (q 5))) (x_RO : zj_is w 238 (fun q => zl_RO (q 0) (q 1) (q 2) (q 3) (q 4) (q 5))) (x_DG : zj_is w 134 (fun q => zn_DG (q 0) (q 1) (q 2))) (x_MV : zj_is w 312 (fun q => zk_MV (q 0) (q 1) (q 2) (q 3) (q 4))) (x_PZ : zj_is w 291 (fun q => zm_PZ (q 0) (q 1) (q 2) (q 3) (q 4) (q 5))) (x_CM : zj_is w 304 (fun q => zk_CM (q 0) (q 1) (q 2) (q 3) (q 4) (q 5) (q 6) (q 7) (q 8) (q 9) (q 10) (q 11) (q 12) (q 13) (q 14) (q 15))) : zq_okG1 w zo_cg := by
  refine ⟨rfl, rfl, zu_fac ⟨rfl, by decide⟩ zq_fan, ?_⟩
  intro r P h H hM
  have q0 : zq_ev r (0, [(11, 1)]) = r 11 := zu_e1 _ _
  have q1 : zq_ev r (3, [(11, -1)]) = -r 11 + 3 := zu_e5 _ _ _
  have q2 : zq_ev r (0, [(9, 1)]) = r 9 := zu_e1 _ _
  have q3 : zq_ev r (-1, [(2, 1), (9, -1)]) = r 2 - r 9 - 1 := by simp only [zq_ev, zq_ts] <;> omega
  have q4 : zq_ev r (0, [(10, 1)]) = r 10 := zu_e1 _ _
  have q5 : zq_ev r (-1, [(1, 1), (10, -1)]) = r 1 - r 10 - 1 := by simp only [zq_ev, zq_ts] <;> omega
  have q6 : zq_ev r (0, [(15, -1), (16, -1), (17, 1)]) = -r 15 - r 16 + r 17 := by simp only [zq_ev, zq_ts] <;> omega
  have q7 : zq_ev r (0, [(15, 1), (16, 1), (17, -1)]) = r 15 + r 16 - r 17 := by simp only [zq_ev, zq_ts] <;> omega
  have q8 : zq_ev r (5, [(13, -1)]) = -r 13 + 5 := zu_e5 _ _ _
  have q9 : zq_ev r (-1, [(10, -1), (13, 1)]) = -r 10 + r 13 - 1 := by simp only [zq_ev, zq_ts] <;> omega
  have q10 : zq_ev r (0, [(13, 1)]) = r 13 := zu_e1 _ _
  have q11 : zq_ev r (0, [(14, 1)]) = r 14 := zu_e1 _ _
  have q12 : zq_ev r (9999, [(14, -1), (18, -1)]) = -r 14 - r 18 + 9999 := by simp only [zq_ev, zq_ts] <;> omega
  have q13 : zq_ev r (9999, [(14, -1), (19, 1)]) = -r 14 + r 19 + 9999 := by simp only [zq_ev, zq_ts] <;> omega
  have q14 : zq_ev r (0, [(12, 1)]) = r 12 := zu_e1 _ _
  have q15 : zq_ev r (0, [(0, 1)]) = r 0 := zu_e1 _ _
  have q16 : zq_ev r (0, [(17, 1)]) = r 17 := zu_e1 _ _
  have q17 : zq_ev r (0, [(5, 1)]) = r 5 := zu_e1 _ _
  have q18 : zq_ev r (0, [(3, 1)]) = r 3 := zu_e1 _ _
  have q19 : zq_ev r (0, [(4, 1)]) = r 4 := zu_e1 _ _
  have q20 : zq_ev r (0, [(1, 1)]) = r 1 := zu_e1 _ _
  have q21 : zq_ev r (0, [(6, 1)]) = r 6 := zu_e1 _ _
  have q22 : zq_ev r (10, []) = 10 := zu_e0 _ _
  have q23 : zq_ev r (0, [(15, 1)]) = r 15 := zu_e1 _ _
  have q24 : zq_ev r (6, [(11, 1)]) = r 11 + 6 := zu_e2 _ _ _
  have q25 : zq_ev r (0, [(16, 1)]) = r 16 := zu_e1 _ _
  have q26 : zq_ev r (0, [(18, 1)]) = r 18 := zu_e1 _ _
  have q27 : zq_ev r (0, [(19, 1)]) = r 19 := zu_e1 _ _
  have q28 : zq_ev r (0, [(20, 1)]) = r 20 := zu_e1 _ _
  have q29 : zq_ev r (0, [(8, 1)]) = r 8 := zu_e1 _ _
  have q30 : zq_ev r (0, [(7, 1)]) = r 7 := zu_e1 _ _
  have q31 : zq_ev r (0, []) = 0 := zu_e0 _ _
  have q32 : zq_ev r (0, [(21, 1)]) = r 21 := zu_e1 _ _
  have q33 : zq_ev r (0, [(22, 1)]) = r 22 := zu_e1 _ _
  obtain ⟨hT, hC, hF, hS, -, hK⟩ := hM
  have c := hC.1
  have a1 := zq_all_1 c
  rw [q0] at a1
  have c := zq_all_t c
  have a2 := zq_all_1 c
  rw [q1] at a2
  have c := zq_all_t c
  have a3 := zq_all_1 c
  rw [q2] at a3
  have c := zq_all_t c
  have a4 := zq_all_1 c
  rw [q3] at a4
  have c := zq_all_t c
  have a5 := zq_all_1 c
  rw [q4] at a5
  have c := zq_all_t c
  have a6 := zq_all_1 c
  rw [q5] at a6
  have c := zq_all_t c
  have a7 := zq_all_1 c
  rw [q6] at a7
  have c := zq_all_t c
  have a8 := zq_all_1 c
  rw [q7] at a8
  have c := zq_all_t c
  have a9 := zq_all_1 c
  rw [q8] at a9
  have c := zq_all_t c
  have a10 := zq_all_1 c
  rw [q9] at a10
  have c := zq_all_t c
  have a11 := zq_all_1 c
  rw [q10] at a11
  have c := zq_all_t c
  have a12 := zq_all_1 c
  rw [q11] at a12
  have c := zq_all_t c
  have a13 := zq_all_1 c
  rw [q12] at a13
  have c := zq_all_t c
  have a14 := zq_all_1 c
  rw [q13] at a14
  have k1 := zj_use x_WW (hK)
  have k1 : zl_WW (zq_ev r (0, [(12, 1)])) (zq_ev r (0, [(0, 1)])) (zq_ev r (0, [(9, 1)])) (zq_ev r (0, [(10, 1)])) (zq_ev r (0, [(11, 1)])) (zq_ev r (0, [(17, 1)])) (zq_ev r (0, [(5, 1)])) P h := k1
  simp only [q0, q14, q15, q16, q17, q2, q4] at k1
  have k2 := zj_use x_RW (zq_okX_t (hK))
  have k2 : zl_RW (zq_ev r (0, [(3, 1)])) (zq_ev r (0, [(4, 1)])) (zq_ev r (0, [(12, 1)])) (zq_ev r (0, [(10, 1)])) (zq_ev r (0, [(1, 1)])) (zq_ev r (0, [(13, 1)])) P h := k2
  simp only [q10, q14, q18, q19, q20, q4] at k2
  have k3 := zj_use x_RO (zq_okX_t (zq_okX_t (hK)))
  have k3 : zl_RO (zq_ev r (0, [(3, 1)])) (zq_ev r (0, [(4, 1)])) (zq_ev r (0, [(12, 1)])) (zq_ev r (0, [(0, 1)])) (zq_ev r (0, [(9, 1)])) (zq_ev r (0, [(14, 1)])) P h := k3
  simp only [q11, q14, q15, q18, q19, q2] at k3
  have k4 := zj_use x_DG (zq_okX_t (zq_okX_t (zq_okX_t (hK))))
  have k4 : zn_DG (zq_ev r (0, [(6, 1)])) (zq_ev r (10, [])) (zq_ev r (0, [(15, 1)])) P h := k4
  simp only [q21, q22, q23] at k4
  have k5 := zj_use x_DG (zq_okX_t (zq_okX_t (zq_okX_t (zq_okX_t (hK)))))
  have k5 : zn_DG (zq_ev r (0, [(6, 1)])) (zq_ev r (6, [(11, 1)])) (zq_ev r (0, [(16, 1)])) P h := k5
  simp only [q21, q24, q25] at k5
  have k6 := zj_use x_DG (zq_okX_t (zq_okX_t (zq_okX_t (zq_okX_t (zq_okX_t (hK))))))
  have k6 : zn_DG (zq_ev r (0, [(6, 1)])) (zq_ev r (0, [(10, 1)])) (zq_ev r (0, [(18, 1)])) P h := k6
  simp only [q21, q26, q4] at k6
  have k7 := zj_use x_DG (zq_okX_t (zq_okX_t (zq_okX_t (zq_okX_t (zq_okX_t (zq_okX_t (hK)))))))
  have k7 : zn_DG (zq_ev r (0, [(6, 1)])) (zq_ev r (0, [(13, 1)])) (zq_ev r (0, [(19, 1)])) P h := k7
  simp only [q10, q21, q27] at k7
  have k8 := zj_use x_MV (zq_okX_t (zq_okX_t (zq_okX_t (zq_okX_t (zq_okX_t (zq_okX_t (zq_okX_t (hK))))))))
  have k8 : zk_MV (zq_ev r (0, [(6, 1)])) (zq_ev r (0, [(10, 1)])) (zq_ev r (0, [(13, 1)])) (zq_ev r (0, [(14, 1)])) (zq_ev r (0, [(20, 1)])) P h := k8
  simp only [q10, q11, q21, q28, q4] at k8
  have k9 := zj_use x_PZ (zq_okX_t (zq_okX_t (zq_okX_t (zq_okX_t (zq_okX_t (zq_okX_t (zq_okX_t (zq_okX_t (hK)))))))))
  have k9 : zm_PZ (zq_ev r (0, [(8, 1)])) (zq_ev r (0, [(7, 1)])) (zq_ev r (0, [(6, 1)])) (zq_ev r (0, [])) (zq_ev r (0, [(21, 1)])) (zq_ev r (0, [(22, 1)])) P h := k9
  simp only [q21, q29, q30, q31, q32, q33] at k9
  obtain t1 := zo_cg_l (P := P) (h := h) (S := r 0) (m := r 1) (e := r 2) (T := r 3) (f := r 4) (u := r 5) (M := r 6) (n := r 7) (Z := r 8) (d := r 9) (w := r 10) (p := r 11) (W := r 12) (a := r 13) (o := r 14) (x := r 15) (v := r 16) (y := r 17) (i := r 18) (j := r 19) (N := r 20) (q := r 21) (Y := r 22) a1 a2 a3 a4 a5 a6 a7 a8 a9 a10 a11 a12 a13 a14 k1 k2 k3 k4 k5 k6 k7 k8 k9
  obtain ⟨rq, hr⟩ : ∃ rq : Nat → Int, (∀ i, i < 23 → rq i = r i) := ⟨r, fun i hi => rfl⟩
  have v0 : rq 0 = r 0 := hr 0 (by decide)
  have v1 : rq 1 = r 1 := hr 1 (by decide)
  have v2 : rq 2 = r 2 := hr 2 (by decide)
  have v3 : rq 3 = r 3 := hr 3 (by decide)
  have v4 : rq 4 = r 4 := hr 4 (by decide)
  have v5 : rq 5 = r 5 := hr 5 (by decide)
  have v6 : rq 6 = r 6 := hr 6 (by decide)
  have v7 : rq 7 = r 7 := hr 7 (by decide)
  have v8 : rq 8 = r 8 := hr 8 (by decide)
  have v9 : rq 9 = r 9 := hr 9 (by decide)
  have v10 : rq 10 = r 10 := hr 10 (by decide)
  have v11 : rq 11 = r 11 := hr 11 (by decide)
  have v13 : rq 13 = r 13 := hr 13 (by decide)
  have v20 : rq 20 = r 20 := hr 20 (by decide)
  have v21 : rq 21 = r 21 := hr 21 (by decide)
  have v22 : rq 22 = r 22 := hr 22 (by decide)
  have g0 : zq_ev rq (0, [(0, 1)]) = r 0 := zu_f1 v0
  have g1 : zq_ev rq (0, [(1, 1)]) = r 1 := zu_f1 v1
  have g2 : zq_ev rq (0, [(2, 1)]) = r 2 := zu_f1 v2
  have g3 : zq_ev rq (0, [(3, 1)]) = r 3 := zu_f1 v3
  have g4 : zq_ev rq (0, [(4, 1)]) = r 4 := zu_f1 v4
  have g5 : zq_ev rq (0, [(5, 1)]) = r 5 := zu_f1 v5
  have g6 : zq_ev rq (0, [(6, 1)]) = r 6 := zu_f1 v6
  have g7 : zq_ev rq (0, [(7, 1)]) = r 7 := zu_f1 v7
  have g8 : zq_ev rq (0, [(8, 1)]) = r 8 := zu_f1 v8
  have g9 : zq_ev rq (0, [(9, 1)]) = r 9 := zu_f1 v9
  have g10 : zq_ev rq (0, [(10, 1)]) = r 10 := zu_f1 v10
  have g11 : zq_ev rq (0, [(11, 1)]) = r 11 := zu_f1 v11
  have g12 : zq_ev rq (0, [(13, 1)]) = r 13 := zu_f1 v13
  have g13 : zq_ev rq (0, [(20, 1)]) = r 20 := zu_f1 v20
  have g14 : zq_ev rq (0, [(21, 1)]) = r 21 := zu_f1 v21
  have g15 : zq_ev rq (0, [(22, 1)]) = r 22 := zu_f1 v22
  exact ⟨_, List.mem_cons_self .., rq, hr, zq_MeS_mk rfl hT (zq_all_nil) zq_fan (zq_fan) rfl (zu_fac ((x_CM _ _ _).mpr (by show zk_CM (zq_ev rq (0, [(0, 1)])) (zq_ev rq (0, [(1, 1)])) (zq_ev rq (0, [(2, 1)])) (zq_ev rq (0, [(3, 1)])) (zq_ev rq (0, [(4, 1)])) (zq_ev rq (0, [(5, 1)])) (zq_ev rq (0, [(6, 1)])) (zq_ev rq (0, [(7, 1)])) (zq_ev rq (0, [(8, 1)])) (zq_ev rq (0, [(9, 1)])) (zq_ev rq (0, [(10, 1)])) (zq_ev rq (0, [(11, 1)])) (zq_ev rq (0, [(13, 1)])) (zq_ev rq (0, [(20, 1)])) (zq_ev rq (0, [(21, 1)])) (zq_ev rq (0, [(22, 1)])) P h; simp only [g0, g1, g10, g11, g12, g13, g14, g15, g2, g3, g4, g5, g6, g7, g8, g9]; exact t1)) zq_fan)⟩
noncomputable def zo_u0 : zq_S × List zq_S := (([], [], [(0, [(1, -1)])], [], [], [], [], 3), [([], [], [], [], [], [], [(305, [(0, [(0, 1)]), (0, [(1, 1)]), (0, [(2, 1)]), (-3, []), (0, [(0, 1)]), (0, [(1, 1)])])], 3)])
theorem zo_u0_l {P : zq_Ty} {h : zq_H} {M n Z : Int} (a1 : 0 ≤ -n) : (zk_UN M n Z (-3) M n P h) := by
  exact Or.inl ⟨by omega, rfl, rfl, rfl⟩
theorem zo_u0_ok {w : zq_Wd} (x_UN : zj_is w 305 (fun q => zk_UN (q 0) (q 1) (q 2) (q 3) (q 4) (q 5))) : zq_okG1 w zo_u0 := by
  refine ⟨rfl, rfl, zu_fac ⟨rfl, by decide⟩ zq_fan, ?_⟩
  intro r P h H hM
  have q0 : zq_ev r (0, [(1, -1)]) = -r 1 := zu_e4 _ _
  obtain ⟨hT, hC, hF, hS, -, hK⟩ := hM
  have c := hC.1
  have a1 := zq_all_1 c
  rw [q0] at a1
  obtain t1 := zo_u0_l (P := P) (h := h) (M := r 0) (n := r 1) (Z := r 2) a1
  obtain ⟨rq, hr⟩ : ∃ rq : Nat → Int, (∀ i, i < 3 → rq i = r i) := ⟨r, fun i hi => rfl⟩
  have v0 : rq 0 = r 0 := hr 0 (by decide)
  have v1 : rq 1 = r 1 := hr 1 (by decide)
  have v2 : rq 2 = r 2 := hr 2 (by decide)
  have g0 : zq_ev rq (0, [(0, 1)]) = r 0 := zu_f1 v0
  have g1 : zq_ev rq (0, [(1, 1)]) = r 1 := zu_f1 v1
  have g2 : zq_ev rq (0, [(2, 1)]) = r 2 := zu_f1 v2
  have g3 : zq_ev rq (-3, []) = -3 := zu_e0 _ _
  exact ⟨_, List.mem_cons_self .., rq, hr, zq_MeS_mk rfl hT (zq_all_nil) zq_fan (zq_fan) rfl (zu_fac ((x_UN _ _ _).mpr (by show zk_UN (zq_ev rq (0, [(0, 1)])) (zq_ev rq (0, [(1, 1)])) (zq_ev rq (0, [(2, 1)])) (zq_ev rq (-3, [])) (zq_ev rq (0, [(0, 1)])) (zq_ev rq (0, [(1, 1)])) P h; simp only [g0, g1, g2, g3]; exact t1)) zq_fan)⟩
noncomputable def zo_uw0 : zq_S × List zq_S := (([], [], [(-1, [(4, 1)]), (-2, [(7, 1)]), (2, [(7, -1)]), (0, [(8, 1)]), (3, [(8, -1)])], [], [((0, [(0, 1)]), (-1, [(4, 1)]), (0, [(7, 1)])), ((0, [(1, 1)]), (-1, [(4, 1)]), (0, [(8, 1)])), ((0, [(2, 1)]), (-1, [(4, 1)]), (0, [(9, 1)])), ((0, [(3, 1)]), (-1, [(4, 1)]), (0, [(10, 1)]))], [], [(293, [(0, [(0, 1)]), (0, [(1, 1)]), (0, [(2, 1)]), (0, [(3, 1)]), (0, [(4, 1)]), (0, [(5, 1)]), (0, [(6, 1)])]), (290, [(0, [(5, 1)]), (6, [(8, 1)]), (0, [(9, 1)]), (0, [(11, 1)])])], 12), [([], [], [], [], [], [], [(293, [(0, [(0, 1)]), (0, [(1, 1)]), (0, [(2, 1)]), (0, [(3, 1)]), (-1, [(4, 1)]), (0, [(11, 1)]), (0, [(6, 1)])]), (305, [(0, [(5, 1)]), (0, [(4, 1)]), (0, [(6, 1)]), (0, [(7, 1)]), (0, [(11, 1)]), (-1, [(4, 1)])])], 12)])
theorem zo_uw0_l {P : zq_Ty} {h : zq_H} {jk jo jt jm n M Z k o t m N : Int} (a1 : 0 ≤ n - 1) (a2 : 0 ≤ k - 2) (a3 : 0 ≤ -k + 2) (a4 : 0 ≤ o) (a5 : 0 ≤ -o + 3) (s1 : 0 ≤ jk ∧ P (jk).toNat ≠ none ∧ h (jk).toNat (n - 1) = k) (s2 : 0 ≤ jo ∧ P (jo).toNat ≠ none ∧ h (jo).toNat (n - 1) = o) (s3 : 0 ≤ jt ∧ P (jt).toNat ≠ none ∧ h (jt).toNat (n - 1) = t) (s4 : 0 ≤ jm ∧ P (jm).toNat ≠ none ∧ h (jm).toNat (n - 1) = m) (k1 : zk_ZC 35 jk jo jt jm n M Z P h) (k2 : zm_UM M (o + 6) t N P h) : (zk_ZC 35 jk jo jt jm (n - 1) N Z P h ∧ zk_UN M n Z k N (n - 1) P h) := by
  obtain ⟨w1, w2, w3, w4, n0, n1, w5⟩ := k1
  obtain ⟨e1, e2⟩ := w5 (n - 1) (by omega) (by omega)
  rw [s1.2.2] at e1
  rw [s1.2.2, s2.2.2, s3.2.2, s4.2.2] at e2
  have en : ∀ j : Int, zk_N Z n M (n - 1) j = zn_dg M j := fun j => by unfold zk_N; rw [if_neg (by omega)]
  have hN : N = zm_pk (fun j => zn_dg Z (12 * (n - 1) + j)) 11 := by
    rw [show N = zm_st M (o + 6) t from k2]
    refine zm_pk_cg 11 (fun j p q => ?_)
    show (if j = o + 6 then t else zn_dg M j) = zn_dg Z (12 * (n - 1) + j)
    rw [e2 j p (by omega)]
    unfold zk_U
    rw [if_pos (show k = 2 by omega), en j]
    by_cases e : j = o + 6
    · rw [if_pos e, if_pos (show j = 6 + o by omega)]
    · rw [if_neg e, if_neg (show ¬ j = 6 + o by omega)]
  have dN : ∀ j : Int, 0 ≤ j → j < 11 → zn_dg N j = zn_dg Z (12 * (n - 1) + j) := fun j p q => by rw [hN]; exact zm_pk_dg 11 j (fun i _ _ => zn_dg_in _ _) p (by omega)
  refine ⟨⟨w1, w2, w3, w4, by omega, by omega, fun i x y => ?_⟩, Or.inr ⟨by omega, e1, hN, rfl⟩⟩
  obtain ⟨f1, f2⟩ := w5 i x (by omega)
  refine ⟨f1, fun j p q => ?_⟩
  rw [f2 j p q]
  have em : ∀ j : Int, 0 ≤ j → j < 11 → zk_N Z n M i j = zk_N Z (n - 1) N i j := fun j p q => by
    unfold zk_N
    rw [if_pos (by omega)]
    by_cases e : i + 1 < n - 1
    · rw [if_pos e]
    · rw [if_neg e, dN j p q, show i + 1 = n - 1 by omega]
  unfold zk_U
  rw [em j p q, em 10 (by omega) (by omega)]
theorem zo_uw0_ok {w : zq_Wd} (x_ZC0 : zj_is w 293 (fun q => zk_ZC 35 (q 0) (q 1) (q 2) (q 3) (q 4) (q 5) (q 6))) (x_UM : zj_is w 290 (fun q => zm_UM (q 0) (q 1) (q 2) (q 3))) (x_UN : zj_is w 305 (fun q => zk_UN (q 0) (q 1) (q 2) (q 3) (q 4) (q 5))) : zq_okG1 w zo_uw0 := by
  refine ⟨rfl, rfl, zu_fac ⟨rfl, by decide⟩ zq_fan, ?_⟩
  intro r P h H hM
  have q0 : zq_ev r (-1, [(4, 1)]) = r 4 - 1 := zu_e3 _ _ _
  have q1 : zq_ev r (-2, [(7, 1)]) = r 7 - 2 := zu_e3 _ _ _
  have q2 : zq_ev r (2, [(7, -1)]) = -r 7 + 2 := zu_e5 _ _ _
  have q3 : zq_ev r (0, [(8, 1)]) = r 8 := zu_e1 _ _
  have q4 : zq_ev r (3, [(8, -1)]) = -r 8 + 3 := zu_e5 _ _ _
  have q5 : zq_ev r (0, [(0, 1)]) = r 0 := zu_e1 _ _
  have q6 : zq_ev r (0, [(7, 1)]) = r 7 := zu_e1 _ _
  have q7 : zq_ev r (0, [(1, 1)]) = r 1 := zu_e1 _ _
  have q8 : zq_ev r (0, [(2, 1)]) = r 2 := zu_e1 _ _
  have q9 : zq_ev r (0, [(9, 1)]) = r 9 := zu_e1 _ _
  have q10 : zq_ev r (0, [(3, 1)]) = r 3 := zu_e1 _ _
  have q11 : zq_ev r (0, [(10, 1)]) = r 10 := zu_e1 _ _
  have q12 : zq_ev r (0, [(4, 1)]) = r 4 := zu_e1 _ _
  have q13 : zq_ev r (0, [(5, 1)]) = r 5 := zu_e1 _ _
  have q14 : zq_ev r (0, [(6, 1)]) = r 6 := zu_e1 _ _
  have q15 : zq_ev r (6, [(8, 1)]) = r 8 + 6 := zu_e2 _ _ _
  have q16 : zq_ev r (0, [(11, 1)]) = r 11 := zu_e1 _ _
  obtain ⟨hT, hC, hF, hS, -, hK⟩ := hM
  have c := hC.1
  have a1 := zq_all_1 c
  rw [q0] at a1
  have c := zq_all_t c
  have a2 := zq_all_1 c
  rw [q1] at a2
  have c := zq_all_t c
  have a3 := zq_all_1 c
  rw [q2] at a3
  have c := zq_all_t c
  have a4 := zq_all_1 c
  rw [q3] at a4
  have c := zq_all_t c
  have a5 := zq_all_1 c
  rw [q4] at a5
  have s1 := zq_okS_1 (hS)
  simp only [q0, q5, q6] at s1
  have s2 := zq_okS_1 (zq_okS_t (hS))
  simp only [q0, q3, q7] at s2
  have s3 := zq_okS_1 (zq_okS_t (zq_okS_t (hS)))
  simp only [q0, q8, q9] at s3
  have s4 := zq_okS_1 (zq_okS_t (zq_okS_t (zq_okS_t (hS))))
  simp only [q0, q10, q11] at s4
  have k1 := zj_use x_ZC0 (hK)
  have k1 : zk_ZC 35 (zq_ev r (0, [(0, 1)])) (zq_ev r (0, [(1, 1)])) (zq_ev r (0, [(2, 1)])) (zq_ev r (0, [(3, 1)])) (zq_ev r (0, [(4, 1)])) (zq_ev r (0, [(5, 1)])) (zq_ev r (0, [(6, 1)])) P h := k1
  simp only [q10, q12, q13, q14, q5, q7, q8] at k1
  have k2 := zj_use x_UM (zq_okX_t (hK))
  have k2 : zm_UM (zq_ev r (0, [(5, 1)])) (zq_ev r (6, [(8, 1)])) (zq_ev r (0, [(9, 1)])) (zq_ev r (0, [(11, 1)])) P h := k2
  simp only [q13, q15, q16, q9] at k2
  obtain ⟨t1, t2⟩ := zo_uw0_l (P := P) (h := h) (jk := r 0) (jo := r 1) (jt := r 2) (jm := r 3) (n := r 4) (M := r 5) (Z := r 6) (k := r 7) (o := r 8) (t := r 9) (m := r 10) (N := r 11) a1 a2 a3 a4 a5 s1 s2 s3 s4 k1 k2
  obtain ⟨rq, hr⟩ : ∃ rq : Nat → Int, (∀ i, i < 12 → rq i = r i) := ⟨r, fun i hi => rfl⟩
  have v0 : rq 0 = r 0 := hr 0 (by decide)
  have v1 : rq 1 = r 1 := hr 1 (by decide)
  have v2 : rq 2 = r 2 := hr 2 (by decide)
  have v3 : rq 3 = r 3 := hr 3 (by decide)
  have v4 : rq 4 = r 4 := hr 4 (by decide)
  have v5 : rq 5 = r 5 := hr 5 (by decide)
  have v6 : rq 6 = r 6 := hr 6 (by decide)
  have v7 : rq 7 = r 7 := hr 7 (by decide)
  have v11 : rq 11 = r 11 := hr 11 (by decide)
  have g0 : zq_ev rq (0, [(5, 1)]) = r 5 := zu_f1 v5
  have g1 : zq_ev rq (0, [(4, 1)]) = r 4 := zu_f1 v4
  have g2 : zq_ev rq (0, [(6, 1)]) = r 6 := zu_f1 v6
  have g3 : zq_ev rq (0, [(7, 1)]) = r 7 := zu_f1 v7
  have g4 : zq_ev rq (0, [(11, 1)]) = r 11 := zu_f1 v11
  have g5 : zq_ev rq (-1, [(4, 1)]) = r 4 - 1 := zu_f3 v4 _
  have g6 : zq_ev rq (0, [(0, 1)]) = r 0 := zu_f1 v0
  have g7 : zq_ev rq (0, [(1, 1)]) = r 1 := zu_f1 v1
  have g8 : zq_ev rq (0, [(2, 1)]) = r 2 := zu_f1 v2
  have g9 : zq_ev rq (0, [(3, 1)]) = r 3 := zu_f1 v3
  exact ⟨_, List.mem_cons_self .., rq, hr, zq_MeS_mk rfl hT (zq_all_nil) zq_fan (zq_fan) rfl (zu_fac ((x_ZC0 _ _ _).mpr (by show zk_ZC 35 (zq_ev rq (0, [(0, 1)])) (zq_ev rq (0, [(1, 1)])) (zq_ev rq (0, [(2, 1)])) (zq_ev rq (0, [(3, 1)])) (zq_ev rq (-1, [(4, 1)])) (zq_ev rq (0, [(11, 1)])) (zq_ev rq (0, [(6, 1)])) P h; simp only [g2, g4, g5, g6, g7, g8, g9]; exact t1)) (zu_fac ((x_UN _ _ _).mpr (by show zk_UN (zq_ev rq (0, [(5, 1)])) (zq_ev rq (0, [(4, 1)])) (zq_ev rq (0, [(6, 1)])) (zq_ev rq (0, [(7, 1)])) (zq_ev rq (0, [(11, 1)])) (zq_ev rq (-1, [(4, 1)])) P h; simp only [g0, g1, g2, g3, g4, g5]; exact t2)) zq_fan))⟩
noncomputable def zo_up0 : zq_S × List zq_S := (([], [], [(-1, [(4, 1)]), (-3, [(7, 1)]), (3, [(7, -1)]), (1, [(12, -1), (13, 1)]), (-1, [(12, 1), (13, -1)])], [], [((0, [(0, 1)]), (-1, [(4, 1)]), (0, [(7, 1)])), ((0, [(1, 1)]), (-1, [(4, 1)]), (0, [(8, 1)])), ((0, [(2, 1)]), (-1, [(4, 1)]), (0, [(9, 1)])), ((0, [(3, 1)]), (-1, [(4, 1)]), (0, [(10, 1)]))], [], [(293, [(0, [(0, 1)]), (0, [(1, 1)]), (0, [(2, 1)]), (0, [(3, 1)]), (0, [(4, 1)]), (0, [(5, 1)]), (0, [(6, 1)])]), (290, [(0, [(5, 1)]), (10, []), (0, [(13, 1)]), (0, [(11, 1)])]), (134, [(0, [(5, 1)]), (10, []), (0, [(12, 1)])])], 14), [([], [], [], [], [], [], [(293, [(0, [(0, 1)]), (0, [(1, 1)]), (0, [(2, 1)]), (0, [(3, 1)]), (-1, [(4, 1)]), (0, [(11, 1)]), (0, [(6, 1)])]), (305, [(0, [(5, 1)]), (0, [(4, 1)]), (0, [(6, 1)]), (0, [(7, 1)]), (0, [(11, 1)]), (-1, [(4, 1)])])], 14)])
theorem zo_up0_l {P : zq_Ty} {h : zq_H} {jk jo jt jm n M Z k o t m N x v : Int} (a1 : 0 ≤ n - 1) (a2 : 0 ≤ k - 3) (a3 : 0 ≤ -k + 3) (a4 : 0 ≤ -x + v + 1) (a5 : 0 ≤ x - v - 1) (s1 : 0 ≤ jk ∧ P (jk).toNat ≠ none ∧ h (jk).toNat (n - 1) = k) (s2 : 0 ≤ jo ∧ P (jo).toNat ≠ none ∧ h (jo).toNat (n - 1) = o) (s3 : 0 ≤ jt ∧ P (jt).toNat ≠ none ∧ h (jt).toNat (n - 1) = t) (s4 : 0 ≤ jm ∧ P (jm).toNat ≠ none ∧ h (jm).toNat (n - 1) = m) (k1 : zk_ZC 35 jk jo jt jm n M Z P h) (k2 : zm_UM M 10 v N P h) (k3 : zn_DG M 10 x P h) : (zk_ZC 35 jk jo jt jm (n - 1) N Z P h ∧ zk_UN M n Z k N (n - 1) P h) := by
  obtain ⟨w1, w2, w3, w4, n0, n1, w5⟩ := k1
  obtain ⟨e1, e2⟩ := w5 (n - 1) (by omega) (by omega)
  rw [s1.2.2] at e1
  rw [s1.2.2, s2.2.2, s3.2.2, s4.2.2] at e2
  have en : ∀ j : Int, zk_N Z n M (n - 1) j = zn_dg M j := fun j => by unfold zk_N; rw [if_neg (by omega)]
  have hN : N = zm_pk (fun j => zn_dg Z (12 * (n - 1) + j)) 11 := by
    rw [show N = zm_st M 10 v from k2]
    refine zm_pk_cg 11 (fun j p q => ?_)
    have k3 : x = zn_dg M 10 := k3
    show (if j = 10 then v else zn_dg M j) = zn_dg Z (12 * (n - 1) + j)
    rw [e2 j p (by omega)]
    unfold zk_U
    rw [if_neg (show ¬ k = 2 by omega), if_pos (show k = 3 by omega), en j, en 10]
    by_cases e : j = 10
    · rw [if_pos e, if_pos e, ← k3]; omega
    · rw [if_neg e, if_neg e]
  have dN : ∀ j : Int, 0 ≤ j → j < 11 → zn_dg N j = zn_dg Z (12 * (n - 1) + j) := fun j p q => by rw [hN]; exact zm_pk_dg 11 j (fun i _ _ => zn_dg_in _ _) p (by omega)
  refine ⟨⟨w1, w2, w3, w4, by omega, by omega, fun i x y => ?_⟩, Or.inr ⟨by omega, e1, hN, rfl⟩⟩
  obtain ⟨f1, f2⟩ := w5 i x (by omega)
  refine ⟨f1, fun j p q => ?_⟩
  rw [f2 j p q]
  have em : ∀ j : Int, 0 ≤ j → j < 11 → zk_N Z n M i j = zk_N Z (n - 1) N i j := fun j p q => by
    unfold zk_N
    rw [if_pos (by omega)]
    by_cases e : i + 1 < n - 1
    · rw [if_pos e]
    · rw [if_neg e, dN j p q, show i + 1 = n - 1 by omega]
  unfold zk_U
  rw [em j p q, em 10 (by omega) (by omega)]
theorem zo_up0_ok {w : zq_Wd} (x_ZC0 : zj_is w 293 (fun q => zk_ZC 35 (q 0) (q 1) (q 2) (q 3) (q 4) (q 5) (q 6))) (x_UM : zj_is w 290 (fun q => zm_UM (q 0) (q 1) (q 2) (q 3))) (x_DG : zj_is w 134 (fun q => zn_DG (q 0) (q 1) (q 2))) (x_UN : zj_is w 305 (fun q => zk_UN (q 0) (q 1) (q 2) (q 3) (q 4) (q 5))) : zq_okG1 w zo_up0 := by
  refine ⟨rfl, rfl, zu_fac ⟨rfl, by decide⟩ zq_fan, ?_⟩
  intro r P h H hM
  have q0 : zq_ev r (-1, [(4, 1)]) = r 4 - 1 := zu_e3 _ _ _
  have q1 : zq_ev r (-3, [(7, 1)]) = r 7 - 3 := zu_e3 _ _ _
  have q2 : zq_ev r (3, [(7, -1)]) = -r 7 + 3 := zu_e5 _ _ _
  have q3 : zq_ev r (1, [(12, -1), (13, 1)]) = -r 12 + r 13 + 1 := by simp only [zq_ev, zq_ts] <;> omega
  have q4 : zq_ev r (-1, [(12, 1), (13, -1)]) = r 12 - r 13 - 1 := by simp only [zq_ev, zq_ts] <;> omega
  have q5 : zq_ev r (0, [(0, 1)]) = r 0 := zu_e1 _ _
  have q6 : zq_ev r (0, [(7, 1)]) = r 7 := zu_e1 _ _
  have q7 : zq_ev r (0, [(1, 1)]) = r 1 := zu_e1 _ _
  have q8 : zq_ev r (0, [(8, 1)]) = r 8 := zu_e1 _ _
  have q9 : zq_ev r (0, [(2, 1)]) = r 2 := zu_e1 _ _
  have q10 : zq_ev r (0, [(9, 1)]) = r 9 := zu_e1 _ _
  have q11 : zq_ev r (0, [(3, 1)]) = r 3 := zu_e1 _ _
  have q12 : zq_ev r (0, [(10, 1)]) = r 10 := zu_e1 _ _
  have q13 : zq_ev r (0, [(4, 1)]) = r 4 := zu_e1 _ _
  have q14 : zq_ev r (0, [(5, 1)]) = r 5 := zu_e1 _ _
  have q15 : zq_ev r (0, [(6, 1)]) = r 6 := zu_e1 _ _
  have q16 : zq_ev r (10, []) = 10 := zu_e0 _ _
  have q17 : zq_ev r (0, [(13, 1)]) = r 13 := zu_e1 _ _
  have q18 : zq_ev r (0, [(11, 1)]) = r 11 := zu_e1 _ _
  have q19 : zq_ev r (0, [(12, 1)]) = r 12 := zu_e1 _ _
  obtain ⟨hT, hC, hF, hS, -, hK⟩ := hM
  have c := hC.1
  have a1 := zq_all_1 c
  rw [q0] at a1
  have c := zq_all_t c
  have a2 := zq_all_1 c
  rw [q1] at a2
  have c := zq_all_t c
  have a3 := zq_all_1 c
  rw [q2] at a3
  have c := zq_all_t c
  have a4 := zq_all_1 c
  rw [q3] at a4
  have c := zq_all_t c
  have a5 := zq_all_1 c
  rw [q4] at a5
  have s1 := zq_okS_1 (hS)
  simp only [q0, q5, q6] at s1
  have s2 := zq_okS_1 (zq_okS_t (hS))
  simp only [q0, q7, q8] at s2
  have s3 := zq_okS_1 (zq_okS_t (zq_okS_t (hS)))
  simp only [q0, q10, q9] at s3
  have s4 := zq_okS_1 (zq_okS_t (zq_okS_t (zq_okS_t (hS))))
  simp only [q0, q11, q12] at s4
  have k1 := zj_use x_ZC0 (hK)
  have k1 : zk_ZC 35 (zq_ev r (0, [(0, 1)])) (zq_ev r (0, [(1, 1)])) (zq_ev r (0, [(2, 1)])) (zq_ev r (0, [(3, 1)])) (zq_ev r (0, [(4, 1)])) (zq_ev r (0, [(5, 1)])) (zq_ev r (0, [(6, 1)])) P h := k1
  simp only [q11, q13, q14, q15, q5, q7, q9] at k1
  have k2 := zj_use x_UM (zq_okX_t (hK))
  have k2 : zm_UM (zq_ev r (0, [(5, 1)])) (zq_ev r (10, [])) (zq_ev r (0, [(13, 1)])) (zq_ev r (0, [(11, 1)])) P h := k2
  simp only [q14, q16, q17, q18] at k2
  have k3 := zj_use x_DG (zq_okX_t (zq_okX_t (hK)))
  have k3 : zn_DG (zq_ev r (0, [(5, 1)])) (zq_ev r (10, [])) (zq_ev r (0, [(12, 1)])) P h := k3
  simp only [q14, q16, q19] at k3
  obtain ⟨t1, t2⟩ := zo_up0_l (P := P) (h := h) (jk := r 0) (jo := r 1) (jt := r 2) (jm := r 3) (n := r 4) (M := r 5) (Z := r 6) (k := r 7) (o := r 8) (t := r 9) (m := r 10) (N := r 11) (x := r 12) (v := r 13) a1 a2 a3 a4 a5 s1 s2 s3 s4 k1 k2 k3
  obtain ⟨rq, hr⟩ : ∃ rq : Nat → Int, (∀ i, i < 14 → rq i = r i) := ⟨r, fun i hi => rfl⟩
  have v0 : rq 0 = r 0 := hr 0 (by decide)
  have v1 : rq 1 = r 1 := hr 1 (by decide)
  have v2 : rq 2 = r 2 := hr 2 (by decide)
  have v3 : rq 3 = r 3 := hr 3 (by decide)
  have v4 : rq 4 = r 4 := hr 4 (by decide)
  have v5 : rq 5 = r 5 := hr 5 (by decide)
  have v6 : rq 6 = r 6 := hr 6 (by decide)
  have v7 : rq 7 = r 7 := hr 7 (by decide)
  have v11 : rq 11 = r 11 := hr 11 (by decide)
  have g0 : zq_ev rq (0, [(5, 1)]) = r 5 := zu_f1 v5
  have g1 : zq_ev rq (0, [(4, 1)]) = r 4 := zu_f1 v4
  have g2 : zq_ev rq (0, [(6, 1)]) = r 6 := zu_f1 v6
  have g3 : zq_ev rq (0, [(7, 1)]) = r 7 := zu_f1 v7
  have g4 : zq_ev rq (0, [(11, 1)]) = r 11 := zu_f1 v11
  have g5 : zq_ev rq (-1, [(4, 1)]) = r 4 - 1 := zu_f3 v4 _
  have g6 : zq_ev rq (0, [(0, 1)]) = r 0 := zu_f1 v0
  have g7 : zq_ev rq (0, [(1, 1)]) = r 1 := zu_f1 v1
  have g8 : zq_ev rq (0, [(2, 1)]) = r 2 := zu_f1 v2
  have g9 : zq_ev rq (0, [(3, 1)]) = r 3 := zu_f1 v3
  exact ⟨_, List.mem_cons_self .., rq, hr, zq_MeS_mk rfl hT (zq_all_nil) zq_fan (zq_fan) rfl (zu_fac ((x_ZC0 _ _ _).mpr (by show zk_ZC 35 (zq_ev rq (0, [(0, 1)])) (zq_ev rq (0, [(1, 1)])) (zq_ev rq (0, [(2, 1)])) (zq_ev rq (0, [(3, 1)])) (zq_ev rq (-1, [(4, 1)])) (zq_ev rq (0, [(11, 1)])) (zq_ev rq (0, [(6, 1)])) P h; simp only [g2, g4, g5, g6, g7, g8, g9]; exact t1)) (zu_fac ((x_UN _ _ _).mpr (by show zk_UN (zq_ev rq (0, [(5, 1)])) (zq_ev rq (0, [(4, 1)])) (zq_ev rq (0, [(6, 1)])) (zq_ev rq (0, [(7, 1)])) (zq_ev rq (0, [(11, 1)])) (zq_ev rq (-1, [(4, 1)])) P h; simp only [g0, g1, g2, g3, g4, g5]; exact t2)) zq_fan))⟩
noncomputable def zo_um0 : zq_S × List zq_S := (([], [], [(-1, [(4, 1)]), (1, [(7, -1)]), (0, [(7, 1)]), (0, [(10, 1), (12, 1)]), (0, [(10, -1), (12, -1)]), (0, [(8, -1), (13, 1)]), (0, [(8, 1), (13, -1)]), (0, [(9, -1), (14, 1)]), (0, [(9, 1), (14, -1)])], [], [((0, [(0, 1)]), (-1, [(4, 1)]), (0, [(7, 1)])), ((0, [(1, 1)]), (-1, [(4, 1)]), (0, [(8, 1)])), ((0, [(2, 1)]), (-1, [(4, 1)]), (0, [(9, 1)])), ((0, [(3, 1)]), (-1, [(4, 1)]), (0, [(10, 1)]))], [], [(293, [(0, [(0, 1)]), (0, [(1, 1)]), (0, [(2, 1)]), (0, [(3, 1)]), (0, [(4, 1)]), (0, [(5, 1)]), (0, [(6, 1)])]), (312, [(0, [(5, 1)]), (0, [(13, 1)]), (0, [(14, 1)]), (0, [(12, 1)]), (0, [(11, 1)])])], 15), [([], [], [], [], [], [], [(293, [(0, [(0, 1)]), (0, [(1, 1)]), (0, [(2, 1)]), (0, [(3, 1)]), (-1, [(4, 1)]), (0, [(11, 1)]), (0, [(6, 1)])]), (305, [(0, [(5, 1)]), (0, [(4, 1)]), (0, [(6, 1)]), (0, [(7, 1)]), (0, [(11, 1)]), (-1, [(4, 1)])])], 15)])
theorem zo_um0_l {P : zq_Ty} {h : zq_H} {jk jo jt jm n M Z k o t m N v a b : Int} (a1 : 0 ≤ n - 1) (a2 : 0 ≤ -k + 1) (a3 : 0 ≤ k) (a4 : 0 ≤ m + v) (a5 : 0 ≤ -m - v) (a6 : 0 ≤ -o + a) (a7 : 0 ≤ o - a) (a8 : 0 ≤ -t + b) (a9 : 0 ≤ t - b) (s1 : 0 ≤ jk ∧ P (jk).toNat ≠ none ∧ h (jk).toNat (n - 1) = k) (s2 : 0 ≤ jo ∧ P (jo).toNat ≠ none ∧ h (jo).toNat (n - 1) = o) (s3 : 0 ≤ jt ∧ P (jt).toNat ≠ none ∧ h (jt).toNat (n - 1) = t) (s4 : 0 ≤ jm ∧ P (jm).toNat ≠ none ∧ h (jm).toNat (n - 1) = m) (k1 : zk_ZC 35 jk jo jt jm n M Z P h) (k2 : zk_MV M a b v N P h) : (zk_ZC 35 jk jo jt jm (n - 1) N Z P h ∧ zk_UN M n Z k N (n - 1) P h) := by
  obtain ⟨w1, w2, w3, w4, n0, n1, w5⟩ := k1
  obtain ⟨e1, e2⟩ := w5 (n - 1) (by omega) (by omega)
  rw [s1.2.2] at e1
  rw [s1.2.2, s2.2.2, s3.2.2, s4.2.2] at e2
  have en : ∀ j : Int, zk_N Z n M (n - 1) j = zn_dg M j := fun j => by unfold zk_N; rw [if_neg (by omega)]
  have hN : N = zm_pk (fun j => zn_dg Z (12 * (n - 1) + j)) 11 := by
    rw [show N = zk_mv M a b v from k2, show a = o by omega, show b = t by omega]
    refine zm_pk_cg 11 (fun j p q => ?_)
    show zn_dg M j + (if j = o then v else 0) - (if j = t then v else 0) = zn_dg Z (12 * (n - 1) + j)
    rw [e2 j p (by omega)]
    unfold zk_U
    rw [if_neg (show ¬ k = 2 by omega), if_neg (show ¬ k = 3 by omega), en j, show v = -m by omega]
    by_cases e3 : j = o <;> by_cases e4 : j = t
    · rw [if_pos e3, if_pos e4, if_pos e3, if_pos e4]; omega
    · rw [if_pos e3, if_neg e4, if_pos e3, if_neg e4]; omega
    · rw [if_neg e3, if_pos e4, if_neg e3, if_pos e4]; omega
    · rw [if_neg e3, if_neg e4, if_neg e3, if_neg e4]; omega
  have dN : ∀ j : Int, 0 ≤ j → j < 11 → zn_dg N j = zn_dg Z (12 * (n - 1) + j) := fun j p q => by rw [hN]; exact zm_pk_dg 11 j (fun i _ _ => zn_dg_in _ _) p (by omega)
  refine ⟨⟨w1, w2, w3, w4, by omega, by omega, fun i x y => ?_⟩, Or.inr ⟨by omega, e1, hN, rfl⟩⟩
  obtain ⟨f1, f2⟩ := w5 i x (by omega)
  refine ⟨f1, fun j p q => ?_⟩
  rw [f2 j p q]
  have em : ∀ j : Int, 0 ≤ j → j < 11 → zk_N Z n M i j = zk_N Z (n - 1) N i j := fun j p q => by
    unfold zk_N
    rw [if_pos (by omega)]
    by_cases e : i + 1 < n - 1
    · rw [if_pos e]
    · rw [if_neg e, dN j p q, show i + 1 = n - 1 by omega]
  unfold zk_U
  rw [em j p q, em 10 (by omega) (by omega)]
theorem zo_um0_ok {w : zq_Wd} (x_ZC0 : zj_is w 293 (fun q => zk_ZC 35 (q 0) (q 1) (q 2) (q 3) (q 4) (q 5) (q 6))) (x_MV : zj_is w 312 (fun q => zk_MV (q 0) (q 1) (q 2) (q 3) (q 4))) (x_UN : zj_is w 305 (fun q => zk_UN (q 0) (q 1) (q 2) (q 3) (q 4) (q 5))) : zq_okG1 w zo_um0 := by
  refine ⟨rfl, rfl, zu_fac ⟨rfl, by decide⟩ zq_fan, ?_⟩
  intro r P h H hM
  have q0 : zq_ev r (-1, [(4, 1)]) = r 4 - 1 := zu_e3 _ _ _
  have q1 : zq_ev r (1, [(7, -1)]) = -r 7 + 1 := zu_e5 _ _ _
  have q2 : zq_ev r (0, [(7, 1)]) = r 7 := zu_e1 _ _
  have q3 : zq_ev r (0, [(10, 1), (12, 1)]) = r 10 + r 12 := by simp only [zq_ev, zq_ts] <;> omega
  have q4 : zq_ev r (0, [(10, -1), (12, -1)]) = -r 10 - r 12 := by simp only [zq_ev, zq_ts] <;> omega
  have q5 : zq_ev r (0, [(8, -1), (13, 1)]) = -r 8 + r 13 := by simp only [zq_ev, zq_ts] <;> omega
  have q6 : zq_ev r (0, [(8, 1), (13, -1)]) = r 8 - r 13 := by simp only [zq_ev, zq_ts] <;> omega
  have q7 : zq_ev r (0, [(9, -1), (14, 1)]) = -r 9 + r 14 := by simp only [zq_ev, zq_ts] <;> omega
  have q8 : zq_ev r (0, [(9, 1), (14, -1)]) = r 9 - r 14 := by simp only [zq_ev, zq_ts] <;> omega
  have q9 : zq_ev r (0, [(0, 1)]) = r 0 := zu_e1 _ _
  have q10 : zq_ev r (0, [(1, 1)]) = r 1 := zu_e1 _ _
  have q11 : zq_ev r (0, [(8, 1)]) = r 8 := zu_e1 _ _
  have q12 : zq_ev r (0, [(2, 1)]) = r 2 := zu_e1 _ _
  have q13 : zq_ev r (0, [(9, 1)]) = r 9 := zu_e1 _ _
  have q14 : zq_ev r (0, [(3, 1)]) = r 3 := zu_e1 _ _
  have q15 : zq_ev r (0, [(10, 1)]) = r 10 := zu_e1 _ _
  have q16 : zq_ev r (0, [(4, 1)]) = r 4 := zu_e1 _ _
  have q17 : zq_ev r (0, [(5, 1)]) = r 5 := zu_e1 _ _
  have q18 : zq_ev r (0, [(6, 1)]) = r 6 := zu_e1 _ _
  have q19 : zq_ev r (0, [(13, 1)]) = r 13 := zu_e1 _ _
  have q20 : zq_ev r (0, [(14, 1)]) = r 14 := zu_e1 _ _
  have q21 : zq_ev r (0, [(12, 1)]) = r 12 := zu_e1 _ _
  have q22 : zq_ev r (0, [(11, 1)]) = r 11 := zu_e1 _ _
  obtain ⟨hT, hC, hF, hS, -, hK⟩ := hM
  have c := hC.1
  have a1 := zq_all_1 c
  rw [q0] at a1
  have c := zq_all_t c
  have a2 := zq_all_1 c
  rw [q1] at a2
  have c := zq_all_t c
  have a3 := zq_all_1 c
  rw [q2] at a3
  have c := zq_all_t c
  have a4 := zq_all_1 c
  rw [q3] at a4
  have c := zq_all_t c
  have a5 := zq_all_1 c
  rw [q4] at a5
  have c := zq_all_t c
  have a6 := zq_all_1 c
  rw [q5] at a6
  have c := zq_all_t c
  have a7 := zq_all_1 c
  rw [q6] at a7
  have c := zq_all_t c
  have a8 := zq_all_1 c
  rw [q7] at a8
  have c := zq_all_t c
  have a9 := zq_all_1 c
  rw [q8] at a9
  have s1 := zq_okS_1 (hS)
  simp only [q0, q2, q9] at s1
  have s2 := zq_okS_1 (zq_okS_t (hS))
  simp only [q0, q10, q11] at s2
  have s3 := zq_okS_1 (zq_okS_t (zq_okS_t (hS)))
  simp only [q0, q12, q13] at s3
  have s4 := zq_okS_1 (zq_okS_t (zq_okS_t (zq_okS_t (hS))))
  simp only [q0, q14, q15] at s4
  have k1 := zj_use x_ZC0 (hK)
  have k1 : zk_ZC 35 (zq_ev r (0, [(0, 1)])) (zq_ev r (0, [(1, 1)])) (zq_ev r (0, [(2, 1)])) (zq_ev r (0, [(3, 1)])) (zq_ev r (0, [(4, 1)])) (zq_ev r (0, [(5, 1)])) (zq_ev r (0, [(6, 1)])) P h := k1
  simp only [q10, q12, q14, q16, q17, q18, q9] at k1
  have k2 := zj_use x_MV (zq_okX_t (hK))
  have k2 : zk_MV (zq_ev r (0, [(5, 1)])) (zq_ev r (0, [(13, 1)])) (zq_ev r (0, [(14, 1)])) (zq_ev r (0, [(12, 1)])) (zq_ev r (0, [(11, 1)])) P h := k2
  simp only [q17, q19, q20, q21, q22] at k2
  obtain ⟨t1, t2⟩ := zo_um0_l (P := P) (h := h) (jk := r 0) (jo := r 1) (jt := r 2) (jm := r 3) (n := r 4) (M := r 5) (Z := r 6) (k := r 7) (o := r 8) (t := r 9) (m := r 10) (N := r 11) (v := r 12) (a := r 13) (b := r 14) a1 a2 a3 a4 a5 a6 a7 a8 a9 s1 s2 s3 s4 k1 k2
  obtain ⟨rq, hr⟩ : ∃ rq : Nat → Int, (∀ i, i < 15 → rq i = r i) := ⟨r, fun i hi => rfl⟩
  have v0 : rq 0 = r 0 := hr 0 (by decide)
  have v1 : rq 1 = r 1 := hr 1 (by decide)
  have v2 : rq 2 = r 2 := hr 2 (by decide)
  have v3 : rq 3 = r 3 := hr 3 (by decide)
  have v4 : rq 4 = r 4 := hr 4 (by decide)
  have v5 : rq 5 = r 5 := hr 5 (by decide)
  have v6 : rq 6 = r 6 := hr 6 (by decide)
  have v7 : rq 7 = r 7 := hr 7 (by decide)
  have v11 : rq 11 = r 11 := hr 11 (by decide)
  have g0 : zq_ev rq (0, [(5, 1)]) = r 5 := zu_f1 v5
  have g1 : zq_ev rq (0, [(4, 1)]) = r 4 := zu_f1 v4
  have g2 : zq_ev rq (0, [(6, 1)]) = r 6 := zu_f1 v6
  have g3 : zq_ev rq (0, [(7, 1)]) = r 7 := zu_f1 v7
  have g4 : zq_ev rq (0, [(11, 1)]) = r 11 := zu_f1 v11
  have g5 : zq_ev rq (-1, [(4, 1)]) = r 4 - 1 := zu_f3 v4 _
  have g6 : zq_ev rq (0, [(0, 1)]) = r 0 := zu_f1 v0
  have g7 : zq_ev rq (0, [(1, 1)]) = r 1 := zu_f1 v1
  have g8 : zq_ev rq (0, [(2, 1)]) = r 2 := zu_f1 v2
  have g9 : zq_ev rq (0, [(3, 1)]) = r 3 := zu_f1 v3
  exact ⟨_, List.mem_cons_self .., rq, hr, zq_MeS_mk rfl hT (zq_all_nil) zq_fan (zq_fan) rfl (zu_fac ((x_ZC0 _ _ _).mpr (by show zk_ZC 35 (zq_ev rq (0, [(0, 1)])) (zq_ev rq (0, [(1, 1)])) (zq_ev rq (0, [(2, 1)])) (zq_ev rq (0, [(3, 1)])) (zq_ev rq (-1, [(4, 1)])) (zq_ev rq (0, [(11, 1)])) (zq_ev rq (0, [(6, 1)])) P h; simp only [g2, g4, g5, g6, g7, g8, g9]; exact t1)) (zu_fac ((x_UN _ _ _).mpr (by show zk_UN (zq_ev rq (0, [(5, 1)])) (zq_ev rq (0, [(4, 1)])) (zq_ev rq (0, [(6, 1)])) (zq_ev rq (0, [(7, 1)])) (zq_ev rq (0, [(11, 1)])) (zq_ev rq (-1, [(4, 1)])) P h; simp only [g0, g1, g2, g3, g4, g5]; exact t2)) zq_fan))⟩
noncomputable def zo_uw1 : zq_S × List zq_S := (([], [], [(-1, [(4, 1)]), (-2, [(7, 1)]), (2, [(7, -1)]), (0, [(8, 1)]), (3, [(8, -1)])], [], [((0, [(0, 1)]), (-1, [(4, 1)]), (0, [(7, 1)])), ((0, [(1, 1)]), (-1, [(4, 1)]), (0, [(8, 1)])), ((0, [(2, 1)]), (-1, [(4, 1)]), (0, [(9, 1)])), ((0, [(3, 1)]), (-1, [(4, 1)]), (0, [(10, 1)]))], [], [(294, [(0, [(0, 1)]), (0, [(1, 1)]), (0, [(2, 1)]), (0, [(3, 1)]), (0, [(4, 1)]), (0, [(5, 1)]), (0, [(6, 1)])]), (290, [(0, [(5, 1)]), (6, [(8, 1)]), (0, [(9, 1)]), (0, [(11, 1)])])], 12), [([], [], [], [], [], [], [(294, [(0, [(0, 1)]), (0, [(1, 1)]), (0, [(2, 1)]), (0, [(3, 1)]), (-1, [(4, 1)]), (0, [(11, 1)]), (0, [(6, 1)])]), (305, [(0, [(5, 1)]), (0, [(4, 1)]), (0, [(6, 1)]), (0, [(7, 1)]), (0, [(11, 1)]), (-1, [(4, 1)])])], 12)])
theorem zo_uw1_l {P : zq_Ty} {h : zq_H} {jk jo jt jm n M Z k o t m N : Int} (a1 : 0 ≤ n - 1) (a2 : 0 ≤ k - 2) (a3 : 0 ≤ -k + 2) (a4 : 0 ≤ o) (a5 : 0 ≤ -o + 3) (s1 : 0 ≤ jk ∧ P (jk).toNat ≠ none ∧ h (jk).toNat (n - 1) = k) (s2 : 0 ≤ jo ∧ P (jo).toNat ≠ none ∧ h (jo).toNat (n - 1) = o) (s3 : 0 ≤ jt ∧ P (jt).toNat ≠ none ∧ h (jt).toNat (n - 1) = t) (s4 : 0 ≤ jm ∧ P (jm).toNat ≠ none ∧ h (jm).toNat (n - 1) = m) (k1 : zk_ZC 50 jk jo jt jm n M Z P h) (k2 : zm_UM M (o + 6) t N P h) : (zk_ZC 50 jk jo jt jm (n - 1) N Z P h ∧ zk_UN M n Z k N (n - 1) P h) := by
  obtain ⟨w1, w2, w3, w4, n0, n1, w5⟩ := k1
  obtain ⟨e1, e2⟩ := w5 (n - 1) (by omega) (by omega)
  rw [s1.2.2] at e1
  rw [s1.2.2, s2.2.2, s3.2.2, s4.2.2] at e2
  have en : ∀ j : Int, zk_N Z n M (n - 1) j = zn_dg M j := fun j => by unfold zk_N; rw [if_neg (by omega)]
  have hN : N = zm_pk (fun j => zn_dg Z (12 * (n - 1) + j)) 11 := by
    rw [show N = zm_st M (o + 6) t from k2]
    refine zm_pk_cg 11 (fun j p q => ?_)
    show (if j = o + 6 then t else zn_dg M j) = zn_dg Z (12 * (n - 1) + j)
    rw [e2 j p (by omega)]
    unfold zk_U
    rw [if_pos (show k = 2 by omega), en j]
    by_cases e : j = o + 6
    · rw [if_pos e, if_pos (show j = 6 + o by omega)]
    · rw [if_neg e, if_neg (show ¬ j = 6 + o by omega)]
  have dN : ∀ j : Int, 0 ≤ j → j < 11 → zn_dg N j = zn_dg Z (12 * (n - 1) + j) := fun j p q => by rw [hN]; exact zm_pk_dg 11 j (fun i _ _ => zn_dg_in _ _) p (by omega)
  refine ⟨⟨w1, w2, w3, w4, by omega, by omega, fun i x y => ?_⟩, Or.inr ⟨by omega, e1, hN, rfl⟩⟩
  obtain ⟨f1, f2⟩ := w5 i x (by omega)
  refine ⟨f1, fun j p q => ?_⟩
  rw [f2 j p q]
  have em : ∀ j : Int, 0 ≤ j → j < 11 → zk_N Z n M i j = zk_N Z (n - 1) N i j := fun j p q => by
    unfold zk_N
    rw [if_pos (by omega)]
    by_cases e : i + 1 < n - 1
    · rw [if_pos e]
    · rw [if_neg e, dN j p q, show i + 1 = n - 1 by omega]
  unfold zk_U
  rw [em j p q, em 10 (by omega) (by omega)]
theorem zo_uw1_ok {w : zq_Wd} (x_ZC1 : zj_is w 294 (fun q => zk_ZC 50 (q 0) (q 1) (q 2) (q 3) (q 4) (q 5) (q 6))) (x_UM : zj_is w 290 (fun q => zm_UM (q 0) (q 1) (q 2) (q 3))) (x_UN : zj_is w 305 (fun q => zk_UN (q 0) (q 1) (q 2) (q 3) (q 4) (q 5))) : zq_okG1 w zo_uw1 := by
  refine ⟨rfl, rfl, zu_fac ⟨rfl, by decide⟩ zq_fan, ?_⟩
  intro r P h H hM
  have q0 : zq_ev r (-1, [(4, 1)]) = r 4 - 1 := zu_e3 _ _ _
  have q1 : zq_ev r (-2, [(7, 1)]) = r 7 - 2 := zu_e3 _ _ _
  have q2 : zq_ev r (2, [(7, -1)]) = -r 7 + 2 := zu_e5 _ _ _
  have q3 : zq_ev r (0, [(8, 1)]) = r 8 := zu_e1 _ _
  have q4 : zq_ev r (3, [(8, -1)]) = -r 8 + 3 := zu_e5 _ _ _
  have q5 : zq_ev r (0, [(0, 1)]) = r 0 := zu_e1 _ _
  have q6 : zq_ev r (0, [(7, 1)]) = r 7 := zu_e1 _ _
  have q7 : zq_ev r (0, [(1, 1)]) = r 1 := zu_e1 _ _
  have q8 : zq_ev r (0, [(2, 1)]) = r 2 := zu_e1 _ _
  have q9 : zq_ev r (0, [(9, 1)]) = r 9 := zu_e1 _ _
  have q10 : zq_ev r (0, [(3, 1)]) = r 3 := zu_e1 _ _
  have q11 : zq_ev r (0, [(10, 1)]) = r 10 := zu_e1 _ _
  have q12 : zq_ev r (0, [(4, 1)]) = r 4 := zu_e1 _ _
  have q13 : zq_ev r (0, [(5, 1)]) = r 5 := zu_e1 _ _
  have q14 : zq_ev r (0, [(6, 1)]) = r 6 := zu_e1 _ _
  have q15 : zq_ev r (6, [(8, 1)]) = r 8 + 6 := zu_e2 _ _ _
  have q16 : zq_ev r (0, [(11, 1)]) = r 11 := zu_e1 _ _
  obtain ⟨hT, hC, hF, hS, -, hK⟩ := hM
  have c := hC.1
  have a1 := zq_all_1 c
  rw [q0] at a1
  have c := zq_all_t c
  have a2 := zq_all_1 c
  rw [q1] at a2
  have c := zq_all_t c
  have a3 := zq_all_1 c
  rw [q2] at a3
  have c := zq_all_t c
  have a4 := zq_all_1 c
  rw [q3] at a4
  have c := zq_all_t c
  have a5 := zq_all_1 c
  rw [q4] at a5
  have s1 := zq_okS_1 (hS)
  simp only [q0, q5, q6] at s1
  have s2 := zq_okS_1 (zq_okS_t (hS))
  simp only [q0, q3, q7] at s2
  have s3 := zq_okS_1 (zq_okS_t (zq_okS_t (hS)))
  simp only [q0, q8, q9] at s3
  have s4 := zq_okS_1 (zq_okS_t (zq_okS_t (zq_okS_t (hS))))
  simp only [q0, q10, q11] at s4
  have k1 := zj_use x_ZC1 (hK)
  have k1 : zk_ZC 50 (zq_ev r (0, [(0, 1)])) (zq_ev r (0, [(1, 1)])) (zq_ev r (0, [(2, 1)])) (zq_ev r (0, [(3, 1)])) (zq_ev r (0, [(4, 1)])) (zq_ev r (0, [(5, 1)])) (zq_ev r (0, [(6, 1)])) P h := k1
  simp only [q10, q12, q13, q14, q5, q7, q8] at k1
  have k2 := zj_use x_UM (zq_okX_t (hK))
  have k2 : zm_UM (zq_ev r (0, [(5, 1)])) (zq_ev r (6, [(8, 1)])) (zq_ev r (0, [(9, 1)])) (zq_ev r (0, [(11, 1)])) P h := k2
  simp only [q13, q15, q16, q9] at k2
  obtain ⟨t1, t2⟩ := zo_uw1_l (P := P) (h := h) (jk := r 0) (jo := r 1) (jt := r 2) (jm := r 3) (n := r 4) (M := r 5) (Z := r 6) (k := r 7) (o := r 8) (t := r 9) (m := r 10) (N := r 11) a1 a2 a3 a4 a5 s1 s2 s3 s4 k1 k2
  obtain ⟨rq, hr⟩ : ∃ rq : Nat → Int, (∀ i, i < 12 → rq i = r i) := ⟨r, fun i hi => rfl⟩
  have v0 : rq 0 = r 0 := hr 0 (by decide)
  have v1 : rq 1 = r 1 := hr 1 (by decide)
  have v2 : rq 2 = r 2 := hr 2 (by decide)
  have v3 : rq 3 = r 3 := hr 3 (by decide)
  have v4 : rq 4 = r 4 := hr 4 (by decide)
  have v5 : rq 5 = r 5 := hr 5 (by decide)
  have v6 : rq 6 = r 6 := hr 6 (by decide)
  have v7 : rq 7 = r 7 := hr 7 (by decide)
  have v11 : rq 11 = r 11 := hr 11 (by decide)
  have g0 : zq_ev rq (0, [(5, 1)]) = r 5 := zu_f1 v5
  have g1 : zq_ev rq (0, [(4, 1)]) = r 4 := zu_f1 v4
  have g2 : zq_ev rq (0, [(6, 1)]) = r 6 := zu_f1 v6
  have g3 : zq_ev rq (0, [(7, 1)]) = r 7 := zu_f1 v7
  have g4 : zq_ev rq (0, [(11, 1)]) = r 11 := zu_f1 v11
  have g5 : zq_ev rq (-1, [(4, 1)]) = r 4 - 1 := zu_f3 v4 _
  have g6 : zq_ev rq (0, [(0, 1)]) = r 0 := zu_f1 v0
  have g7 : zq_ev rq (0, [(1, 1)]) = r 1 := zu_f1 v1
  have g8 : zq_ev rq (0, [(2, 1)]) = r 2 := zu_f1 v2
  have g9 : zq_ev rq (0, [(3, 1)]) = r 3 := zu_f1 v3
  exact ⟨_, List.mem_cons_self .., rq, hr, zq_MeS_mk rfl hT (zq_all_nil) zq_fan (zq_fan) rfl (zu_fac ((x_ZC1 _ _ _).mpr (by show zk_ZC 50 (zq_ev rq (0, [(0, 1)])) (zq_ev rq (0, [(1, 1)])) (zq_ev rq (0, [(2, 1)])) (zq_ev rq (0, [(3, 1)])) (zq_ev rq (-1, [(4, 1)])) (zq_ev rq (0, [(11, 1)])) (zq_ev rq (0, [(6, 1)])) P h; simp only [g2, g4, g5, g6, g7, g8, g9]; exact t1)) (zu_fac ((x_UN _ _ _).mpr (by show zk_UN (zq_ev rq (0, [(5, 1)])) (zq_ev rq (0, [(4, 1)])) (zq_ev rq (0, [(6, 1)])) (zq_ev rq (0, [(7, 1)])) (zq_ev rq (0, [(11, 1)])) (zq_ev rq (-1, [(4, 1)])) P h; simp only [g0, g1, g2, g3, g4, g5]; exact t2)) zq_fan))⟩
noncomputable def zo_up1 : zq_S × List zq_S := (([], [], [(-1, [(4, 1)]), (-3, [(7, 1)]), (3, [(7, -1)]), (1, [(12, -1), (13, 1)]), (-1, [(12, 1), (13, -1)])], [], [((0, [(0, 1)]), (-1, [(4, 1)]), (0, [(7, 1)])), ((0, [(1, 1)]), (-1, [(4, 1)]), (0, [(8, 1)])), ((0, [(2, 1)]), (-1, [(4, 1)]), (0, [(9, 1)])), ((0, [(3, 1)]), (-1, [(4, 1)]), (0, [(10, 1)]))], [], [(294, [(0, [(0, 1)]), (0, [(1, 1)]), (0, [(2, 1)]), (0, [(3, 1)]), (0, [(4, 1)]), (0, [(5, 1)]), (0, [(6, 1)])]), (290, [(0, [(5, 1)]), (10, []), (0, [(13, 1)]), (0, [(11, 1)])]), (134, [(0, [(5, 1)]), (10, []), (0, [(12, 1)])])], 14), [([], [], [], [], [], [], [(294, [(0, [(0, 1)]), (0, [(1, 1)]), (0, [(2, 1)]), (0, [(3, 1)]), (-1, [(4, 1)]), (0, [(11, 1)]), (0, [(6, 1)])]), (305, [(0, [(5, 1)]), (0, [(4, 1)]), (0, [(6, 1)]), (0, [(7, 1)]), (0, [(11, 1)]), (-1, [(4, 1)])])], 14)])
theorem zo_up1_l {P : zq_Ty} {h : zq_H} {jk jo jt jm n M Z k o t m N x v : Int} (a1 : 0 ≤ n - 1) (a2 : 0 ≤ k - 3) (a3 : 0 ≤ -k + 3) (a4 : 0 ≤ -x + v + 1) (a5 : 0 ≤ x - v - 1) (s1 : 0 ≤ jk ∧ P (jk).toNat ≠ none ∧ h (jk).toNat (n - 1) = k) (s2 : 0 ≤ jo ∧ P (jo).toNat ≠ none ∧ h (jo).toNat (n - 1) = o) (s3 : 0 ≤ jt ∧ P (jt).toNat ≠ none ∧ h (jt).toNat (n - 1) = t) (s4 : 0 ≤ jm ∧ P (jm).toNat ≠ none ∧ h (jm).toNat (n - 1) = m) (k1 : zk_ZC 50 jk jo jt jm n M Z P h) (k2 : zm_UM M 10 v N P h) (k3 : zn_DG M 10 x P h) : (zk_ZC 50 jk jo jt jm (n - 1) N Z P h ∧ zk_UN M n Z k N (n - 1) P h) := by
  obtain ⟨w1, w2, w3, w4, n0, n1, w5⟩ := k1
  obtain ⟨e1, e2⟩ := w5 (n - 1) (by omega) (by omega)
  rw [s1.2.2] at e1
  rw [s1.2.2, s2.2.2, s3.2.2, s4.2.2] at e2
  have en : ∀ j : Int, zk_N Z n M (n - 1) j = zn_dg M j := fun j => by unfold zk_N; rw [if_neg (by omega)]
  have hN : N = zm_pk (fun j => zn_dg Z (12 * (n - 1) + j)) 11 := by
    rw [show N = zm_st M 10 v from k2]
    refine zm_pk_cg 11 (fun j p q => ?_)
    have k3 : x = zn_dg M 10 := k3
    show (if j = 10 then v else zn_dg M j) = zn_dg Z (12 * (n - 1) + j)
    rw [e2 j p (by omega)]
    unfold zk_U
    rw [if_neg (show ¬ k = 2 by omega), if_pos (show k = 3 by omega), en j, en 10]
    by_cases e : j = 10
    · rw [if_pos e, if_pos e, ← k3]; omega
    · rw [if_neg e, if_neg e]
  have dN : ∀ j : Int, 0 ≤ j → j < 11 → zn_dg N j = zn_dg Z (12 * (n - 1) + j) := fun j p q => by rw [hN]; exact zm_pk_dg 11 j (fun i _ _ => zn_dg_in _ _) p (by omega)
  refine ⟨⟨w1, w2, w3, w4, by omega, by omega, fun i x y => ?_⟩, Or.inr ⟨by omega, e1, hN, rfl⟩⟩
  obtain ⟨f1, f2⟩ := w5 i x (by omega)
  refine ⟨f1, fun j p q => ?_⟩
  rw [f2 j p q]
  have em : ∀ j : Int, 0 ≤ j → j < 11 → zk_N Z n M i j = zk_N Z (n - 1) N i j := fun j p q => by
    unfold zk_N
    rw [if_pos (by omega)]
    by_cases e : i + 1 < n - 1
    · rw [if_pos e]
    · rw [if_neg e, dN j p q, show i + 1 = n - 1 by omega]
  unfold zk_U
  rw [em j p q, em 10 (by omega) (by omega)]
theorem zo_up1_ok {w : zq_Wd} (x_ZC1 : zj_is w 294 (fun q => zk_ZC 50 (q 0) (q 1) (q 2) (q 3) (q 4) (q 5) (q 6))) (x_UM : zj_is w 290 (fun q => zm_UM (q 0) (q 1) (q 2) (q 3))) (x_DG : zj_is w 134 (fun q => zn_DG (q 0) (q 1) (q 2))) (x_UN : zj_is w 305 (fun q => zk_UN (q 0) (q 1) (q 2) (q 3) (q 4) (q 5))) : zq_okG1 w zo_up1 := by
  refine ⟨rfl, rfl, zu_fac ⟨rfl, by decide⟩ zq_fan, ?_⟩
  intro r P h H hM
  have q0 : zq_ev r (-1, [(4, 1)]) = r 4 - 1 := zu_e3 _ _ _
  have q1 : zq_ev r (-3, [(7, 1)]) = r 7 - 3 := zu_e3 _ _ _
  have q2 : zq_ev r (3, [(7, -1)]) = -r 7 + 3 := zu_e5 _ _ _
  have q3 : zq_ev r (1, [(12, -1), (13, 1)]) = -r 12 + r 13 + 1 := by simp only [zq_ev, zq_ts] <;> omega
  have q4 : zq_ev r (-1, [(12, 1), (13, -1)]) = r 12 - r 13 - 1 := by simp only [zq_ev, zq_ts] <;> omega
  have q5 : zq_ev r (0, [(0, 1)]) = r 0 := zu_e1 _ _
  have q6 : zq_ev r (0, [(7, 1)]) = r 7 := zu_e1 _ _
  have q7 : zq_ev r (0, [(1, 1)]) = r 1 := zu_e1 _ _
  have q8 : zq_ev r (0, [(8, 1)]) = r 8 := zu_e1 _ _
  have q9 : zq_ev r (0, [(2, 1)]) = r 2 := zu_e1 _ _
  have q10 : zq_ev r (0, [(9, 1)]) = r 9 := zu_e1 _ _
  have q11 : zq_ev r (0, [(3, 1)]) = r 3 := zu_e1 _ _
  have q12 : zq_ev r (0, [(10, 1)]) = r 10 := zu_e1 _ _
  have q13 : zq_ev r (0, [(4, 1)]) = r 4 := zu_e1 _ _
  have q14 : zq_ev r (0, [(5, 1)]) = r 5 := zu_e1 _ _
  have q15 : zq_ev r (0, [(6, 1)]) = r 6 := zu_e1 _ _
  have q16 : zq_ev r (10, []) = 10 := zu_e0 _ _
  have q17 : zq_ev r (0, [(13, 1)]) = r 13 := zu_e1 _ _
  have q18 : zq_ev r (0, [(11, 1)]) = r 11 := zu_e1 _ _
  have q19 : zq_ev r (0, [(12, 1)]) = r 12 := zu_e1 _ _
  obtain ⟨hT, hC, hF, hS, -, hK⟩ := hM
  have c := hC.1
  have a1 := zq_all_1 c
  rw [q0] at a1
  have c := zq_all_t c
  have a2 := zq_all_1 c
  rw [q1] at a2
  have c := zq_all_t c
  have a3 := zq_all_1 c
  rw [q2] at a3
  have c := zq_all_t c
  have a4 := zq_all_1 c
  rw [q3] at a4
  have c := zq_all_t c
  have a5 := zq_all_1 c
  rw [q4] at a5
  have s1 := zq_okS_1 (hS)
  simp only [q0, q5, q6] at s1
  have s2 := zq_okS_1 (zq_okS_t (hS))
  simp only [q0, q7, q8] at s2
  have s3 := zq_okS_1 (zq_okS_t (zq_okS_t (hS)))
  simp only [q0, q10, q9] at s3
  have s4 := zq_okS_1 (zq_okS_t (zq_okS_t (zq_okS_t (hS))))
  simp only [q0, q11, q12] at s4
  have k1 := zj_use x_ZC1 (hK)
  have k1 : zk_ZC 50 (zq_ev r (0, [(0, 1)])) (zq_ev r (0, [(1, 1)])) (zq_ev r (0, [(2, 1)])) (zq_ev r (0, [(3, 1)])) (zq_ev r (0, [(4, 1)])) (zq_ev r (0, [(5, 1)])) (zq_ev r (0, [(6, 1)])) P h := k1
  simp only [q11, q13, q14, q15, q5, q7, q9] at k1
  have k2 := zj_use x_UM (zq_okX_t (hK))
  have k2 : zm_UM (zq_ev r (0, [(5, 1)])) (zq_ev r (10, [])) (zq_ev r (0, [(13, 1)])) (zq_ev r (0, [(11, 1)])) P h := k2
  simp only [q14, q16, q17, q18] at k2
  have k3 := zj_use x_DG (zq_okX_t (zq_okX_t (hK)))
  have k3 : zn_DG (zq_ev r (0, [(5, 1)])) (zq_ev r (10, [])) (zq_ev r (0, [(12, 1)])) P h := k3
  simp only [q14, q16, q19] at k3
  obtain ⟨t1, t2⟩ := zo_up1_l (P := P) (h := h) (jk := r 0) (jo := r 1) (jt := r 2) (jm := r 3) (n := r 4) (M := r 5) (Z := r 6) (k := r 7) (o := r 8) (t := r 9) (m := r 10) (N := r 11) (x := r 12) (v := r 13) a1 a2 a3 a4 a5 s1 s2 s3 s4 k1 k2 k3
  obtain ⟨rq, hr⟩ : ∃ rq : Nat → Int, (∀ i, i < 14 → rq i = r i) := ⟨r, fun i hi => rfl⟩
  have v0 : rq 0 = r 0 := hr 0 (by decide)
  have v1 : rq 1 = r 1 := hr 1 (by decide)
  have v2 : rq 2 = r 2 := hr 2 (by decide)
  have v3 : rq 3 = r 3 := hr 3 (by decide)
  have v4 : rq 4 = r 4 := hr 4 (by decide)
  have v5 : rq 5 = r 5 := hr 5 (by decide)
  have v6 : rq 6 = r 6 := hr 6 (by decide)
  have v7 : rq 7 = r 7 := hr 7 (by decide)
  have v11 : rq 11 = r 11 := hr 11 (by decide)
  have g0 : zq_ev rq (0, [(5, 1)]) = r 5 := zu_f1 v5
  have g1 : zq_ev rq (0, [(4, 1)]) = r 4 := zu_f1 v4
  have g2 : zq_ev rq (0, [(6, 1)]) = r 6 := zu_f1 v6
  have g3 : zq_ev rq (0, [(7, 1)]) = r 7 := zu_f1 v7
  have g4 : zq_ev rq (0, [(11, 1)]) = r 11 := zu_f1 v11
  have g5 : zq_ev rq (-1, [(4, 1)]) = r 4 - 1 := zu_f3 v4 _
  have g6 : zq_ev rq (0, [(0, 1)]) = r 0 := zu_f1 v0
  have g7 : zq_ev rq (0, [(1, 1)]) = r 1 := zu_f1 v1
  have g8 : zq_ev rq (0, [(2, 1)]) = r 2 := zu_f1 v2
  have g9 : zq_ev rq (0, [(3, 1)]) = r 3 := zu_f1 v3
  exact ⟨_, List.mem_cons_self .., rq, hr, zq_MeS_mk rfl hT (zq_all_nil) zq_fan (zq_fan) rfl (zu_fac ((x_ZC1 _ _ _).mpr (by show zk_ZC 50 (zq_ev rq (0, [(0, 1)])) (zq_ev rq (0, [(1, 1)])) (zq_ev rq (0, [(2, 1)])) (zq_ev rq (0, [(3, 1)])) (zq_ev rq (-1, [(4, 1)])) (zq_ev rq (0, [(11, 1)])) (zq_ev rq (0, [(6, 1)])) P h; simp only [g2, g4, g5, g6, g7, g8, g9]; exact t1)) (zu_fac ((x_UN _ _ _).mpr (by show zk_UN (zq_ev rq (0, [(5, 1)])) (zq_ev rq (0, [(4, 1)])) (zq_ev rq (0, [(6, 1)])) (zq_ev rq (0, [(7, 1)])) (zq_ev rq (0, [(11, 1)])) (zq_ev rq (-1, [(4, 1)])) P h; simp only [g0, g1, g2, g3, g4, g5]; exact t2)) zq_fan))⟩
noncomputable def zo_um1 : zq_S × List zq_S := (([], [], [(-1, [(4, 1)]), (1, [(7, -1)]), (0, [(7, 1)]), (0, [(10, 1), (12, 1)]), (0, [(10, -1), (12, -1)]), (0, [(8, -1), (13, 1)]), (0, [(8, 1), (13, -1)]), (0, [(9, -1), (14, 1)]), (0, [(9, 1), (14, -1)])], [], [((0, [(0, 1)]), (-1, [(4, 1)]), (0, [(7, 1)])), ((0, [(1, 1)]), (-1, [(4, 1)]), (0, [(8, 1)])), ((0, [(2, 1)]), (-1, [(4, 1)]), (0, [(9, 1)])), ((0, [(3, 1)]), (-1, [(4, 1)]), (0, [(10, 1)]))], [], [(294, [(0, [(0, 1)]), (0, [(1, 1)]), (0, [(2, 1)]), (0, [(3, 1)]), (0, [(4, 1)]), (0, [(5, 1)]), (0, [(6, 1)])]), (312, [(0, [(5, 1)]), (0, [(13, 1)]), (0, [(14, 1)]), (0, [(12, 1)]), (0, [(11, 1)])])], 15), [([], [], [], [], [], [], [(294, [(0, [(0, 1)]), (0, [(1, 1)]), (0, [(2, 1)]), (0, [(3, 1)]), (-1, [(4, 1)]), (0, [(11, 1)]), (0, [(6, 1)])]), (305, [(0, [(5, 1)]), (0, [(4, 1)]), (0, [(6, 1)]), (0, [(7, 1)]), (0, [(11, 1)]), (-1, [(4, 1)])])], 15)])
theorem zo_um1_l {P : zq_Ty} {h : zq_H} {jk jo jt jm n M Z k o t m N v a b : Int} (a1 : 0 ≤ n - 1) (a2 : 0 ≤ -k + 1) (a3 : 0 ≤ k) (a4 : 0 ≤ m + v) (a5 : 0 ≤ -m - v) (a6 : 0 ≤ -o + a) (a7 : 0 ≤ o - a) (a8 : 0 ≤ -t + b) (a9 : 0 ≤ t - b) (s1 : 0 ≤ jk ∧ P (jk).toNat ≠ none ∧ h (jk).toNat (n - 1) = k) (s2 : 0 ≤ jo ∧ P (jo).toNat ≠ none ∧ h (jo).toNat (n - 1) = o) (s3 : 0 ≤ jt ∧ P (jt).toNat ≠ none ∧ h (jt).toNat (n - 1) = t) (s4 : 0 ≤ jm ∧ P (jm).toNat ≠ none ∧ h (jm).toNat (n - 1) = m) (k1 : zk_ZC 50 jk jo jt jm n M Z P h) (k2 : zk_MV M a b v N P h) : (zk_ZC 50 jk jo jt jm (n - 1) N Z P h ∧ zk_UN M n Z k N (n - 1) P h) := by
  obtain ⟨w1, w2, w3, w4, n0, n1, w5⟩ := k1
  obtain ⟨e1, e2⟩ := w5 (n - 1) (by omega) (by omega)
  rw [s1.2.2] at e1
  rw [s1.2.2, s2.2.2, s3.2.2, s4.2.2] at e2
  have en : ∀ j : Int, zk_N Z n M (n - 1) j = zn_dg M j := fun j => by unfold zk_N; rw [if_neg (by omega)]
  have hN : N = zm_pk (fun j => zn_dg Z (12 * (n - 1) + j)) 11 := by
    rw [show N = zk_mv M a b v from k2, show a = o by omega, show b = t by omega]
    refine zm_pk_cg 11 (fun j p q => ?_)
    show zn_dg M j + (if j = o then v else 0) - (if j = t then v else 0) = zn_dg Z (12 * (n - 1) + j)
    rw [e2 j p (by omega)]
    unfold zk_U
    rw [if_neg (show ¬ k = 2 by omega), if_neg (show ¬ k = 3 by omega), en j, show v = -m by omega]
    by_cases e3 : j = o <;> by_cases e4 : j = t
    · rw [if_pos e3, if_pos e4, if_pos e3, if_pos e4]; omega
    · rw [if_pos e3, if_neg e4, if_pos e3, if_neg e4]; omega
    · rw [if_neg e3, if_pos e4, if_neg e3, if_pos e4]; omega
    · rw [if_neg e3, if_neg e4, if_neg e3, if_neg e4]; omega
  have dN : ∀ j : Int, 0 ≤ j → j < 11 → zn_dg N j = zn_dg Z (12 * (n - 1) + j) := fun j p q => by rw [hN]; exact zm_pk_dg 11 j (fun i _ _ => zn_dg_in _ _) p (by omega)
  refine ⟨⟨w1, w2, w3, w4, by omega, by omega, fun i x y => ?_⟩, Or.inr ⟨by omega, e1, hN, rfl⟩⟩
  obtain ⟨f1, f2⟩ := w5 i x (by omega)
  refine ⟨f1, fun j p q => ?_⟩
  rw [f2 j p q]
  have em : ∀ j : Int, 0 ≤ j → j < 11 → zk_N Z n M i j = zk_N Z (n - 1) N i j := fun j p q => by
    unfold zk_N
    rw [if_pos (by omega)]
    by_cases e : i + 1 < n - 1
    · rw [if_pos e]
    · rw [if_neg e, dN j p q, show i + 1 = n - 1 by omega]
  unfold zk_U
  rw [em j p q, em 10 (by omega) (by omega)]
theorem zo_um1_ok {w : zq_Wd} (x_ZC1 : zj_is w 294 (fun q => zk_ZC 50 (q 0) (q 1) (q 2) (q 3) (q 4) (q 5) (q 6))) (x_MV : zj_is w 312 (fun q => zk_MV (q 0) (q 1) (q 2) (q 3) (q 4))) (x_UN : zj_is w 305 (fun q => zk_UN (q 0) (q 1) (q 2) (q 3) (q 4) (q 5))) : zq_okG1 w zo_um1 := by
  refine ⟨rfl, rfl, zu_fac ⟨rfl, by decide⟩ zq_fan, ?_⟩
  intro r P h H hM
  have q0 : zq_ev r (-1, [(4, 1)]) = r 4 - 1 := zu_e3 _ _ _
  have q1 : zq_ev r (1, [(7, -1)]) = -r 7 + 1 := zu_e5 _ _ _
  have q2 : zq_ev r (0, [(7, 1)]) = r 7 := zu_e1 _ _
  have q3 : zq_ev r (0, [(10, 1), (12, 1)]) = r 10 + r 12 := by simp only [zq_ev, zq_ts] <;> omega
  have q4 : zq_ev r (0, [(10, -1), (12, -1)]) = -r 10 - r 12 := by simp only [zq_ev, zq_ts] <;> omega
  have q5 : zq_ev r (0, [(8, -1), (13, 1)]) = -r 8 + r 13 := by simp only [zq_ev, zq_ts] <;> omega
  have q6 : zq_ev r (0, [(8, 1), (13, -1)]) = r 8 - r 13 := by simp only [zq_ev, zq_ts] <;> omega
  have q7 : zq_ev r (0, [(9, -1), (14, 1)]) = -r 9 + r 14 := by simp only [zq_ev, zq_ts] <;> omega
  have q8 : zq_ev r (0, [(9, 1), (14, -1)]) = r 9 - r 14 := by simp only [zq_ev, zq_ts] <;> omega
  have q9 : zq_ev r (0, [(0, 1)]) = r 0 := zu_e1 _ _
  have q10 : zq_ev r (0, [(1, 1)]) = r 1 := zu_e1 _ _
  have q11 : zq_ev r (0, [(8, 1)]) = r 8 := zu_e1 _ _
  have q12 : zq_ev r (0, [(2, 1)]) = r 2 := zu_e1 _ _
  have q13 : zq_ev r (0, [(9, 1)]) = r 9 := zu_e1 _ _
  have q14 : zq_ev r (0, [(3, 1)]) = r 3 := zu_e1 _ _
  have q15 : zq_ev r (0, [(10, 1)]) = r 10 := zu_e1 _ _
  have q16 : zq_ev r (0, [(4, 1)]) = r 4 := zu_e1 _ _
  have q17 : zq_ev r (0, [(5, 1)]) = r 5 := zu_e1 _ _
  have q18 : zq_ev r (0, [(6, 1)]) = r 6 := zu_e1 _ _
  have q19 : zq_ev r (0, [(13, 1)]) = r 13 := zu_e1 _ _
  have q20 : zq_ev r (0, [(14, 1)]) = r 14 := zu_e1 _ _
  have q21 : zq_ev r (0, [(12, 1)]) = r 12 := zu_e1 _ _
  have q22 : zq_ev r (0, [(11, 1)]) = r 11 := zu_e1 _ _
  obtain ⟨hT, hC, hF, hS, -, hK⟩ := hM
  have c := hC.1
  have a1 := zq_all_1 c
  rw [q0] at a1
  have c := zq_all_t c
  have a2 := zq_all_1 c
  rw [q1] at a2
  have c := zq_all_t c
  have a3 := zq_all_1 c
  rw [q2] at a3
  have c := zq_all_t c
  have a4 := zq_all_1 c
  rw [q3] at a4
  have c := zq_all_t c
  have a5 := zq_all_1 c
  rw [q4] at a5
  have c := zq_all_t c
  have a6 := zq_all_1 c
  rw [q5] at a6
  have c := zq_all_t c
  have a7 := zq_all_1 c
  rw [q6] at a7
  have c := zq_all_t c
  have a8 := zq_all_1 c
  rw [q7] at a8
  have c := zq_all_t c
  have a9 := zq_all_1 c
  rw [q8] at a9
  have s1 := zq_okS_1 (hS)
  simp only [q0, q2, q9] at s1
  have s2 := zq_okS_1 (zq_okS_t (hS))
  simp only [q0, q10, q11] at s2
  have s3 := zq_okS_1 (zq_okS_t (zq_okS_t (hS)))
  simp only [q0, q12, q13] at s3
  have s4 := zq_okS_1 (zq_okS_t (zq_okS_t (zq_okS_t (hS))))
  simp only [q0, q14, q15] at s4
  have k1 := zj_use x_ZC1 (hK)
  have k1 : zk_ZC 50 (zq_ev r (0, [(0, 1)])) (zq_ev r (0, [(1, 1)])) (zq_ev r (0, [(2, 1)])) (zq_ev r (0, [(3, 1)])) (zq_ev r (0, [(4, 1)])) (zq_ev r (0, [(5, 1)])) (zq_ev r (0, [(6, 1)])) P h := k1
  simp only [q10, q12, q14, q16, q17, q18, q9] at k1
  have k2 := zj_use x_MV (zq_okX_t (hK))
  have k2 : zk_MV (zq_ev r (0, [(5, 1)])) (zq_ev r (0, [(13, 1)])) (zq_ev r (0, [(14, 1)])) (zq_ev r (0, [(12, 1)])) (zq_ev r (0, [(11, 1)])) P h := k2
  simp only [q17, q19, q20, q21, q22] at k2
  obtain ⟨t1, t2⟩ := zo_um1_l (P := P) (h := h) (jk := r 0) (jo := r 1) (jt := r 2) (jm := r 3) (n := r 4) (M := r 5) (Z := r 6) (k := r 7) (o := r 8) (t := r 9) (m := r 10) (N := r 11) (v := r 12) (a := r 13) (b := r 14) a1 a2 a3 a4 a5 a6 a7 a8 a9 s1 s2 s3 s4 k1 k2
  obtain ⟨rq, hr⟩ : ∃ rq : Nat → Int, (∀ i, i < 15 → rq i = r i) := ⟨r, fun i hi => rfl⟩
  have v0 : rq 0 = r 0 := hr 0 (by decide)
  have v1 : rq 1 = r 1 := hr 1 (by decide)
  have v2 : rq 2 = r 2 := hr 2 (by decide)
  have v3 : rq 3 = r 3 := hr 3 (by decide)
  have v4 : rq 4 = r 4 := hr 4 (by decide)
  have v5 : rq 5 = r 5 := hr 5 (by decide)
  have v6 : rq 6 = r 6 := hr 6 (by decide)
  have v7 : rq 7 = r 7 := hr 7 (by decide)
  have v11 : rq 11 = r 11 := hr 11 (by decide)
  have g0 : zq_ev rq (0, [(5, 1)]) = r 5 := zu_f1 v5
  have g1 : zq_ev rq (0, [(4, 1)]) = r 4 := zu_f1 v4
  have g2 : zq_ev rq (0, [(6, 1)]) = r 6 := zu_f1 v6
  have g3 : zq_ev rq (0, [(7, 1)]) = r 7 := zu_f1 v7
  have g4 : zq_ev rq (0, [(11, 1)]) = r 11 := zu_f1 v11
  have g5 : zq_ev rq (-1, [(4, 1)]) = r 4 - 1 := zu_f3 v4 _
  have g6 : zq_ev rq (0, [(0, 1)]) = r 0 := zu_f1 v0
  have g7 : zq_ev rq (0, [(1, 1)]) = r 1 := zu_f1 v1
  have g8 : zq_ev rq (0, [(2, 1)]) = r 2 := zu_f1 v2
  have g9 : zq_ev rq (0, [(3, 1)]) = r 3 := zu_f1 v3
  exact ⟨_, List.mem_cons_self .., rq, hr, zq_MeS_mk rfl hT (zq_all_nil) zq_fan (zq_fan) rfl (zu_fac ((x_ZC1 _ _ _).mpr (by show zk_ZC 50 (zq_ev rq (0, [(0, 1)])) (zq_ev rq (0, [(1, 1)])) (zq_ev rq (0, [(2, 1)])) (zq_ev rq (0, [(3, 1)])) (zq_ev rq (-1, [(4, 1)])) (zq_ev rq (0, [(11, 1)])) (zq_ev rq (0, [(6, 1)])) P h; simp only [g2, g4, g5, g6, g7, g8, g9]; exact t1)) (zu_fac ((x_UN _ _ _).mpr (by show zk_UN (zq_ev rq (0, [(5, 1)])) (zq_ev rq (0, [(4, 1)])) (zq_ev rq (0, [(6, 1)])) (zq_ev rq (0, [(7, 1)])) (zq_ev rq (0, [(11, 1)])) (zq_ev rq (-1, [(4, 1)])) P h; simp only [g0, g1, g2, g3, g4, g5]; exact t2)) zq_fan))⟩
noncomputable def zt_00 : zq_S × List zq_S := (([], [], [(0, [(0, 1)])], [((0, [(0, 1)]), 43)], [], [], [], 1), [([], [], [], [], [], [], [(307, [(0, [(0, 1)]), (0, []), (0, [])])], 1)])
theorem zt_00_l {P : zq_Ty} {h : zq_H} {tx : Int} (a1 : 0 ≤ tx) (b1 : 0 ≤ tx → P (tx).toNat = some 43) : (zt_LT 35 tx 0 0 P h) := by
  exact ⟨⟨a1, b1 a1⟩, by omega, by omega, fun f x y => by omega⟩
theorem zt_00_ok {w : zq_Wd} (x_LT0 : zj_is w 307 (fun q => zt_LT 35 (q 0) (q 1) (q 2))) : zq_okG1 w zt_00 := by
  refine ⟨rfl, rfl, zu_fac ⟨rfl, by decide⟩ zq_fan, ?_⟩
  intro r P h H hM
  have q0 : zq_ev r (0, [(0, 1)]) = r 0 := zu_e1 _ _
  obtain ⟨hT, hC, hF, hS, -, hK⟩ := hM
  have c := hC.1
  have a1 := zq_all_1 c
  rw [q0] at a1
  have b1 : 0 ≤ r 0 → P (r 0).toNat = some 43 := fun z => by
    have z1 : 0 ≤ zq_ev r (0, [(0, 1)]) := by rw [q0]; exact z
    have z2 := zq_okF_1 (hF) z1
    simp only [q0] at z2
    exact z2
  obtain t1 := zt_00_l (P := P) (h := h) (tx := r 0) a1 b1
  obtain ⟨rq, hr⟩ : ∃ rq : Nat → Int, (∀ i, i < 1 → rq i = r i) := ⟨r, fun i hi => rfl⟩
  have v0 : rq 0 = r 0 := hr 0 (by decide)
  have g0 : zq_ev rq (0, [(0, 1)]) = r 0 := zu_f1 v0
  have g1 : zq_ev rq (0, []) = 0 := zu_e0 _ _
  exact ⟨_, List.mem_cons_self .., rq, hr, zq_MeS_mk rfl hT (zq_all_nil) zq_fan (zq_fan) rfl (zu_fac ((x_LT0 _ _ _).mpr (by show zt_LT 35 (zq_ev rq (0, [(0, 1)])) (zq_ev rq (0, [])) (zq_ev rq (0, [])) P h; simp only [g0, g1]; exact t1)) zq_fan)⟩
noncomputable def zt_r0 : zq_S × List zq_S := (([], [], [(0, [(3, 1)]), (-1, [(1, 1), (3, -1)])], [], [((0, [(0, 1)]), (0, [(3, 1)]), (0, [(4, 1)]))], [], [(307, [(0, [(0, 1)]), (0, [(1, 1)]), (0, [(2, 1)])])], 5), [([], [], [], [], [], [], [(306, [(0, [(4, 1)]), (0, [(5, 1)]), (0, [(6, 1)])]), (233, [(0, [(2, 1)]), (0, [(3, 1)]), (0, [(5, 1)]), (0, [(6, 1)])])], 7)])
theorem zt_r0_l {P : zq_Ty} {h : zq_H} {tx N T f a : Int} (a1 : 0 ≤ f) (a2 : 0 ≤ N - f - 1) (s1 : 0 ≤ tx ∧ P (tx).toNat ≠ none ∧ h (tx).toNat f = a) (k1 : zt_LT 35 tx N T P h) : (∃ g n : Int, zt_LO a g n P h ∧ zl_TG T f g n P h) := by
  obtain ⟨w1, w2, w3, w4⟩ := k1
  have q := w4 f a1 (by omega)
  rw [s1.2.2] at q
  exact ⟨zT_g T f, zT_n T f, q, rfl, rfl⟩
theorem zt_r0_ok {w : zq_Wd} (x_LT0 : zj_is w 307 (fun q => zt_LT 35 (q 0) (q 1) (q 2))) (x_LO : zj_is w 306 (fun q => zt_LO (q 0) (q 1) (q 2))) (x_TG : zj_is w 233 (fun q => zl_TG (q 0) (q 1) (q 2) (q 3))) : zq_okG1 w zt_r0 := by
  refine ⟨rfl, rfl, zu_fac ⟨rfl, by decide⟩ zq_fan, ?_⟩
  intro r P h H hM
  have q0 : zq_ev r (0, [(3, 1)]) = r 3 := zu_e1 _ _
  have q1 : zq_ev r (-1, [(1, 1), (3, -1)]) = r 1 - r 3 - 1 := by simp only [zq_ev, zq_ts] <;> omega
  have q2 : zq_ev r (0, [(0, 1)]) = r 0 := zu_e1 _ _
  have q3 : zq_ev r (0, [(4, 1)]) = r 4 := zu_e1 _ _
  have q4 : zq_ev r (0, [(1, 1)]) = r 1 := zu_e1 _ _
  have q5 : zq_ev r (0, [(2, 1)]) = r 2 := zu_e1 _ _
  obtain ⟨hT, hC, hF, hS, -, hK⟩ := hM
  have c := hC.1
  have a1 := zq_all_1 c
  rw [q0] at a1
  have c := zq_all_t c
  have a2 := zq_all_1 c
  rw [q1] at a2
  have s1 := zq_okS_1 (hS)
  simp only [q0, q2, q3] at s1
  have k1 := zj_use x_LT0 (hK)
  have k1 : zt_LT 35 (zq_ev r (0, [(0, 1)])) (zq_ev r (0, [(1, 1)])) (zq_ev r (0, [(2, 1)])) P h := k1
  simp only [q2, q4, q5] at k1
  obtain ⟨y_0, y_1, t1, t2⟩ := zt_r0_l (P := P) (h := h) (tx := r 0) (N := r 1) (T := r 2) (f := r 3) (a := r 4) a1 a2 s1 k1
  obtain ⟨rq, hr, w5, w6⟩ : ∃ rq : Nat → Int, (∀ i, i < 5 → rq i = r i) ∧ rq 5 = y_0 ∧ rq 6 = y_1 := ⟨zq_up (zq_up r 5 y_0) 6 y_1, fun i hi => by rw [zu_up_ne (by omega)]; rw [zu_up_ne (by omega)], rfl, rfl⟩
  have v2 : rq 2 = r 2 := hr 2 (by decide)
  have v3 : rq 3 = r 3 := hr 3 (by decide)
  have v4 : rq 4 = r 4 := hr 4 (by decide)
  have g0 : zq_ev rq (0, [(2, 1)]) = r 2 := zu_f1 v2
  have g1 : zq_ev rq (0, [(3, 1)]) = r 3 := zu_f1 v3
  have g2 : zq_ev rq (0, [(5, 1)]) = y_0 := zu_f1 w5
  have g3 : zq_ev rq (0, [(6, 1)]) = y_1 := zu_f1 w6
  have g4 : zq_ev rq (0, [(4, 1)]) = r 4 := zu_f1 v4
  exact ⟨_, List.mem_cons_self .., rq, hr, zq_MeS_mk rfl hT (zq_all_nil) zq_fan (zq_fan) rfl (zu_fac ((x_LO _ _ _).mpr (by show zt_LO (zq_ev rq (0, [(4, 1)])) (zq_ev rq (0, [(5, 1)])) (zq_ev rq (0, [(6, 1)])) P h; simp only [g2, g3, g4]; exact t1)) (zu_fac ((x_TG _ _ _).mpr (by show zl_TG (zq_ev rq (0, [(2, 1)])) (zq_ev rq (0, [(3, 1)])) (zq_ev rq (0, [(5, 1)])) (zq_ev rq (0, [(6, 1)])) P h; simp only [g0, g1, g2, g3]; exact t2)) zq_fan))⟩
noncomputable def zt_01 : zq_S × List zq_S := (([], [], [(0, [(0, 1)])], [((0, [(0, 1)]), 58)], [], [], [], 1), [([], [], [], [], [], [], [(308, [(0, [(0, 1)]), (0, []), (0, [])])], 1)])
theorem zt_01_l {P : zq_Ty} {h : zq_H} {tx : Int} (a1 : 0 ≤ tx) (b1 : 0 ≤ tx → P (tx).toNat = some 58) : (zt_LT 50 tx 0 0 P h) := by
  exact ⟨⟨a1, b1 a1⟩, by omega, by omega, fun f x y => by omega⟩
theorem zt_01_ok {w : zq_Wd} (x_LT1 : zj_is w 308 (fun q => zt_LT 50 (q 0) (q 1) (q 2))) : zq_okG1 w zt_01 := by
  refine ⟨rfl, rfl, zu_fac ⟨rfl, by decide⟩ zq_fan, ?_⟩
  intro r P h H hM
  have q0 : zq_ev r (0, [(0, 1)]) = r 0 := zu_e1 _ _
  obtain ⟨hT, hC, hF, hS, -, hK⟩ := hM
  have c := hC.1
  have a1 := zq_all_1 c
  rw [q0] at a1
  have b1 : 0 ≤ r 0 → P (r 0).toNat = some 58 := fun z => by
    have z1 : 0 ≤ zq_ev r (0, [(0, 1)]) := by rw [q0]; exact z
    have z2 := zq_okF_1 (hF) z1
    simp only [q0] at z2
    exact z2
  obtain t1 := zt_01_l (P := P) (h := h) (tx := r 0) a1 b1
  obtain ⟨rq, hr⟩ : ∃ rq : Nat → Int, (∀ i, i < 1 → rq i = r i) := ⟨r, fun i hi => rfl⟩
  have v0 : rq 0 = r 0 := hr 0 (by decide)
  have g0 : zq_ev rq (0, [(0, 1)]) = r 0 := zu_f1 v0
  have g1 : zq_ev rq (0, []) = 0 := zu_e0 _ _
  exact ⟨_, List.mem_cons_self .., rq, hr, zq_MeS_mk rfl hT (zq_all_nil) zq_fan (zq_fan) rfl (zu_fac ((x_LT1 _ _ _).mpr (by show zt_LT 50 (zq_ev rq (0, [(0, 1)])) (zq_ev rq (0, [])) (zq_ev rq (0, [])) P h; simp only [g0, g1]; exact t1)) zq_fan)⟩
noncomputable def zt_r1 : zq_S × List zq_S := (([], [], [(0, [(3, 1)]), (-1, [(1, 1), (3, -1)])], [], [((0, [(0, 1)]), (0, [(3, 1)]), (0, [(4, 1)]))], [], [(308, [(0, [(0, 1)]), (0, [(1, 1)]), (0, [(2, 1)])])], 5), [([], [], [], [], [], [], [(306, [(0, [(4, 1)]), (0, [(5, 1)]), (0, [(6, 1)])]), (233, [(0, [(2, 1)]), (0, [(3, 1)]), (0, [(5, 1)]), (0, [(6, 1)])])], 7)])
theorem zt_r1_l {P : zq_Ty} {h : zq_H} {tx N T f a : Int} (a1 : 0 ≤ f) (a2 : 0 ≤ N - f - 1) (s1 : 0 ≤ tx ∧ P (tx).toNat ≠ none ∧ h (tx).toNat f = a) (k1 : zt_LT 50 tx N T P h) : (∃ g n : Int, zt_LO a g n P h ∧ zl_TG T f g n P h) := by
  obtain ⟨w1, w2, w3, w4⟩ := k1
  have q := w4 f a1 (by omega)
  rw [s1.2.2] at q
  exact ⟨zT_g T f, zT_n T f, q, rfl, rfl⟩
theorem zt_r1_ok {w : zq_Wd} (x_LT1 : zj_is w 308 (fun q => zt_LT 50 (q 0) (q 1) (q 2))) (x_LO : zj_is w 306 (fun q => zt_LO (q 0) (q 1) (q 2))) (x_TG : zj_is w 233 (fun q => zl_TG (q 0) (q 1) (q 2) (q 3))) : zq_okG1 w zt_r1 := by
  refine ⟨rfl, rfl, zu_fac ⟨rfl, by decide⟩ zq_fan, ?_⟩
  intro r P h H hM
  have q0 : zq_ev r (0, [(3, 1)]) = r 3 := zu_e1 _ _
  have q1 : zq_ev r (-1, [(1, 1), (3, -1)]) = r 1 - r 3 - 1 := by simp only [zq_ev, zq_ts] <;> omega
  have q2 : zq_ev r (0, [(0, 1)]) = r 0 := zu_e1 _ _
  have q3 : zq_ev r (0, [(4, 1)]) = r 4 := zu_e1 _ _
  have q4 : zq_ev r (0, [(1, 1)]) = r 1 := zu_e1 _ _
  have q5 : zq_ev r (0, [(2, 1)]) = r 2 := zu_e1 _ _
  obtain ⟨hT, hC, hF, hS, -, hK⟩ := hM
  have c := hC.1
  have a1 := zq_all_1 c
  rw [q0] at a1
  have c := zq_all_t c
  have a2 := zq_all_1 c
  rw [q1] at a2
  have s1 := zq_okS_1 (hS)
  simp only [q0, q2, q3] at s1
  have k1 := zj_use x_LT1 (hK)
  have k1 : zt_LT 50 (zq_ev r (0, [(0, 1)])) (zq_ev r (0, [(1, 1)])) (zq_ev r (0, [(2, 1)])) P h := k1
  simp only [q2, q4, q5] at k1
  obtain ⟨y_0, y_1, t1, t2⟩ := zt_r1_l (P := P) (h := h) (tx := r 0) (N := r 1) (T := r 2) (f := r 3) (a := r 4) a1 a2 s1 k1
  obtain ⟨rq, hr, w5, w6⟩ : ∃ rq : Nat → Int, (∀ i, i < 5 → rq i = r i) ∧ rq 5 = y_0 ∧ rq 6 = y_1 := ⟨zq_up (zq_up r 5 y_0) 6 y_1, fun i hi => by rw [zu_up_ne (by omega)]; rw [zu_up_ne (by omega)], rfl, rfl⟩
  have v2 : rq 2 = r 2 := hr 2 (by decide)
  have v3 : rq 3 = r 3 := hr 3 (by decide)
  have v4 : rq 4 = r 4 := hr 4 (by decide)
  have g0 : zq_ev rq (0, [(2, 1)]) = r 2 := zu_f1 v2
  have g1 : zq_ev rq (0, [(3, 1)]) = r 3 := zu_f1 v3
  have g2 : zq_ev rq (0, [(5, 1)]) = y_0 := zu_f1 w5
  have g3 : zq_ev rq (0, [(6, 1)]) = y_1 := zu_f1 w6
  have g4 : zq_ev rq (0, [(4, 1)]) = r 4 := zu_f1 v4
  exact ⟨_, List.mem_cons_self .., rq, hr, zq_MeS_mk rfl hT (zq_all_nil) zq_fan (zq_fan) rfl (zu_fac ((x_LO _ _ _).mpr (by show zt_LO (zq_ev rq (0, [(4, 1)])) (zq_ev rq (0, [(5, 1)])) (zq_ev rq (0, [(6, 1)])) P h; simp only [g2, g3, g4]; exact t1)) (zu_fac ((x_TG _ _ _).mpr (by show zl_TG (zq_ev rq (0, [(2, 1)])) (zq_ev rq (0, [(3, 1)])) (zq_ev rq (0, [(5, 1)])) (zq_ev rq (0, [(6, 1)])) P h; simp only [g0, g1, g2, g3]; exact t2)) zq_fan))⟩
noncomputable def zt_02 : zq_S × List zq_S := (([], [], [(0, [(0, 1)])], [((0, [(0, 1)]), 73)], [], [], [], 1), [([], [], [], [], [], [], [(309, [(0, [(0, 1)]), (0, []), (0, [])])], 1)])
theorem zt_02_l {P : zq_Ty} {h : zq_H} {tx : Int} (a1 : 0 ≤ tx) (b1 : 0 ≤ tx → P (tx).toNat = some 73) : (zt_LT 65 tx 0 0 P h) := by
  exact ⟨⟨a1, b1 a1⟩, by omega, by omega, fun f x y => by omega⟩
theorem zt_02_ok {w : zq_Wd} (x_LT2 : zj_is w 309 (fun q => zt_LT 65 (q 0) (q 1) (q 2))) : zq_okG1 w zt_02 := by
  refine ⟨rfl, rfl, zu_fac ⟨rfl, by decide⟩ zq_fan, ?_⟩
  intro r P h H hM
  have q0 : zq_ev r (0, [(0, 1)]) = r 0 := zu_e1 _ _
  obtain ⟨hT, hC, hF, hS, -, hK⟩ := hM
  have c := hC.1
  have a1 := zq_all_1 c
  rw [q0] at a1
  have b1 : 0 ≤ r 0 → P (r 0).toNat = some 73 := fun z => by
    have z1 : 0 ≤ zq_ev r (0, [(0, 1)]) := by rw [q0]; exact z
    have z2 := zq_okF_1 (hF) z1
    simp only [q0] at z2
    exact z2
  obtain t1 := zt_02_l (P := P) (h := h) (tx := r 0) a1 b1
  obtain ⟨rq, hr⟩ : ∃ rq : Nat → Int, (∀ i, i < 1 → rq i = r i) := ⟨r, fun i hi => rfl⟩
  have v0 : rq 0 = r 0 := hr 0 (by decide)
  have g0 : zq_ev rq (0, [(0, 1)]) = r 0 := zu_f1 v0
  have g1 : zq_ev rq (0, []) = 0 := zu_e0 _ _
  exact ⟨_, List.mem_cons_self .., rq, hr, zq_MeS_mk rfl hT (zq_all_nil) zq_fan (zq_fan) rfl (zu_fac ((x_LT2 _ _ _).mpr (by show zt_LT 65 (zq_ev rq (0, [(0, 1)])) (zq_ev rq (0, [])) (zq_ev rq (0, [])) P h; simp only [g0, g1]; exact t1)) zq_fan)⟩
noncomputable def zt_r2 : zq_S × List zq_S := (([], [], [(0, [(3, 1)]), (-1, [(1, 1), (3, -1)])], [], [((0, [(0, 1)]), (0, [(3, 1)]), (0, [(4, 1)]))], [], [(309, [(0, [(0, 1)]), (0, [(1, 1)]), (0, [(2, 1)])])], 5), [([], [], [], [], [], [], [(306, [(0, [(4, 1)]), (0, [(5, 1)]), (0, [(6, 1)])]), (233, [(0, [(2, 1)]), (0, [(3, 1)]), (0, [(5, 1)]), (0, [(6, 1)])])], 7)])
theorem zt_r2_l {P : zq_Ty} {h : zq_H} {tx N T f a : Int} (a1 : 0 ≤ f) (a2 : 0 ≤ N - f - 1) (s1 : 0 ≤ tx ∧ P (tx).toNat ≠ none ∧ h (tx).toNat f = a) (k1 : zt_LT 65 tx N T P h) : (∃ g n : Int, zt_LO a g n P h ∧ zl_TG T f g n P h) := by
  obtain ⟨w1, w2, w3, w4⟩ := k1
  have q := w4 f a1 (by omega)
  rw [s1.2.2] at q
  exact ⟨zT_g T f, zT_n T f, q, rfl, rfl⟩
theorem zt_r2_ok {w : zq_Wd} (x_LT2 : zj_is w 309 (fun q => zt_LT 65 (q 0) (q 1) (q 2))) (x_LO : zj_is w 306 (fun q => zt_LO (q 0) (q 1) (q 2))) (x_TG : zj_is w 233 (fun q => zl_TG (q 0) (q 1) (q 2) (q 3))) : zq_okG1 w zt_r2 := by
  refine ⟨rfl, rfl, zu_fac ⟨rfl, by decide⟩ zq_fan, ?_⟩
  intro r P h H hM
  have q0 : zq_ev r (0, [(3, 1)]) = r 3 := zu_e1 _ _
  have q1 : zq_ev r (-1, [(1, 1), (3, -1)]) = r 1 - r 3 - 1 := by simp only [zq_ev, zq_ts] <;> omega
  have q2 : zq_ev r (0, [(0, 1)]) = r 0 := zu_e1 _ _
  have q3 : zq_ev r (0, [(4, 1)]) = r 4 := zu_e1 _ _
  have q4 : zq_ev r (0, [(1, 1)]) = r 1 := zu_e1 _ _
  have q5 : zq_ev r (0, [(2, 1)]) = r 2 := zu_e1 _ _
  obtain ⟨hT, hC, hF, hS, -, hK⟩ := hM
  have c := hC.1
  have a1 := zq_all_1 c
  rw [q0] at a1
  have c := zq_all_t c
  have a2 := zq_all_1 c
  rw [q1] at a2
  have s1 := zq_okS_1 (hS)
  simp only [q0, q2, q3] at s1
  have k1 := zj_use x_LT2 (hK)
  have k1 : zt_LT 65 (zq_ev r (0, [(0, 1)])) (zq_ev r (0, [(1, 1)])) (zq_ev r (0, [(2, 1)])) P h := k1
  simp only [q2, q4, q5] at k1
  obtain ⟨y_0, y_1, t1, t2⟩ := zt_r2_l (P := P) (h := h) (tx := r 0) (N := r 1) (T := r 2) (f := r 3) (a := r 4) a1 a2 s1 k1
  obtain ⟨rq, hr, w5, w6⟩ : ∃ rq : Nat → Int, (∀ i, i < 5 → rq i = r i) ∧ rq 5 = y_0 ∧ rq 6 = y_1 := ⟨zq_up (zq_up r 5 y_0) 6 y_1, fun i hi => by rw [zu_up_ne (by omega)]; rw [zu_up_ne (by omega)], rfl, rfl⟩
  have v2 : rq 2 = r 2 := hr 2 (by decide)
  have v3 : rq 3 = r 3 := hr 3 (by decide)
  have v4 : rq 4 = r 4 := hr 4 (by decide)
  have g0 : zq_ev rq (0, [(2, 1)]) = r 2 := zu_f1 v2
  have g1 : zq_ev rq (0, [(3, 1)]) = r 3 := zu_f1 v3
  have g2 : zq_ev rq (0, [(5, 1)]) = y_0 := zu_f1 w5
  have g3 : zq_ev rq (0, [(6, 1)]) = y_1 := zu_f1 w6
  have g4 : zq_ev rq (0, [(4, 1)]) = r 4 := zu_f1 v4
  exact ⟨_, List.mem_cons_self .., rq, hr, zq_MeS_mk rfl hT (zq_all_nil) zq_fan (zq_fan) rfl (zu_fac ((x_LO _ _ _).mpr (by show zt_LO (zq_ev rq (0, [(4, 1)])) (zq_ev rq (0, [(5, 1)])) (zq_ev rq (0, [(6, 1)])) P h; simp only [g2, g3, g4]; exact t1)) (zu_fac ((x_TG _ _ _).mpr (by show zl_TG (zq_ev rq (0, [(2, 1)])) (zq_ev rq (0, [(3, 1)])) (zq_ev rq (0, [(5, 1)])) (zq_ev rq (0, [(6, 1)])) P h; simp only [g0, g1, g2, g3]; exact t2)) zq_fan))⟩
noncomputable def zt_03 : zq_S × List zq_S := (([], [], [(0, [(0, 1)])], [((0, [(0, 1)]), 88)], [], [], [], 1), [([], [], [], [], [], [], [(310, [(0, [(0, 1)]), (0, []), (0, [])])], 1)])
theorem zt_03_l {P : zq_Ty} {h : zq_H} {tx : Int} (a1 : 0 ≤ tx) (b1 : 0 ≤ tx → P (tx).toNat = some 88) : (zt_LT 80 tx 0 0 P h) := by
  exact ⟨⟨a1, b1 a1⟩, by omega, by omega, fun f x y => by omega⟩
theorem zt_03_ok {w : zq_Wd} (x_LT3 : zj_is w 310 (fun q => zt_LT 80 (q 0) (q 1) (q 2))) : zq_okG1 w zt_03 := by
  refine ⟨rfl, rfl, zu_fac ⟨rfl, by decide⟩ zq_fan, ?_⟩
  intro r P h H hM
  have q0 : zq_ev r (0, [(0, 1)]) = r 0 := zu_e1 _ _
  obtain ⟨hT, hC, hF, hS, -, hK⟩ := hM
  have c := hC.1
  have a1 := zq_all_1 c
  rw [q0] at a1
  have b1 : 0 ≤ r 0 → P (r 0).toNat = some 88 := fun z => by
    have z1 : 0 ≤ zq_ev r (0, [(0, 1)]) := by rw [q0]; exact z
    have z2 := zq_okF_1 (hF) z1
    simp only [q0] at z2
    exact z2
  obtain t1 := zt_03_l (P := P) (h := h) (tx := r 0) a1 b1
  obtain ⟨rq, hr⟩ : ∃ rq : Nat → Int, (∀ i, i < 1 → rq i = r i) := ⟨r, fun i hi => rfl⟩
  have v0 : rq 0 = r 0 := hr 0 (by decide)
  have g0 : zq_ev rq (0, [(0, 1)]) = r 0 := zu_f1 v0
  have g1 : zq_ev rq (0, []) = 0 := zu_e0 _ _
  exact ⟨_, List.mem_cons_self .., rq, hr, zq_MeS_mk rfl hT (zq_all_nil) zq_fan (zq_fan) rfl (zu_fac ((x_LT3 _ _ _).mpr (by show zt_LT 80 (zq_ev rq (0, [(0, 1)])) (zq_ev rq (0, [])) (zq_ev rq (0, [])) P h; simp only [g0, g1]; exact t1)) zq_fan)⟩
noncomputable def zt_r3 : zq_S × List zq_S := (([], [], [(0, [(3, 1)]), (-1, [(1, 1), (3, -1)])], [], [((0, [(0, 1)]), (0, [(3, 1)]), (0, [(4, 1)]))], [], [(310, [(0, [(0, 1)]), (0, [(1, 1)]), (0, [(2, 1)])])], 5), [([], [], [], [], [], [], [(306, [(0, [(4, 1)]), (0, [(5, 1)]), (0, [(6, 1)])]), (233, [(0, [(2, 1)]), (0, [(3, 1)]), (0, [(5, 1)]), (0, [(6, 1)])])], 7)])
theorem zt_r3_l {P : zq_Ty} {h : zq_H} {tx N T f a : Int} (a1 : 0 ≤ f) (a2 : 0 ≤ N - f - 1) (s1 : 0 ≤ tx ∧ P (tx).toNat ≠ none ∧ h (tx).toNat f = a) (k1 : zt_LT 80 tx N T P h) : (∃ g n : Int, zt_LO a g n P h ∧ zl_TG T f g n P h) := by
  obtain ⟨w1, w2, w3, w4⟩ := k1
  have q := w4 f a1 (by omega)
  rw [s1.2.2] at q
  exact ⟨zT_g T f, zT_n T f, q, rfl, rfl⟩
theorem zt_r3_ok {w : zq_Wd} (x_LT3 : zj_is w 310 (fun q => zt_LT 80 (q 0) (q 1) (q 2))) (x_LO : zj_is w 306 (fun q => zt_LO (q 0) (q 1) (q 2))) (x_TG : zj_is w 233 (fun q => zl_TG (q 0) (q 1) (q 2) (q 3))) : zq_okG1 w zt_r3 := by
  refine ⟨rfl, rfl, zu_fac ⟨rfl, by decide⟩ zq_fan, ?_⟩
  intro r P h H hM
  have q0 : zq_ev r (0, [(3, 1)]) = r 3 := zu_e1 _ _
  have q1 : zq_ev r (-1, [(1, 1), (3, -1)]) = r 1 - r 3 - 1 := by simp only [zq_ev, zq_ts] <;> omega
  have q2 : zq_ev r (0, [(0, 1)]) = r 0 := zu_e1 _ _
  have q3 : zq_ev r (0, [(4, 1)]) = r 4 := zu_e1 _ _
  have q4 : zq_ev r (0, [(1, 1)]) = r 1 := zu_e1 _ _
  have q5 : zq_ev r (0, [(2, 1)]) = r 2 := zu_e1 _ _
  obtain ⟨hT, hC, hF, hS, -, hK⟩ := hM
  have c := hC.1
  have a1 := zq_all_1 c
  rw [q0] at a1
  have c := zq_all_t c
  have a2 := zq_all_1 c
  rw [q1] at a2
  have s1 := zq_okS_1 (hS)
  simp only [q0, q2, q3] at s1
  have k1 := zj_use x_LT3 (hK)
  have k1 : zt_LT 80 (zq_ev r (0, [(0, 1)])) (zq_ev r (0, [(1, 1)])) (zq_ev r (0, [(2, 1)])) P h := k1
  simp only [q2, q4, q5] at k1
  obtain ⟨y_0, y_1, t1, t2⟩ := zt_r3_l (P := P) (h := h) (tx := r 0) (N := r 1) (T := r 2) (f := r 3) (a := r 4) a1 a2 s1 k1
  obtain ⟨rq, hr, w5, w6⟩ : ∃ rq : Nat → Int, (∀ i, i < 5 → rq i = r i) ∧ rq 5 = y_0 ∧ rq 6 = y_1 := ⟨zq_up (zq_up r 5 y_0) 6 y_1, fun i hi => by rw [zu_up_ne (by omega)]; rw [zu_up_ne (by omega)], rfl, rfl⟩
  have v2 : rq 2 = r 2 := hr 2 (by decide)
  have v3 : rq 3 = r 3 := hr 3 (by decide)
  have v4 : rq 4 = r 4 := hr 4 (by decide)
  have g0 : zq_ev rq (0, [(2, 1)]) = r 2 := zu_f1 v2
  have g1 : zq_ev rq (0, [(3, 1)]) = r 3 := zu_f1 v3
  have g2 : zq_ev rq (0, [(5, 1)]) = y_0 := zu_f1 w5
  have g3 : zq_ev rq (0, [(6, 1)]) = y_1 := zu_f1 w6
  have g4 : zq_ev rq (0, [(4, 1)]) = r 4 := zu_f1 v4
  exact ⟨_, List.mem_cons_self .., rq, hr, zq_MeS_mk rfl hT (zq_all_nil) zq_fan (zq_fan) rfl (zu_fac ((x_LO _ _ _).mpr (by show zt_LO (zq_ev rq (0, [(4, 1)])) (zq_ev rq (0, [(5, 1)])) (zq_ev rq (0, [(6, 1)])) P h; simp only [g2, g3, g4]; exact t1)) (zu_fac ((x_TG _ _ _).mpr (by show zl_TG (zq_ev rq (0, [(2, 1)])) (zq_ev rq (0, [(3, 1)])) (zq_ev rq (0, [(5, 1)])) (zq_ev rq (0, [(6, 1)])) P h; simp only [g0, g1, g2, g3]; exact t2)) zq_fan))⟩
noncomputable def zt_p : zq_S × List zq_S := (([], [], [], [], [], [], [(306, [(0, [(0, 1)]), (0, [(1, 1)]), (0, [(2, 1)])])], 3), [([], [], [(0, [(0, 1)])], [], [], [], [], 3)])
theorem zt_p_l {P : zq_Ty} {h : zq_H} {a g n : Int} (k1 : zt_LO a g n P h) : (0 ≤ a) := by
  exact k1.1.1
theorem zt_p_ok {w : zq_Wd} (x_LO : zj_is w 306 (fun q => zt_LO (q 0) (q 1) (q 2))) : zq_okG1 w zt_p := by
  refine ⟨rfl, rfl, zu_fac ⟨rfl, by decide⟩ zq_fan, ?_⟩
  intro r P h H hM
  have q0 : zq_ev r (0, [(0, 1)]) = r 0 := zu_e1 _ _
  have q1 : zq_ev r (0, [(1, 1)]) = r 1 := zu_e1 _ _
  have q2 : zq_ev r (0, [(2, 1)]) = r 2 := zu_e1 _ _
  obtain ⟨hT, hC, hF, hS, -, hK⟩ := hM
  have c := hC.1
  have k1 := zj_use x_LO (hK)
  have k1 : zt_LO (zq_ev r (0, [(0, 1)])) (zq_ev r (0, [(1, 1)])) (zq_ev r (0, [(2, 1)])) P h := k1
  simp only [q0, q1, q2] at k1
  obtain c1 := zt_p_l (P := P) (h := h) (a := r 0) (g := r 1) (n := r 2) k1
  obtain ⟨rq, hr⟩ : ∃ rq : Nat → Int, (∀ i, i < 3 → rq i = r i) := ⟨r, fun i hi => rfl⟩
  have v0 : rq 0 = r 0 := hr 0 (by decide)
  have g0 : zq_ev rq (0, [(0, 1)]) = r 0 := zu_f1 v0
  exact ⟨_, List.mem_cons_self .., rq, hr, zq_MeS_mk rfl hT (zq_all_cons (by rw [g0]; exact c1) (zq_all_nil)) zq_fan (zq_fan) rfl zq_fan⟩
noncomputable def zt_x : zq_S × List zq_S := (([], [], [], [], [((0, [(0, 1)]), (0, []), (0, [(3, 1)])), ((0, [(0, 1)]), (1, []), (0, [(4, 1)])), ((0, [(0, 1)]), (2, []), (0, [(5, 1)])), ((0, [(0, 1)]), (3, []), (0, [(6, 1)])), ((0, [(0, 1)]), (4, []), (0, [(7, 1)])), ((0, [(0, 1)]), (5, []), (0, [(8, 1)]))], [], [(306, [(0, [(0, 1)]), (0, [(1, 1)]), (0, [(2, 1)])])], 9), [([], [], [], [], [], [], [(262, [(0, [(3, 1)]), (0, [(4, 1)]), (0, [(5, 1)]), (0, [(6, 1)]), (0, []), (0, [(1, 1)]), (0, [(2, 1)]), (0, [(7, 1)]), (0, [(8, 1)])])], 9)])
theorem zt_x_l {P : zq_Ty} {h : zq_H} {a g n ak at_ as_ ac m z : Int} (s1 : 0 ≤ a ∧ P (a).toNat ≠ none ∧ h (a).toNat 0 = ak) (s2 : 0 ≤ a ∧ P (a).toNat ≠ none ∧ h (a).toNat 1 = at_) (s3 : 0 ≤ a ∧ P (a).toNat ≠ none ∧ h (a).toNat 2 = as_) (s4 : 0 ≤ a ∧ P (a).toNat ≠ none ∧ h (a).toNat 3 = ac) (s5 : 0 ≤ a ∧ P (a).toNat ≠ none ∧ h (a).toNat 4 = m) (s6 : 0 ≤ a ∧ P (a).toNat ≠ none ∧ h (a).toNat 5 = z) (k1 : zt_LO a g n P h) : (zd_TX 25 26 27 28 ak at_ as_ ac 0 g n m z P h) := by
  obtain ⟨w1, w2⟩ := k1
  rw [s1.2.2, s2.2.2, s3.2.2, s4.2.2, s5.2.2, s6.2.2] at w2
  exact w2
theorem zt_x_ok {w : zq_Wd} (x_LO : zj_is w 306 (fun q => zt_LO (q 0) (q 1) (q 2))) (x_XT : zj_is w 262 (fun q => zd_TX 25 26 27 28 (q 0) (q 1) (q 2) (q 3) (q 4) (q 5) (q 6) (q 7) (q 8))) : zq_okG1 w zt_x := by
  refine ⟨rfl, rfl, zu_fac ⟨rfl, by decide⟩ zq_fan, ?_⟩
  intro r P h H hM
  have q0 : zq_ev r (0, [(0, 1)]) = r 0 := zu_e1 _ _
  have q1 : zq_ev r (0, []) = 0 := zu_e0 _ _
  have q2 : zq_ev r (0, [(3, 1)]) = r 3 := zu_e1 _ _
  have q3 : zq_ev r (1, []) = 1 := zu_e0 _ _
  have q4 : zq_ev r (0, [(4, 1)]) = r 4 := zu_e1 _ _
  have q5 : zq_ev r (2, []) = 2 := zu_e0 _ _
  have q6 : zq_ev r (0, [(5, 1)]) = r 5 := zu_e1 _ _
  have q7 : zq_ev r (3, []) = 3 := zu_e0 _ _
  have q8 : zq_ev r (0, [(6, 1)]) = r 6 := zu_e1 _ _
  have q9 : zq_ev r (4, []) = 4 := zu_e0 _ _
  have q10 : zq_ev r (0, [(7, 1)]) = r 7 := zu_e1 _ _
  have q11 : zq_ev r (5, []) = 5 := zu_e0 _ _
  have q12 : zq_ev r (0, [(8, 1)]) = r 8 := zu_e1 _ _
  have q13 : zq_ev r (0, [(1, 1)]) = r 1 := zu_e1 _ _
  have q14 : zq_ev r (0, [(2, 1)]) = r 2 := zu_e1 _ _
  obtain ⟨hT, hC, hF, hS, -, hK⟩ := hM
  have c := hC.1
  have s1 := zq_okS_1 (hS)
  simp only [q0, q1, q2] at s1
  have s2 := zq_okS_1 (zq_okS_t (hS))
  simp only [q0, q3, q4] at s2
  have s3 := zq_okS_1 (zq_okS_t (zq_okS_t (hS)))
  simp only [q0, q5, q6] at s3
  have s4 := zq_okS_1 (zq_okS_t (zq_okS_t (zq_okS_t (hS))))
  simp only [q0, q7, q8] at s4
  have s5 := zq_okS_1 (zq_okS_t (zq_okS_t (zq_okS_t (zq_okS_t (hS)))))
  simp only [q0, q10, q9] at s5
  have s6 := zq_okS_1 (zq_okS_t (zq_okS_t (zq_okS_t (zq_okS_t (zq_okS_t (hS))))))
  simp only [q0, q11, q12] at s6
  have k1 := zj_use x_LO (hK)
  have k1 : zt_LO (zq_ev r (0, [(0, 1)])) (zq_ev r (0, [(1, 1)])) (zq_ev r (0, [(2, 1)])) P h := k1
  simp only [q0, q13, q14] at k1
  obtain t1 := zt_x_l (P := P) (h := h) (a := r 0) (g := r 1) (n := r 2) (ak := r 3) (at_ := r 4) (as_ := r 5) (ac := r 6) (m := r 7) (z := r 8) s1 s2 s3 s4 s5 s6 k1
  obtain ⟨rq, hr⟩ : ∃ rq : Nat → Int, (∀ i, i < 9 → rq i = r i) := ⟨r, fun i hi => rfl⟩
  have v1 : rq 1 = r 1 := hr 1 (by decide)
  have v2 : rq 2 = r 2 := hr 2 (by decide)
  have v3 : rq 3 = r 3 := hr 3 (by decide)
  have v4 : rq 4 = r 4 := hr 4 (by decide)
  have v5 : rq 5 = r 5 := hr 5 (by decide)
  have v6 : rq 6 = r 6 := hr 6 (by decide)
  have v7 : rq 7 = r 7 := hr 7 (by decide)
  have v8 : rq 8 = r 8 := hr 8 (by decide)
  have g0 : zq_ev rq (0, [(3, 1)]) = r 3 := zu_f1 v3
  have g1 : zq_ev rq (0, [(4, 1)]) = r 4 := zu_f1 v4
  have g2 : zq_ev rq (0, [(5, 1)]) = r 5 := zu_f1 v5
  have g3 : zq_ev rq (0, [(6, 1)]) = r 6 := zu_f1 v6
  have g4 : zq_ev rq (0, []) = 0 := zu_e0 _ _
  have g5 : zq_ev rq (0, [(1, 1)]) = r 1 := zu_f1 v1
  have g6 : zq_ev rq (0, [(2, 1)]) = r 2 := zu_f1 v2
  have g7 : zq_ev rq (0, [(7, 1)]) = r 7 := zu_f1 v7
  have g8 : zq_ev rq (0, [(8, 1)]) = r 8 := zu_f1 v8
  exact ⟨_, List.mem_cons_self .., rq, hr, zq_MeS_mk rfl hT (zq_all_nil) zq_fan (zq_fan) rfl (zu_fac ((x_XT _ _ _).mpr (by show zd_TX 25 26 27 28 (zq_ev rq (0, [(3, 1)])) (zq_ev rq (0, [(4, 1)])) (zq_ev rq (0, [(5, 1)])) (zq_ev rq (0, [(6, 1)])) (zq_ev rq (0, [])) (zq_ev rq (0, [(1, 1)])) (zq_ev rq (0, [(2, 1)])) (zq_ev rq (0, [(7, 1)])) (zq_ev rq (0, [(8, 1)])) P h; simp only [g0, g1, g2, g3, g4, g5, g6, g7, g8]; exact t1)) zq_fan)⟩
