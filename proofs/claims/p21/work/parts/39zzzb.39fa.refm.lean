/-! WHAT MOVES, the reference: facts -/
noncomputable def zm_kr : zq_S × List zq_S := (([], [], [(0, [(2, 1)]), (10, [(2, -1)])], [], [((0, [(0, 1)]), (0, [(2, 1)]), (0, [(3, 1)]))], [], [(286, [(0, [(0, 1)]), (0, [(1, 1)])])], 4), [([], [], [], [], [], [], [(134, [(0, [(1, 1)]), (0, [(2, 1)]), (0, [(3, 1)])])], 4)])
theorem zm_kr_l {P : zq_Ty} {h : zq_H} {a M i v : Int} (a1 : 0 ≤ i) (a2 : 0 ≤ -i + 10) (s1 : 0 ≤ a ∧ P (a).toNat ≠ none ∧ h (a).toNat i = v) (k1 : zm_MK 1 0 a M P h) : (zn_DG M i v P h) := by
  have e := zm_is_dg (j := i) k1.2 a1 (by omega)
  have s : h a.toNat (0 + i) = v := by rw [show 0 + i = i by omega]; exact s1.2.2
  exact s.symm.trans e
theorem zm_kr_ok {w : zq_Wd} (x_MK : zj_is w 286 (fun q => zm_MK 1 0 (q 0) (q 1))) (x_DG : zj_is w 134 (fun q => zn_DG (q 0) (q 1) (q 2))) : zq_okG1 w zm_kr := by
  refine ⟨rfl, rfl, zu_fac ⟨rfl, by decide⟩ zq_fan, ?_⟩
  intro r P h H hM
  have q0 : zq_ev r (0, [(2, 1)]) = r 2 := zu_e1 _ _
  have q1 : zq_ev r (10, [(2, -1)]) = -r 2 + 10 := zu_e5 _ _ _
  have q2 : zq_ev r (0, [(0, 1)]) = r 0 := zu_e1 _ _
  have q3 : zq_ev r (0, [(3, 1)]) = r 3 := zu_e1 _ _
  have q4 : zq_ev r (0, [(1, 1)]) = r 1 := zu_e1 _ _
  obtain ⟨hT, hC, hF, hS, -, hK⟩ := hM
  have c := hC.1
  have a1 := zq_all_1 c
  rw [q0] at a1
  have c := zq_all_t c
  have a2 := zq_all_1 c
  rw [q1] at a2
  have s1 := zq_okS_1 (hS)
  simp only [q0, q2, q3] at s1
  have k1 := zj_use x_MK (hK)
  have k1 : zm_MK 1 0 (zq_ev r (0, [(0, 1)])) (zq_ev r (0, [(1, 1)])) P h := k1
  simp only [q2, q4] at k1
  obtain t1 := zm_kr_l (P := P) (h := h) (a := r 0) (M := r 1) (i := r 2) (v := r 3) a1 a2 s1 k1
  obtain ⟨rq, hr⟩ : ∃ rq : Nat → Int, (∀ i, i < 4 → rq i = r i) := ⟨r, fun i hi => rfl⟩
  have v1 : rq 1 = r 1 := hr 1 (by decide)
  have v2 : rq 2 = r 2 := hr 2 (by decide)
  have v3 : rq 3 = r 3 := hr 3 (by decide)
  have g0 : zq_ev rq (0, [(1, 1)]) = r 1 := zu_f1 v1
  have g1 : zq_ev rq (0, [(2, 1)]) = r 2 := zu_f1 v2
  have g2 : zq_ev rq (0, [(3, 1)]) = r 3 := zu_f1 v3
  exact ⟨_, List.mem_cons_self .., rq, hr, zq_MeS_mk rfl hT (zq_all_nil) zq_fan (zq_fan) rfl (zu_fac ((x_DG _ _ _).mpr (by show zn_DG (zq_ev rq (0, [(1, 1)])) (zq_ev rq (0, [(2, 1)])) (zq_ev rq (0, [(3, 1)])) P h; simp only [g0, g1, g2]; exact t1)) zq_fan)⟩
noncomputable def zm_kh : zq_S × List zq_S := (([], [], [(0, [(2, 1)]), (10, [(2, -1)])], [], [], [], [(286, [(0, [(0, 1)]), (0, [(1, 1)])])], 3), [([], [], [], [], [], [], [(289, [(0, [(0, 1)]), (0, [(1, 1)]), (0, [(2, 1)])])], 3)])
theorem zm_kh_l {P : zq_Ty} {h : zq_H} {a M p : Int} (a1 : 0 ≤ p) (a2 : 0 ≤ -p + 10) (k1 : zm_MK 1 0 a M P h) : (zm_KH a M p P h) := by
  refine ⟨k1.1, a1, by omega, fun j x y z => ?_⟩
  have e := zm_is_dg (j := j) k1.2 x (by omega)
  have s : (fun j => h a.toNat (0 + j)) j = h a.toNat j := by show h a.toNat (0 + j) = _; rw [show 0 + j = j by omega]
  exact s.symm.trans e
theorem zm_kh_ok {w : zq_Wd} (x_MK : zj_is w 286 (fun q => zm_MK 1 0 (q 0) (q 1))) (x_KH : zj_is w 289 (fun q => zm_KH (q 0) (q 1) (q 2))) : zq_okG1 w zm_kh := by
  refine ⟨rfl, rfl, zu_fac ⟨rfl, by decide⟩ zq_fan, ?_⟩
  intro r P h H hM
  have q0 : zq_ev r (0, [(2, 1)]) = r 2 := zu_e1 _ _
  have q1 : zq_ev r (10, [(2, -1)]) = -r 2 + 10 := zu_e5 _ _ _
  have q2 : zq_ev r (0, [(0, 1)]) = r 0 := zu_e1 _ _
  have q3 : zq_ev r (0, [(1, 1)]) = r 1 := zu_e1 _ _
  obtain ⟨hT, hC, hF, hS, -, hK⟩ := hM
  have c := hC.1
  have a1 := zq_all_1 c
  rw [q0] at a1
  have c := zq_all_t c
  have a2 := zq_all_1 c
  rw [q1] at a2
  have k1 := zj_use x_MK (hK)
  have k1 : zm_MK 1 0 (zq_ev r (0, [(0, 1)])) (zq_ev r (0, [(1, 1)])) P h := k1
  simp only [q2, q3] at k1
  obtain t1 := zm_kh_l (P := P) (h := h) (a := r 0) (M := r 1) (p := r 2) a1 a2 k1
  obtain ⟨rq, hr⟩ : ∃ rq : Nat → Int, (∀ i, i < 3 → rq i = r i) := ⟨r, fun i hi => rfl⟩
  have v0 : rq 0 = r 0 := hr 0 (by decide)
  have v1 : rq 1 = r 1 := hr 1 (by decide)
  have v2 : rq 2 = r 2 := hr 2 (by decide)
  have g0 : zq_ev rq (0, [(0, 1)]) = r 0 := zu_f1 v0
  have g1 : zq_ev rq (0, [(1, 1)]) = r 1 := zu_f1 v1
  have g2 : zq_ev rq (0, [(2, 1)]) = r 2 := zu_f1 v2
  exact ⟨_, List.mem_cons_self .., rq, hr, zq_MeS_mk rfl hT (zq_all_nil) zq_fan (zq_fan) rfl (zu_fac ((x_KH _ _ _).mpr (by show zm_KH (zq_ev rq (0, [(0, 1)])) (zq_ev rq (0, [(1, 1)])) (zq_ev rq (0, [(2, 1)])) P h; simp only [g0, g1, g2]; exact t1)) zq_fan)⟩
noncomputable def zm_ks : zq_S × List zq_S := (([], [], [(2147483648, [(3, 1)]), (2147483647, [(3, -1)])], [], [((0, [(0, 1)]), (0, [(2, 1)]), (0, [(3, 1)]))], [], [(289, [(0, [(0, 1)]), (0, [(1, 1)]), (0, [(2, 1)])])], 4), [([], [], [], [], [], [], [(286, [(0, [(0, 1)]), (0, [(4, 1)])]), (290, [(0, [(1, 1)]), (0, [(2, 1)]), (0, [(3, 1)]), (0, [(4, 1)])])], 5)])
theorem zm_ks_l {P : zq_Ty} {h : zq_H} {a M p v : Int} (a1 : 0 ≤ v + 2147483648) (a2 : 0 ≤ -v + 2147483647) (s1 : 0 ≤ a ∧ P (a).toNat ≠ none ∧ h (a).toNat p = v) (k1 : zm_KH a M p P h) : (∃ N : Int, zm_MK 1 0 a N P h ∧ zm_UM M p v N P h) := by
  obtain ⟨w1, w2⟩ := k1
  have q := zm_ho_st w2 (v := v) (by unfold zn_in; omega) s1.2.2
  exact ⟨zm_st M p v, ⟨w1, zm_is_cg q (fun j _ _ => by show h a.toNat (0 + j) = h a.toNat j; rw [show 0 + j = j by omega])⟩, rfl⟩
theorem zm_ks_ok {w : zq_Wd} (x_KH : zj_is w 289 (fun q => zm_KH (q 0) (q 1) (q 2))) (x_MK : zj_is w 286 (fun q => zm_MK 1 0 (q 0) (q 1))) (x_UM : zj_is w 290 (fun q => zm_UM (q 0) (q 1) (q 2) (q 3))) : zq_okG1 w zm_ks := by
  refine ⟨rfl, rfl, zu_fac ⟨rfl, by decide⟩ zq_fan, ?_⟩
  intro r P h H hM
  have q0 : zq_ev r (2147483648, [(3, 1)]) = r 3 + 2147483648 := zu_e2 _ _ _
  have q1 : zq_ev r (2147483647, [(3, -1)]) = -r 3 + 2147483647 := zu_e5 _ _ _
  have q2 : zq_ev r (0, [(0, 1)]) = r 0 := zu_e1 _ _
  have q3 : zq_ev r (0, [(2, 1)]) = r 2 := zu_e1 _ _
  have q4 : zq_ev r (0, [(3, 1)]) = r 3 := zu_e1 _ _
  have q5 : zq_ev r (0, [(1, 1)]) = r 1 := zu_e1 _ _
  obtain ⟨hT, hC, hF, hS, -, hK⟩ := hM
  have c := hC.1
  have a1 := zq_all_1 c
  rw [q0] at a1
  have c := zq_all_t c
  have a2 := zq_all_1 c
  rw [q1] at a2
  have s1 := zq_okS_1 (hS)
  simp only [q2, q3, q4] at s1
  have k1 := zj_use x_KH (hK)
  have k1 : zm_KH (zq_ev r (0, [(0, 1)])) (zq_ev r (0, [(1, 1)])) (zq_ev r (0, [(2, 1)])) P h := k1
  simp only [q2, q3, q5] at k1
  obtain ⟨y_0, t1, t2⟩ := zm_ks_l (P := P) (h := h) (a := r 0) (M := r 1) (p := r 2) (v := r 3) a1 a2 s1 k1
  obtain ⟨rq, hr, w4⟩ : ∃ rq : Nat → Int, (∀ i, i < 4 → rq i = r i) ∧ rq 4 = y_0 := ⟨zq_up r 4 y_0, fun i hi => by rw [zu_up_ne (by omega)], rfl⟩
  have v0 : rq 0 = r 0 := hr 0 (by decide)
  have v1 : rq 1 = r 1 := hr 1 (by decide)
  have v2 : rq 2 = r 2 := hr 2 (by decide)
  have v3 : rq 3 = r 3 := hr 3 (by decide)
  have g0 : zq_ev rq (0, [(1, 1)]) = r 1 := zu_f1 v1
  have g1 : zq_ev rq (0, [(2, 1)]) = r 2 := zu_f1 v2
  have g2 : zq_ev rq (0, [(3, 1)]) = r 3 := zu_f1 v3
  have g3 : zq_ev rq (0, [(4, 1)]) = y_0 := zu_f1 w4
  have g4 : zq_ev rq (0, [(0, 1)]) = r 0 := zu_f1 v0
  exact ⟨_, List.mem_cons_self .., rq, hr, zq_MeS_mk rfl hT (zq_all_nil) zq_fan (zq_fan) rfl (zu_fac ((x_MK _ _ _).mpr (by show zm_MK 1 0 (zq_ev rq (0, [(0, 1)])) (zq_ev rq (0, [(4, 1)])) P h; simp only [g3, g4]; exact t1)) (zu_fac ((x_UM _ _ _).mpr (by show zm_UM (zq_ev rq (0, [(1, 1)])) (zq_ev rq (0, [(2, 1)])) (zq_ev rq (0, [(3, 1)])) (zq_ev rq (0, [(4, 1)])) P h; simp only [g0, g1, g2, g3]; exact t2)) zq_fan))⟩
noncomputable def zm_kn : zq_S × List zq_S := (([], [], [], [], [], [], [(286, [(0, [(0, 1)]), (0, [(1, 1)])])], 2), [([], [], [], [], [], [], [(314, [(0, [(1, 1)])])], 2)])
theorem zm_kn_l {P : zq_Ty} {h : zq_H} {a M : Int} (k1 : zm_MK 1 0 a M P h) : (zm_CN M P h) := by
  exact k1.2.2.trans (zm_pk_cg 11 (fun j p q => zm_is_dg k1.2 p (by omega)))
theorem zm_kn_ok {w : zq_Wd} (x_MK : zj_is w 286 (fun q => zm_MK 1 0 (q 0) (q 1))) (x_CN : zj_is w 314 (fun q => zm_CN (q 0))) : zq_okG1 w zm_kn := by
  refine ⟨rfl, rfl, zu_fac ⟨rfl, by decide⟩ zq_fan, ?_⟩
  intro r P h H hM
  have q0 : zq_ev r (0, [(0, 1)]) = r 0 := zu_e1 _ _
  have q1 : zq_ev r (0, [(1, 1)]) = r 1 := zu_e1 _ _
  obtain ⟨hT, hC, hF, hS, -, hK⟩ := hM
  have c := hC.1
  have k1 := zj_use x_MK (hK)
  have k1 : zm_MK 1 0 (zq_ev r (0, [(0, 1)])) (zq_ev r (0, [(1, 1)])) P h := k1
  simp only [q0, q1] at k1
  obtain t1 := zm_kn_l (P := P) (h := h) (a := r 0) (M := r 1) k1
  obtain ⟨rq, hr⟩ : ∃ rq : Nat → Int, (∀ i, i < 2 → rq i = r i) := ⟨r, fun i hi => rfl⟩
  have v1 : rq 1 = r 1 := hr 1 (by decide)
  have g0 : zq_ev rq (0, [(1, 1)]) = r 1 := zu_f1 v1
  exact ⟨_, List.mem_cons_self .., rq, hr, zq_MeS_mk rfl hT (zq_all_nil) zq_fan (zq_fan) rfl (zu_fac ((x_CN _ _ _).mpr (by show zm_CN (zq_ev rq (0, [(1, 1)])) P h; simp only [g0]; exact t1)) zq_fan)⟩
noncomputable def zm_ms : zq_S × List zq_S := (([], [], [], [], [], [], [(312, [(0, [(0, 1)]), (0, [(2, 1)]), (0, [(1, 1)]), (0, [(3, -1)]), (0, [(4, 1)])])], 5), [([], [], [], [], [], [], [(312, [(0, [(0, 1)]), (0, [(1, 1)]), (0, [(2, 1)]), (0, [(3, 1)]), (0, [(4, 1)])])], 5)])
theorem zm_ms_l {P : zq_Ty} {h : zq_H} {M a b v N : Int} (k1 : zk_MV M b a (-v) N P h) : (zk_MV M a b v N P h) := by
  have k1 : N = zk_mv M b a (-v) := k1
  show N = zk_mv M a b v
  rw [k1]
  unfold zk_mv
  refine zm_pk_cg 11 (fun j p q => ?_)
  show zn_dg M j + (if j = b then -v else 0) - (if j = a then -v else 0) = zn_dg M j + (if j = a then v else 0) - (if j = b then v else 0)
  split <;> split <;> omega
theorem zm_ms_ok {w : zq_Wd} (x_MV : zj_is w 312 (fun q => zk_MV (q 0) (q 1) (q 2) (q 3) (q 4))) : zq_okG1 w zm_ms := by
  refine ⟨rfl, rfl, zu_fac ⟨rfl, by decide⟩ zq_fan, ?_⟩
  intro r P h H hM
  have q0 : zq_ev r (0, [(0, 1)]) = r 0 := zu_e1 _ _
  have q1 : zq_ev r (0, [(2, 1)]) = r 2 := zu_e1 _ _
  have q2 : zq_ev r (0, [(1, 1)]) = r 1 := zu_e1 _ _
  have q3 : zq_ev r (0, [(3, -1)]) = -r 3 := zu_e4 _ _
  have q4 : zq_ev r (0, [(4, 1)]) = r 4 := zu_e1 _ _
  obtain ⟨hT, hC, hF, hS, -, hK⟩ := hM
  have c := hC.1
  have k1 := zj_use x_MV (hK)
  have k1 : zk_MV (zq_ev r (0, [(0, 1)])) (zq_ev r (0, [(2, 1)])) (zq_ev r (0, [(1, 1)])) (zq_ev r (0, [(3, -1)])) (zq_ev r (0, [(4, 1)])) P h := k1
  simp only [q0, q1, q2, q3, q4] at k1
  obtain t1 := zm_ms_l (P := P) (h := h) (M := r 0) (a := r 1) (b := r 2) (v := r 3) (N := r 4) k1
  obtain ⟨rq, hr⟩ : ∃ rq : Nat → Int, (∀ i, i < 5 → rq i = r i) := ⟨r, fun i hi => rfl⟩
  have v0 : rq 0 = r 0 := hr 0 (by decide)
  have v1 : rq 1 = r 1 := hr 1 (by decide)
  have v2 : rq 2 = r 2 := hr 2 (by decide)
  have v3 : rq 3 = r 3 := hr 3 (by decide)
  have v4 : rq 4 = r 4 := hr 4 (by decide)
  have g0 : zq_ev rq (0, [(0, 1)]) = r 0 := zu_f1 v0
  have g1 : zq_ev rq (0, [(1, 1)]) = r 1 := zu_f1 v1
  have g2 : zq_ev rq (0, [(2, 1)]) = r 2 := zu_f1 v2
  have g3 : zq_ev rq (0, [(3, 1)]) = r 3 := zu_f1 v3
  have g4 : zq_ev rq (0, [(4, 1)]) = r 4 := zu_f1 v4
  exact ⟨_, List.mem_cons_self .., rq, hr, zq_MeS_mk rfl hT (zq_all_nil) zq_fan (zq_fan) rfl (zu_fac ((x_MV _ _ _).mpr (by show zk_MV (zq_ev rq (0, [(0, 1)])) (zq_ev rq (0, [(1, 1)])) (zq_ev rq (0, [(2, 1)])) (zq_ev rq (0, [(3, 1)])) (zq_ev rq (0, [(4, 1)])) P h; simp only [g0, g1, g2, g3, g4]; exact t1)) zq_fan)⟩
noncomputable def zk_rz : zq_S × List zq_S := (([], [], [(0, [(3, 1)]), (-1, [(1, 12), (3, -1)])], [], [((0, [(0, 1)]), (0, [(3, 1)]), (0, [(4, 1)]))], [], [(297, [(0, [(0, 1)]), (0, [(1, 1)]), (0, [(2, 1)])])], 5), [([], [], [], [], [], [], [(134, [(0, [(2, 1)]), (0, [(3, 1)]), (0, [(4, 1)])])], 5)])
theorem zk_rz_l {P : zq_Ty} {h : zq_H} {a n Z j v : Int} (a1 : 0 ≤ j) (a2 : 0 ≤ 12 * n - j - 1) (s1 : 0 ≤ a ∧ P (a).toNat ≠ none ∧ h (a).toNat j = v) (k1 : zk_ZR 12 a n Z P h) : (zn_DG Z j v P h) := by
  obtain ⟨w1, w2, w3, w4⟩ := k1
  exact s1.2.2.symm.trans (w4 j a1 (by omega))
theorem zk_rz_ok {w : zq_Wd} (x_ZR : zj_is w 297 (fun q => zk_ZR 12 (q 0) (q 1) (q 2))) (x_DG : zj_is w 134 (fun q => zn_DG (q 0) (q 1) (q 2))) : zq_okG1 w zk_rz := by
  refine ⟨rfl, rfl, zu_fac ⟨rfl, by decide⟩ zq_fan, ?_⟩
  intro r P h H hM
  have q0 : zq_ev r (0, [(3, 1)]) = r 3 := zu_e1 _ _
  have q1 : zq_ev r (-1, [(1, 12), (3, -1)]) = 12 * r 1 - r 3 - 1 := by simp only [zq_ev, zq_ts] <;> omega
  have q2 : zq_ev r (0, [(0, 1)]) = r 0 := zu_e1 _ _
  have q3 : zq_ev r (0, [(4, 1)]) = r 4 := zu_e1 _ _
  have q4 : zq_ev r (0, [(1, 1)]) = r 1 := zu_e1 _ _
  have q5 : zq_ev r (0, [(2, 1)]) = r 2 := zu_e1 _ _
  obtain ⟨hT, hC, hF, hS, -, hK⟩ := hM
  have c := hC.1
  have a1 := zq_all_1 c
  rw [q0] at a1
  have c := zq_all_t c
  have a2 := zq_all_1 c
  rw [q1] at a2
  have s1 := zq_okS_1 (hS)
  simp only [q0, q2, q3] at s1
  have k1 := zj_use x_ZR (hK)
  have k1 : zk_ZR 12 (zq_ev r (0, [(0, 1)])) (zq_ev r (0, [(1, 1)])) (zq_ev r (0, [(2, 1)])) P h := k1
  simp only [q2, q4, q5] at k1
  obtain t1 := zk_rz_l (P := P) (h := h) (a := r 0) (n := r 1) (Z := r 2) (j := r 3) (v := r 4) a1 a2 s1 k1
  obtain ⟨rq, hr⟩ : ∃ rq : Nat → Int, (∀ i, i < 5 → rq i = r i) := ⟨r, fun i hi => rfl⟩
  have v2 : rq 2 = r 2 := hr 2 (by decide)
  have v3 : rq 3 = r 3 := hr 3 (by decide)
  have v4 : rq 4 = r 4 := hr 4 (by decide)
  have g0 : zq_ev rq (0, [(2, 1)]) = r 2 := zu_f1 v2
  have g1 : zq_ev rq (0, [(3, 1)]) = r 3 := zu_f1 v3
  have g2 : zq_ev rq (0, [(4, 1)]) = r 4 := zu_f1 v4
  exact ⟨_, List.mem_cons_self .., rq, hr, zq_MeS_mk rfl hT (zq_all_nil) zq_fan (zq_fan) rfl (zu_fac ((x_DG _ _ _).mpr (by show zn_DG (zq_ev rq (0, [(2, 1)])) (zq_ev rq (0, [(3, 1)])) (zq_ev rq (0, [(4, 1)])) P h; simp only [g0, g1, g2]; exact t1)) zq_fan)⟩
noncomputable def zk_zd : zq_S × List zq_S := (([], [], [(0, [(3, 1)]), (1, [(1, -1), (3, 1)]), (-1, [(1, 1), (3, -1)])], [], [], [], [(297, [(0, [(0, 1)]), (0, [(1, 1)]), (0, [(2, 1)])])], 4), [([], [], [], [], [], [], [(297, [(0, [(0, 1)]), (0, [(3, 1)]), (0, [(2, 1)])])], 4)])
theorem zk_zd_l {P : zq_Ty} {h : zq_H} {a n Z m : Int} (a1 : 0 ≤ m) (a2 : 0 ≤ -n + m + 1) (a3 : 0 ≤ n - m - 1) (k1 : zk_ZR 12 a n Z P h) : (zk_ZR 12 a m Z P h) := by
  obtain ⟨w1, w2, w3, w4⟩ := k1
  exact ⟨w1, by omega, by omega, fun j x y => w4 j x (by omega)⟩
theorem zk_zd_ok {w : zq_Wd} (x_ZR : zj_is w 297 (fun q => zk_ZR 12 (q 0) (q 1) (q 2))) : zq_okG1 w zk_zd := by
  refine ⟨rfl, rfl, zu_fac ⟨rfl, by decide⟩ zq_fan, ?_⟩
  intro r P h H hM
  have q0 : zq_ev r (0, [(3, 1)]) = r 3 := zu_e1 _ _
  have q1 : zq_ev r (1, [(1, -1), (3, 1)]) = -r 1 + r 3 + 1 := by simp only [zq_ev, zq_ts] <;> omega
  have q2 : zq_ev r (-1, [(1, 1), (3, -1)]) = r 1 - r 3 - 1 := by simp only [zq_ev, zq_ts] <;> omega
  have q3 : zq_ev r (0, [(0, 1)]) = r 0 := zu_e1 _ _
  have q4 : zq_ev r (0, [(1, 1)]) = r 1 := zu_e1 _ _
  have q5 : zq_ev r (0, [(2, 1)]) = r 2 := zu_e1 _ _
  obtain ⟨hT, hC, hF, hS, -, hK⟩ := hM
  have c := hC.1
  have a1 := zq_all_1 c
  rw [q0] at a1
  have c := zq_all_t c
  have a2 := zq_all_1 c
  rw [q1] at a2
  have c := zq_all_t c
  have a3 := zq_all_1 c
  rw [q2] at a3
  have k1 := zj_use x_ZR (hK)
  have k1 : zk_ZR 12 (zq_ev r (0, [(0, 1)])) (zq_ev r (0, [(1, 1)])) (zq_ev r (0, [(2, 1)])) P h := k1
  simp only [q3, q4, q5] at k1
  obtain t1 := zk_zd_l (P := P) (h := h) (a := r 0) (n := r 1) (Z := r 2) (m := r 3) a1 a2 a3 k1
  obtain ⟨rq, hr⟩ : ∃ rq : Nat → Int, (∀ i, i < 4 → rq i = r i) := ⟨r, fun i hi => rfl⟩
  have v0 : rq 0 = r 0 := hr 0 (by decide)
  have v2 : rq 2 = r 2 := hr 2 (by decide)
  have v3 : rq 3 = r 3 := hr 3 (by decide)
  have g0 : zq_ev rq (0, [(0, 1)]) = r 0 := zu_f1 v0
  have g1 : zq_ev rq (0, [(3, 1)]) = r 3 := zu_f1 v3
  have g2 : zq_ev rq (0, [(2, 1)]) = r 2 := zu_f1 v2
  exact ⟨_, List.mem_cons_self .., rq, hr, zq_MeS_mk rfl hT (zq_all_nil) zq_fan (zq_fan) rfl (zu_fac ((x_ZR _ _ _).mpr (by show zk_ZR 12 (zq_ev rq (0, [(0, 1)])) (zq_ev rq (0, [(3, 1)])) (zq_ev rq (0, [(2, 1)])) P h; simp only [g0, g1, g2]; exact t1)) zq_fan)⟩
noncomputable def zk_q0 : zq_S × List zq_S := (([], [], [(-16, [(1, 1)]), (16, [(1, -1)])], [], [], [], [(297, [(0, [(0, 1)]), (0, [(1, 1)]), (0, [(2, 1)])])], 3), [([], [], [], [], [], [], [(299, [(0, [(0, 1)]), (0, [(2, 1)]), (0, []), (0, [])])], 3)])
theorem zk_q0_l {P : zq_Ty} {h : zq_H} {a n Z : Int} (a1 : 0 ≤ n - 16) (a2 : 0 ≤ -n + 16) (k1 : zk_ZR 12 a n Z P h) : (zk_RS a Z 0 0 P h) := by
  obtain ⟨w1, w2, w3, w4⟩ := k1
  exact ⟨w1, by omega, by omega, by omega, fun j x y => by omega, fun j x y => w4 j x (by omega)⟩
theorem zk_q0_ok {w : zq_Wd} (x_ZR : zj_is w 297 (fun q => zk_ZR 12 (q 0) (q 1) (q 2))) (x_RS : zj_is w 299 (fun q => zk_RS (q 0) (q 1) (q 2) (q 3))) : zq_okG1 w zk_q0 := by
  refine ⟨rfl, rfl, zu_fac ⟨rfl, by decide⟩ zq_fan, ?_⟩
  intro r P h H hM
  have q0 : zq_ev r (-16, [(1, 1)]) = r 1 - 16 := zu_e3 _ _ _
  have q1 : zq_ev r (16, [(1, -1)]) = -r 1 + 16 := zu_e5 _ _ _
  have q2 : zq_ev r (0, [(0, 1)]) = r 0 := zu_e1 _ _
  have q3 : zq_ev r (0, [(1, 1)]) = r 1 := zu_e1 _ _
  have q4 : zq_ev r (0, [(2, 1)]) = r 2 := zu_e1 _ _
  obtain ⟨hT, hC, hF, hS, -, hK⟩ := hM
  have c := hC.1
  have a1 := zq_all_1 c
  rw [q0] at a1
  have c := zq_all_t c
  have a2 := zq_all_1 c
  rw [q1] at a2
  have k1 := zj_use x_ZR (hK)
  have k1 : zk_ZR 12 (zq_ev r (0, [(0, 1)])) (zq_ev r (0, [(1, 1)])) (zq_ev r (0, [(2, 1)])) P h := k1
  simp only [q2, q3, q4] at k1
  obtain t1 := zk_q0_l (P := P) (h := h) (a := r 0) (n := r 1) (Z := r 2) a1 a2 k1
  obtain ⟨rq, hr⟩ : ∃ rq : Nat → Int, (∀ i, i < 3 → rq i = r i) := ⟨r, fun i hi => rfl⟩
  have v0 : rq 0 = r 0 := hr 0 (by decide)
  have v2 : rq 2 = r 2 := hr 2 (by decide)
  have g0 : zq_ev rq (0, [(0, 1)]) = r 0 := zu_f1 v0
  have g1 : zq_ev rq (0, [(2, 1)]) = r 2 := zu_f1 v2
  have g2 : zq_ev rq (0, []) = 0 := zu_e0 _ _
  exact ⟨_, List.mem_cons_self .., rq, hr, zq_MeS_mk rfl hT (zq_all_nil) zq_fan (zq_fan) rfl (zu_fac ((x_RS _ _ _).mpr (by show zk_RS (zq_ev rq (0, [(0, 1)])) (zq_ev rq (0, [(2, 1)])) (zq_ev rq (0, [])) (zq_ev rq (0, [])) P h; simp only [g0, g1, g2]; exact t1)) zq_fan)⟩
noncomputable def zk_qw : zq_S × List zq_S := (([], [], [(0, [(3, -1), (4, 1)])], [], [], [], [(299, [(0, [(0, 1)]), (0, [(1, 1)]), (0, [(2, 1)]), (0, [(3, 1)])])], 5), [([], [], [], [], [], [], [(299, [(0, [(0, 1)]), (0, [(1, 1)]), (0, [(2, 1)]), (0, [(4, 1)])])], 5)])
theorem zk_qw_l {P : zq_Ty} {h : zq_H} {a Z l u v : Int} (a1 : 0 ≤ -u + v) (k1 : zk_RS a Z l u P h) : (zk_RS a Z l v P h) := by
  obtain ⟨w1, w2, w3, w4, w5, w6⟩ := k1
  exact ⟨w1, w2, by omega, w4, w5, fun j x y => w6 j (by omega) y⟩
theorem zk_qw_ok {w : zq_Wd} (x_RS : zj_is w 299 (fun q => zk_RS (q 0) (q 1) (q 2) (q 3))) : zq_okG1 w zk_qw := by
  refine ⟨rfl, rfl, zu_fac ⟨rfl, by decide⟩ zq_fan, ?_⟩
  intro r P h H hM
  have q0 : zq_ev r (0, [(3, -1), (4, 1)]) = -r 3 + r 4 := by simp only [zq_ev, zq_ts] <;> omega
  have q1 : zq_ev r (0, [(0, 1)]) = r 0 := zu_e1 _ _
  have q2 : zq_ev r (0, [(1, 1)]) = r 1 := zu_e1 _ _
  have q3 : zq_ev r (0, [(2, 1)]) = r 2 := zu_e1 _ _
  have q4 : zq_ev r (0, [(3, 1)]) = r 3 := zu_e1 _ _
  obtain ⟨hT, hC, hF, hS, -, hK⟩ := hM
  have c := hC.1
  have a1 := zq_all_1 c
  rw [q0] at a1
  have k1 := zj_use x_RS (hK)
  have k1 : zk_RS (zq_ev r (0, [(0, 1)])) (zq_ev r (0, [(1, 1)])) (zq_ev r (0, [(2, 1)])) (zq_ev r (0, [(3, 1)])) P h := k1
  simp only [q1, q2, q3, q4] at k1
  obtain t1 := zk_qw_l (P := P) (h := h) (a := r 0) (Z := r 1) (l := r 2) (u := r 3) (v := r 4) a1 k1
  obtain ⟨rq, hr⟩ : ∃ rq : Nat → Int, (∀ i, i < 5 → rq i = r i) := ⟨r, fun i hi => rfl⟩
  have v0 : rq 0 = r 0 := hr 0 (by decide)
  have v1 : rq 1 = r 1 := hr 1 (by decide)
  have v2 : rq 2 = r 2 := hr 2 (by decide)
  have v4 : rq 4 = r 4 := hr 4 (by decide)
  have g0 : zq_ev rq (0, [(0, 1)]) = r 0 := zu_f1 v0
  have g1 : zq_ev rq (0, [(1, 1)]) = r 1 := zu_f1 v1
  have g2 : zq_ev rq (0, [(2, 1)]) = r 2 := zu_f1 v2
  have g3 : zq_ev rq (0, [(4, 1)]) = r 4 := zu_f1 v4
  exact ⟨_, List.mem_cons_self .., rq, hr, zq_MeS_mk rfl hT (zq_all_nil) zq_fan (zq_fan) rfl (zu_fac ((x_RS _ _ _).mpr (by show zk_RS (zq_ev rq (0, [(0, 1)])) (zq_ev rq (0, [(1, 1)])) (zq_ev rq (0, [(2, 1)])) (zq_ev rq (0, [(4, 1)])) P h; simp only [g0, g1, g2, g3]; exact t1)) zq_fan)⟩
noncomputable def zk_q1 : zq_S × List zq_S := (([], [], [(0, [(2, 1)]), (179, [(2, -1)]), (0, [(3, -1), (4, 1)]), (0, [(3, 1), (4, -1)])], [], [((0, [(0, 1)]), (0, [(2, 1)]), (0, [(3, 1)])), ((0, [(0, 1)]), (12, [(2, 1)]), (0, [(4, 1)]))], [], [(299, [(0, [(0, 1)]), (0, [(1, 1)]), (0, [(2, 1)]), (1, [(2, 1)])])], 5), [([], [], [], [], [], [], [(299, [(0, [(0, 1)]), (0, [(1, 1)]), (1, [(2, 1)]), (1, [(2, 1)])])], 5)])
theorem zk_q1_l {P : zq_Ty} {h : zq_H} {a Z i x y : Int} (a1 : 0 ≤ i) (a2 : 0 ≤ -i + 179) (a3 : 0 ≤ -x + y) (a4 : 0 ≤ x - y) (s1 : 0 ≤ a ∧ P (a).toNat ≠ none ∧ h (a).toNat i = x) (s2 : 0 ≤ a ∧ P (a).toNat ≠ none ∧ h (a).toNat (i + 12) = y) (k1 : zk_RS a Z i (i + 1) P h) : (zk_RS a Z (i + 1) (i + 1) P h) := by
  obtain ⟨w1, w2, w3, w4, w5, w6⟩ := k1
  refine ⟨w1, by omega, by omega, by omega, fun j p q => ?_, w6⟩
  by_cases e : j = i
  · rw [e, s1.2.2, ← w6 (i + 12) (by omega) (by omega), s2.2.2]; omega
  · exact w5 j p (by omega)
theorem zk_q1_ok {w : zq_Wd} (x_RS : zj_is w 299 (fun q => zk_RS (q 0) (q 1) (q 2) (q 3))) : zq_okG1 w zk_q1 := by
  refine ⟨rfl, rfl, zu_fac ⟨rfl, by decide⟩ zq_fan, ?_⟩
  intro r P h H hM
  have q0 : zq_ev r (0, [(2, 1)]) = r 2 := zu_e1 _ _
  have q1 : zq_ev r (179, [(2, -1)]) = -r 2 + 179 := zu_e5 _ _ _
  have q2 : zq_ev r (0, [(3, -1), (4, 1)]) = -r 3 + r 4 := by simp only [zq_ev, zq_ts] <;> omega
  have q3 : zq_ev r (0, [(3, 1), (4, -1)]) = r 3 - r 4 := by simp only [zq_ev, zq_ts] <;> omega
  have q4 : zq_ev r (0, [(0, 1)]) = r 0 := zu_e1 _ _
  have q5 : zq_ev r (0, [(3, 1)]) = r 3 := zu_e1 _ _
  have q6 : zq_ev r (12, [(2, 1)]) = r 2 + 12 := zu_e2 _ _ _
  have q7 : zq_ev r (0, [(4, 1)]) = r 4 := zu_e1 _ _
  have q8 : zq_ev r (0, [(1, 1)]) = r 1 := zu_e1 _ _
  have q9 : zq_ev r (1, [(2, 1)]) = r 2 + 1 := zu_e2 _ _ _
  obtain ⟨hT, hC, hF, hS, -, hK⟩ := hM
  have c := hC.1
  have a1 := zq_all_1 c
  rw [q0] at a1
  have c := zq_all_t c
  have a2 := zq_all_1 c
  rw [q1] at a2
  have c := zq_all_t c
  have a3 := zq_all_1 c
  rw [q2] at a3
  have c := zq_all_t c
  have a4 := zq_all_1 c
  rw [q3] at a4
  have s1 := zq_okS_1 (hS)
  simp only [q0, q4, q5] at s1
  have s2 := zq_okS_1 (zq_okS_t (hS))
  simp only [q4, q6, q7] at s2
  have k1 := zj_use x_RS (hK)
  have k1 : zk_RS (zq_ev r (0, [(0, 1)])) (zq_ev r (0, [(1, 1)])) (zq_ev r (0, [(2, 1)])) (zq_ev r (1, [(2, 1)])) P h := k1
  simp only [q0, q4, q8, q9] at k1
  obtain t1 := zk_q1_l (P := P) (h := h) (a := r 0) (Z := r 1) (i := r 2) (x := r 3) (y := r 4) a1 a2 a3 a4 s1 s2 k1
  obtain ⟨rq, hr⟩ : ∃ rq : Nat → Int, (∀ i, i < 5 → rq i = r i) := ⟨r, fun i hi => rfl⟩
  have v0 : rq 0 = r 0 := hr 0 (by decide)
  have v1 : rq 1 = r 1 := hr 1 (by decide)
  have v2 : rq 2 = r 2 := hr 2 (by decide)
  have g0 : zq_ev rq (0, [(0, 1)]) = r 0 := zu_f1 v0
  have g1 : zq_ev rq (0, [(1, 1)]) = r 1 := zu_f1 v1
  have g2 : zq_ev rq (1, [(2, 1)]) = r 2 + 1 := zu_f2 v2 _
  exact ⟨_, List.mem_cons_self .., rq, hr, zq_MeS_mk rfl hT (zq_all_nil) zq_fan (zq_fan) rfl (zu_fac ((x_RS _ _ _).mpr (by show zk_RS (zq_ev rq (0, [(0, 1)])) (zq_ev rq (0, [(1, 1)])) (zq_ev rq (1, [(2, 1)])) (zq_ev rq (1, [(2, 1)])) P h; simp only [g0, g1, g2]; exact t1)) zq_fan)⟩
noncomputable def zk_q2 : zq_S × List zq_S := (([], [], [(-180, [(2, 1)]), (180, [(2, -1)])], [], [], [], [(299, [(0, [(0, 1)]), (0, [(1, 1)]), (0, [(2, 1)]), (0, [(2, 1)])])], 3), [([], [], [], [], [], [], [(297, [(0, [(0, 1)]), (15, []), (0, [(3, 1)])]), (313, [(0, [(1, 1)]), (0, [(3, 1)])])], 4)])
theorem zk_q2_l {P : zq_Ty} {h : zq_H} {a Z l : Int} (a1 : 0 ≤ l - 180) (a2 : 0 ≤ -l + 180) (k1 : zk_RS a Z l l P h) : (∃ N : Int, zk_ZR 12 a 15 N P h ∧ zm_DR Z N P h) := by
  obtain ⟨w1, w2, w3, w4, w5, w6⟩ := k1
  exact ⟨zz_dr Z, ⟨w1, by omega, by omega, fun j p q => by rw [zz_dr_dg p]; exact w5 j p (by omega)⟩, rfl⟩
theorem zk_q2_ok {w : zq_Wd} (x_RS : zj_is w 299 (fun q => zk_RS (q 0) (q 1) (q 2) (q 3))) (x_ZR : zj_is w 297 (fun q => zk_ZR 12 (q 0) (q 1) (q 2))) (x_DR : zj_is w 313 (fun q => zm_DR (q 0) (q 1))) : zq_okG1 w zk_q2 := by
  refine ⟨rfl, rfl, zu_fac ⟨rfl, by decide⟩ zq_fan, ?_⟩
  intro r P h H hM
  have q0 : zq_ev r (-180, [(2, 1)]) = r 2 - 180 := zu_e3 _ _ _
  have q1 : zq_ev r (180, [(2, -1)]) = -r 2 + 180 := zu_e5 _ _ _
  have q2 : zq_ev r (0, [(0, 1)]) = r 0 := zu_e1 _ _
  have q3 : zq_ev r (0, [(1, 1)]) = r 1 := zu_e1 _ _
  have q4 : zq_ev r (0, [(2, 1)]) = r 2 := zu_e1 _ _
  obtain ⟨hT, hC, hF, hS, -, hK⟩ := hM
  have c := hC.1
  have a1 := zq_all_1 c
  rw [q0] at a1
  have c := zq_all_t c
  have a2 := zq_all_1 c
  rw [q1] at a2
  have k1 := zj_use x_RS (hK)
  have k1 : zk_RS (zq_ev r (0, [(0, 1)])) (zq_ev r (0, [(1, 1)])) (zq_ev r (0, [(2, 1)])) (zq_ev r (0, [(2, 1)])) P h := k1
  simp only [q2, q3, q4] at k1
  obtain ⟨y_0, t1, t2⟩ := zk_q2_l (P := P) (h := h) (a := r 0) (Z := r 1) (l := r 2) a1 a2 k1
  obtain ⟨rq, hr, w3⟩ : ∃ rq : Nat → Int, (∀ i, i < 3 → rq i = r i) ∧ rq 3 = y_0 := ⟨zq_up r 3 y_0, fun i hi => by rw [zu_up_ne (by omega)], rfl⟩
  have v0 : rq 0 = r 0 := hr 0 (by decide)
  have v1 : rq 1 = r 1 := hr 1 (by decide)
  have g0 : zq_ev rq (0, [(1, 1)]) = r 1 := zu_f1 v1
  have g1 : zq_ev rq (0, [(3, 1)]) = y_0 := zu_f1 w3
  have g2 : zq_ev rq (0, [(0, 1)]) = r 0 := zu_f1 v0
  have g3 : zq_ev rq (15, []) = 15 := zu_e0 _ _
  exact ⟨_, List.mem_cons_self .., rq, hr, zq_MeS_mk rfl hT (zq_all_nil) zq_fan (zq_fan) rfl (zu_fac ((x_ZR _ _ _).mpr (by show zk_ZR 12 (zq_ev rq (0, [(0, 1)])) (zq_ev rq (15, [])) (zq_ev rq (0, [(3, 1)])) P h; simp only [g1, g2, g3]; exact t1)) (zu_fac ((x_DR _ _ _).mpr (by show zm_DR (zq_ev rq (0, [(1, 1)])) (zq_ev rq (0, [(3, 1)])) P h; simp only [g0, g1]; exact t2)) zq_fan))⟩
noncomputable def zk_f0 : zq_S × List zq_S := (([], [], [(15, [(1, -1)])], [], [], [], [(297, [(0, [(0, 1)]), (0, [(1, 1)]), (0, [(2, 1)])])], 4), [([], [], [], [], [], [], [(300, [(0, [(0, 1)]), (0, [(1, 1)]), (0, [(2, 1)]), (0, [(3, 1)]), (0, [])])], 4)])
theorem zk_f0_l {P : zq_Ty} {h : zq_H} {a n Z M : Int} (a1 : 0 ≤ -n + 15) (k1 : zk_ZR 12 a n Z P h) : (zk_RF a n Z M 0 P h) := by
  obtain ⟨w1, w2, w3, w4⟩ := k1
  exact ⟨w1, w2, by omega, by omega, by omega, w4, fun j x y => by omega⟩
theorem zk_f0_ok {w : zq_Wd} (x_ZR : zj_is w 297 (fun q => zk_ZR 12 (q 0) (q 1) (q 2))) (x_RF : zj_is w 300 (fun q => zk_RF (q 0) (q 1) (q 2) (q 3) (q 4))) : zq_okG1 w zk_f0 := by
  refine ⟨rfl, rfl, zu_fac ⟨rfl, by decide⟩ zq_fan, ?_⟩
  intro r P h H hM
  have q0 : zq_ev r (15, [(1, -1)]) = -r 1 + 15 := zu_e5 _ _ _
  have q1 : zq_ev r (0, [(0, 1)]) = r 0 := zu_e1 _ _
  have q2 : zq_ev r (0, [(1, 1)]) = r 1 := zu_e1 _ _
  have q3 : zq_ev r (0, [(2, 1)]) = r 2 := zu_e1 _ _
  obtain ⟨hT, hC, hF, hS, -, hK⟩ := hM
  have c := hC.1
  have a1 := zq_all_1 c
  rw [q0] at a1
  have k1 := zj_use x_ZR (hK)
  have k1 : zk_ZR 12 (zq_ev r (0, [(0, 1)])) (zq_ev r (0, [(1, 1)])) (zq_ev r (0, [(2, 1)])) P h := k1
  simp only [q1, q2, q3] at k1
  obtain t1 := zk_f0_l (P := P) (h := h) (a := r 0) (n := r 1) (Z := r 2) (M := r 3) a1 k1
  obtain ⟨rq, hr⟩ : ∃ rq : Nat → Int, (∀ i, i < 4 → rq i = r i) := ⟨r, fun i hi => rfl⟩
  have v0 : rq 0 = r 0 := hr 0 (by decide)
  have v1 : rq 1 = r 1 := hr 1 (by decide)
  have v2 : rq 2 = r 2 := hr 2 (by decide)
  have v3 : rq 3 = r 3 := hr 3 (by decide)
  have g0 : zq_ev rq (0, [(0, 1)]) = r 0 := zu_f1 v0
  have g1 : zq_ev rq (0, [(1, 1)]) = r 1 := zu_f1 v1
  have g2 : zq_ev rq (0, [(2, 1)]) = r 2 := zu_f1 v2
  have g3 : zq_ev rq (0, [(3, 1)]) = r 3 := zu_f1 v3
  have g4 : zq_ev rq (0, []) = 0 := zu_e0 _ _
  exact ⟨_, List.mem_cons_self .., rq, hr, zq_MeS_mk rfl hT (zq_all_nil) zq_fan (zq_fan) rfl (zu_fac ((x_RF _ _ _).mpr (by show zk_RF (zq_ev rq (0, [(0, 1)])) (zq_ev rq (0, [(1, 1)])) (zq_ev rq (0, [(2, 1)])) (zq_ev rq (0, [(3, 1)])) (zq_ev rq (0, [])) P h; simp only [g0, g1, g2, g3, g4]; exact t1)) zq_fan)⟩
noncomputable def zk_f1 : zq_S × List zq_S := (([], [], [(10, [(4, -1)])], [], [((0, [(0, 1)]), (0, [(1, 12), (4, 1)]), (0, [(5, 1)]))], [], [(300, [(0, [(0, 1)]), (0, [(1, 1)]), (0, [(2, 1)]), (0, [(3, 1)]), (0, [(4, 1)])]), (134, [(0, [(3, 1)]), (0, [(4, 1)]), (0, [(5, 1)])])], 6), [([], [], [], [], [], [], [(300, [(0, [(0, 1)]), (0, [(1, 1)]), (0, [(2, 1)]), (0, [(3, 1)]), (1, [(4, 1)])])], 6)])
theorem zk_f1_l {P : zq_Ty} {h : zq_H} {a n Z M l v : Int} (a1 : 0 ≤ -l + 10) (s1 : 0 ≤ a ∧ P (a).toNat ≠ none ∧ h (a).toNat (12 * n + l) = v) (k1 : zk_RF a n Z M l P h) (k2 : zn_DG M l v P h) : (zk_RF a n Z M (l + 1) P h) := by
  obtain ⟨w1, w2, w3, w4, w5, w6, w7⟩ := k1
  have k2 : v = zn_dg M l := k2
  refine ⟨w1, w2, w3, by omega, by omega, w6, fun j x y => ?_⟩
  by_cases e : j = l
  · rw [e, s1.2.2, k2]
  · exact w7 j x (by omega)
theorem zk_f1_ok {w : zq_Wd} (x_RF : zj_is w 300 (fun q => zk_RF (q 0) (q 1) (q 2) (q 3) (q 4))) (x_DG : zj_is w 134 (fun q => zn_DG (q 0) (q 1) (q 2))) : zq_okG1 w zk_f1 := by
  refine ⟨rfl, rfl, zu_fac ⟨rfl, by decide⟩ zq_fan, ?_⟩
  intro r P h H hM
  have q0 : zq_ev r (10, [(4, -1)]) = -r 4 + 10 := zu_e5 _ _ _
  have q1 : zq_ev r (0, [(0, 1)]) = r 0 := zu_e1 _ _
  have q2 : zq_ev r (0, [(1, 12), (4, 1)]) = 12 * r 1 + r 4 := by simp only [zq_ev, zq_ts] <;> omega
  have q3 : zq_ev r (0, [(5, 1)]) = r 5 := zu_e1 _ _
  have q4 : zq_ev r (0, [(1, 1)]) = r 1 := zu_e1 _ _
  have q5 : zq_ev r (0, [(2, 1)]) = r 2 := zu_e1 _ _
  have q6 : zq_ev r (0, [(3, 1)]) = r 3 := zu_e1 _ _
  have q7 : zq_ev r (0, [(4, 1)]) = r 4 := zu_e1 _ _
  obtain ⟨hT, hC, hF, hS, -, hK⟩ := hM
  have c := hC.1
  have a1 := zq_all_1 c
  rw [q0] at a1
  have s1 := zq_okS_1 (hS)
  simp only [q1, q2, q3] at s1
  have k1 := zj_use x_RF (hK)
  have k1 : zk_RF (zq_ev r (0, [(0, 1)])) (zq_ev r (0, [(1, 1)])) (zq_ev r (0, [(2, 1)])) (zq_ev r (0, [(3, 1)])) (zq_ev r (0, [(4, 1)])) P h := k1
  simp only [q1, q4, q5, q6, q7] at k1
  have k2 := zj_use x_DG (zq_okX_t (hK))
  have k2 : zn_DG (zq_ev r (0, [(3, 1)])) (zq_ev r (0, [(4, 1)])) (zq_ev r (0, [(5, 1)])) P h := k2
  simp only [q3, q6, q7] at k2
  obtain t1 := zk_f1_l (P := P) (h := h) (a := r 0) (n := r 1) (Z := r 2) (M := r 3) (l := r 4) (v := r 5) a1 s1 k1 k2
  obtain ⟨rq, hr⟩ : ∃ rq : Nat → Int, (∀ i, i < 6 → rq i = r i) := ⟨r, fun i hi => rfl⟩
  have v0 : rq 0 = r 0 := hr 0 (by decide)
  have v1 : rq 1 = r 1 := hr 1 (by decide)
  have v2 : rq 2 = r 2 := hr 2 (by decide)
  have v3 : rq 3 = r 3 := hr 3 (by decide)
  have v4 : rq 4 = r 4 := hr 4 (by decide)
  have g0 : zq_ev rq (0, [(0, 1)]) = r 0 := zu_f1 v0
  have g1 : zq_ev rq (0, [(1, 1)]) = r 1 := zu_f1 v1
  have g2 : zq_ev rq (0, [(2, 1)]) = r 2 := zu_f1 v2
  have g3 : zq_ev rq (0, [(3, 1)]) = r 3 := zu_f1 v3
  have g4 : zq_ev rq (1, [(4, 1)]) = r 4 + 1 := zu_f2 v4 _
  exact ⟨_, List.mem_cons_self .., rq, hr, zq_MeS_mk rfl hT (zq_all_nil) zq_fan (zq_fan) rfl (zu_fac ((x_RF _ _ _).mpr (by show zk_RF (zq_ev rq (0, [(0, 1)])) (zq_ev rq (0, [(1, 1)])) (zq_ev rq (0, [(2, 1)])) (zq_ev rq (0, [(3, 1)])) (zq_ev rq (1, [(4, 1)])) P h; simp only [g0, g1, g2, g3, g4]; exact t1)) zq_fan)⟩
noncomputable def zk_fa : zq_S × List zq_S := (([], [], [(0, [(4, 1)]), (3, [(4, -1)]), (-1, [(1, -1), (5, 1)]), (1, [(1, 1), (5, -1)]), (-11, [(6, 1)]), (11, [(6, -1)])], [], [((0, [(0, 1)]), (11, [(1, 12)]), (0, [(4, 1)]))], [], [(300, [(0, [(0, 1)]), (0, [(1, 1)]), (0, [(2, 1)]), (0, [(3, 1)]), (0, [(6, 1)])])], 7), [([], [], [], [], [], [], [(297, [(0, [(0, 1)]), (0, [(5, 1)]), (0, [(7, 1)])]), (291, [(0, [(2, 1)]), (0, [(1, 1)]), (0, [(3, 1)]), (0, [(4, 1)]), (0, [(5, 1)]), (0, [(7, 1)])])], 8)])
theorem zk_fa_l {P : zq_Ty} {h : zq_H} {a n Z M k u l : Int} (a1 : 0 ≤ k) (a2 : 0 ≤ -k + 3) (a3 : 0 ≤ -n + u - 1) (a4 : 0 ≤ n - u + 1) (a5 : 0 ≤ l - 11) (a6 : 0 ≤ -l + 11) (s1 : 0 ≤ a ∧ P (a).toNat ≠ none ∧ h (a).toNat (12 * n + 11) = k) (k1 : zk_RF a n Z M l P h) : (∃ Y : Int, zk_ZR 12 a u Y P h ∧ zm_PZ Z n M k u Y P h) := by
  obtain ⟨w1, w2, w3, w4, w5, w6, w7⟩ := k1
  have hk : zn_in k := by unfold zn_in; omega
  have key : ∀ j : Int, 0 ≤ j → j < 12 * (n + 1) → h a.toNat j = zn_dg (zz_st Z n M k) j := fun j p q => by
    by_cases e : j < 12 * n
    · rw [zz_st_lo (by omega) hk p e]; exact w6 j p e
    · by_cases e2 : j = 12 * n + 11
      · rw [e2, zz_st_k hk, s1.2.2]
      · have g := zz_st_in (Z := Z) (i := n) (M := M) (k := k) (j := j - 12 * n) (by omega) hk (by omega) (by omega)
        have g2 := w7 (j - 12 * n) (by omega) (by omega)
        rw [show 12 * n + (j - 12 * n) = j by omega] at g g2
        rw [g, g2]
  
  have hu : u = n + 1 := by omega
  subst hu
  exact ⟨zz_st Z n M k, ⟨w1, by omega, by omega, key⟩, by unfold zz_n; rw [if_neg (by omega)], by unfold zz_Z; rw [if_neg (by omega)]⟩
theorem zk_fa_ok {w : zq_Wd} (x_RF : zj_is w 300 (fun q => zk_RF (q 0) (q 1) (q 2) (q 3) (q 4))) (x_ZR : zj_is w 297 (fun q => zk_ZR 12 (q 0) (q 1) (q 2))) (x_PZ : zj_is w 291 (fun q => zm_PZ (q 0) (q 1) (q 2) (q 3) (q 4) (q 5))) : zq_okG1 w zk_fa := by
  refine ⟨rfl, rfl, zu_fac ⟨rfl, by decide⟩ zq_fan, ?_⟩
  intro r P h H hM
  have q0 : zq_ev r (0, [(4, 1)]) = r 4 := zu_e1 _ _
  have q1 : zq_ev r (3, [(4, -1)]) = -r 4 + 3 := zu_e5 _ _ _
  have q2 : zq_ev r (-1, [(1, -1), (5, 1)]) = -r 1 + r 5 - 1 := by simp only [zq_ev, zq_ts] <;> omega
  have q3 : zq_ev r (1, [(1, 1), (5, -1)]) = r 1 - r 5 + 1 := by simp only [zq_ev, zq_ts] <;> omega
  have q4 : zq_ev r (-11, [(6, 1)]) = r 6 - 11 := zu_e3 _ _ _
  have q5 : zq_ev r (11, [(6, -1)]) = -r 6 + 11 := zu_e5 _ _ _
  have q6 : zq_ev r (0, [(0, 1)]) = r 0 := zu_e1 _ _
  have q7 : zq_ev r (11, [(1, 12)]) = 12 * r 1 + 11 := by simp only [zq_ev, zq_ts] <;> omega
  have q8 : zq_ev r (0, [(1, 1)]) = r 1 := zu_e1 _ _
  have q9 : zq_ev r (0, [(2, 1)]) = r 2 := zu_e1 _ _
  have q10 : zq_ev r (0, [(3, 1)]) = r 3 := zu_e1 _ _
  have q11 : zq_ev r (0, [(6, 1)]) = r 6 := zu_e1 _ _
  obtain ⟨hT, hC, hF, hS, -, hK⟩ := hM
  have c := hC.1
  have a1 := zq_all_1 c
  rw [q0] at a1
  have c := zq_all_t c
  have a2 := zq_all_1 c
  rw [q1] at a2
  have c := zq_all_t c
  have a3 := zq_all_1 c
  rw [q2] at a3
  have c := zq_all_t c
  have a4 := zq_all_1 c
  rw [q3] at a4
  have c := zq_all_t c
  have a5 := zq_all_1 c
  rw [q4] at a5
  have c := zq_all_t c
  have a6 := zq_all_1 c
  rw [q5] at a6
  have s1 := zq_okS_1 (hS)
  simp only [q0, q6, q7] at s1
  have k1 := zj_use x_RF (hK)
  have k1 : zk_RF (zq_ev r (0, [(0, 1)])) (zq_ev r (0, [(1, 1)])) (zq_ev r (0, [(2, 1)])) (zq_ev r (0, [(3, 1)])) (zq_ev r (0, [(6, 1)])) P h := k1
  simp only [q10, q11, q6, q8, q9] at k1
  obtain ⟨y_0, t1, t2⟩ := zk_fa_l (P := P) (h := h) (a := r 0) (n := r 1) (Z := r 2) (M := r 3) (k := r 4) (u := r 5) (l := r 6) a1 a2 a3 a4 a5 a6 s1 k1
  obtain ⟨rq, hr, w7⟩ : ∃ rq : Nat → Int, (∀ i, i < 7 → rq i = r i) ∧ rq 7 = y_0 := ⟨zq_up r 7 y_0, fun i hi => by rw [zu_up_ne (by omega)], rfl⟩
  have v0 : rq 0 = r 0 := hr 0 (by decide)
  have v1 : rq 1 = r 1 := hr 1 (by decide)
  have v2 : rq 2 = r 2 := hr 2 (by decide)
  have v3 : rq 3 = r 3 := hr 3 (by decide)
  have v4 : rq 4 = r 4 := hr 4 (by decide)
  have v5 : rq 5 = r 5 := hr 5 (by decide)
  have g0 : zq_ev rq (0, [(2, 1)]) = r 2 := zu_f1 v2
  have g1 : zq_ev rq (0, [(1, 1)]) = r 1 := zu_f1 v1
  have g2 : zq_ev rq (0, [(3, 1)]) = r 3 := zu_f1 v3
  have g3 : zq_ev rq (0, [(4, 1)]) = r 4 := zu_f1 v4
  have g4 : zq_ev rq (0, [(5, 1)]) = r 5 := zu_f1 v5
  have g5 : zq_ev rq (0, [(7, 1)]) = y_0 := zu_f1 w7
  have g6 : zq_ev rq (0, [(0, 1)]) = r 0 := zu_f1 v0
  exact ⟨_, List.mem_cons_self .., rq, hr, zq_MeS_mk rfl hT (zq_all_nil) zq_fan (zq_fan) rfl (zu_fac ((x_ZR _ _ _).mpr (by show zk_ZR 12 (zq_ev rq (0, [(0, 1)])) (zq_ev rq (0, [(5, 1)])) (zq_ev rq (0, [(7, 1)])) P h; simp only [g4, g5, g6]; exact t1)) (zu_fac ((x_PZ _ _ _).mpr (by show zm_PZ (zq_ev rq (0, [(2, 1)])) (zq_ev rq (0, [(1, 1)])) (zq_ev rq (0, [(3, 1)])) (zq_ev rq (0, [(4, 1)])) (zq_ev rq (0, [(5, 1)])) (zq_ev rq (0, [(7, 1)])) P h; simp only [g0, g1, g2, g3, g4, g5]; exact t2)) zq_fan))⟩
noncomputable def zk_fb : zq_S × List zq_S := (([], [], [(0, [(5, 1)]), (3, [(5, -1)]), (-191, [(8, 1)]), (191, [(8, -1)]), (-16, [(6, 1)]), (16, [(6, -1)]), (-11, [(7, 1)]), (11, [(7, -1)]), (-16, [(1, 1)]), (16, [(1, -1)])], [], [((0, [(0, 1)]), (0, [(8, 1)]), (0, [(5, 1)]))], [], [(300, [(0, [(0, 1)]), (15, []), (0, [(3, 1)]), (0, [(4, 1)]), (0, [(7, 1)])]), (313, [(0, [(2, 1)]), (0, [(3, 1)])])], 9), [([], [], [], [], [], [], [(297, [(0, [(0, 1)]), (0, [(6, 1)]), (0, [(9, 1)])]), (291, [(0, [(2, 1)]), (0, [(1, 1)]), (0, [(4, 1)]), (0, [(5, 1)]), (0, [(6, 1)]), (0, [(9, 1)])])], 10)])
theorem zk_fb_l {P : zq_Ty} {h : zq_H} {a n Z X M k u l e : Int} (a1 : 0 ≤ k) (a2 : 0 ≤ -k + 3) (a3 : 0 ≤ e - 191) (a4 : 0 ≤ -e + 191) (a5 : 0 ≤ u - 16) (a6 : 0 ≤ -u + 16) (a7 : 0 ≤ l - 11) (a8 : 0 ≤ -l + 11) (a9 : 0 ≤ n - 16) (a10 : 0 ≤ -n + 16) (s1 : 0 ≤ a ∧ P (a).toNat ≠ none ∧ h (a).toNat e = k) (k1 : zk_RF a 15 X M l P h) (k2 : zm_DR Z X P h) : (∃ Y : Int, zk_ZR 12 a u Y P h ∧ zm_PZ Z n M k u Y P h) := by
  have s9 : h a.toNat (12 * 15 + 11) = k := by rw [show (12 * 15 + 11 : Int) = e by omega]; exact s1.2.2
  obtain ⟨w1, w2, w3, w4, w5, w6, w7⟩ := k1
  have hk : zn_in k := by unfold zn_in; omega
  have key : ∀ j : Int, 0 ≤ j → j < 12 * (15 + 1) → h a.toNat j = zn_dg (zz_st X 15 M k) j := fun j p q => by
    by_cases e : j < 12 * 15
    · rw [zz_st_lo (by omega) hk p e]; exact w6 j p e
    · by_cases e2 : j = 12 * 15 + 11
      · rw [e2, zz_st_k hk]; exact s9
      · have g := zz_st_in (Z := X) (i := 15) (M := M) (k := k) (j := j - 12 * 15) (by omega) hk (by omega) (by omega)
        have g2 := w7 (j - 12 * 15) (by omega) (by omega)
        rw [show 12 * 15 + (j - 12 * 15) = j by omega] at g g2
        rw [g, g2]
  
  have hu : u = 15 + 1 := by omega
  subst hu
  have k2 : X = zz_dr Z := k2
  exact ⟨zz_st X 15 M k, ⟨w1, by omega, by omega, key⟩, by unfold zz_n; rw [if_pos (by omega)]; omega, by unfold zz_Z; rw [if_pos (by omega), k2]⟩
theorem zk_fb_ok {w : zq_Wd} (x_RF : zj_is w 300 (fun q => zk_RF (q 0) (q 1) (q 2) (q 3) (q 4))) (x_DR : zj_is w 313 (fun q => zm_DR (q 0) (q 1))) (x_ZR : zj_is w 297 (fun q => zk_ZR 12 (q 0) (q 1) (q 2))) (x_PZ : zj_is w 291 (fun q => zm_PZ (q 0) (q 1) (q 2) (q 3) (q 4) (q 5))) : zq_okG1 w zk_fb := by
  refine ⟨rfl, rfl, zu_fac ⟨rfl, by decide⟩ zq_fan, ?_⟩
  intro r P h H hM
  have q0 : zq_ev r (0, [(5, 1)]) = r 5 := zu_e1 _ _
  have q1 : zq_ev r (3, [(5, -1)]) = -r 5 + 3 := zu_e5 _ _ _
  have q2 : zq_ev r (-191, [(8, 1)]) = r 8 - 191 := zu_e3 _ _ _
  have q3 : zq_ev r (191, [(8, -1)]) = -r 8 + 191 := zu_e5 _ _ _
  have q4 : zq_ev r (-16, [(6, 1)]) = r 6 - 16 := zu_e3 _ _ _
  have q5 : zq_ev r (16, [(6, -1)]) = -r 6 + 16 := zu_e5 _ _ _
  have q6 : zq_ev r (-11, [(7, 1)]) = r 7 - 11 := zu_e3 _ _ _
  have q7 : zq_ev r (11, [(7, -1)]) = -r 7 + 11 := zu_e5 _ _ _
  have q8 : zq_ev r (-16, [(1, 1)]) = r 1 - 16 := zu_e3 _ _ _
  have q9 : zq_ev r (16, [(1, -1)]) = -r 1 + 16 := zu_e5 _ _ _
  have q10 : zq_ev r (0, [(0, 1)]) = r 0 := zu_e1 _ _
  have q11 : zq_ev r (0, [(8, 1)]) = r 8 := zu_e1 _ _
  have q12 : zq_ev r (15, []) = 15 := zu_e0 _ _
  have q13 : zq_ev r (0, [(3, 1)]) = r 3 := zu_e1 _ _
  have q14 : zq_ev r (0, [(4, 1)]) = r 4 := zu_e1 _ _
  have q15 : zq_ev r (0, [(7, 1)]) = r 7 := zu_e1 _ _
  have q16 : zq_ev r (0, [(2, 1)]) = r 2 := zu_e1 _ _
  obtain ⟨hT, hC, hF, hS, -, hK⟩ := hM
  have c := hC.1
  have a1 := zq_all_1 c
  rw [q0] at a1
  have c := zq_all_t c
  have a2 := zq_all_1 c
  rw [q1] at a2
  have c := zq_all_t c
  have a3 := zq_all_1 c
  rw [q2] at a3
  have c := zq_all_t c
  have a4 := zq_all_1 c
  rw [q3] at a4
  have c := zq_all_t c
  have a5 := zq_all_1 c
  rw [q4] at a5
  have c := zq_all_t c
  have a6 := zq_all_1 c
  rw [q5] at a6
  have c := zq_all_t c
  have a7 := zq_all_1 c
  rw [q6] at a7
  have c := zq_all_t c
  have a8 := zq_all_1 c
  rw [q7] at a8
  have c := zq_all_t c
  have a9 := zq_all_1 c
  rw [q8] at a9
  have c := zq_all_t c
  have a10 := zq_all_1 c
  rw [q9] at a10
  have s1 := zq_okS_1 (hS)
  simp only [q0, q10, q11] at s1
  have k1 := zj_use x_RF (hK)
  have k1 : zk_RF (zq_ev r (0, [(0, 1)])) (zq_ev r (15, [])) (zq_ev r (0, [(3, 1)])) (zq_ev r (0, [(4, 1)])) (zq_ev r (0, [(7, 1)])) P h := k1
  simp only [q10, q12, q13, q14, q15] at k1
  have k2 := zj_use x_DR (zq_okX_t (hK))
  have k2 : zm_DR (zq_ev r (0, [(2, 1)])) (zq_ev r (0, [(3, 1)])) P h := k2
  simp only [q13, q16] at k2
  obtain ⟨y_0, t1, t2⟩ := zk_fb_l (P := P) (h := h) (a := r 0) (n := r 1) (Z := r 2) (X := r 3) (M := r 4) (k := r 5) (u := r 6) (l := r 7) (e := r 8) a1 a2 a3 a4 a5 a6 a7 a8 a9 a10 s1 k1 k2
  obtain ⟨rq, hr, w9⟩ : ∃ rq : Nat → Int, (∀ i, i < 9 → rq i = r i) ∧ rq 9 = y_0 := ⟨zq_up r 9 y_0, fun i hi => by rw [zu_up_ne (by omega)], rfl⟩
  have v0 : rq 0 = r 0 := hr 0 (by decide)
  have v1 : rq 1 = r 1 := hr 1 (by decide)
  have v2 : rq 2 = r 2 := hr 2 (by decide)
  have v4 : rq 4 = r 4 := hr 4 (by decide)
  have v5 : rq 5 = r 5 := hr 5 (by decide)
  have v6 : rq 6 = r 6 := hr 6 (by decide)
  have g0 : zq_ev rq (0, [(2, 1)]) = r 2 := zu_f1 v2
  have g1 : zq_ev rq (0, [(1, 1)]) = r 1 := zu_f1 v1
  have g2 : zq_ev rq (0, [(4, 1)]) = r 4 := zu_f1 v4
  have g3 : zq_ev rq (0, [(5, 1)]) = r 5 := zu_f1 v5
  have g4 : zq_ev rq (0, [(6, 1)]) = r 6 := zu_f1 v6
  have g5 : zq_ev rq (0, [(9, 1)]) = y_0 := zu_f1 w9
  have g6 : zq_ev rq (0, [(0, 1)]) = r 0 := zu_f1 v0
  exact ⟨_, List.mem_cons_self .., rq, hr, zq_MeS_mk rfl hT (zq_all_nil) zq_fan (zq_fan) rfl (zu_fac ((x_ZR _ _ _).mpr (by show zk_ZR 12 (zq_ev rq (0, [(0, 1)])) (zq_ev rq (0, [(6, 1)])) (zq_ev rq (0, [(9, 1)])) P h; simp only [g4, g5, g6]; exact t1)) (zu_fac ((x_PZ _ _ _).mpr (by show zm_PZ (zq_ev rq (0, [(2, 1)])) (zq_ev rq (0, [(1, 1)])) (zq_ev rq (0, [(4, 1)])) (zq_ev rq (0, [(5, 1)])) (zq_ev rq (0, [(6, 1)])) (zq_ev rq (0, [(9, 1)])) P h; simp only [g0, g1, g2, g3, g4, g5]; exact t2)) zq_fan))⟩
noncomputable def zk_as0 : zq_S × List zq_S := (([], [], [(0, [(0, 1)]), (0, [(1, 1)]), (1, [(1, -1)])], [((0, [(0, 1)]), 4)], [], [], [], 3), [([], [], [], [], [], [], [(316, [(0, [(0, 1)]), (0, [(1, 1)]), (0, [(2, 1)]), (0, [])])], 3)])
theorem zk_as0_l {P : zq_Ty} {h : zq_H} {a k M : Int} (a1 : 0 ≤ a) (a2 : 0 ≤ k) (a3 : 0 ≤ -k + 1) (b1 : 0 ≤ a → P (a).toNat = some 4) : (zk_AS a k M 0 P h) := by
  exact ⟨⟨a1, b1 a1⟩, a2, by omega, by omega, fun j x y => by omega⟩
theorem zk_as0_ok {w : zq_Wd} (x_AS : zj_is w 316 (fun q => zk_AS (q 0) (q 1) (q 2) (q 3))) : zq_okG1 w zk_as0 := by
  refine ⟨rfl, rfl, zu_fac ⟨rfl, by decide⟩ zq_fan, ?_⟩
  intro r P h H hM
  have q0 : zq_ev r (0, [(0, 1)]) = r 0 := zu_e1 _ _
  have q1 : zq_ev r (0, [(1, 1)]) = r 1 := zu_e1 _ _
  have q2 : zq_ev r (1, [(1, -1)]) = -r 1 + 1 := zu_e5 _ _ _
  obtain ⟨hT, hC, hF, hS, -, hK⟩ := hM
  have c := hC.1
  have a1 := zq_all_1 c
  rw [q0] at a1
  have c := zq_all_t c
  have a2 := zq_all_1 c
  rw [q1] at a2
  have c := zq_all_t c
  have a3 := zq_all_1 c
  rw [q2] at a3
  have b1 : 0 ≤ r 0 → P (r 0).toNat = some 4 := fun z => by
    have z1 : 0 ≤ zq_ev r (0, [(0, 1)]) := by rw [q0]; exact z
    have z2 := zq_okF_1 (hF) z1
    simp only [q0] at z2
    exact z2
  obtain t1 := zk_as0_l (P := P) (h := h) (a := r 0) (k := r 1) (M := r 2) a1 a2 a3 b1
  obtain ⟨rq, hr⟩ : ∃ rq : Nat → Int, (∀ i, i < 3 → rq i = r i) := ⟨r, fun i hi => rfl⟩
  have v0 : rq 0 = r 0 := hr 0 (by decide)
  have v1 : rq 1 = r 1 := hr 1 (by decide)
  have v2 : rq 2 = r 2 := hr 2 (by decide)
  have g0 : zq_ev rq (0, [(0, 1)]) = r 0 := zu_f1 v0
  have g1 : zq_ev rq (0, [(1, 1)]) = r 1 := zu_f1 v1
  have g2 : zq_ev rq (0, [(2, 1)]) = r 2 := zu_f1 v2
  have g3 : zq_ev rq (0, []) = 0 := zu_e0 _ _
  exact ⟨_, List.mem_cons_self .., rq, hr, zq_MeS_mk rfl hT (zq_all_nil) zq_fan (zq_fan) rfl (zu_fac ((x_AS _ _ _).mpr (by show zk_AS (zq_ev rq (0, [(0, 1)])) (zq_ev rq (0, [(1, 1)])) (zq_ev rq (0, [(2, 1)])) (zq_ev rq (0, [])) P h; simp only [g0, g1, g2, g3]; exact t1)) zq_fan)⟩
noncomputable def zk_as1 : zq_S × List zq_S := (([], [], [(10, [(3, -1)])], [], [((0, [(0, 1)]), (0, [(1, 11), (3, 1)]), (0, [(4, 1)]))], [], [(316, [(0, [(0, 1)]), (0, [(1, 1)]), (0, [(2, 1)]), (0, [(3, 1)])]), (134, [(0, [(2, 1)]), (0, [(3, 1)]), (0, [(4, 1)])])], 5), [([], [], [], [], [], [], [(316, [(0, [(0, 1)]), (0, [(1, 1)]), (0, [(2, 1)]), (1, [(3, 1)])])], 5)])
theorem zk_as1_l {P : zq_Ty} {h : zq_H} {a k M l v : Int} (a1 : 0 ≤ -l + 10) (s1 : 0 ≤ a ∧ P (a).toNat ≠ none ∧ h (a).toNat (11 * k + l) = v) (k1 : zk_AS a k M l P h) (k2 : zn_DG M l v P h) : (zk_AS a k M (l + 1) P h) := by
  obtain ⟨w1, w2, w3, w4, w5⟩ := k1
  have k2 : v = zn_dg M l := k2
  refine ⟨w1, w2, w3, by omega, fun j x y => ?_⟩
  by_cases e : j = l
  · rw [e, s1.2.2, k2]
  · exact w5 j x (by omega)
theorem zk_as1_ok {w : zq_Wd} (x_AS : zj_is w 316 (fun q => zk_AS (q 0) (q 1) (q 2) (q 3))) (x_DG : zj_is w 134 (fun q => zn_DG (q 0) (q 1) (q 2))) : zq_okG1 w zk_as1 := by
  refine ⟨rfl, rfl, zu_fac ⟨rfl, by decide⟩ zq_fan, ?_⟩
  intro r P h H hM
  have q0 : zq_ev r (10, [(3, -1)]) = -r 3 + 10 := zu_e5 _ _ _
  have q1 : zq_ev r (0, [(0, 1)]) = r 0 := zu_e1 _ _
  have q2 : zq_ev r (0, [(1, 11), (3, 1)]) = 11 * r 1 + r 3 := by simp only [zq_ev, zq_ts] <;> omega
  have q3 : zq_ev r (0, [(4, 1)]) = r 4 := zu_e1 _ _
  have q4 : zq_ev r (0, [(1, 1)]) = r 1 := zu_e1 _ _
  have q5 : zq_ev r (0, [(2, 1)]) = r 2 := zu_e1 _ _
  have q6 : zq_ev r (0, [(3, 1)]) = r 3 := zu_e1 _ _
  obtain ⟨hT, hC, hF, hS, -, hK⟩ := hM
  have c := hC.1
  have a1 := zq_all_1 c
  rw [q0] at a1
  have s1 := zq_okS_1 (hS)
  simp only [q1, q2, q3] at s1
  have k1 := zj_use x_AS (hK)
  have k1 : zk_AS (zq_ev r (0, [(0, 1)])) (zq_ev r (0, [(1, 1)])) (zq_ev r (0, [(2, 1)])) (zq_ev r (0, [(3, 1)])) P h := k1
  simp only [q1, q4, q5, q6] at k1
  have k2 := zj_use x_DG (zq_okX_t (hK))
  have k2 : zn_DG (zq_ev r (0, [(2, 1)])) (zq_ev r (0, [(3, 1)])) (zq_ev r (0, [(4, 1)])) P h := k2
  simp only [q3, q5, q6] at k2
  obtain t1 := zk_as1_l (P := P) (h := h) (a := r 0) (k := r 1) (M := r 2) (l := r 3) (v := r 4) a1 s1 k1 k2
  obtain ⟨rq, hr⟩ : ∃ rq : Nat → Int, (∀ i, i < 5 → rq i = r i) := ⟨r, fun i hi => rfl⟩
  have v0 : rq 0 = r 0 := hr 0 (by decide)
  have v1 : rq 1 = r 1 := hr 1 (by decide)
  have v2 : rq 2 = r 2 := hr 2 (by decide)
  have v3 : rq 3 = r 3 := hr 3 (by decide)
  have g0 : zq_ev rq (0, [(0, 1)]) = r 0 := zu_f1 v0
  have g1 : zq_ev rq (0, [(1, 1)]) = r 1 := zu_f1 v1
  have g2 : zq_ev rq (0, [(2, 1)]) = r 2 := zu_f1 v2
  have g3 : zq_ev rq (1, [(3, 1)]) = r 3 + 1 := zu_f2 v3 _
  exact ⟨_, List.mem_cons_self .., rq, hr, zq_MeS_mk rfl hT (zq_all_nil) zq_fan (zq_fan) rfl (zu_fac ((x_AS _ _ _).mpr (by show zk_AS (zq_ev rq (0, [(0, 1)])) (zq_ev rq (0, [(1, 1)])) (zq_ev rq (0, [(2, 1)])) (zq_ev rq (1, [(3, 1)])) P h; simp only [g0, g1, g2, g3]; exact t1)) zq_fan)⟩
noncomputable def zk_asr : zq_S × List zq_S := (([], [], [(0, [(4, 1)]), (-1, [(3, 1), (4, -1)])], [], [((0, [(0, 1)]), (0, [(1, 11), (4, 1)]), (0, [(5, 1)]))], [], [(316, [(0, [(0, 1)]), (0, [(1, 1)]), (0, [(2, 1)]), (0, [(3, 1)])])], 6), [([], [], [], [], [], [], [(134, [(0, [(2, 1)]), (0, [(4, 1)]), (0, [(5, 1)])])], 6)])
theorem zk_asr_l {P : zq_Ty} {h : zq_H} {a k M l i v : Int} (a1 : 0 ≤ i) (a2 : 0 ≤ l - i - 1) (s1 : 0 ≤ a ∧ P (a).toNat ≠ none ∧ h (a).toNat (11 * k + i) = v) (k1 : zk_AS a k M l P h) : (zn_DG M i v P h) := by
  obtain ⟨w1, w2, w3, w4, w5⟩ := k1
  exact s1.2.2.symm.trans (w5 i a1 (by omega))
theorem zk_asr_ok {w : zq_Wd} (x_AS : zj_is w 316 (fun q => zk_AS (q 0) (q 1) (q 2) (q 3))) (x_DG : zj_is w 134 (fun q => zn_DG (q 0) (q 1) (q 2))) : zq_okG1 w zk_asr := by
  refine ⟨rfl, rfl, zu_fac ⟨rfl, by decide⟩ zq_fan, ?_⟩
  intro r P h H hM
  have q0 : zq_ev r (0, [(4, 1)]) = r 4 := zu_e1 _ _
  have q1 : zq_ev r (-1, [(3, 1), (4, -1)]) = r 3 - r 4 - 1 := by simp only [zq_ev, zq_ts] <;> omega
  have q2 : zq_ev r (0, [(0, 1)]) = r 0 := zu_e1 _ _
  have q3 : zq_ev r (0, [(1, 11), (4, 1)]) = 11 * r 1 + r 4 := by simp only [zq_ev, zq_ts] <;> omega
  have q4 : zq_ev r (0, [(5, 1)]) = r 5 := zu_e1 _ _
  have q5 : zq_ev r (0, [(1, 1)]) = r 1 := zu_e1 _ _
  have q6 : zq_ev r (0, [(2, 1)]) = r 2 := zu_e1 _ _
  have q7 : zq_ev r (0, [(3, 1)]) = r 3 := zu_e1 _ _
  obtain ⟨hT, hC, hF, hS, -, hK⟩ := hM
  have c := hC.1
  have a1 := zq_all_1 c
  rw [q0] at a1
  have c := zq_all_t c
  have a2 := zq_all_1 c
  rw [q1] at a2
  have s1 := zq_okS_1 (hS)
  simp only [q2, q3, q4] at s1
  have k1 := zj_use x_AS (hK)
  have k1 : zk_AS (zq_ev r (0, [(0, 1)])) (zq_ev r (0, [(1, 1)])) (zq_ev r (0, [(2, 1)])) (zq_ev r (0, [(3, 1)])) P h := k1
  simp only [q2, q5, q6, q7] at k1
  obtain t1 := zk_asr_l (P := P) (h := h) (a := r 0) (k := r 1) (M := r 2) (l := r 3) (i := r 4) (v := r 5) a1 a2 s1 k1
  obtain ⟨rq, hr⟩ : ∃ rq : Nat → Int, (∀ i, i < 6 → rq i = r i) := ⟨r, fun i hi => rfl⟩
  have v2 : rq 2 = r 2 := hr 2 (by decide)
  have v4 : rq 4 = r 4 := hr 4 (by decide)
  have v5 : rq 5 = r 5 := hr 5 (by decide)
  have g0 : zq_ev rq (0, [(2, 1)]) = r 2 := zu_f1 v2
  have g1 : zq_ev rq (0, [(4, 1)]) = r 4 := zu_f1 v4
  have g2 : zq_ev rq (0, [(5, 1)]) = r 5 := zu_f1 v5
  exact ⟨_, List.mem_cons_self .., rq, hr, zq_MeS_mk rfl hT (zq_all_nil) zq_fan (zq_fan) rfl (zu_fac ((x_DG _ _ _).mpr (by show zn_DG (zq_ev rq (0, [(2, 1)])) (zq_ev rq (0, [(4, 1)])) (zq_ev rq (0, [(5, 1)])) P h; simp only [g0, g1, g2]; exact t1)) zq_fan)⟩
noncomputable def zk_k0 : zq_S × List zq_S := (([], [], [(0, [(0, 1)])], [((0, [(0, 1)]), 1)], [], [], [], 2), [([], [], [], [], [], [], [(315, [(0, [(0, 1)]), (0, [(1, 1)]), (0, [])])], 2)])
theorem zk_k0_l {P : zq_Ty} {h : zq_H} {a M : Int} (a1 : 0 ≤ a) (b1 : 0 ≤ a → P (a).toNat = some 1) : (zk_KF a M 0 P h) := by
  exact ⟨⟨a1, b1 a1⟩, by omega, fun j x y => by omega⟩
theorem zk_k0_ok {w : zq_Wd} (x_KF : zj_is w 315 (fun q => zk_KF (q 0) (q 1) (q 2))) : zq_okG1 w zk_k0 := by
  refine ⟨rfl, rfl, zu_fac ⟨rfl, by decide⟩ zq_fan, ?_⟩
  intro r P h H hM
  have q0 : zq_ev r (0, [(0, 1)]) = r 0 := zu_e1 _ _
  obtain ⟨hT, hC, hF, hS, -, hK⟩ := hM
  have c := hC.1
  have a1 := zq_all_1 c
  rw [q0] at a1
  have b1 : 0 ≤ r 0 → P (r 0).toNat = some 1 := fun z => by
    have z1 : 0 ≤ zq_ev r (0, [(0, 1)]) := by rw [q0]; exact z
    have z2 := zq_okF_1 (hF) z1
    simp only [q0] at z2
    exact z2
  obtain t1 := zk_k0_l (P := P) (h := h) (a := r 0) (M := r 1) a1 b1
  obtain ⟨rq, hr⟩ : ∃ rq : Nat → Int, (∀ i, i < 2 → rq i = r i) := ⟨r, fun i hi => rfl⟩
  have v0 : rq 0 = r 0 := hr 0 (by decide)
  have v1 : rq 1 = r 1 := hr 1 (by decide)
  have g0 : zq_ev rq (0, [(0, 1)]) = r 0 := zu_f1 v0
  have g1 : zq_ev rq (0, [(1, 1)]) = r 1 := zu_f1 v1
  have g2 : zq_ev rq (0, []) = 0 := zu_e0 _ _
  exact ⟨_, List.mem_cons_self .., rq, hr, zq_MeS_mk rfl hT (zq_all_nil) zq_fan (zq_fan) rfl (zu_fac ((x_KF _ _ _).mpr (by show zk_KF (zq_ev rq (0, [(0, 1)])) (zq_ev rq (0, [(1, 1)])) (zq_ev rq (0, [])) P h; simp only [g0, g1, g2]; exact t1)) zq_fan)⟩
noncomputable def zk_k1 : zq_S × List zq_S := (([], [], [(10, [(2, -1)])], [], [((0, [(0, 1)]), (0, [(2, 1)]), (0, [(3, 1)]))], [], [(315, [(0, [(0, 1)]), (0, [(1, 1)]), (0, [(2, 1)])]), (134, [(0, [(1, 1)]), (0, [(2, 1)]), (0, [(3, 1)])])], 4), [([], [], [], [], [], [], [(315, [(0, [(0, 1)]), (0, [(1, 1)]), (1, [(2, 1)])])], 4)])
theorem zk_k1_l {P : zq_Ty} {h : zq_H} {a M l v : Int} (a1 : 0 ≤ -l + 10) (s1 : 0 ≤ a ∧ P (a).toNat ≠ none ∧ h (a).toNat l = v) (k1 : zk_KF a M l P h) (k2 : zn_DG M l v P h) : (zk_KF a M (l + 1) P h) := by
  obtain ⟨w1, w2, w3⟩ := k1
  have k2 : v = zn_dg M l := k2
  refine ⟨w1, by omega, fun j x y => ?_⟩
  by_cases e : j = l
  · rw [e, s1.2.2, k2]
  · exact w3 j x (by omega)
theorem zk_k1_ok {w : zq_Wd} (x_KF : zj_is w 315 (fun q => zk_KF (q 0) (q 1) (q 2))) (x_DG : zj_is w 134 (fun q => zn_DG (q 0) (q 1) (q 2))) : zq_okG1 w zk_k1 := by
  refine ⟨rfl, rfl, zu_fac ⟨rfl, by decide⟩ zq_fan, ?_⟩
  intro r P h H hM
  have q0 : zq_ev r (10, [(2, -1)]) = -r 2 + 10 := zu_e5 _ _ _
  have q1 : zq_ev r (0, [(0, 1)]) = r 0 := zu_e1 _ _
  have q2 : zq_ev r (0, [(2, 1)]) = r 2 := zu_e1 _ _
  have q3 : zq_ev r (0, [(3, 1)]) = r 3 := zu_e1 _ _
  have q4 : zq_ev r (0, [(1, 1)]) = r 1 := zu_e1 _ _
  obtain ⟨hT, hC, hF, hS, -, hK⟩ := hM
  have c := hC.1
  have a1 := zq_all_1 c
  rw [q0] at a1
  have s1 := zq_okS_1 (hS)
  simp only [q1, q2, q3] at s1
  have k1 := zj_use x_KF (hK)
  have k1 : zk_KF (zq_ev r (0, [(0, 1)])) (zq_ev r (0, [(1, 1)])) (zq_ev r (0, [(2, 1)])) P h := k1
  simp only [q1, q2, q4] at k1
  have k2 := zj_use x_DG (zq_okX_t (hK))
  have k2 : zn_DG (zq_ev r (0, [(1, 1)])) (zq_ev r (0, [(2, 1)])) (zq_ev r (0, [(3, 1)])) P h := k2
  simp only [q2, q3, q4] at k2
  obtain t1 := zk_k1_l (P := P) (h := h) (a := r 0) (M := r 1) (l := r 2) (v := r 3) a1 s1 k1 k2
  obtain ⟨rq, hr⟩ : ∃ rq : Nat → Int, (∀ i, i < 4 → rq i = r i) := ⟨r, fun i hi => rfl⟩
  have v0 : rq 0 = r 0 := hr 0 (by decide)
  have v1 : rq 1 = r 1 := hr 1 (by decide)
  have v2 : rq 2 = r 2 := hr 2 (by decide)
  have g0 : zq_ev rq (0, [(0, 1)]) = r 0 := zu_f1 v0
  have g1 : zq_ev rq (0, [(1, 1)]) = r 1 := zu_f1 v1
  have g2 : zq_ev rq (1, [(2, 1)]) = r 2 + 1 := zu_f2 v2 _
  exact ⟨_, List.mem_cons_self .., rq, hr, zq_MeS_mk rfl hT (zq_all_nil) zq_fan (zq_fan) rfl (zu_fac ((x_KF _ _ _).mpr (by show zk_KF (zq_ev rq (0, [(0, 1)])) (zq_ev rq (0, [(1, 1)])) (zq_ev rq (1, [(2, 1)])) P h; simp only [g0, g1, g2]; exact t1)) zq_fan)⟩
noncomputable def zk_k2 : zq_S × List zq_S := (([], [], [(-11, [(2, 1)]), (11, [(2, -1)])], [], [], [], [(315, [(0, [(0, 1)]), (0, [(1, 1)]), (0, [(2, 1)])]), (314, [(0, [(1, 1)])])], 3), [([], [], [], [], [], [], [(286, [(0, [(0, 1)]), (0, [(1, 1)])])], 3)])
theorem zk_k2_l {P : zq_Ty} {h : zq_H} {a M l : Int} (a1 : 0 ≤ l - 11) (a2 : 0 ≤ -l + 11) (k1 : zk_KF a M l P h) (k2 : zm_CN M P h) : (zm_MK 1 0 a M P h) := by
  obtain ⟨w1, w2, w3⟩ := k1
  have k2 : M = zm_pk (zn_dg M) 11 := k2
  refine ⟨w1, fun i x y => ?_, k2.trans (zm_pk_cg 11 (fun j x y => ?_))⟩
  · show zn_in (h a.toNat (0 + i)); rw [show 0 + i = i by omega, w3 i x (by omega)]; exact zn_dg_in _ _
  · show zn_dg M j = h a.toNat (0 + j); rw [show 0 + j = j by omega, w3 j x (by omega)]
theorem zk_k2_ok {w : zq_Wd} (x_KF : zj_is w 315 (fun q => zk_KF (q 0) (q 1) (q 2))) (x_CN : zj_is w 314 (fun q => zm_CN (q 0))) (x_MK : zj_is w 286 (fun q => zm_MK 1 0 (q 0) (q 1))) : zq_okG1 w zk_k2 := by
  refine ⟨rfl, rfl, zu_fac ⟨rfl, by decide⟩ zq_fan, ?_⟩
  intro r P h H hM
  have q0 : zq_ev r (-11, [(2, 1)]) = r 2 - 11 := zu_e3 _ _ _
  have q1 : zq_ev r (11, [(2, -1)]) = -r 2 + 11 := zu_e5 _ _ _
  have q2 : zq_ev r (0, [(0, 1)]) = r 0 := zu_e1 _ _
  have q3 : zq_ev r (0, [(1, 1)]) = r 1 := zu_e1 _ _
  have q4 : zq_ev r (0, [(2, 1)]) = r 2 := zu_e1 _ _
  obtain ⟨hT, hC, hF, hS, -, hK⟩ := hM
  have c := hC.1
  have a1 := zq_all_1 c
  rw [q0] at a1
  have c := zq_all_t c
  have a2 := zq_all_1 c
  rw [q1] at a2
  have k1 := zj_use x_KF (hK)
  have k1 : zk_KF (zq_ev r (0, [(0, 1)])) (zq_ev r (0, [(1, 1)])) (zq_ev r (0, [(2, 1)])) P h := k1
  simp only [q2, q3, q4] at k1
  have k2 := zj_use x_CN (zq_okX_t (hK))
  have k2 : zm_CN (zq_ev r (0, [(1, 1)])) P h := k2
  simp only [q3] at k2
  obtain t1 := zk_k2_l (P := P) (h := h) (a := r 0) (M := r 1) (l := r 2) a1 a2 k1 k2
  obtain ⟨rq, hr⟩ : ∃ rq : Nat → Int, (∀ i, i < 3 → rq i = r i) := ⟨r, fun i hi => rfl⟩
  have v0 : rq 0 = r 0 := hr 0 (by decide)
  have v1 : rq 1 = r 1 := hr 1 (by decide)
  have g0 : zq_ev rq (0, [(0, 1)]) = r 0 := zu_f1 v0
  have g1 : zq_ev rq (0, [(1, 1)]) = r 1 := zu_f1 v1
  exact ⟨_, List.mem_cons_self .., rq, hr, zq_MeS_mk rfl hT (zq_all_nil) zq_fan (zq_fan) rfl (zu_fac ((x_MK _ _ _).mpr (by show zm_MK 1 0 (zq_ev rq (0, [(0, 1)])) (zq_ev rq (0, [(1, 1)])) P h; simp only [g0, g1]; exact t1)) zq_fan)⟩
noncomputable def zo_k0 : zq_S × List zq_S := (([], [], [(-1, [(2, 1)]), (0, [(0, 1)])], [((0, [(0, 1)]), 1)], [], [], [], 4), [([], [], [], [], [], [], [(315, [(0, [(0, 1)]), (0, [(4, 1)]), (0, [])]), (317, [(0, [(3, 1)]), (0, [(2, 1)]), (0, [(4, 1)])])], 5)])
theorem zo_k0_l {P : zq_Ty} {h : zq_H} {a M n Z : Int} (a1 : 0 ≤ n - 1) (a2 : 0 ≤ a) (b1 : 0 ≤ a → P (a).toNat = some 1) : (∃ N : Int, zk_KF a N 0 P h ∧ zk_UZ Z n N P h) := by
  exact ⟨_, ⟨⟨a2, b1 a2⟩, by omega, fun j x y => by omega⟩, rfl⟩
theorem zo_k0_ok {w : zq_Wd} (x_KF : zj_is w 315 (fun q => zk_KF (q 0) (q 1) (q 2))) (x_UZ : zj_is w 317 (fun q => zk_UZ (q 0) (q 1) (q 2))) : zq_okG1 w zo_k0 := by
  refine ⟨rfl, rfl, zu_fac ⟨rfl, by decide⟩ zq_fan, ?_⟩
  intro r P h H hM
  have q0 : zq_ev r (-1, [(2, 1)]) = r 2 - 1 := zu_e3 _ _ _
  have q1 : zq_ev r (0, [(0, 1)]) = r 0 := zu_e1 _ _
  obtain ⟨hT, hC, hF, hS, -, hK⟩ := hM
  have c := hC.1
  have a1 := zq_all_1 c
  rw [q0] at a1
  have c := zq_all_t c
  have a2 := zq_all_1 c
  rw [q1] at a2
  have b1 : 0 ≤ r 0 → P (r 0).toNat = some 1 := fun z => by
    have z1 : 0 ≤ zq_ev r (0, [(0, 1)]) := by rw [q1]; exact z
    have z2 := zq_okF_1 (hF) z1
    simp only [q1] at z2
    exact z2
  obtain ⟨y_0, t1, t2⟩ := zo_k0_l (P := P) (h := h) (a := r 0) (M := r 1) (n := r 2) (Z := r 3) a1 a2 b1
  obtain ⟨rq, hr, w4⟩ : ∃ rq : Nat → Int, (∀ i, i < 4 → rq i = r i) ∧ rq 4 = y_0 := ⟨zq_up r 4 y_0, fun i hi => by rw [zu_up_ne (by omega)], rfl⟩
  have v0 : rq 0 = r 0 := hr 0 (by decide)
  have v2 : rq 2 = r 2 := hr 2 (by decide)
  have v3 : rq 3 = r 3 := hr 3 (by decide)
  have g0 : zq_ev rq (0, [(3, 1)]) = r 3 := zu_f1 v3
  have g1 : zq_ev rq (0, [(2, 1)]) = r 2 := zu_f1 v2
  have g2 : zq_ev rq (0, [(4, 1)]) = y_0 := zu_f1 w4
  have g3 : zq_ev rq (0, [(0, 1)]) = r 0 := zu_f1 v0
  have g4 : zq_ev rq (0, []) = 0 := zu_e0 _ _
  exact ⟨_, List.mem_cons_self .., rq, hr, zq_MeS_mk rfl hT (zq_all_nil) zq_fan (zq_fan) rfl (zu_fac ((x_KF _ _ _).mpr (by show zk_KF (zq_ev rq (0, [(0, 1)])) (zq_ev rq (0, [(4, 1)])) (zq_ev rq (0, [])) P h; simp only [g2, g3, g4]; exact t1)) (zu_fac ((x_UZ _ _ _).mpr (by show zk_UZ (zq_ev rq (0, [(3, 1)])) (zq_ev rq (0, [(2, 1)])) (zq_ev rq (0, [(4, 1)])) P h; simp only [g0, g1, g2]; exact t2)) zq_fan))⟩
noncomputable def zo_k1 : zq_S × List zq_S := (([], [], [(0, [(4, 1)]), (10, [(4, -1)]), (12, [(1, -12), (3, 1), (4, -1)]), (-12, [(1, 12), (3, -1), (4, 1)])], [], [], [], [(317, [(0, [(0, 1)]), (0, [(1, 1)]), (0, [(2, 1)])]), (134, [(0, [(0, 1)]), (0, [(3, 1)]), (0, [(5, 1)])])], 6), [([], [], [], [], [], [], [(134, [(0, [(2, 1)]), (0, [(4, 1)]), (0, [(5, 1)])])], 6)])
theorem zo_k1_l {P : zq_Ty} {h : zq_H} {Z n N e l v : Int} (a1 : 0 ≤ l) (a2 : 0 ≤ -l + 10) (a3 : 0 ≤ -12 * n + e - l + 12) (a4 : 0 ≤ 12 * n - e + l - 12) (k1 : zk_UZ Z n N P h) (k2 : zn_DG Z e v P h) : (zn_DG N l v P h) := by
  have k2 : v = zn_dg Z e := k2
  show v = zn_dg N l
  rw [zk_UZ_dg k1 a1 (by omega), k2, show 12 * (n - 1) + l = e by omega]
theorem zo_k1_ok {w : zq_Wd} (x_UZ : zj_is w 317 (fun q => zk_UZ (q 0) (q 1) (q 2))) (x_DG : zj_is w 134 (fun q => zn_DG (q 0) (q 1) (q 2))) : zq_okG1 w zo_k1 := by
  refine ⟨rfl, rfl, zu_fac ⟨rfl, by decide⟩ zq_fan, ?_⟩
  intro r P h H hM
  have q0 : zq_ev r (0, [(4, 1)]) = r 4 := zu_e1 _ _
  have q1 : zq_ev r (10, [(4, -1)]) = -r 4 + 10 := zu_e5 _ _ _
  have q2 : zq_ev r (12, [(1, -12), (3, 1), (4, -1)]) = -12 * r 1 + r 3 - r 4 + 12 := by simp only [zq_ev, zq_ts] <;> omega
  have q3 : zq_ev r (-12, [(1, 12), (3, -1), (4, 1)]) = 12 * r 1 - r 3 + r 4 - 12 := by simp only [zq_ev, zq_ts] <;> omega
  have q4 : zq_ev r (0, [(0, 1)]) = r 0 := zu_e1 _ _
  have q5 : zq_ev r (0, [(1, 1)]) = r 1 := zu_e1 _ _
  have q6 : zq_ev r (0, [(2, 1)]) = r 2 := zu_e1 _ _
  have q7 : zq_ev r (0, [(3, 1)]) = r 3 := zu_e1 _ _
  have q8 : zq_ev r (0, [(5, 1)]) = r 5 := zu_e1 _ _
  obtain ⟨hT, hC, hF, hS, -, hK⟩ := hM
  have c := hC.1
  have a1 := zq_all_1 c
  rw [q0] at a1
  have c := zq_all_t c
  have a2 := zq_all_1 c
  rw [q1] at a2
  have c := zq_all_t c
  have a3 := zq_all_1 c
  rw [q2] at a3
  have c := zq_all_t c
  have a4 := zq_all_1 c
  rw [q3] at a4
  have k1 := zj_use x_UZ (hK)
  have k1 : zk_UZ (zq_ev r (0, [(0, 1)])) (zq_ev r (0, [(1, 1)])) (zq_ev r (0, [(2, 1)])) P h := k1
  simp only [q4, q5, q6] at k1
  have k2 := zj_use x_DG (zq_okX_t (hK))
  have k2 : zn_DG (zq_ev r (0, [(0, 1)])) (zq_ev r (0, [(3, 1)])) (zq_ev r (0, [(5, 1)])) P h := k2
  simp only [q4, q7, q8] at k2
  obtain t1 := zo_k1_l (P := P) (h := h) (Z := r 0) (n := r 1) (N := r 2) (e := r 3) (l := r 4) (v := r 5) a1 a2 a3 a4 k1 k2
  obtain ⟨rq, hr⟩ : ∃ rq : Nat → Int, (∀ i, i < 6 → rq i = r i) := ⟨r, fun i hi => rfl⟩
  have v2 : rq 2 = r 2 := hr 2 (by decide)
  have v4 : rq 4 = r 4 := hr 4 (by decide)
  have v5 : rq 5 = r 5 := hr 5 (by decide)
  have g0 : zq_ev rq (0, [(2, 1)]) = r 2 := zu_f1 v2
  have g1 : zq_ev rq (0, [(4, 1)]) = r 4 := zu_f1 v4
  have g2 : zq_ev rq (0, [(5, 1)]) = r 5 := zu_f1 v5
  exact ⟨_, List.mem_cons_self .., rq, hr, zq_MeS_mk rfl hT (zq_all_nil) zq_fan (zq_fan) rfl (zu_fac ((x_DG _ _ _).mpr (by show zn_DG (zq_ev rq (0, [(2, 1)])) (zq_ev rq (0, [(4, 1)])) (zq_ev rq (0, [(5, 1)])) P h; simp only [g0, g1, g2]; exact t1)) zq_fan)⟩
noncomputable def zo_k2 : zq_S × List zq_S := (([], [], [(-1, [(3, 1)]), (-11, [(7, 1)]), (11, [(7, -1)]), (1, [(3, -12), (5, 1)]), (-1, [(3, 12), (5, -1)]), (1, [(3, -1), (8, 1)]), (-1, [(3, 1), (8, -1)])], [], [], [], [(315, [(0, [(1, 1)]), (0, [(4, 1)]), (0, [(7, 1)])]), (317, [(0, [(2, 1)]), (0, [(3, 1)]), (0, [(4, 1)])]), (134, [(0, [(2, 1)]), (0, [(5, 1)]), (0, [(6, 1)])])], 9), [([], [], [], [], [], [], [(286, [(0, [(1, 1)]), (0, [(4, 1)])]), (305, [(0, [(0, 1)]), (0, [(3, 1)]), (0, [(2, 1)]), (0, [(6, 1)]), (0, [(4, 1)]), (0, [(8, 1)])])], 9)])
theorem zo_k2_l {P : zq_Ty} {h : zq_H} {M a Z n N e v l m : Int} (a1 : 0 ≤ n - 1) (a2 : 0 ≤ l - 11) (a3 : 0 ≤ -l + 11) (a4 : 0 ≤ -12 * n + e + 1) (a5 : 0 ≤ 12 * n - e - 1) (a6 : 0 ≤ -n + m + 1) (a7 : 0 ≤ n - m - 1) (k1 : zk_KF a N l P h) (k2 : zk_UZ Z n N P h) (k3 : zn_DG Z e v P h) : (zm_MK 1 0 a N P h ∧ zk_UN M n Z v N m P h) := by
  obtain ⟨w1, w2, w3⟩ := k1
  have k2 : N = zm_pk (fun j => zn_dg Z (12 * (n - 1) + j)) 11 := k2
  have k3 : v = zn_dg Z e := k3
  refine ⟨?_, Or.inr ⟨by omega, by rw [k3, show 12 * (n - 1) + 11 = e by omega], k2, by omega⟩⟩
  refine ⟨w1, fun i x y => ?_, k2.trans (zm_pk_cg 11 (fun j x y => ?_))⟩
  · show zn_in (h a.toNat (0 + i)); rw [show 0 + i = i by omega, w3 i x (by omega)]; exact zn_dg_in _ _
  · show zn_dg Z (12 * (n - 1) + j) = h a.toNat (0 + j); rw [show 0 + j = j by omega, w3 j x (by omega)]; exact (zk_UZ_dg k2 x (by omega)).symm
theorem zo_k2_ok {w : zq_Wd} (x_KF : zj_is w 315 (fun q => zk_KF (q 0) (q 1) (q 2))) (x_UZ : zj_is w 317 (fun q => zk_UZ (q 0) (q 1) (q 2))) (x_DG : zj_is w 134 (fun q => zn_DG (q 0) (q 1) (q 2))) (x_MK : zj_is w 286 (fun q => zm_MK 1 0 (q 0) (q 1))) (x_UN : zj_is w 305 (fun q => zk_UN (q 0) (q 1) (q 2) (q 3) (q 4) (q 5))) : zq_okG1 w zo_k2 := by
  refine ⟨rfl, rfl, zu_fac ⟨rfl, by decide⟩ zq_fan, ?_⟩
  intro r P h H hM
  have q0 : zq_ev r (-1, [(3, 1)]) = r 3 - 1 := zu_e3 _ _ _
  have q1 : zq_ev r (-11, [(7, 1)]) = r 7 - 11 := zu_e3 _ _ _
  have q2 : zq_ev r (11, [(7, -1)]) = -r 7 + 11 := zu_e5 _ _ _
  have q3 : zq_ev r (1, [(3, -12), (5, 1)]) = -12 * r 3 + r 5 + 1 := by simp only [zq_ev, zq_ts] <;> omega
  have q4 : zq_ev r (-1, [(3, 12), (5, -1)]) = 12 * r 3 - r 5 - 1 := by simp only [zq_ev, zq_ts] <;> omega
  have q5 : zq_ev r (1, [(3, -1), (8, 1)]) = -r 3 + r 8 + 1 := by simp only [zq_ev, zq_ts] <;> omega
  have q6 : zq_ev r (-1, [(3, 1), (8, -1)]) = r 3 - r 8 - 1 := by simp only [zq_ev, zq_ts] <;> omega
  have q7 : zq_ev r (0, [(1, 1)]) = r 1 := zu_e1 _ _
  have q8 : zq_ev r (0, [(4, 1)]) = r 4 := zu_e1 _ _
  have q9 : zq_ev r (0, [(7, 1)]) = r 7 := zu_e1 _ _
  have q10 : zq_ev r (0, [(2, 1)]) = r 2 := zu_e1 _ _
  have q11 : zq_ev r (0, [(3, 1)]) = r 3 := zu_e1 _ _
  have q12 : zq_ev r (0, [(5, 1)]) = r 5 := zu_e1 _ _
  have q13 : zq_ev r (0, [(6, 1)]) = r 6 := zu_e1 _ _
  obtain ⟨hT, hC, hF, hS, -, hK⟩ := hM
  have c := hC.1
  have a1 := zq_all_1 c
  rw [q0] at a1
  have c := zq_all_t c
  have a2 := zq_all_1 c
  rw [q1] at a2
  have c := zq_all_t c
  have a3 := zq_all_1 c
  rw [q2] at a3
  have c := zq_all_t c
  have a4 := zq_all_1 c
  rw [q3] at a4
  have c := zq_all_t c
  have a5 := zq_all_1 c
  rw [q4] at a5
  have c := zq_all_t c
  have a6 := zq_all_1 c
  rw [q5] at a6
  have c := zq_all_t c
  have a7 := zq_all_1 c
  rw [q6] at a7
  have k1 := zj_use x_KF (hK)
  have k1 : zk_KF (zq_ev r (0, [(1, 1)])) (zq_ev r (0, [(4, 1)])) (zq_ev r (0, [(7, 1)])) P h := k1
  simp only [q7, q8, q9] at k1
  have k2 := zj_use x_UZ (zq_okX_t (hK))
  have k2 : zk_UZ (zq_ev r (0, [(2, 1)])) (zq_ev r (0, [(3, 1)])) (zq_ev r (0, [(4, 1)])) P h := k2
  simp only [q10, q11, q8] at k2
  have k3 := zj_use x_DG (zq_okX_t (zq_okX_t (hK)))
  have k3 : zn_DG (zq_ev r (0, [(2, 1)])) (zq_ev r (0, [(5, 1)])) (zq_ev r (0, [(6, 1)])) P h := k3
  simp only [q10, q12, q13] at k3
  obtain ⟨t1, t2⟩ := zo_k2_l (P := P) (h := h) (M := r 0) (a := r 1) (Z := r 2) (n := r 3) (N := r 4) (e := r 5) (v := r 6) (l := r 7) (m := r 8) a1 a2 a3 a4 a5 a6 a7 k1 k2 k3
  obtain ⟨rq, hr⟩ : ∃ rq : Nat → Int, (∀ i, i < 9 → rq i = r i) := ⟨r, fun i hi => rfl⟩
  have v0 : rq 0 = r 0 := hr 0 (by decide)
  have v1 : rq 1 = r 1 := hr 1 (by decide)
  have v2 : rq 2 = r 2 := hr 2 (by decide)
  have v3 : rq 3 = r 3 := hr 3 (by decide)
  have v4 : rq 4 = r 4 := hr 4 (by decide)
  have v6 : rq 6 = r 6 := hr 6 (by decide)
  have v8 : rq 8 = r 8 := hr 8 (by decide)
  have g0 : zq_ev rq (0, [(0, 1)]) = r 0 := zu_f1 v0
  have g1 : zq_ev rq (0, [(3, 1)]) = r 3 := zu_f1 v3
  have g2 : zq_ev rq (0, [(2, 1)]) = r 2 := zu_f1 v2
  have g3 : zq_ev rq (0, [(6, 1)]) = r 6 := zu_f1 v6
  have g4 : zq_ev rq (0, [(4, 1)]) = r 4 := zu_f1 v4
  have g5 : zq_ev rq (0, [(8, 1)]) = r 8 := zu_f1 v8
  have g6 : zq_ev rq (0, [(1, 1)]) = r 1 := zu_f1 v1
  exact ⟨_, List.mem_cons_self .., rq, hr, zq_MeS_mk rfl hT (zq_all_nil) zq_fan (zq_fan) rfl (zu_fac ((x_MK _ _ _).mpr (by show zm_MK 1 0 (zq_ev rq (0, [(1, 1)])) (zq_ev rq (0, [(4, 1)])) P h; simp only [g4, g6]; exact t1)) (zu_fac ((x_UN _ _ _).mpr (by show zk_UN (zq_ev rq (0, [(0, 1)])) (zq_ev rq (0, [(3, 1)])) (zq_ev rq (0, [(2, 1)])) (zq_ev rq (0, [(6, 1)])) (zq_ev rq (0, [(4, 1)])) (zq_ev rq (0, [(8, 1)])) P h; simp only [g0, g1, g2, g3, g4, g5]; exact t2)) zq_fan))⟩
noncomputable def zo_yy : zq_S × List zq_S := (([], [], [(0, [(2, -1), (3, 1), (4, -1)]), (0, [(2, 1), (3, -1), (4, 1)])], [], [], [], [(134, [(0, [(0, 1)]), (6, [(1, 1)]), (0, [(4, 1)])])], 5), [([], [], [], [], [], [], [(319, [(0, [(0, 1)]), (0, [(1, 1)]), (0, [(2, 1)]), (0, [(3, 1)])])], 5)])
theorem zo_yy_l {P : zq_Ty} {h : zq_H} {M p t y v : Int} (a1 : 0 ≤ -t + y - v) (a2 : 0 ≤ t - y + v) (k1 : zn_DG M (p + 6) v P h) : (zk_YY M p t y P h) := by
  have k1 : v = zn_dg M (p + 6) := k1
  show y = t + zn_dg M (6 + p)
  rw [show 6 + p = p + 6 by omega, ← k1]; omega
theorem zo_yy_ok {w : zq_Wd} (x_DG : zj_is w 134 (fun q => zn_DG (q 0) (q 1) (q 2))) (x_YY : zj_is w 319 (fun q => zk_YY (q 0) (q 1) (q 2) (q 3))) : zq_okG1 w zo_yy := by
  refine ⟨rfl, rfl, zu_fac ⟨rfl, by decide⟩ zq_fan, ?_⟩
  intro r P h H hM
  have q0 : zq_ev r (0, [(2, -1), (3, 1), (4, -1)]) = -r 2 + r 3 - r 4 := by simp only [zq_ev, zq_ts] <;> omega
  have q1 : zq_ev r (0, [(2, 1), (3, -1), (4, 1)]) = r 2 - r 3 + r 4 := by simp only [zq_ev, zq_ts] <;> omega
  have q2 : zq_ev r (0, [(0, 1)]) = r 0 := zu_e1 _ _
  have q3 : zq_ev r (6, [(1, 1)]) = r 1 + 6 := zu_e2 _ _ _
  have q4 : zq_ev r (0, [(4, 1)]) = r 4 := zu_e1 _ _
  obtain ⟨hT, hC, hF, hS, -, hK⟩ := hM
  have c := hC.1
  have a1 := zq_all_1 c
  rw [q0] at a1
  have c := zq_all_t c
  have a2 := zq_all_1 c
  rw [q1] at a2
  have k1 := zj_use x_DG (hK)
  have k1 : zn_DG (zq_ev r (0, [(0, 1)])) (zq_ev r (6, [(1, 1)])) (zq_ev r (0, [(4, 1)])) P h := k1
  simp only [q2, q3, q4] at k1
  obtain t1 := zo_yy_l (P := P) (h := h) (M := r 0) (p := r 1) (t := r 2) (y := r 3) (v := r 4) a1 a2 k1
  obtain ⟨rq, hr⟩ : ∃ rq : Nat → Int, (∀ i, i < 5 → rq i = r i) := ⟨r, fun i hi => rfl⟩
  have v0 : rq 0 = r 0 := hr 0 (by decide)
  have v1 : rq 1 = r 1 := hr 1 (by decide)
  have v2 : rq 2 = r 2 := hr 2 (by decide)
  have v3 : rq 3 = r 3 := hr 3 (by decide)
  have g0 : zq_ev rq (0, [(0, 1)]) = r 0 := zu_f1 v0
  have g1 : zq_ev rq (0, [(1, 1)]) = r 1 := zu_f1 v1
  have g2 : zq_ev rq (0, [(2, 1)]) = r 2 := zu_f1 v2
  have g3 : zq_ev rq (0, [(3, 1)]) = r 3 := zu_f1 v3
  exact ⟨_, List.mem_cons_self .., rq, hr, zq_MeS_mk rfl hT (zq_all_nil) zq_fan (zq_fan) rfl (zu_fac ((x_YY _ _ _).mpr (by show zk_YY (zq_ev rq (0, [(0, 1)])) (zq_ev rq (0, [(1, 1)])) (zq_ev rq (0, [(2, 1)])) (zq_ev rq (0, [(3, 1)])) P h; simp only [g0, g1, g2, g3]; exact t1)) zq_fan)⟩
noncomputable def zo_yt : zq_S × List zq_S := (([], [], [(0, [(2, 1), (3, -1), (4, -1)]), (0, [(2, -1), (3, 1), (4, 1)])], [], [], [], [(319, [(0, [(0, 1)]), (0, [(1, 1)]), (0, [(2, 1)]), (0, [(5, 1)])]), (134, [(0, [(0, 1)]), (10, []), (0, [(4, 1)])])], 6), [([], [], [], [], [], [], [(320, [(0, [(0, 1)]), (0, [(1, 1)]), (0, [(3, 1)]), (0, [(5, 1)])])], 6)])
theorem zo_yt_l {P : zq_Ty} {h : zq_H} {M p t n x y : Int} (a1 : 0 ≤ t - n - x) (a2 : 0 ≤ -t + n + x) (k1 : zk_YY M p t y P h) (k2 : zn_DG M 10 x P h) : (zk_YT M p n y P h) := by
  have k1 : y = t + zn_dg M (6 + p) := k1
  have k2 : x = zn_dg M 10 := k2
  show y = zn_dg M 10 + n + zn_dg M (6 + p)
  rw [← k2]; omega
theorem zo_yt_ok {w : zq_Wd} (x_YY : zj_is w 319 (fun q => zk_YY (q 0) (q 1) (q 2) (q 3))) (x_DG : zj_is w 134 (fun q => zn_DG (q 0) (q 1) (q 2))) (x_YT : zj_is w 320 (fun q => zk_YT (q 0) (q 1) (q 2) (q 3))) : zq_okG1 w zo_yt := by
  refine ⟨rfl, rfl, zu_fac ⟨rfl, by decide⟩ zq_fan, ?_⟩
  intro r P h H hM
  have q0 : zq_ev r (0, [(2, 1), (3, -1), (4, -1)]) = r 2 - r 3 - r 4 := by simp only [zq_ev, zq_ts] <;> omega
  have q1 : zq_ev r (0, [(2, -1), (3, 1), (4, 1)]) = -r 2 + r 3 + r 4 := by simp only [zq_ev, zq_ts] <;> omega
  have q2 : zq_ev r (0, [(0, 1)]) = r 0 := zu_e1 _ _
  have q3 : zq_ev r (0, [(1, 1)]) = r 1 := zu_e1 _ _
  have q4 : zq_ev r (0, [(2, 1)]) = r 2 := zu_e1 _ _
  have q5 : zq_ev r (0, [(5, 1)]) = r 5 := zu_e1 _ _
  have q6 : zq_ev r (10, []) = 10 := zu_e0 _ _
  have q7 : zq_ev r (0, [(4, 1)]) = r 4 := zu_e1 _ _
  obtain ⟨hT, hC, hF, hS, -, hK⟩ := hM
  have c := hC.1
  have a1 := zq_all_1 c
  rw [q0] at a1
  have c := zq_all_t c
  have a2 := zq_all_1 c
  rw [q1] at a2
  have k1 := zj_use x_YY (hK)
  have k1 : zk_YY (zq_ev r (0, [(0, 1)])) (zq_ev r (0, [(1, 1)])) (zq_ev r (0, [(2, 1)])) (zq_ev r (0, [(5, 1)])) P h := k1
  simp only [q2, q3, q4, q5] at k1
  have k2 := zj_use x_DG (zq_okX_t (hK))
  have k2 : zn_DG (zq_ev r (0, [(0, 1)])) (zq_ev r (10, [])) (zq_ev r (0, [(4, 1)])) P h := k2
  simp only [q2, q6, q7] at k2
  obtain t1 := zo_yt_l (P := P) (h := h) (M := r 0) (p := r 1) (t := r 2) (n := r 3) (x := r 4) (y := r 5) a1 a2 k1 k2
  obtain ⟨rq, hr⟩ : ∃ rq : Nat → Int, (∀ i, i < 6 → rq i = r i) := ⟨r, fun i hi => rfl⟩
  have v0 : rq 0 = r 0 := hr 0 (by decide)
  have v1 : rq 1 = r 1 := hr 1 (by decide)
  have v3 : rq 3 = r 3 := hr 3 (by decide)
  have v5 : rq 5 = r 5 := hr 5 (by decide)
  have g0 : zq_ev rq (0, [(0, 1)]) = r 0 := zu_f1 v0
  have g1 : zq_ev rq (0, [(1, 1)]) = r 1 := zu_f1 v1
  have g2 : zq_ev rq (0, [(3, 1)]) = r 3 := zu_f1 v3
  have g3 : zq_ev rq (0, [(5, 1)]) = r 5 := zu_f1 v5
  exact ⟨_, List.mem_cons_self .., rq, hr, zq_MeS_mk rfl hT (zq_all_nil) zq_fan (zq_fan) rfl (zu_fac ((x_YT _ _ _).mpr (by show zk_YT (zq_ev rq (0, [(0, 1)])) (zq_ev rq (0, [(1, 1)])) (zq_ev rq (0, [(3, 1)])) (zq_ev rq (0, [(5, 1)])) P h; simp only [g0, g1, g2, g3]; exact t1)) zq_fan)⟩
noncomputable def zo_d7 : zq_S × List zq_S := (([], [], [(-7, [(10, 1)]), (7, [(10, -1)])], [], [], [], [(236, [(0, [(9, 1)]), (0, [(0, 1)]), (0, [(6, 1)]), (0, [(7, 1)]), (0, [(8, 1)]), (0, [(11, 1)]), (0, [(4, 1)])]), (320, [(0, [(5, 1)]), (0, [(8, 1)]), (0, []), (0, [(11, 1)])]), (237, [(0, [(2, 1)]), (0, [(3, 1)]), (0, [(9, 1)]), (0, [(7, 1)]), (0, [(1, 1)]), (0, [(10, 1)])])], 12), [([], [], [], [], [], [], [(318, [(0, [(0, 1)]), (0, [(1, 1)]), (0, [(2, 1)]), (0, [(3, 1)]), (0, [(4, 1)]), (0, [(5, 1)]), (0, [(6, 1)]), (0, [(7, 1)]), (0, [(8, 1)]), (-1, []), (0, [(5, 1)])])], 12)])
theorem zo_d7_l {P : zq_Ty} {h : zq_H} {S m T f u M d w p W a y : Int} (a1 : 0 ≤ a - 7) (a2 : 0 ≤ -a + 7) (k1 : zl_WW W S d w p y u P h) (k2 : zk_YT M p 0 y P h) (k3 : zl_RW T f W w m a P h) : (zk_DO S m T f u M d w p (-1) M P h) := by
  have k2 : y = zn_dg M 10 + 0 + zn_dg M (6 + p) := k2
  have k1' := k1
  rw [show y = zn_dg M 10 + zn_dg M (6 + p) by omega] at k1'
  refine ⟨W, a, k1', k3, ?_⟩
  exact Or.inl ⟨by omega, rfl, rfl⟩
theorem zo_d7_ok {w : zq_Wd} (x_WW : zj_is w 236 (fun q => zl_WW (q 0) (q 1) (q 2) (q 3) (q 4) (q 5) (q 6))) (x_YT : zj_is w 320 (fun q => zk_YT (q 0) (q 1) (q 2) (q 3))) (x_RW : zj_is w 237 (fun q => zl_RW (q 0) (q 1) (q 2) (q 3) (q 4) (q 5))) (x_DO : zj_is w 318 (fun q => zk_DO (q 0) (q 1) (q 2) (q 3) (q 4) (q 5) (q 6) (q 7) (q 8) (q 9) (q 10))) : zq_okG1 w zo_d7 := by
  refine ⟨rfl, rfl, zu_fac ⟨rfl, by decide⟩ zq_fan, ?_⟩
  intro r P h H hM
  have q0 : zq_ev r (-7, [(10, 1)]) = r 10 - 7 := zu_e3 _ _ _
  have q1 : zq_ev r (7, [(10, -1)]) = -r 10 + 7 := zu_e5 _ _ _
  have q2 : zq_ev r (0, [(9, 1)]) = r 9 := zu_e1 _ _
  have q3 : zq_ev r (0, [(0, 1)]) = r 0 := zu_e1 _ _
  have q4 : zq_ev r (0, [(6, 1)]) = r 6 := zu_e1 _ _
  have q5 : zq_ev r (0, [(7, 1)]) = r 7 := zu_e1 _ _
  have q6 : zq_ev r (0, [(8, 1)]) = r 8 := zu_e1 _ _
  have q7 : zq_ev r (0, [(11, 1)]) = r 11 := zu_e1 _ _
  have q8 : zq_ev r (0, [(4, 1)]) = r 4 := zu_e1 _ _
  have q9 : zq_ev r (0, [(5, 1)]) = r 5 := zu_e1 _ _
  have q10 : zq_ev r (0, []) = 0 := zu_e0 _ _
  have q11 : zq_ev r (0, [(2, 1)]) = r 2 := zu_e1 _ _
  have q12 : zq_ev r (0, [(3, 1)]) = r 3 := zu_e1 _ _
  have q13 : zq_ev r (0, [(1, 1)]) = r 1 := zu_e1 _ _
  have q14 : zq_ev r (0, [(10, 1)]) = r 10 := zu_e1 _ _
  obtain ⟨hT, hC, hF, hS, -, hK⟩ := hM
  have c := hC.1
  have a1 := zq_all_1 c
  rw [q0] at a1
  have c := zq_all_t c
  have a2 := zq_all_1 c
  rw [q1] at a2
  have k1 := zj_use x_WW (hK)
  have k1 : zl_WW (zq_ev r (0, [(9, 1)])) (zq_ev r (0, [(0, 1)])) (zq_ev r (0, [(6, 1)])) (zq_ev r (0, [(7, 1)])) (zq_ev r (0, [(8, 1)])) (zq_ev r (0, [(11, 1)])) (zq_ev r (0, [(4, 1)])) P h := k1
  simp only [q2, q3, q4, q5, q6, q7, q8] at k1
  have k2 := zj_use x_YT (zq_okX_t (hK))
  have k2 : zk_YT (zq_ev r (0, [(5, 1)])) (zq_ev r (0, [(8, 1)])) (zq_ev r (0, [])) (zq_ev r (0, [(11, 1)])) P h := k2
  simp only [q10, q6, q7, q9] at k2
  have k3 := zj_use x_RW (zq_okX_t (zq_okX_t (hK)))
  have k3 : zl_RW (zq_ev r (0, [(2, 1)])) (zq_ev r (0, [(3, 1)])) (zq_ev r (0, [(9, 1)])) (zq_ev r (0, [(7, 1)])) (zq_ev r (0, [(1, 1)])) (zq_ev r (0, [(10, 1)])) P h := k3
  simp only [q11, q12, q13, q14, q2, q5] at k3
  obtain t1 := zo_d7_l (P := P) (h := h) (S := r 0) (m := r 1) (T := r 2) (f := r 3) (u := r 4) (M := r 5) (d := r 6) (w := r 7) (p := r 8) (W := r 9) (a := r 10) (y := r 11) a1 a2 k1 k2 k3
  obtain ⟨rq, hr⟩ : ∃ rq : Nat → Int, (∀ i, i < 12 → rq i = r i) := ⟨r, fun i hi => rfl⟩
  have v0 : rq 0 = r 0 := hr 0 (by decide)
  have v1 : rq 1 = r 1 := hr 1 (by decide)
  have v2 : rq 2 = r 2 := hr 2 (by decide)
  have v3 : rq 3 = r 3 := hr 3 (by decide)
  have v4 : rq 4 = r 4 := hr 4 (by decide)
  have v5 : rq 5 = r 5 := hr 5 (by decide)
  have v6 : rq 6 = r 6 := hr 6 (by decide)
  have v7 : rq 7 = r 7 := hr 7 (by decide)
  have v8 : rq 8 = r 8 := hr 8 (by decide)
  have g0 : zq_ev rq (0, [(0, 1)]) = r 0 := zu_f1 v0
  have g1 : zq_ev rq (0, [(1, 1)]) = r 1 := zu_f1 v1
  have g2 : zq_ev rq (0, [(2, 1)]) = r 2 := zu_f1 v2
  have g3 : zq_ev rq (0, [(3, 1)]) = r 3 := zu_f1 v3
  have g4 : zq_ev rq (0, [(4, 1)]) = r 4 := zu_f1 v4
  have g5 : zq_ev rq (0, [(5, 1)]) = r 5 := zu_f1 v5
  have g6 : zq_ev rq (0, [(6, 1)]) = r 6 := zu_f1 v6
  have g7 : zq_ev rq (0, [(7, 1)]) = r 7 := zu_f1 v7
  have g8 : zq_ev rq (0, [(8, 1)]) = r 8 := zu_f1 v8
  have g9 : zq_ev rq (-1, []) = -1 := zu_e0 _ _
  exact ⟨_, List.mem_cons_self .., rq, hr, zq_MeS_mk rfl hT (zq_all_nil) zq_fan (zq_fan) rfl (zu_fac ((x_DO _ _ _).mpr (by show zk_DO (zq_ev rq (0, [(0, 1)])) (zq_ev rq (0, [(1, 1)])) (zq_ev rq (0, [(2, 1)])) (zq_ev rq (0, [(3, 1)])) (zq_ev rq (0, [(4, 1)])) (zq_ev rq (0, [(5, 1)])) (zq_ev rq (0, [(6, 1)])) (zq_ev rq (0, [(7, 1)])) (zq_ev rq (0, [(8, 1)])) (zq_ev rq (-1, [])) (zq_ev rq (0, [(5, 1)])) P h; simp only [g0, g1, g2, g3, g4, g5, g6, g7, g8, g9]; exact t1)) zq_fan)⟩
noncomputable def zo_d6 : zq_S × List zq_S := (([], [], [(0, [(10, 1)]), (-6, [(10, 1)]), (6, [(10, -1)])], [], [], [], [(236, [(0, [(9, 1)]), (0, [(0, 1)]), (0, [(6, 1)]), (0, [(7, 1)]), (0, [(8, 1)]), (0, [(11, 1)]), (0, [(4, 1)])]), (320, [(0, [(5, 1)]), (0, [(8, 1)]), (0, []), (0, [(11, 1)])]), (237, [(0, [(2, 1)]), (0, [(3, 1)]), (0, [(9, 1)]), (0, [(7, 1)]), (0, [(1, 1)]), (0, [(10, 1)])])], 12), [([], [], [], [], [], [], [(318, [(0, [(0, 1)]), (0, [(1, 1)]), (0, [(2, 1)]), (0, [(3, 1)]), (0, [(4, 1)]), (0, [(5, 1)]), (0, [(6, 1)]), (0, [(7, 1)]), (0, [(8, 1)]), (0, [(10, 1)]), (0, [(5, 1)])])], 12)])
theorem zo_d6_l {P : zq_Ty} {h : zq_H} {S m T f u M d w p W a y : Int} (a1 : 0 ≤ a) (a2 : 0 ≤ a - 6) (a3 : 0 ≤ -a + 6) (k1 : zl_WW W S d w p y u P h) (k2 : zk_YT M p 0 y P h) (k3 : zl_RW T f W w m a P h) : (zk_DO S m T f u M d w p a M P h) := by
  have k2 : y = zn_dg M 10 + 0 + zn_dg M (6 + p) := k2
  have k1' := k1
  rw [show y = zn_dg M 10 + zn_dg M (6 + p) by omega] at k1'
  refine ⟨W, a, k1', k3, ?_⟩
  exact Or.inr (Or.inl ⟨by omega, by omega, by omega, rfl, rfl⟩)
theorem zo_d6_ok {w : zq_Wd} (x_WW : zj_is w 236 (fun q => zl_WW (q 0) (q 1) (q 2) (q 3) (q 4) (q 5) (q 6))) (x_YT : zj_is w 320 (fun q => zk_YT (q 0) (q 1) (q 2) (q 3))) (x_RW : zj_is w 237 (fun q => zl_RW (q 0) (q 1) (q 2) (q 3) (q 4) (q 5))) (x_DO : zj_is w 318 (fun q => zk_DO (q 0) (q 1) (q 2) (q 3) (q 4) (q 5) (q 6) (q 7) (q 8) (q 9) (q 10))) : zq_okG1 w zo_d6 := by
  refine ⟨rfl, rfl, zu_fac ⟨rfl, by decide⟩ zq_fan, ?_⟩
  intro r P h H hM
  have q0 : zq_ev r (0, [(10, 1)]) = r 10 := zu_e1 _ _
  have q1 : zq_ev r (-6, [(10, 1)]) = r 10 - 6 := zu_e3 _ _ _
  have q2 : zq_ev r (6, [(10, -1)]) = -r 10 + 6 := zu_e5 _ _ _
  have q3 : zq_ev r (0, [(9, 1)]) = r 9 := zu_e1 _ _
  have q4 : zq_ev r (0, [(0, 1)]) = r 0 := zu_e1 _ _
  have q5 : zq_ev r (0, [(6, 1)]) = r 6 := zu_e1 _ _
  have q6 : zq_ev r (0, [(7, 1)]) = r 7 := zu_e1 _ _
  have q7 : zq_ev r (0, [(8, 1)]) = r 8 := zu_e1 _ _
  have q8 : zq_ev r (0, [(11, 1)]) = r 11 := zu_e1 _ _
  have q9 : zq_ev r (0, [(4, 1)]) = r 4 := zu_e1 _ _
  have q10 : zq_ev r (0, [(5, 1)]) = r 5 := zu_e1 _ _
  have q11 : zq_ev r (0, []) = 0 := zu_e0 _ _
  have q12 : zq_ev r (0, [(2, 1)]) = r 2 := zu_e1 _ _
  have q13 : zq_ev r (0, [(3, 1)]) = r 3 := zu_e1 _ _
  have q14 : zq_ev r (0, [(1, 1)]) = r 1 := zu_e1 _ _
  obtain ⟨hT, hC, hF, hS, -, hK⟩ := hM
  have c := hC.1
  have a1 := zq_all_1 c
  rw [q0] at a1
  have c := zq_all_t c
  have a2 := zq_all_1 c
  rw [q1] at a2
  have c := zq_all_t c
  have a3 := zq_all_1 c
  rw [q2] at a3
  have k1 := zj_use x_WW (hK)
  have k1 : zl_WW (zq_ev r (0, [(9, 1)])) (zq_ev r (0, [(0, 1)])) (zq_ev r (0, [(6, 1)])) (zq_ev r (0, [(7, 1)])) (zq_ev r (0, [(8, 1)])) (zq_ev r (0, [(11, 1)])) (zq_ev r (0, [(4, 1)])) P h := k1
  simp only [q3, q4, q5, q6, q7, q8, q9] at k1
  have k2 := zj_use x_YT (zq_okX_t (hK))
  have k2 : zk_YT (zq_ev r (0, [(5, 1)])) (zq_ev r (0, [(8, 1)])) (zq_ev r (0, [])) (zq_ev r (0, [(11, 1)])) P h := k2
  simp only [q10, q11, q7, q8] at k2
  have k3 := zj_use x_RW (zq_okX_t (zq_okX_t (hK)))
  have k3 : zl_RW (zq_ev r (0, [(2, 1)])) (zq_ev r (0, [(3, 1)])) (zq_ev r (0, [(9, 1)])) (zq_ev r (0, [(7, 1)])) (zq_ev r (0, [(1, 1)])) (zq_ev r (0, [(10, 1)])) P h := k3
  simp only [q0, q12, q13, q14, q3, q6] at k3
  obtain t1 := zo_d6_l (P := P) (h := h) (S := r 0) (m := r 1) (T := r 2) (f := r 3) (u := r 4) (M := r 5) (d := r 6) (w := r 7) (p := r 8) (W := r 9) (a := r 10) (y := r 11) a1 a2 a3 k1 k2 k3
  obtain ⟨rq, hr⟩ : ∃ rq : Nat → Int, (∀ i, i < 12 → rq i = r i) := ⟨r, fun i hi => rfl⟩
  have v0 : rq 0 = r 0 := hr 0 (by decide)
  have v1 : rq 1 = r 1 := hr 1 (by decide)
  have v2 : rq 2 = r 2 := hr 2 (by decide)
  have v3 : rq 3 = r 3 := hr 3 (by decide)
  have v4 : rq 4 = r 4 := hr 4 (by decide)
  have v5 : rq 5 = r 5 := hr 5 (by decide)
  have v6 : rq 6 = r 6 := hr 6 (by decide)
  have v7 : rq 7 = r 7 := hr 7 (by decide)
  have v8 : rq 8 = r 8 := hr 8 (by decide)
  have v10 : rq 10 = r 10 := hr 10 (by decide)
  have g0 : zq_ev rq (0, [(0, 1)]) = r 0 := zu_f1 v0
  have g1 : zq_ev rq (0, [(1, 1)]) = r 1 := zu_f1 v1
  have g2 : zq_ev rq (0, [(2, 1)]) = r 2 := zu_f1 v2
  have g3 : zq_ev rq (0, [(3, 1)]) = r 3 := zu_f1 v3
  have g4 : zq_ev rq (0, [(4, 1)]) = r 4 := zu_f1 v4
  have g5 : zq_ev rq (0, [(5, 1)]) = r 5 := zu_f1 v5
  have g6 : zq_ev rq (0, [(6, 1)]) = r 6 := zu_f1 v6
  have g7 : zq_ev rq (0, [(7, 1)]) = r 7 := zu_f1 v7
  have g8 : zq_ev rq (0, [(8, 1)]) = r 8 := zu_f1 v8
  have g9 : zq_ev rq (0, [(10, 1)]) = r 10 := zu_f1 v10
  exact ⟨_, List.mem_cons_self .., rq, hr, zq_MeS_mk rfl hT (zq_all_nil) zq_fan (zq_fan) rfl (zu_fac ((x_DO _ _ _).mpr (by show zk_DO (zq_ev rq (0, [(0, 1)])) (zq_ev rq (0, [(1, 1)])) (zq_ev rq (0, [(2, 1)])) (zq_ev rq (0, [(3, 1)])) (zq_ev rq (0, [(4, 1)])) (zq_ev rq (0, [(5, 1)])) (zq_ev rq (0, [(6, 1)])) (zq_ev rq (0, [(7, 1)])) (zq_ev rq (0, [(8, 1)])) (zq_ev rq (0, [(10, 1)])) (zq_ev rq (0, [(5, 1)])) P h; simp only [g0, g1, g2, g3, g4, g5, g6, g7, g8, g9]; exact t1)) zq_fan)⟩
noncomputable def zo_dw : zq_S × List zq_S := (([], [], [(0, [(10, 1)]), (0, [(7, -1), (10, 1)]), (0, [(7, 1), (10, -1)]), (5, [(10, -1)])], [], [], [], [(236, [(0, [(9, 1)]), (0, [(0, 1)]), (0, [(6, 1)]), (0, [(7, 1)]), (0, [(8, 1)]), (0, [(11, 1)]), (0, [(4, 1)])]), (320, [(0, [(5, 1)]), (0, [(8, 1)]), (0, []), (0, [(11, 1)])]), (237, [(0, [(2, 1)]), (0, [(3, 1)]), (0, [(9, 1)]), (0, [(7, 1)]), (0, [(1, 1)]), (0, [(10, 1)])])], 12), [([], [], [], [], [], [], [(318, [(0, [(0, 1)]), (0, [(1, 1)]), (0, [(2, 1)]), (0, [(3, 1)]), (0, [(4, 1)]), (0, [(5, 1)]), (0, [(6, 1)]), (0, [(7, 1)]), (0, [(8, 1)]), (0, [(10, 1)]), (0, [(5, 1)])])], 12)])
theorem zo_dw_l {P : zq_Ty} {h : zq_H} {S m T f u M d w p W a y : Int} (a1 : 0 ≤ a) (a2 : 0 ≤ -w + a) (a3 : 0 ≤ w - a) (a4 : 0 ≤ -a + 5) (k1 : zl_WW W S d w p y u P h) (k2 : zk_YT M p 0 y P h) (k3 : zl_RW T f W w m a P h) : (zk_DO S m T f u M d w p a M P h) := by
  have k2 : y = zn_dg M 10 + 0 + zn_dg M (6 + p) := k2
  have k1' := k1
  rw [show y = zn_dg M 10 + zn_dg M (6 + p) by omega] at k1'
  refine ⟨W, a, k1', k3, ?_⟩
  exact Or.inr (Or.inl ⟨by omega, by omega, by omega, rfl, rfl⟩)
theorem zo_dw_ok {w : zq_Wd} (x_WW : zj_is w 236 (fun q => zl_WW (q 0) (q 1) (q 2) (q 3) (q 4) (q 5) (q 6))) (x_YT : zj_is w 320 (fun q => zk_YT (q 0) (q 1) (q 2) (q 3))) (x_RW : zj_is w 237 (fun q => zl_RW (q 0) (q 1) (q 2) (q 3) (q 4) (q 5))) (x_DO : zj_is w 318 (fun q => zk_DO (q 0) (q 1) (q 2) (q 3) (q 4) (q 5) (q 6) (q 7) (q 8) (q 9) (q 10))) : zq_okG1 w zo_dw := by
  refine ⟨rfl, rfl, zu_fac ⟨rfl, by decide⟩ zq_fan, ?_⟩
  intro r P h H hM
  have q0 : zq_ev r (0, [(10, 1)]) = r 10 := zu_e1 _ _
  have q1 : zq_ev r (0, [(7, -1), (10, 1)]) = -r 7 + r 10 := by simp only [zq_ev, zq_ts] <;> omega
  have q2 : zq_ev r (0, [(7, 1), (10, -1)]) = r 7 - r 10 := by simp only [zq_ev, zq_ts] <;> omega
  have q3 : zq_ev r (5, [(10, -1)]) = -r 10 + 5 := zu_e5 _ _ _
  have q4 : zq_ev r (0, [(9, 1)]) = r 9 := zu_e1 _ _
  have q5 : zq_ev r (0, [(0, 1)]) = r 0 := zu_e1 _ _
  have q6 : zq_ev r (0, [(6, 1)]) = r 6 := zu_e1 _ _
  have q7 : zq_ev r (0, [(7, 1)]) = r 7 := zu_e1 _ _
  have q8 : zq_ev r (0, [(8, 1)]) = r 8 := zu_e1 _ _
  have q9 : zq_ev r (0, [(11, 1)]) = r 11 := zu_e1 _ _
  have q10 : zq_ev r (0, [(4, 1)]) = r 4 := zu_e1 _ _
  have q11 : zq_ev r (0, [(5, 1)]) = r 5 := zu_e1 _ _
  have q12 : zq_ev r (0, []) = 0 := zu_e0 _ _
  have q13 : zq_ev r (0, [(2, 1)]) = r 2 := zu_e1 _ _
  have q14 : zq_ev r (0, [(3, 1)]) = r 3 := zu_e1 _ _
  have q15 : zq_ev r (0, [(1, 1)]) = r 1 := zu_e1 _ _
  obtain ⟨hT, hC, hF, hS, -, hK⟩ := hM
  have c := hC.1
  have a1 := zq_all_1 c
  rw [q0] at a1
  have c := zq_all_t c
  have a2 := zq_all_1 c
  rw [q1] at a2
  have c := zq_all_t c
  have a3 := zq_all_1 c
  rw [q2] at a3
  have c := zq_all_t c
  have a4 := zq_all_1 c
  rw [q3] at a4
  have k1 := zj_use x_WW (hK)
  have k1 : zl_WW (zq_ev r (0, [(9, 1)])) (zq_ev r (0, [(0, 1)])) (zq_ev r (0, [(6, 1)])) (zq_ev r (0, [(7, 1)])) (zq_ev r (0, [(8, 1)])) (zq_ev r (0, [(11, 1)])) (zq_ev r (0, [(4, 1)])) P h := k1
  simp only [q10, q4, q5, q6, q7, q8, q9] at k1
  have k2 := zj_use x_YT (zq_okX_t (hK))
  have k2 : zk_YT (zq_ev r (0, [(5, 1)])) (zq_ev r (0, [(8, 1)])) (zq_ev r (0, [])) (zq_ev r (0, [(11, 1)])) P h := k2
  simp only [q11, q12, q8, q9] at k2
  have k3 := zj_use x_RW (zq_okX_t (zq_okX_t (hK)))
  have k3 : zl_RW (zq_ev r (0, [(2, 1)])) (zq_ev r (0, [(3, 1)])) (zq_ev r (0, [(9, 1)])) (zq_ev r (0, [(7, 1)])) (zq_ev r (0, [(1, 1)])) (zq_ev r (0, [(10, 1)])) P h := k3
  simp only [q0, q13, q14, q15, q4, q7] at k3
  obtain t1 := zo_dw_l (P := P) (h := h) (S := r 0) (m := r 1) (T := r 2) (f := r 3) (u := r 4) (M := r 5) (d := r 6) (w := r 7) (p := r 8) (W := r 9) (a := r 10) (y := r 11) a1 a2 a3 a4 k1 k2 k3
  obtain ⟨rq, hr⟩ : ∃ rq : Nat → Int, (∀ i, i < 12 → rq i = r i) := ⟨r, fun i hi => rfl⟩
  have v0 : rq 0 = r 0 := hr 0 (by decide)
  have v1 : rq 1 = r 1 := hr 1 (by decide)
  have v2 : rq 2 = r 2 := hr 2 (by decide)
  have v3 : rq 3 = r 3 := hr 3 (by decide)
  have v4 : rq 4 = r 4 := hr 4 (by decide)
  have v5 : rq 5 = r 5 := hr 5 (by decide)
  have v6 : rq 6 = r 6 := hr 6 (by decide)
  have v7 : rq 7 = r 7 := hr 7 (by decide)
  have v8 : rq 8 = r 8 := hr 8 (by decide)
  have v10 : rq 10 = r 10 := hr 10 (by decide)
  have g0 : zq_ev rq (0, [(0, 1)]) = r 0 := zu_f1 v0
  have g1 : zq_ev rq (0, [(1, 1)]) = r 1 := zu_f1 v1
  have g2 : zq_ev rq (0, [(2, 1)]) = r 2 := zu_f1 v2
  have g3 : zq_ev rq (0, [(3, 1)]) = r 3 := zu_f1 v3
  have g4 : zq_ev rq (0, [(4, 1)]) = r 4 := zu_f1 v4
  have g5 : zq_ev rq (0, [(5, 1)]) = r 5 := zu_f1 v5
  have g6 : zq_ev rq (0, [(6, 1)]) = r 6 := zu_f1 v6
  have g7 : zq_ev rq (0, [(7, 1)]) = r 7 := zu_f1 v7
  have g8 : zq_ev rq (0, [(8, 1)]) = r 8 := zu_f1 v8
  have g9 : zq_ev rq (0, [(10, 1)]) = r 10 := zu_f1 v10
  exact ⟨_, List.mem_cons_self .., rq, hr, zq_MeS_mk rfl hT (zq_all_nil) zq_fan (zq_fan) rfl (zu_fac ((x_DO _ _ _).mpr (by show zk_DO (zq_ev rq (0, [(0, 1)])) (zq_ev rq (0, [(1, 1)])) (zq_ev rq (0, [(2, 1)])) (zq_ev rq (0, [(3, 1)])) (zq_ev rq (0, [(4, 1)])) (zq_ev rq (0, [(5, 1)])) (zq_ev rq (0, [(6, 1)])) (zq_ev rq (0, [(7, 1)])) (zq_ev rq (0, [(8, 1)])) (zq_ev rq (0, [(10, 1)])) (zq_ev rq (0, [(5, 1)])) P h; simp only [g0, g1, g2, g3, g4, g5, g6, g7, g8, g9]; exact t1)) zq_fan)⟩
noncomputable def zo_d3al : zq_S × List zq_S := (([], [], [(5, [(10, -1)]), (-1, [(7, 1), (10, -1)]), (-10000, [(14, 1), (15, 1)])], [], [], [], [(236, [(0, [(9, 1)]), (0, [(0, 1)]), (0, [(6, 1)]), (0, [(7, 1)]), (0, [(8, 1)]), (0, [(11, 1)]), (0, [(4, 1)])]), (320, [(0, [(5, 1)]), (0, [(8, 1)]), (0, []), (0, [(11, 1)])]), (237, [(0, [(2, 1)]), (0, [(3, 1)]), (0, [(9, 1)]), (0, [(7, 1)]), (0, [(1, 1)]), (0, [(10, 1)])]), (236, [(0, [(12, 1)]), (0, [(0, 1)]), (0, [(6, 1)]), (0, [(7, 1)]), (0, [(8, 1)]), (0, [(13, 1)]), (0, [(4, 1)])]), (320, [(0, [(5, 1)]), (0, [(8, 1)]), (0, []), (0, [(13, 1)])]), (238, [(0, [(2, 1)]), (0, [(3, 1)]), (0, [(12, 1)]), (0, [(0, 1)]), (0, [(6, 1)]), (0, [(14, 1)])]), (134, [(0, [(5, 1)]), (0, [(7, 1)]), (0, [(15, 1)])])], 16), [([], [], [], [], [], [], [(318, [(0, [(0, 1)]), (0, [(1, 1)]), (0, [(2, 1)]), (0, [(3, 1)]), (0, [(4, 1)]), (0, [(5, 1)]), (0, [(6, 1)]), (0, [(7, 1)]), (0, [(8, 1)]), (-1, []), (0, [(5, 1)])])], 16)])
theorem zo_d3al_l {P : zq_Ty} {h : zq_H} {S m T f u M d w p W a y X z o i : Int} (a1 : 0 ≤ -a + 5) (a2 : 0 ≤ w - a - 1) (a3 : 0 ≤ o + i - 10000) (k1 : zl_WW W S d w p y u P h) (k2 : zk_YT M p 0 y P h) (k3 : zl_RW T f W w m a P h) (k4 : zl_WW X S d w p z u P h) (k5 : zk_YT M p 0 z P h) (k6 : zl_RO T f X S d o P h) (k7 : zn_DG M w i P h) : (zk_DO S m T f u M d w p (-1) M P h) := by
  have k5 : z = zn_dg M 10 + 0 + zn_dg M (6 + p) := k5
  have hz : z = y := by have k2 : y = zn_dg M 10 + 0 + zn_dg M (6 + p) := k2; omega
  have hX : X = W := by
    rw [show X = zl_pk w (zn_dg S w) (zn_dg S (d + 6)) (zn_dg S (d + 12)) p z (z % 7) u from k4, hz]
    exact (show W = _ from k1).symm
  rw [hX] at k6
  
  have k2 : y = zn_dg M 10 + 0 + zn_dg M (6 + p) := k2
  have k1' := k1
  rw [show y = zn_dg M 10 + zn_dg M (6 + p) by omega] at k1'
  refine ⟨W, a, k1', k3, ?_⟩
  have k7 : i = zn_dg M w := k7
  exact Or.inr (Or.inr ⟨by omega, by omega, by omega, o, k6, Or.inl ⟨by omega, rfl, rfl⟩⟩)
theorem zo_d3al_ok {w : zq_Wd} (x_WW : zj_is w 236 (fun q => zl_WW (q 0) (q 1) (q 2) (q 3) (q 4) (q 5) (q 6))) (x_YT : zj_is w 320 (fun q => zk_YT (q 0) (q 1) (q 2) (q 3))) (x_RW : zj_is w 237 (fun q => zl_RW (q 0) (q 1) (q 2) (q 3) (q 4) (q 5))) (x_RO : zj_is w 238 (fun q => zl_RO (q 0) (q 1) (q 2) (q 3) (q 4) (q 5))) (x_DG : zj_is w 134 (fun q => zn_DG (q 0) (q 1) (q 2))) (x_DO : zj_is w 318 (fun q => zk_DO (q 0) (q 1) (q 2) (q 3) (q 4) (q 5) (q 6) (q 7) (q 8) (q 9) (q 10))) : zq_okG1 w zo_d3al := by
  refine ⟨rfl, rfl, zu_fac ⟨rfl, by decide⟩ zq_fan, ?_⟩
  intro r P h H hM
  have q0 : zq_ev r (5, [(10, -1)]) = -r 10 + 5 := zu_e5 _ _ _
  have q1 : zq_ev r (-1, [(7, 1), (10, -1)]) = r 7 - r 10 - 1 := by simp only [zq_ev, zq_ts] <;> omega
  have q2 : zq_ev r (-10000, [(14, 1), (15, 1)]) = r 14 + r 15 - 10000 := by simp only [zq_ev, zq_ts] <;> omega
  have q3 : zq_ev r (0, [(9, 1)]) = r 9 := zu_e1 _ _
  have q4 : zq_ev r (0, [(0, 1)]) = r 0 := zu_e1 _ _
  have q5 : zq_ev r (0, [(6, 1)]) = r 6 := zu_e1 _ _
  have q6 : zq_ev r (0, [(7, 1)]) = r 7 := zu_e1 _ _
  have q7 : zq_ev r (0, [(8, 1)]) = r 8 := zu_e1 _ _
  have q8 : zq_ev r (0, [(11, 1)]) = r 11 := zu_e1 _ _
  have q9 : zq_ev r (0, [(4, 1)]) = r 4 := zu_e1 _ _
  have q10 : zq_ev r (0, [(5, 1)]) = r 5 := zu_e1 _ _
  have q11 : zq_ev r (0, []) = 0 := zu_e0 _ _
  have q12 : zq_ev r (0, [(2, 1)]) = r 2 := zu_e1 _ _
  have q13 : zq_ev r (0, [(3, 1)]) = r 3 := zu_e1 _ _
  have q14 : zq_ev r (0, [(1, 1)]) = r 1 := zu_e1 _ _
  have q15 : zq_ev r (0, [(10, 1)]) = r 10 := zu_e1 _ _
  have q16 : zq_ev r (0, [(12, 1)]) = r 12 := zu_e1 _ _
  have q17 : zq_ev r (0, [(13, 1)]) = r 13 := zu_e1 _ _
  have q18 : zq_ev r (0, [(14, 1)]) = r 14 := zu_e1 _ _
  have q19 : zq_ev r (0, [(15, 1)]) = r 15 := zu_e1 _ _
  obtain ⟨hT, hC, hF, hS, -, hK⟩ := hM
  have c := hC.1
  have a1 := zq_all_1 c
  rw [q0] at a1
  have c := zq_all_t c
  have a2 := zq_all_1 c
  rw [q1] at a2
  have c := zq_all_t c
  have a3 := zq_all_1 c
  rw [q2] at a3
  have k1 := zj_use x_WW (hK)
  have k1 : zl_WW (zq_ev r (0, [(9, 1)])) (zq_ev r (0, [(0, 1)])) (zq_ev r (0, [(6, 1)])) (zq_ev r (0, [(7, 1)])) (zq_ev r (0, [(8, 1)])) (zq_ev r (0, [(11, 1)])) (zq_ev r (0, [(4, 1)])) P h := k1
  simp only [q3, q4, q5, q6, q7, q8, q9] at k1
  have k2 := zj_use x_YT (zq_okX_t (hK))
  have k2 : zk_YT (zq_ev r (0, [(5, 1)])) (zq_ev r (0, [(8, 1)])) (zq_ev r (0, [])) (zq_ev r (0, [(11, 1)])) P h := k2
  simp only [q10, q11, q7, q8] at k2
  have k3 := zj_use x_RW (zq_okX_t (zq_okX_t (hK)))
  have k3 : zl_RW (zq_ev r (0, [(2, 1)])) (zq_ev r (0, [(3, 1)])) (zq_ev r (0, [(9, 1)])) (zq_ev r (0, [(7, 1)])) (zq_ev r (0, [(1, 1)])) (zq_ev r (0, [(10, 1)])) P h := k3
  simp only [q12, q13, q14, q15, q3, q6] at k3
  have k4 := zj_use x_WW (zq_okX_t (zq_okX_t (zq_okX_t (hK))))
  have k4 : zl_WW (zq_ev r (0, [(12, 1)])) (zq_ev r (0, [(0, 1)])) (zq_ev r (0, [(6, 1)])) (zq_ev r (0, [(7, 1)])) (zq_ev r (0, [(8, 1)])) (zq_ev r (0, [(13, 1)])) (zq_ev r (0, [(4, 1)])) P h := k4
  simp only [q16, q17, q4, q5, q6, q7, q9] at k4
  have k5 := zj_use x_YT (zq_okX_t (zq_okX_t (zq_okX_t (zq_okX_t (hK)))))
  have k5 : zk_YT (zq_ev r (0, [(5, 1)])) (zq_ev r (0, [(8, 1)])) (zq_ev r (0, [])) (zq_ev r (0, [(13, 1)])) P h := k5
  simp only [q10, q11, q17, q7] at k5
  have k6 := zj_use x_RO (zq_okX_t (zq_okX_t (zq_okX_t (zq_okX_t (zq_okX_t (hK))))))
  have k6 : zl_RO (zq_ev r (0, [(2, 1)])) (zq_ev r (0, [(3, 1)])) (zq_ev r (0, [(12, 1)])) (zq_ev r (0, [(0, 1)])) (zq_ev r (0, [(6, 1)])) (zq_ev r (0, [(14, 1)])) P h := k6
  simp only [q12, q13, q16, q18, q4, q5] at k6
  have k7 := zj_use x_DG (zq_okX_t (zq_okX_t (zq_okX_t (zq_okX_t (zq_okX_t (zq_okX_t (hK)))))))
  have k7 : zn_DG (zq_ev r (0, [(5, 1)])) (zq_ev r (0, [(7, 1)])) (zq_ev r (0, [(15, 1)])) P h := k7
  simp only [q10, q19, q6] at k7
  obtain t1 := zo_d3al_l (P := P) (h := h) (S := r 0) (m := r 1) (T := r 2) (f := r 3) (u := r 4) (M := r 5) (d := r 6) (w := r 7) (p := r 8) (W := r 9) (a := r 10) (y := r 11) (X := r 12) (z := r 13) (o := r 14) (i := r 15) a1 a2 a3 k1 k2 k3 k4 k5 k6 k7
  obtain ⟨rq, hr⟩ : ∃ rq : Nat → Int, (∀ i, i < 16 → rq i = r i) := ⟨r, fun i hi => rfl⟩
  have v0 : rq 0 = r 0 := hr 0 (by decide)
  have v1 : rq 1 = r 1 := hr 1 (by decide)
  have v2 : rq 2 = r 2 := hr 2 (by decide)
  have v3 : rq 3 = r 3 := hr 3 (by decide)
  have v4 : rq 4 = r 4 := hr 4 (by decide)
  have v5 : rq 5 = r 5 := hr 5 (by decide)
  have v6 : rq 6 = r 6 := hr 6 (by decide)
  have v7 : rq 7 = r 7 := hr 7 (by decide)
  have v8 : rq 8 = r 8 := hr 8 (by decide)
  have g0 : zq_ev rq (0, [(0, 1)]) = r 0 := zu_f1 v0
  have g1 : zq_ev rq (0, [(1, 1)]) = r 1 := zu_f1 v1
  have g2 : zq_ev rq (0, [(2, 1)]) = r 2 := zu_f1 v2
  have g3 : zq_ev rq (0, [(3, 1)]) = r 3 := zu_f1 v3
  have g4 : zq_ev rq (0, [(4, 1)]) = r 4 := zu_f1 v4
  have g5 : zq_ev rq (0, [(5, 1)]) = r 5 := zu_f1 v5
  have g6 : zq_ev rq (0, [(6, 1)]) = r 6 := zu_f1 v6
  have g7 : zq_ev rq (0, [(7, 1)]) = r 7 := zu_f1 v7
  have g8 : zq_ev rq (0, [(8, 1)]) = r 8 := zu_f1 v8
  have g9 : zq_ev rq (-1, []) = -1 := zu_e0 _ _
  exact ⟨_, List.mem_cons_self .., rq, hr, zq_MeS_mk rfl hT (zq_all_nil) zq_fan (zq_fan) rfl (zu_fac ((x_DO _ _ _).mpr (by show zk_DO (zq_ev rq (0, [(0, 1)])) (zq_ev rq (0, [(1, 1)])) (zq_ev rq (0, [(2, 1)])) (zq_ev rq (0, [(3, 1)])) (zq_ev rq (0, [(4, 1)])) (zq_ev rq (0, [(5, 1)])) (zq_ev rq (0, [(6, 1)])) (zq_ev rq (0, [(7, 1)])) (zq_ev rq (0, [(8, 1)])) (zq_ev rq (-1, [])) (zq_ev rq (0, [(5, 1)])) P h; simp only [g0, g1, g2, g3, g4, g5, g6, g7, g8, g9]; exact t1)) zq_fan)⟩
noncomputable def zo_d3bl : zq_S × List zq_S := (([], [], [(5, [(10, -1)]), (-1, [(7, 1), (10, -1)]), (-10000, [(14, 1), (15, -1)])], [], [], [], [(236, [(0, [(9, 1)]), (0, [(0, 1)]), (0, [(6, 1)]), (0, [(7, 1)]), (0, [(8, 1)]), (0, [(11, 1)]), (0, [(4, 1)])]), (320, [(0, [(5, 1)]), (0, [(8, 1)]), (0, []), (0, [(11, 1)])]), (237, [(0, [(2, 1)]), (0, [(3, 1)]), (0, [(9, 1)]), (0, [(7, 1)]), (0, [(1, 1)]), (0, [(10, 1)])]), (236, [(0, [(12, 1)]), (0, [(0, 1)]), (0, [(6, 1)]), (0, [(7, 1)]), (0, [(8, 1)]), (0, [(13, 1)]), (0, [(4, 1)])]), (320, [(0, [(5, 1)]), (0, [(8, 1)]), (0, []), (0, [(13, 1)])]), (238, [(0, [(2, 1)]), (0, [(3, 1)]), (0, [(12, 1)]), (0, [(0, 1)]), (0, [(6, 1)]), (0, [(14, 1)])]), (134, [(0, [(5, 1)]), (0, [(10, 1)]), (0, [(15, 1)])])], 16), [([], [], [], [], [], [], [(318, [(0, [(0, 1)]), (0, [(1, 1)]), (0, [(2, 1)]), (0, [(3, 1)]), (0, [(4, 1)]), (0, [(5, 1)]), (0, [(6, 1)]), (0, [(7, 1)]), (0, [(8, 1)]), (-1, []), (0, [(5, 1)])])], 16)])
theorem zo_d3bl_l {P : zq_Ty} {h : zq_H} {S m T f u M d w p W a y X z o j : Int} (a1 : 0 ≤ -a + 5) (a2 : 0 ≤ w - a - 1) (a3 : 0 ≤ o - j - 10000) (k1 : zl_WW W S d w p y u P h) (k2 : zk_YT M p 0 y P h) (k3 : zl_RW T f W w m a P h) (k4 : zl_WW X S d w p z u P h) (k5 : zk_YT M p 0 z P h) (k6 : zl_RO T f X S d o P h) (k7 : zn_DG M a j P h) : (zk_DO S m T f u M d w p (-1) M P h) := by
  have k5 : z = zn_dg M 10 + 0 + zn_dg M (6 + p) := k5
  have hz : z = y := by have k2 : y = zn_dg M 10 + 0 + zn_dg M (6 + p) := k2; omega
  have hX : X = W := by
    rw [show X = zl_pk w (zn_dg S w) (zn_dg S (d + 6)) (zn_dg S (d + 12)) p z (z % 7) u from k4, hz]
    exact (show W = _ from k1).symm
  rw [hX] at k6
  
  have k2 : y = zn_dg M 10 + 0 + zn_dg M (6 + p) := k2
  have k1' := k1
  rw [show y = zn_dg M 10 + zn_dg M (6 + p) by omega] at k1'
  refine ⟨W, a, k1', k3, ?_⟩
  have k7 : j = zn_dg M a := k7
  exact Or.inr (Or.inr ⟨by omega, by omega, by omega, o, k6, Or.inl ⟨by omega, rfl, rfl⟩⟩)
theorem zo_d3bl_ok {w : zq_Wd} (x_WW : zj_is w 236 (fun q => zl_WW (q 0) (q 1) (q 2) (q 3) (q 4) (q 5) (q 6))) (x_YT : zj_is w 320 (fun q => zk_YT (q 0) (q 1) (q 2) (q 3))) (x_RW : zj_is w 237 (fun q => zl_RW (q 0) (q 1) (q 2) (q 3) (q 4) (q 5))) (x_RO : zj_is w 238 (fun q => zl_RO (q 0) (q 1) (q 2) (q 3) (q 4) (q 5))) (x_DG : zj_is w 134 (fun q => zn_DG (q 0) (q 1) (q 2))) (x_DO : zj_is w 318 (fun q => zk_DO (q 0) (q 1) (q 2) (q 3) (q 4) (q 5) (q 6) (q 7) (q 8) (q 9) (q 10))) : zq_okG1 w zo_d3bl := by
  refine ⟨rfl, rfl, zu_fac ⟨rfl, by decide⟩ zq_fan, ?_⟩
  intro r P h H hM
  have q0 : zq_ev r (5, [(10, -1)]) = -r 10 + 5 := zu_e5 _ _ _
  have q1 : zq_ev r (-1, [(7, 1), (10, -1)]) = r 7 - r 10 - 1 := by simp only [zq_ev, zq_ts] <;> omega
  have q2 : zq_ev r (-10000, [(14, 1), (15, -1)]) = r 14 - r 15 - 10000 := by simp only [zq_ev, zq_ts] <;> omega
  have q3 : zq_ev r (0, [(9, 1)]) = r 9 := zu_e1 _ _
  have q4 : zq_ev r (0, [(0, 1)]) = r 0 := zu_e1 _ _
  have q5 : zq_ev r (0, [(6, 1)]) = r 6 := zu_e1 _ _
  have q6 : zq_ev r (0, [(7, 1)]) = r 7 := zu_e1 _ _
  have q7 : zq_ev r (0, [(8, 1)]) = r 8 := zu_e1 _ _
  have q8 : zq_ev r (0, [(11, 1)]) = r 11 := zu_e1 _ _
  have q9 : zq_ev r (0, [(4, 1)]) = r 4 := zu_e1 _ _
  have q10 : zq_ev r (0, [(5, 1)]) = r 5 := zu_e1 _ _
  have q11 : zq_ev r (0, []) = 0 := zu_e0 _ _
  have q12 : zq_ev r (0, [(2, 1)]) = r 2 := zu_e1 _ _
  have q13 : zq_ev r (0, [(3, 1)]) = r 3 := zu_e1 _ _
  have q14 : zq_ev r (0, [(1, 1)]) = r 1 := zu_e1 _ _
  have q15 : zq_ev r (0, [(10, 1)]) = r 10 := zu_e1 _ _
  have q16 : zq_ev r (0, [(12, 1)]) = r 12 := zu_e1 _ _
  have q17 : zq_ev r (0, [(13, 1)]) = r 13 := zu_e1 _ _
  have q18 : zq_ev r (0, [(14, 1)]) = r 14 := zu_e1 _ _
  have q19 : zq_ev r (0, [(15, 1)]) = r 15 := zu_e1 _ _
  obtain ⟨hT, hC, hF, hS, -, hK⟩ := hM
  have c := hC.1
  have a1 := zq_all_1 c
  rw [q0] at a1
  have c := zq_all_t c
  have a2 := zq_all_1 c
  rw [q1] at a2
  have c := zq_all_t c
  have a3 := zq_all_1 c
  rw [q2] at a3
  have k1 := zj_use x_WW (hK)
  have k1 : zl_WW (zq_ev r (0, [(9, 1)])) (zq_ev r (0, [(0, 1)])) (zq_ev r (0, [(6, 1)])) (zq_ev r (0, [(7, 1)])) (zq_ev r (0, [(8, 1)])) (zq_ev r (0, [(11, 1)])) (zq_ev r (0, [(4, 1)])) P h := k1
  simp only [q3, q4, q5, q6, q7, q8, q9] at k1
  have k2 := zj_use x_YT (zq_okX_t (hK))
  have k2 : zk_YT (zq_ev r (0, [(5, 1)])) (zq_ev r (0, [(8, 1)])) (zq_ev r (0, [])) (zq_ev r (0, [(11, 1)])) P h := k2
  simp only [q10, q11, q7, q8] at k2
  have k3 := zj_use x_RW (zq_okX_t (zq_okX_t (hK)))
  have k3 : zl_RW (zq_ev r (0, [(2, 1)])) (zq_ev r (0, [(3, 1)])) (zq_ev r (0, [(9, 1)])) (zq_ev r (0, [(7, 1)])) (zq_ev r (0, [(1, 1)])) (zq_ev r (0, [(10, 1)])) P h := k3
  simp only [q12, q13, q14, q15, q3, q6] at k3
  have k4 := zj_use x_WW (zq_okX_t (zq_okX_t (zq_okX_t (hK))))
  have k4 : zl_WW (zq_ev r (0, [(12, 1)])) (zq_ev r (0, [(0, 1)])) (zq_ev r (0, [(6, 1)])) (zq_ev r (0, [(7, 1)])) (zq_ev r (0, [(8, 1)])) (zq_ev r (0, [(13, 1)])) (zq_ev r (0, [(4, 1)])) P h := k4
  simp only [q16, q17, q4, q5, q6, q7, q9] at k4
  have k5 := zj_use x_YT (zq_okX_t (zq_okX_t (zq_okX_t (zq_okX_t (hK)))))
  have k5 : zk_YT (zq_ev r (0, [(5, 1)])) (zq_ev r (0, [(8, 1)])) (zq_ev r (0, [])) (zq_ev r (0, [(13, 1)])) P h := k5
  simp only [q10, q11, q17, q7] at k5
  have k6 := zj_use x_RO (zq_okX_t (zq_okX_t (zq_okX_t (zq_okX_t (zq_okX_t (hK))))))
  have k6 : zl_RO (zq_ev r (0, [(2, 1)])) (zq_ev r (0, [(3, 1)])) (zq_ev r (0, [(12, 1)])) (zq_ev r (0, [(0, 1)])) (zq_ev r (0, [(6, 1)])) (zq_ev r (0, [(14, 1)])) P h := k6
  simp only [q12, q13, q16, q18, q4, q5] at k6
  have k7 := zj_use x_DG (zq_okX_t (zq_okX_t (zq_okX_t (zq_okX_t (zq_okX_t (zq_okX_t (hK)))))))
  have k7 : zn_DG (zq_ev r (0, [(5, 1)])) (zq_ev r (0, [(10, 1)])) (zq_ev r (0, [(15, 1)])) P h := k7
  simp only [q10, q15, q19] at k7
  obtain t1 := zo_d3bl_l (P := P) (h := h) (S := r 0) (m := r 1) (T := r 2) (f := r 3) (u := r 4) (M := r 5) (d := r 6) (w := r 7) (p := r 8) (W := r 9) (a := r 10) (y := r 11) (X := r 12) (z := r 13) (o := r 14) (j := r 15) a1 a2 a3 k1 k2 k3 k4 k5 k6 k7
  obtain ⟨rq, hr⟩ : ∃ rq : Nat → Int, (∀ i, i < 16 → rq i = r i) := ⟨r, fun i hi => rfl⟩
  have v0 : rq 0 = r 0 := hr 0 (by decide)
  have v1 : rq 1 = r 1 := hr 1 (by decide)
  have v2 : rq 2 = r 2 := hr 2 (by decide)
  have v3 : rq 3 = r 3 := hr 3 (by decide)
  have v4 : rq 4 = r 4 := hr 4 (by decide)
  have v5 : rq 5 = r 5 := hr 5 (by decide)
  have v6 : rq 6 = r 6 := hr 6 (by decide)
  have v7 : rq 7 = r 7 := hr 7 (by decide)
  have v8 : rq 8 = r 8 := hr 8 (by decide)
  have g0 : zq_ev rq (0, [(0, 1)]) = r 0 := zu_f1 v0
  have g1 : zq_ev rq (0, [(1, 1)]) = r 1 := zu_f1 v1
  have g2 : zq_ev rq (0, [(2, 1)]) = r 2 := zu_f1 v2
  have g3 : zq_ev rq (0, [(3, 1)]) = r 3 := zu_f1 v3
  have g4 : zq_ev rq (0, [(4, 1)]) = r 4 := zu_f1 v4
  have g5 : zq_ev rq (0, [(5, 1)]) = r 5 := zu_f1 v5
  have g6 : zq_ev rq (0, [(6, 1)]) = r 6 := zu_f1 v6
  have g7 : zq_ev rq (0, [(7, 1)]) = r 7 := zu_f1 v7
  have g8 : zq_ev rq (0, [(8, 1)]) = r 8 := zu_f1 v8
  have g9 : zq_ev rq (-1, []) = -1 := zu_e0 _ _
  exact ⟨_, List.mem_cons_self .., rq, hr, zq_MeS_mk rfl hT (zq_all_nil) zq_fan (zq_fan) rfl (zu_fac ((x_DO _ _ _).mpr (by show zk_DO (zq_ev rq (0, [(0, 1)])) (zq_ev rq (0, [(1, 1)])) (zq_ev rq (0, [(2, 1)])) (zq_ev rq (0, [(3, 1)])) (zq_ev rq (0, [(4, 1)])) (zq_ev rq (0, [(5, 1)])) (zq_ev rq (0, [(6, 1)])) (zq_ev rq (0, [(7, 1)])) (zq_ev rq (0, [(8, 1)])) (zq_ev rq (-1, [])) (zq_ev rq (0, [(5, 1)])) P h; simp only [g0, g1, g2, g3, g4, g5, g6, g7, g8, g9]; exact t1)) zq_fan)⟩
noncomputable def zo_dl : zq_S × List zq_S := (([], [], [(5, [(10, -1)]), (-1, [(7, 1), (10, -1)]), (0, [(10, 1)]), (0, [(14, 1)]), (9999, [(14, -1), (15, -1)]), (9999, [(14, -1), (16, 1)])], [], [], [], [(236, [(0, [(9, 1)]), (0, [(0, 1)]), (0, [(6, 1)]), (0, [(7, 1)]), (0, [(8, 1)]), (0, [(11, 1)]), (0, [(4, 1)])]), (320, [(0, [(5, 1)]), (0, [(8, 1)]), (0, []), (0, [(11, 1)])]), (237, [(0, [(2, 1)]), (0, [(3, 1)]), (0, [(9, 1)]), (0, [(7, 1)]), (0, [(1, 1)]), (0, [(10, 1)])]), (236, [(0, [(12, 1)]), (0, [(0, 1)]), (0, [(6, 1)]), (0, [(7, 1)]), (0, [(8, 1)]), (0, [(13, 1)]), (0, [(4, 1)])]), (320, [(0, [(5, 1)]), (0, [(8, 1)]), (0, []), (0, [(13, 1)])]), (238, [(0, [(2, 1)]), (0, [(3, 1)]), (0, [(12, 1)]), (0, [(0, 1)]), (0, [(6, 1)]), (0, [(14, 1)])]), (134, [(0, [(5, 1)]), (0, [(7, 1)]), (0, [(15, 1)])]), (134, [(0, [(5, 1)]), (0, [(10, 1)]), (0, [(16, 1)])]), (312, [(0, [(5, 1)]), (0, [(7, 1)]), (0, [(10, 1)]), (0, [(14, 1)]), (0, [(17, 1)])])], 18), [([], [], [], [], [], [], [(318, [(0, [(0, 1)]), (0, [(1, 1)]), (0, [(2, 1)]), (0, [(3, 1)]), (0, [(4, 1)]), (0, [(5, 1)]), (0, [(6, 1)]), (0, [(7, 1)]), (0, [(8, 1)]), (0, [(10, 1)]), (0, [(17, 1)])])], 18)])
theorem zo_dl_l {P : zq_Ty} {h : zq_H} {S m T f u M d w p W a y X z o i j N : Int} (a1 : 0 ≤ -a + 5) (a2 : 0 ≤ w - a - 1) (a3 : 0 ≤ a) (a4 : 0 ≤ o) (a5 : 0 ≤ -o - i + 9999) (a6 : 0 ≤ -o + j + 9999) (k1 : zl_WW W S d w p y u P h) (k2 : zk_YT M p 0 y P h) (k3 : zl_RW T f W w m a P h) (k4 : zl_WW X S d w p z u P h) (k5 : zk_YT M p 0 z P h) (k6 : zl_RO T f X S d o P h) (k7 : zn_DG M w i P h) (k8 : zn_DG M a j P h) (k9 : zk_MV M w a o N P h) : (zk_DO S m T f u M d w p a N P h) := by
  have k5 : z = zn_dg M 10 + 0 + zn_dg M (6 + p) := k5
  have hz : z = y := by have k2 : y = zn_dg M 10 + 0 + zn_dg M (6 + p) := k2; omega
  have hX : X = W := by
    rw [show X = zl_pk w (zn_dg S w) (zn_dg S (d + 6)) (zn_dg S (d + 12)) p z (z % 7) u from k4, hz]
    exact (show W = _ from k1).symm
  rw [hX] at k6
  
  have k2 : y = zn_dg M 10 + 0 + zn_dg M (6 + p) := k2
  have k1' := k1
  rw [show y = zn_dg M 10 + zn_dg M (6 + p) by omega] at k1'
  refine ⟨W, a, k1', k3, ?_⟩
  have k7 : i = zn_dg M w := k7
  have k8 : j = zn_dg M a := k8
  exact Or.inr (Or.inr ⟨by omega, by omega, by omega, o, k6, Or.inr ⟨by omega, by omega, by omega, by omega, rfl, k9⟩⟩)
theorem zo_dl_ok {w : zq_Wd} (x_WW : zj_is w 236 (fun q => zl_WW (q 0) (q 1) (q 2) (q 3) (q 4) (q 5) (q 6))) (x_YT : zj_is w 320 (fun q => zk_YT (q 0) (q 1) (q 2) (q 3))) (x_RW : zj_is w 237 (fun q => zl_RW (q 0) (q 1) (q 2) (q 3) (q 4) (q 5))) (x_RO : zj_is w 238 (fun q => zl_RO (q 0) (q 1) (q 2) (q 3) (q 4) (q 5))) (x_DG : zj_is w 134 (fun q => zn_DG (q 0) (q 1) (q 2))) (x_MV : zj_is w 312 (fun q => zk_MV (q 0) (q 1) (q 2) (q 3) (q 4))) (x_DO : zj_is w 318 (fun q => zk_DO (q 0) (q 1) (q 2) (q 3) (q 4) (q 5) (q 6) (q 7) (q 8) (q 9) (q 10))) : zq_okG1 w zo_dl := by
  refine ⟨rfl, rfl, zu_fac ⟨rfl, by decide⟩ zq_fan, ?_⟩
  intro r P h H hM
  have q0 : zq_ev r (5, [(10, -1)]) = -r 10 + 5 := zu_e5 _ _ _
  have q1 : zq_ev r (-1, [(7, 1), (10, -1)]) = r 7 - r 10 - 1 := by simp only [zq_ev, zq_ts] <;> omega
  have q2 : zq_ev r (0, [(10, 1)]) = r 10 := zu_e1 _ _
  have q3 : zq_ev r (0, [(14, 1)]) = r 14 := zu_e1 _ _
  have q4 : zq_ev r (9999, [(14, -1), (15, -1)]) = -r 14 - r 15 + 9999 := by simp only [zq_ev, zq_ts] <;> omega
  have q5 : zq_ev r (9999, [(14, -1), (16, 1)]) = -r 14 + r 16 + 9999 := by simp only [zq_ev, zq_ts] <;> omega
  have q6 : zq_ev r (0, [(9, 1)]) = r 9 := zu_e1 _ _
  have q7 : zq_ev r (0, [(0, 1)]) = r 0 := zu_e1 _ _
  have q8 : zq_ev r (0, [(6, 1)]) = r 6 := zu_e1 _ _
  have q9 : zq_ev r (0, [(7, 1)]) = r 7 := zu_e1 _ _
  have q10 : zq_ev r (0, [(8, 1)]) = r 8 := zu_e1 _ _
  have q11 : zq_ev r (0, [(11, 1)]) = r 11 := zu_e1 _ _
  have q12 : zq_ev r (0, [(4, 1)]) = r 4 := zu_e1 _ _
  have q13 : zq_ev r (0, [(5, 1)]) = r 5 := zu_e1 _ _
  have q14 : zq_ev r (0, []) = 0 := zu_e0 _ _
  have q15 : zq_ev r (0, [(2, 1)]) = r 2 := zu_e1 _ _
  have q16 : zq_ev r (0, [(3, 1)]) = r 3 := zu_e1 _ _
  have q17 : zq_ev r (0, [(1, 1)]) = r 1 := zu_e1 _ _
  have q18 : zq_ev r (0, [(12, 1)]) = r 12 := zu_e1 _ _
  have q19 : zq_ev r (0, [(13, 1)]) = r 13 := zu_e1 _ _
  have q20 : zq_ev r (0, [(15, 1)]) = r 15 := zu_e1 _ _
  have q21 : zq_ev r (0, [(16, 1)]) = r 16 := zu_e1 _ _
  have q22 : zq_ev r (0, [(17, 1)]) = r 17 := zu_e1 _ _
  obtain ⟨hT, hC, hF, hS, -, hK⟩ := hM
  have c := hC.1
  have a1 := zq_all_1 c
  rw [q0] at a1
  have c := zq_all_t c
  have a2 := zq_all_1 c
  rw [q1] at a2
  have c := zq_all_t c
  have a3 := zq_all_1 c
  rw [q2] at a3
  have c := zq_all_t c
  have a4 := zq_all_1 c
  rw [q3] at a4
  have c := zq_all_t c
  have a5 := zq_all_1 c
  rw [q4] at a5
  have c := zq_all_t c
  have a6 := zq_all_1 c
  rw [q5] at a6
  have k1 := zj_use x_WW (hK)
  have k1 : zl_WW (zq_ev r (0, [(9, 1)])) (zq_ev r (0, [(0, 1)])) (zq_ev r (0, [(6, 1)])) (zq_ev r (0, [(7, 1)])) (zq_ev r (0, [(8, 1)])) (zq_ev r (0, [(11, 1)])) (zq_ev r (0, [(4, 1)])) P h := k1
  simp only [q10, q11, q12, q6, q7, q8, q9] at k1
  have k2 := zj_use x_YT (zq_okX_t (hK))
  have k2 : zk_YT (zq_ev r (0, [(5, 1)])) (zq_ev r (0, [(8, 1)])) (zq_ev r (0, [])) (zq_ev r (0, [(11, 1)])) P h := k2
  simp only [q10, q11, q13, q14] at k2
  have k3 := zj_use x_RW (zq_okX_t (zq_okX_t (hK)))
  have k3 : zl_RW (zq_ev r (0, [(2, 1)])) (zq_ev r (0, [(3, 1)])) (zq_ev r (0, [(9, 1)])) (zq_ev r (0, [(7, 1)])) (zq_ev r (0, [(1, 1)])) (zq_ev r (0, [(10, 1)])) P h := k3
  simp only [q15, q16, q17, q2, q6, q9] at k3
  have k4 := zj_use x_WW (zq_okX_t (zq_okX_t (zq_okX_t (hK))))
  have k4 : zl_WW (zq_ev r (0, [(12, 1)])) (zq_ev r (0, [(0, 1)])) (zq_ev r (0, [(6, 1)])) (zq_ev r (0, [(7, 1)])) (zq_ev r (0, [(8, 1)])) (zq_ev r (0, [(13, 1)])) (zq_ev r (0, [(4, 1)])) P h := k4
  simp only [q10, q12, q18, q19, q7, q8, q9] at k4
  have k5 := zj_use x_YT (zq_okX_t (zq_okX_t (zq_okX_t (zq_okX_t (hK)))))
  have k5 : zk_YT (zq_ev r (0, [(5, 1)])) (zq_ev r (0, [(8, 1)])) (zq_ev r (0, [])) (zq_ev r (0, [(13, 1)])) P h := k5
  simp only [q10, q13, q14, q19] at k5
  have k6 := zj_use x_RO (zq_okX_t (zq_okX_t (zq_okX_t (zq_okX_t (zq_okX_t (hK))))))
  have k6 : zl_RO (zq_ev r (0, [(2, 1)])) (zq_ev r (0, [(3, 1)])) (zq_ev r (0, [(12, 1)])) (zq_ev r (0, [(0, 1)])) (zq_ev r (0, [(6, 1)])) (zq_ev r (0, [(14, 1)])) P h := k6
  simp only [q15, q16, q18, q3, q7, q8] at k6
  have k7 := zj_use x_DG (zq_okX_t (zq_okX_t (zq_okX_t (zq_okX_t (zq_okX_t (zq_okX_t (hK)))))))
  have k7 : zn_DG (zq_ev r (0, [(5, 1)])) (zq_ev r (0, [(7, 1)])) (zq_ev r (0, [(15, 1)])) P h := k7
  simp only [q13, q20, q9] at k7
  have k8 := zj_use x_DG (zq_okX_t (zq_okX_t (zq_okX_t (zq_okX_t (zq_okX_t (zq_okX_t (zq_okX_t (hK))))))))
  have k8 : zn_DG (zq_ev r (0, [(5, 1)])) (zq_ev r (0, [(10, 1)])) (zq_ev r (0, [(16, 1)])) P h := k8
  simp only [q13, q2, q21] at k8
  have k9 := zj_use x_MV (zq_okX_t (zq_okX_t (zq_okX_t (zq_okX_t (zq_okX_t (zq_okX_t (zq_okX_t (zq_okX_t (hK)))))))))
  have k9 : zk_MV (zq_ev r (0, [(5, 1)])) (zq_ev r (0, [(7, 1)])) (zq_ev r (0, [(10, 1)])) (zq_ev r (0, [(14, 1)])) (zq_ev r (0, [(17, 1)])) P h := k9
  simp only [q13, q2, q22, q3, q9] at k9
  obtain t1 := zo_dl_l (P := P) (h := h) (S := r 0) (m := r 1) (T := r 2) (f := r 3) (u := r 4) (M := r 5) (d := r 6) (w := r 7) (p := r 8) (W := r 9) (a := r 10) (y := r 11) (X := r 12) (z := r 13) (o := r 14) (i := r 15) (j := r 16) (N := r 17) a1 a2 a3 a4 a5 a6 k1 k2 k3 k4 k5 k6 k7 k8 k9
  obtain ⟨rq, hr⟩ : ∃ rq : Nat → Int, (∀ i, i < 18 → rq i = r i) := ⟨r, fun i hi => rfl⟩
  have v0 : rq 0 = r 0 := hr 0 (by decide)
  have v1 : rq 1 = r 1 := hr 1 (by decide)
  have v2 : rq 2 = r 2 := hr 2 (by decide)
  have v3 : rq 3 = r 3 := hr 3 (by decide)
  have v4 : rq 4 = r 4 := hr 4 (by decide)
  have v5 : rq 5 = r 5 := hr 5 (by decide)
  have v6 : rq 6 = r 6 := hr 6 (by decide)
  have v7 : rq 7 = r 7 := hr 7 (by decide)
  have v8 : rq 8 = r 8 := hr 8 (by decide)
  have v10 : rq 10 = r 10 := hr 10 (by decide)
  have v17 : rq 17 = r 17 := hr 17 (by decide)
  have g0 : zq_ev rq (0, [(0, 1)]) = r 0 := zu_f1 v0
  have g1 : zq_ev rq (0, [(1, 1)]) = r 1 := zu_f1 v1
  have g2 : zq_ev rq (0, [(2, 1)]) = r 2 := zu_f1 v2
  have g3 : zq_ev rq (0, [(3, 1)]) = r 3 := zu_f1 v3
  have g4 : zq_ev rq (0, [(4, 1)]) = r 4 := zu_f1 v4
  have g5 : zq_ev rq (0, [(5, 1)]) = r 5 := zu_f1 v5
  have g6 : zq_ev rq (0, [(6, 1)]) = r 6 := zu_f1 v6
  have g7 : zq_ev rq (0, [(7, 1)]) = r 7 := zu_f1 v7
  have g8 : zq_ev rq (0, [(8, 1)]) = r 8 := zu_f1 v8
  have g9 : zq_ev rq (0, [(10, 1)]) = r 10 := zu_f1 v10
  have g10 : zq_ev rq (0, [(17, 1)]) = r 17 := zu_f1 v17
  exact ⟨_, List.mem_cons_self .., rq, hr, zq_MeS_mk rfl hT (zq_all_nil) zq_fan (zq_fan) rfl (zu_fac ((x_DO _ _ _).mpr (by show zk_DO (zq_ev rq (0, [(0, 1)])) (zq_ev rq (0, [(1, 1)])) (zq_ev rq (0, [(2, 1)])) (zq_ev rq (0, [(3, 1)])) (zq_ev rq (0, [(4, 1)])) (zq_ev rq (0, [(5, 1)])) (zq_ev rq (0, [(6, 1)])) (zq_ev rq (0, [(7, 1)])) (zq_ev rq (0, [(8, 1)])) (zq_ev rq (0, [(10, 1)])) (zq_ev rq (0, [(17, 1)])) P h; simp only [g0, g1, g10, g2, g3, g4, g5, g6, g7, g8, g9]; exact t1)) zq_fan)⟩
noncomputable def zo_d3ag : zq_S × List zq_S := (([], [], [(5, [(10, -1)]), (-1, [(7, -1), (10, 1)]), (-10000, [(14, 1), (15, 1)])], [], [], [], [(236, [(0, [(9, 1)]), (0, [(0, 1)]), (0, [(6, 1)]), (0, [(7, 1)]), (0, [(8, 1)]), (0, [(11, 1)]), (0, [(4, 1)])]), (320, [(0, [(5, 1)]), (0, [(8, 1)]), (0, []), (0, [(11, 1)])]), (237, [(0, [(2, 1)]), (0, [(3, 1)]), (0, [(9, 1)]), (0, [(7, 1)]), (0, [(1, 1)]), (0, [(10, 1)])]), (236, [(0, [(12, 1)]), (0, [(0, 1)]), (0, [(6, 1)]), (0, [(7, 1)]), (0, [(8, 1)]), (0, [(13, 1)]), (0, [(4, 1)])]), (320, [(0, [(5, 1)]), (0, [(8, 1)]), (0, []), (0, [(13, 1)])]), (238, [(0, [(2, 1)]), (0, [(3, 1)]), (0, [(12, 1)]), (0, [(0, 1)]), (0, [(6, 1)]), (0, [(14, 1)])]), (134, [(0, [(5, 1)]), (0, [(7, 1)]), (0, [(15, 1)])])], 16), [([], [], [], [], [], [], [(318, [(0, [(0, 1)]), (0, [(1, 1)]), (0, [(2, 1)]), (0, [(3, 1)]), (0, [(4, 1)]), (0, [(5, 1)]), (0, [(6, 1)]), (0, [(7, 1)]), (0, [(8, 1)]), (-1, []), (0, [(5, 1)])])], 16)])
theorem zo_d3ag_l {P : zq_Ty} {h : zq_H} {S m T f u M d w p W a y X z o i : Int} (a1 : 0 ≤ -a + 5) (a2 : 0 ≤ -w + a - 1) (a3 : 0 ≤ o + i - 10000) (k1 : zl_WW W S d w p y u P h) (k2 : zk_YT M p 0 y P h) (k3 : zl_RW T f W w m a P h) (k4 : zl_WW X S d w p z u P h) (k5 : zk_YT M p 0 z P h) (k6 : zl_RO T f X S d o P h) (k7 : zn_DG M w i P h) : (zk_DO S m T f u M d w p (-1) M P h) := by
  have k5 : z = zn_dg M 10 + 0 + zn_dg M (6 + p) := k5
  have hz : z = y := by have k2 : y = zn_dg M 10 + 0 + zn_dg M (6 + p) := k2; omega
  have hX : X = W := by
    rw [show X = zl_pk w (zn_dg S w) (zn_dg S (d + 6)) (zn_dg S (d + 12)) p z (z % 7) u from k4, hz]
    exact (show W = _ from k1).symm
  rw [hX] at k6
  
  have k2 : y = zn_dg M 10 + 0 + zn_dg M (6 + p) := k2
  have k1' := k1
  rw [show y = zn_dg M 10 + zn_dg M (6 + p) by omega] at k1'
  refine ⟨W, a, k1', k3, ?_⟩
  have k7 : i = zn_dg M w := k7
  exact Or.inr (Or.inr ⟨by omega, by omega, by omega, o, k6, Or.inl ⟨by omega, rfl, rfl⟩⟩)
theorem zo_d3ag_ok {w : zq_Wd} (x_WW : zj_is w 236 (fun q => zl_WW (q 0) (q 1) (q 2) (q 3) (q 4) (q 5) (q 6))) (x_YT : zj_is w 320 (fun q => zk_YT (q 0) (q 1) (q 2) (q 3))) (x_RW : zj_is w 237 (fun q => zl_RW (q 0) (q 1) (q 2) (q 3) (q 4) (q 5))) (x_RO : zj_is w 238 (fun q => zl_RO (q 0) (q 1) (q 2) (q 3) (q 4) (q 5))) (x_DG : zj_is w 134 (fun q => zn_DG (q 0) (q 1) (q 2))) (x_DO : zj_is w 318 (fun q => zk_DO (q 0) (q 1) (q 2) (q 3) (q 4) (q 5) (q 6) (q 7) (q 8) (q 9) (q 10))) : zq_okG1 w zo_d3ag := by
  refine ⟨rfl, rfl, zu_fac ⟨rfl, by decide⟩ zq_fan, ?_⟩
  intro r P h H hM
  have q0 : zq_ev r (5, [(10, -1)]) = -r 10 + 5 := zu_e5 _ _ _
  have q1 : zq_ev r (-1, [(7, -1), (10, 1)]) = -r 7 + r 10 - 1 := by simp only [zq_ev, zq_ts] <;> omega
  have q2 : zq_ev r (-10000, [(14, 1), (15, 1)]) = r 14 + r 15 - 10000 := by simp only [zq_ev, zq_ts] <;> omega
  have q3 : zq_ev r (0, [(9, 1)]) = r 9 := zu_e1 _ _
  have q4 : zq_ev r (0, [(0, 1)]) = r 0 := zu_e1 _ _
  have q5 : zq_ev r (0, [(6, 1)]) = r 6 := zu_e1 _ _
  have q6 : zq_ev r (0, [(7, 1)]) = r 7 := zu_e1 _ _
  have q7 : zq_ev r (0, [(8, 1)]) = r 8 := zu_e1 _ _
  have q8 : zq_ev r (0, [(11, 1)]) = r 11 := zu_e1 _ _
  have q9 : zq_ev r (0, [(4, 1)]) = r 4 := zu_e1 _ _
  have q10 : zq_ev r (0, [(5, 1)]) = r 5 := zu_e1 _ _
  have q11 : zq_ev r (0, []) = 0 := zu_e0 _ _
  have q12 : zq_ev r (0, [(2, 1)]) = r 2 := zu_e1 _ _
  have q13 : zq_ev r (0, [(3, 1)]) = r 3 := zu_e1 _ _
  have q14 : zq_ev r (0, [(1, 1)]) = r 1 := zu_e1 _ _
  have q15 : zq_ev r (0, [(10, 1)]) = r 10 := zu_e1 _ _
  have q16 : zq_ev r (0, [(12, 1)]) = r 12 := zu_e1 _ _
  have q17 : zq_ev r (0, [(13, 1)]) = r 13 := zu_e1 _ _
  have q18 : zq_ev r (0, [(14, 1)]) = r 14 := zu_e1 _ _
  have q19 : zq_ev r (0, [(15, 1)]) = r 15 := zu_e1 _ _
  obtain ⟨hT, hC, hF, hS, -, hK⟩ := hM
  have c := hC.1
  have a1 := zq_all_1 c
  rw [q0] at a1
  have c := zq_all_t c
  have a2 := zq_all_1 c
  rw [q1] at a2
  have c := zq_all_t c
  have a3 := zq_all_1 c
  rw [q2] at a3
  have k1 := zj_use x_WW (hK)
  have k1 : zl_WW (zq_ev r (0, [(9, 1)])) (zq_ev r (0, [(0, 1)])) (zq_ev r (0, [(6, 1)])) (zq_ev r (0, [(7, 1)])) (zq_ev r (0, [(8, 1)])) (zq_ev r (0, [(11, 1)])) (zq_ev r (0, [(4, 1)])) P h := k1
  simp only [q3, q4, q5, q6, q7, q8, q9] at k1
  have k2 := zj_use x_YT (zq_okX_t (hK))
  have k2 : zk_YT (zq_ev r (0, [(5, 1)])) (zq_ev r (0, [(8, 1)])) (zq_ev r (0, [])) (zq_ev r (0, [(11, 1)])) P h := k2
  simp only [q10, q11, q7, q8] at k2
  have k3 := zj_use x_RW (zq_okX_t (zq_okX_t (hK)))
  have k3 : zl_RW (zq_ev r (0, [(2, 1)])) (zq_ev r (0, [(3, 1)])) (zq_ev r (0, [(9, 1)])) (zq_ev r (0, [(7, 1)])) (zq_ev r (0, [(1, 1)])) (zq_ev r (0, [(10, 1)])) P h := k3
  simp only [q12, q13, q14, q15, q3, q6] at k3
  have k4 := zj_use x_WW (zq_okX_t (zq_okX_t (zq_okX_t (hK))))
  have k4 : zl_WW (zq_ev r (0, [(12, 1)])) (zq_ev r (0, [(0, 1)])) (zq_ev r (0, [(6, 1)])) (zq_ev r (0, [(7, 1)])) (zq_ev r (0, [(8, 1)])) (zq_ev r (0, [(13, 1)])) (zq_ev r (0, [(4, 1)])) P h := k4
  simp only [q16, q17, q4, q5, q6, q7, q9] at k4
  have k5 := zj_use x_YT (zq_okX_t (zq_okX_t (zq_okX_t (zq_okX_t (hK)))))
  have k5 : zk_YT (zq_ev r (0, [(5, 1)])) (zq_ev r (0, [(8, 1)])) (zq_ev r (0, [])) (zq_ev r (0, [(13, 1)])) P h := k5
  simp only [q10, q11, q17, q7] at k5
  have k6 := zj_use x_RO (zq_okX_t (zq_okX_t (zq_okX_t (zq_okX_t (zq_okX_t (hK))))))
  have k6 : zl_RO (zq_ev r (0, [(2, 1)])) (zq_ev r (0, [(3, 1)])) (zq_ev r (0, [(12, 1)])) (zq_ev r (0, [(0, 1)])) (zq_ev r (0, [(6, 1)])) (zq_ev r (0, [(14, 1)])) P h := k6
  simp only [q12, q13, q16, q18, q4, q5] at k6
  have k7 := zj_use x_DG (zq_okX_t (zq_okX_t (zq_okX_t (zq_okX_t (zq_okX_t (zq_okX_t (hK)))))))
  have k7 : zn_DG (zq_ev r (0, [(5, 1)])) (zq_ev r (0, [(7, 1)])) (zq_ev r (0, [(15, 1)])) P h := k7
  simp only [q10, q19, q6] at k7
  obtain t1 := zo_d3ag_l (P := P) (h := h) (S := r 0) (m := r 1) (T := r 2) (f := r 3) (u := r 4) (M := r 5) (d := r 6) (w := r 7) (p := r 8) (W := r 9) (a := r 10) (y := r 11) (X := r 12) (z := r 13) (o := r 14) (i := r 15) a1 a2 a3 k1 k2 k3 k4 k5 k6 k7
  obtain ⟨rq, hr⟩ : ∃ rq : Nat → Int, (∀ i, i < 16 → rq i = r i) := ⟨r, fun i hi => rfl⟩
  have v0 : rq 0 = r 0 := hr 0 (by decide)
  have v1 : rq 1 = r 1 := hr 1 (by decide)
  have v2 : rq 2 = r 2 := hr 2 (by decide)
  have v3 : rq 3 = r 3 := hr 3 (by decide)
  have v4 : rq 4 = r 4 := hr 4 (by decide)
  have v5 : rq 5 = r 5 := hr 5 (by decide)
  have v6 : rq 6 = r 6 := hr 6 (by decide)
  have v7 : rq 7 = r 7 := hr 7 (by decide)
  have v8 : rq 8 = r 8 := hr 8 (by decide)
  have g0 : zq_ev rq (0, [(0, 1)]) = r 0 := zu_f1 v0
  have g1 : zq_ev rq (0, [(1, 1)]) = r 1 := zu_f1 v1
  have g2 : zq_ev rq (0, [(2, 1)]) = r 2 := zu_f1 v2
  have g3 : zq_ev rq (0, [(3, 1)]) = r 3 := zu_f1 v3
  have g4 : zq_ev rq (0, [(4, 1)]) = r 4 := zu_f1 v4
  have g5 : zq_ev rq (0, [(5, 1)]) = r 5 := zu_f1 v5
  have g6 : zq_ev rq (0, [(6, 1)]) = r 6 := zu_f1 v6
  have g7 : zq_ev rq (0, [(7, 1)]) = r 7 := zu_f1 v7
  have g8 : zq_ev rq (0, [(8, 1)]) = r 8 := zu_f1 v8
  have g9 : zq_ev rq (-1, []) = -1 := zu_e0 _ _
  exact ⟨_, List.mem_cons_self .., rq, hr, zq_MeS_mk rfl hT (zq_all_nil) zq_fan (zq_fan) rfl (zu_fac ((x_DO _ _ _).mpr (by show zk_DO (zq_ev rq (0, [(0, 1)])) (zq_ev rq (0, [(1, 1)])) (zq_ev rq (0, [(2, 1)])) (zq_ev rq (0, [(3, 1)])) (zq_ev rq (0, [(4, 1)])) (zq_ev rq (0, [(5, 1)])) (zq_ev rq (0, [(6, 1)])) (zq_ev rq (0, [(7, 1)])) (zq_ev rq (0, [(8, 1)])) (zq_ev rq (-1, [])) (zq_ev rq (0, [(5, 1)])) P h; simp only [g0, g1, g2, g3, g4, g5, g6, g7, g8, g9]; exact t1)) zq_fan)⟩
noncomputable def zo_d3bg : zq_S × List zq_S := (([], [], [(5, [(10, -1)]), (-1, [(7, -1), (10, 1)]), (-10000, [(14, 1), (15, -1)])], [], [], [], [(236, [(0, [(9, 1)]), (0, [(0, 1)]), (0, [(6, 1)]), (0, [(7, 1)]), (0, [(8, 1)]), (0, [(11, 1)]), (0, [(4, 1)])]), (320, [(0, [(5, 1)]), (0, [(8, 1)]), (0, []), (0, [(11, 1)])]), (237, [(0, [(2, 1)]), (0, [(3, 1)]), (0, [(9, 1)]), (0, [(7, 1)]), (0, [(1, 1)]), (0, [(10, 1)])]), (236, [(0, [(12, 1)]), (0, [(0, 1)]), (0, [(6, 1)]), (0, [(7, 1)]), (0, [(8, 1)]), (0, [(13, 1)]), (0, [(4, 1)])]), (320, [(0, [(5, 1)]), (0, [(8, 1)]), (0, []), (0, [(13, 1)])]), (238, [(0, [(2, 1)]), (0, [(3, 1)]), (0, [(12, 1)]), (0, [(0, 1)]), (0, [(6, 1)]), (0, [(14, 1)])]), (134, [(0, [(5, 1)]), (0, [(10, 1)]), (0, [(15, 1)])])], 16), [([], [], [], [], [], [], [(318, [(0, [(0, 1)]), (0, [(1, 1)]), (0, [(2, 1)]), (0, [(3, 1)]), (0, [(4, 1)]), (0, [(5, 1)]), (0, [(6, 1)]), (0, [(7, 1)]), (0, [(8, 1)]), (-1, []), (0, [(5, 1)])])], 16)])
theorem zo_d3bg_l {P : zq_Ty} {h : zq_H} {S m T f u M d w p W a y X z o j : Int} (a1 : 0 ≤ -a + 5) (a2 : 0 ≤ -w + a - 1) (a3 : 0 ≤ o - j - 10000) (k1 : zl_WW W S d w p y u P h) (k2 : zk_YT M p 0 y P h) (k3 : zl_RW T f W w m a P h) (k4 : zl_WW X S d w p z u P h) (k5 : zk_YT M p 0 z P h) (k6 : zl_RO T f X S d o P h) (k7 : zn_DG M a j P h) : (zk_DO S m T f u M d w p (-1) M P h) := by
  have k5 : z = zn_dg M 10 + 0 + zn_dg M (6 + p) := k5
  have hz : z = y := by have k2 : y = zn_dg M 10 + 0 + zn_dg M (6 + p) := k2; omega
  have hX : X = W := by
    rw [show X = zl_pk w (zn_dg S w) (zn_dg S (d + 6)) (zn_dg S (d + 12)) p z (z % 7) u from k4, hz]
    exact (show W = _ from k1).symm
  rw [hX] at k6
  
  have k2 : y = zn_dg M 10 + 0 + zn_dg M (6 + p) := k2
  have k1' := k1
  rw [show y = zn_dg M 10 + zn_dg M (6 + p) by omega] at k1'
  refine ⟨W, a, k1', k3, ?_⟩
  have k7 : j = zn_dg M a := k7
  exact Or.inr (Or.inr ⟨by omega, by omega, by omega, o, k6, Or.inl ⟨by omega, rfl, rfl⟩⟩)
theorem zo_d3bg_ok {w : zq_Wd} (x_WW : zj_is w 236 (fun q => zl_WW (q 0) (q 1) (q 2) (q 3) (q 4) (q 5) (q 6))) (x_YT : zj_is w 320 (fun q => zk_YT (q 0) (q 1) (q 2) (q 3))) (x_RW : zj_is w 237 (fun q => zl_RW (q 0) (q 1) (q 2) (q 3) (q 4) (q 5))) (x_RO : zj_is w 238 (fun q => zl_RO (q 0) (q 1) (q 2) (q 3) (q 4) (q 5))) (x_DG : zj_is w 134 (fun q => zn_DG (q 0) (q 1) (q 2))) (x_DO : zj_is w 318 (fun q => zk_DO (q 0) (q 1) (q 2) (q 3) (q 4) (q 5) (q 6) (q 7) (q 8) (q 9) (q 10))) : zq_okG1 w zo_d3bg := by
  refine ⟨rfl, rfl, zu_fac ⟨rfl, by decide⟩ zq_fan, ?_⟩
  intro r P h H hM
  have q0 : zq_ev r (5, [(10, -1)]) = -r 10 + 5 := zu_e5 _ _ _
  have q1 : zq_ev r (-1, [(7, -1), (10, 1)]) = -r 7 + r 10 - 1 := by simp only [zq_ev, zq_ts] <;> omega
  have q2 : zq_ev r (-10000, [(14, 1), (15, -1)]) = r 14 - r 15 - 10000 := by simp only [zq_ev, zq_ts] <;> omega
  have q3 : zq_ev r (0, [(9, 1)]) = r 9 := zu_e1 _ _
  have q4 : zq_ev r (0, [(0, 1)]) = r 0 := zu_e1 _ _
  have q5 : zq_ev r (0, [(6, 1)]) = r 6 := zu_e1 _ _
  have q6 : zq_ev r (0, [(7, 1)]) = r 7 := zu_e1 _ _
  have q7 : zq_ev r (0, [(8, 1)]) = r 8 := zu_e1 _ _
  have q8 : zq_ev r (0, [(11, 1)]) = r 11 := zu_e1 _ _
  have q9 : zq_ev r (0, [(4, 1)]) = r 4 := zu_e1 _ _
  have q10 : zq_ev r (0, [(5, 1)]) = r 5 := zu_e1 _ _
  have q11 : zq_ev r (0, []) = 0 := zu_e0 _ _
  have q12 : zq_ev r (0, [(2, 1)]) = r 2 := zu_e1 _ _
  have q13 : zq_ev r (0, [(3, 1)]) = r 3 := zu_e1 _ _
  have q14 : zq_ev r (0, [(1, 1)]) = r 1 := zu_e1 _ _
  have q15 : zq_ev r (0, [(10, 1)]) = r 10 := zu_e1 _ _
  have q16 : zq_ev r (0, [(12, 1)]) = r 12 := zu_e1 _ _
  have q17 : zq_ev r (0, [(13, 1)]) = r 13 := zu_e1 _ _
  have q18 : zq_ev r (0, [(14, 1)]) = r 14 := zu_e1 _ _
  have q19 : zq_ev r (0, [(15, 1)]) = r 15 := zu_e1 _ _
  obtain ⟨hT, hC, hF, hS, -, hK⟩ := hM
  have c := hC.1
  have a1 := zq_all_1 c
  rw [q0] at a1
  have c := zq_all_t c
  have a2 := zq_all_1 c
  rw [q1] at a2
  have c := zq_all_t c
  have a3 := zq_all_1 c
  rw [q2] at a3
  have k1 := zj_use x_WW (hK)
  have k1 : zl_WW (zq_ev r (0, [(9, 1)])) (zq_ev r (0, [(0, 1)])) (zq_ev r (0, [(6, 1)])) (zq_ev r (0, [(7, 1)])) (zq_ev r (0, [(8, 1)])) (zq_ev r (0, [(11, 1)])) (zq_ev r (0, [(4, 1)])) P h := k1
  simp only [q3, q4, q5, q6, q7, q8, q9] at k1
  have k2 := zj_use x_YT (zq_okX_t (hK))
  have k2 : zk_YT (zq_ev r (0, [(5, 1)])) (zq_ev r (0, [(8, 1)])) (zq_ev r (0, [])) (zq_ev r (0, [(11, 1)])) P h := k2
  simp only [q10, q11, q7, q8] at k2
  have k3 := zj_use x_RW (zq_okX_t (zq_okX_t (hK)))
  have k3 : zl_RW (zq_ev r (0, [(2, 1)])) (zq_ev r (0, [(3, 1)])) (zq_ev r (0, [(9, 1)])) (zq_ev r (0, [(7, 1)])) (zq_ev r (0, [(1, 1)])) (zq_ev r (0, [(10, 1)])) P h := k3
  simp only [q12, q13, q14, q15, q3, q6] at k3
  have k4 := zj_use x_WW (zq_okX_t (zq_okX_t (zq_okX_t (hK))))
  have k4 : zl_WW (zq_ev r (0, [(12, 1)])) (zq_ev r (0, [(0, 1)])) (zq_ev r (0, [(6, 1)])) (zq_ev r (0, [(7, 1)])) (zq_ev r (0, [(8, 1)])) (zq_ev r (0, [(13, 1)])) (zq_ev r (0, [(4, 1)])) P h := k4
  simp only [q16, q17, q4, q5, q6, q7, q9] at k4
  have k5 := zj_use x_YT (zq_okX_t (zq_okX_t (zq_okX_t (zq_okX_t (hK)))))
  have k5 : zk_YT (zq_ev r (0, [(5, 1)])) (zq_ev r (0, [(8, 1)])) (zq_ev r (0, [])) (zq_ev r (0, [(13, 1)])) P h := k5
  simp only [q10, q11, q17, q7] at k5
  have k6 := zj_use x_RO (zq_okX_t (zq_okX_t (zq_okX_t (zq_okX_t (zq_okX_t (hK))))))
  have k6 : zl_RO (zq_ev r (0, [(2, 1)])) (zq_ev r (0, [(3, 1)])) (zq_ev r (0, [(12, 1)])) (zq_ev r (0, [(0, 1)])) (zq_ev r (0, [(6, 1)])) (zq_ev r (0, [(14, 1)])) P h := k6
  simp only [q12, q13, q16, q18, q4, q5] at k6
  have k7 := zj_use x_DG (zq_okX_t (zq_okX_t (zq_okX_t (zq_okX_t (zq_okX_t (zq_okX_t (hK)))))))
  have k7 : zn_DG (zq_ev r (0, [(5, 1)])) (zq_ev r (0, [(10, 1)])) (zq_ev r (0, [(15, 1)])) P h := k7
  simp only [q10, q15, q19] at k7
  obtain t1 := zo_d3bg_l (P := P) (h := h) (S := r 0) (m := r 1) (T := r 2) (f := r 3) (u := r 4) (M := r 5) (d := r 6) (w := r 7) (p := r 8) (W := r 9) (a := r 10) (y := r 11) (X := r 12) (z := r 13) (o := r 14) (j := r 15) a1 a2 a3 k1 k2 k3 k4 k5 k6 k7
  obtain ⟨rq, hr⟩ : ∃ rq : Nat → Int, (∀ i, i < 16 → rq i = r i) := ⟨r, fun i hi => rfl⟩
  have v0 : rq 0 = r 0 := hr 0 (by decide)
  have v1 : rq 1 = r 1 := hr 1 (by decide)
  have v2 : rq 2 = r 2 := hr 2 (by decide)
  have v3 : rq 3 = r 3 := hr 3 (by decide)
  have v4 : rq 4 = r 4 := hr 4 (by decide)
  have v5 : rq 5 = r 5 := hr 5 (by decide)
  have v6 : rq 6 = r 6 := hr 6 (by decide)
  have v7 : rq 7 = r 7 := hr 7 (by decide)
  have v8 : rq 8 = r 8 := hr 8 (by decide)
  have g0 : zq_ev rq (0, [(0, 1)]) = r 0 := zu_f1 v0
  have g1 : zq_ev rq (0, [(1, 1)]) = r 1 := zu_f1 v1
  have g2 : zq_ev rq (0, [(2, 1)]) = r 2 := zu_f1 v2
  have g3 : zq_ev rq (0, [(3, 1)]) = r 3 := zu_f1 v3
  have g4 : zq_ev rq (0, [(4, 1)]) = r 4 := zu_f1 v4
  have g5 : zq_ev rq (0, [(5, 1)]) = r 5 := zu_f1 v5
  have g6 : zq_ev rq (0, [(6, 1)]) = r 6 := zu_f1 v6
  have g7 : zq_ev rq (0, [(7, 1)]) = r 7 := zu_f1 v7
  have g8 : zq_ev rq (0, [(8, 1)]) = r 8 := zu_f1 v8
  have g9 : zq_ev rq (-1, []) = -1 := zu_e0 _ _
  exact ⟨_, List.mem_cons_self .., rq, hr, zq_MeS_mk rfl hT (zq_all_nil) zq_fan (zq_fan) rfl (zu_fac ((x_DO _ _ _).mpr (by show zk_DO (zq_ev rq (0, [(0, 1)])) (zq_ev rq (0, [(1, 1)])) (zq_ev rq (0, [(2, 1)])) (zq_ev rq (0, [(3, 1)])) (zq_ev rq (0, [(4, 1)])) (zq_ev rq (0, [(5, 1)])) (zq_ev rq (0, [(6, 1)])) (zq_ev rq (0, [(7, 1)])) (zq_ev rq (0, [(8, 1)])) (zq_ev rq (-1, [])) (zq_ev rq (0, [(5, 1)])) P h; simp only [g0, g1, g2, g3, g4, g5, g6, g7, g8, g9]; exact t1)) zq_fan)⟩
noncomputable def zo_dg : zq_S × List zq_S := (([], [], [(5, [(10, -1)]), (-1, [(7, -1), (10, 1)]), (0, [(10, 1)]), (0, [(14, 1)]), (9999, [(14, -1), (15, -1)]), (9999, [(14, -1), (16, 1)])], [], [], [], [(236, [(0, [(9, 1)]), (0, [(0, 1)]), (0, [(6, 1)]), (0, [(7, 1)]), (0, [(8, 1)]), (0, [(11, 1)]), (0, [(4, 1)])]), (320, [(0, [(5, 1)]), (0, [(8, 1)]), (0, []), (0, [(11, 1)])]), (237, [(0, [(2, 1)]), (0, [(3, 1)]), (0, [(9, 1)]), (0, [(7, 1)]), (0, [(1, 1)]), (0, [(10, 1)])]), (236, [(0, [(12, 1)]), (0, [(0, 1)]), (0, [(6, 1)]), (0, [(7, 1)]), (0, [(8, 1)]), (0, [(13, 1)]), (0, [(4, 1)])]), (320, [(0, [(5, 1)]), (0, [(8, 1)]), (0, []), (0, [(13, 1)])]), (238, [(0, [(2, 1)]), (0, [(3, 1)]), (0, [(12, 1)]), (0, [(0, 1)]), (0, [(6, 1)]), (0, [(14, 1)])]), (134, [(0, [(5, 1)]), (0, [(7, 1)]), (0, [(15, 1)])]), (134, [(0, [(5, 1)]), (0, [(10, 1)]), (0, [(16, 1)])]), (312, [(0, [(5, 1)]), (0, [(7, 1)]), (0, [(10, 1)]), (0, [(14, 1)]), (0, [(17, 1)])])], 18), [([], [], [], [], [], [], [(318, [(0, [(0, 1)]), (0, [(1, 1)]), (0, [(2, 1)]), (0, [(3, 1)]), (0, [(4, 1)]), (0, [(5, 1)]), (0, [(6, 1)]), (0, [(7, 1)]), (0, [(8, 1)]), (0, [(10, 1)]), (0, [(17, 1)])])], 18)])
theorem zo_dg_l {P : zq_Ty} {h : zq_H} {S m T f u M d w p W a y X z o i j N : Int} (a1 : 0 ≤ -a + 5) (a2 : 0 ≤ -w + a - 1) (a3 : 0 ≤ a) (a4 : 0 ≤ o) (a5 : 0 ≤ -o - i + 9999) (a6 : 0 ≤ -o + j + 9999) (k1 : zl_WW W S d w p y u P h) (k2 : zk_YT M p 0 y P h) (k3 : zl_RW T f W w m a P h) (k4 : zl_WW X S d w p z u P h) (k5 : zk_YT M p 0 z P h) (k6 : zl_RO T f X S d o P h) (k7 : zn_DG M w i P h) (k8 : zn_DG M a j P h) (k9 : zk_MV M w a o N P h) : (zk_DO S m T f u M d w p a N P h) := by
  have k5 : z = zn_dg M 10 + 0 + zn_dg M (6 + p) := k5
  have hz : z = y := by have k2 : y = zn_dg M 10 + 0 + zn_dg M (6 + p) := k2; omega
  have hX : X = W := by
    rw [show X = zl_pk w (zn_dg S w) (zn_dg S (d + 6)) (zn_dg S (d + 12)) p z (z % 7) u from k4, hz]
    exact (show W = _ from k1).symm
  rw [hX] at k6
  
  have k2 : y = zn_dg M 10 + 0 + zn_dg M (6 + p) := k2
  have k1' := k1
  rw [show y = zn_dg M 10 + zn_dg M (6 + p) by omega] at k1'
  refine ⟨W, a, k1', k3, ?_⟩
  have k7 : i = zn_dg M w := k7
  have k8 : j = zn_dg M a := k8
  exact Or.inr (Or.inr ⟨by omega, by omega, by omega, o, k6, Or.inr ⟨by omega, by omega, by omega, by omega, rfl, k9⟩⟩)
theorem zo_dg_ok {w : zq_Wd} (x_WW : zj_is w 236 (fun q => zl_WW (q 0) (q 1) (q 2) (q 3) (q 4) (q 5) (q 6))) (x_YT : zj_is w 320 (fun q => zk_YT (q 0) (q 1) (q 2) (q 3))) (x_RW : zj_is w 237 (fun q => zl_RW (q 0) (q 1) (q 2) (q 3) (q 4) (q 5))) (x_RO : zj_is w 238 (fun q => zl_RO (q 0) (q 1) (q 2) (q 3) (q 4) (q 5))) (x_DG : zj_is w 134 (fun q => zn_DG (q 0) (q 1) (q 2))) (x_MV : zj_is w 312 (fun q => zk_MV (q 0) (q 1) (q 2) (q 3) (q 4))) (x_DO : zj_is w 318 (fun q => zk_DO (q 0) (q 1) (q 2) (q 3) (q 4) (q 5) (q 6) (q 7) (q 8) (q 9) (q 10))) : zq_okG1 w zo_dg := by
  refine ⟨rfl, rfl, zu_fac ⟨rfl, by decide⟩ zq_fan, ?_⟩
  intro r P h H hM
  have q0 : zq_ev r (5, [(10, -1)]) = -r 10 + 5 := zu_e5 _ _ _
  have q1 : zq_ev r (-1, [(7, -1), (10, 1)]) = -r 7 + r 10 - 1 := by simp only [zq_ev, zq_ts] <;> omega
  have q2 : zq_ev r (0, [(10, 1)]) = r 10 := zu_e1 _ _
  have q3 : zq_ev r (0, [(14, 1)]) = r 14 := zu_e1 _ _
  have q4 : zq_ev r (9999, [(14, -1), (15, -1)]) = -r 14 - r 15 + 9999 := by simp only [zq_ev, zq_ts] <;> omega
  have q5 : zq_ev r (9999, [(14, -1), (16, 1)]) = -r 14 + r 16 + 9999 := by simp only [zq_ev, zq_ts] <;> omega
  have q6 : zq_ev r (0, [(9, 1)]) = r 9 := zu_e1 _ _
  have q7 : zq_ev r (0, [(0, 1)]) = r 0 := zu_e1 _ _
  have q8 : zq_ev r (0, [(6, 1)]) = r 6 := zu_e1 _ _
  have q9 : zq_ev r (0, [(7, 1)]) = r 7 := zu_e1 _ _
  have q10 : zq_ev r (0, [(8, 1)]) = r 8 := zu_e1 _ _
  have q11 : zq_ev r (0, [(11, 1)]) = r 11 := zu_e1 _ _
  have q12 : zq_ev r (0, [(4, 1)]) = r 4 := zu_e1 _ _
  have q13 : zq_ev r (0, [(5, 1)]) = r 5 := zu_e1 _ _
  have q14 : zq_ev r (0, []) = 0 := zu_e0 _ _
  have q15 : zq_ev r (0, [(2, 1)]) = r 2 := zu_e1 _ _
  have q16 : zq_ev r (0, [(3, 1)]) = r 3 := zu_e1 _ _
  have q17 : zq_ev r (0, [(1, 1)]) = r 1 := zu_e1 _ _
  have q18 : zq_ev r (0, [(12, 1)]) = r 12 := zu_e1 _ _
  have q19 : zq_ev r (0, [(13, 1)]) = r 13 := zu_e1 _ _
  have q20 : zq_ev r (0, [(15, 1)]) = r 15 := zu_e1 _ _
  have q21 : zq_ev r (0, [(16, 1)]) = r 16 := zu_e1 _ _
  have q22 : zq_ev r (0, [(17, 1)]) = r 17 := zu_e1 _ _
  obtain ⟨hT, hC, hF, hS, -, hK⟩ := hM
  have c := hC.1
  have a1 := zq_all_1 c
  rw [q0] at a1
  have c := zq_all_t c
  have a2 := zq_all_1 c
  rw [q1] at a2
  have c := zq_all_t c
  have a3 := zq_all_1 c
  rw [q2] at a3
  have c := zq_all_t c
  have a4 := zq_all_1 c
  rw [q3] at a4
  have c := zq_all_t c
  have a5 := zq_all_1 c
  rw [q4] at a5
  have c := zq_all_t c
  have a6 := zq_all_1 c
  rw [q5] at a6
  have k1 := zj_use x_WW (hK)
  have k1 : zl_WW (zq_ev r (0, [(9, 1)])) (zq_ev r (0, [(0, 1)])) (zq_ev r (0, [(6, 1)])) (zq_ev r (0, [(7, 1)])) (zq_ev r (0, [(8, 1)])) (zq_ev r (0, [(11, 1)])) (zq_ev r (0, [(4, 1)])) P h := k1
  simp only [q10, q11, q12, q6, q7, q8, q9] at k1
  have k2 := zj_use x_YT (zq_okX_t (hK))
  have k2 : zk_YT (zq_ev r (0, [(5, 1)])) (zq_ev r (0, [(8, 1)])) (zq_ev r (0, [])) (zq_ev r (0, [(11, 1)])) P h := k2
  simp only [q10, q11, q13, q14] at k2
  have k3 := zj_use x_RW (zq_okX_t (zq_okX_t (hK)))
  have k3 : zl_RW (zq_ev r (0, [(2, 1)])) (zq_ev r (0, [(3, 1)])) (zq_ev r (0, [(9, 1)])) (zq_ev r (0, [(7, 1)])) (zq_ev r (0, [(1, 1)])) (zq_ev r (0, [(10, 1)])) P h := k3
  simp only [q15, q16, q17, q2, q6, q9] at k3
  have k4 := zj_use x_WW (zq_okX_t (zq_okX_t (zq_okX_t (hK))))
  have k4 : zl_WW (zq_ev r (0, [(12, 1)])) (zq_ev r (0, [(0, 1)])) (zq_ev r (0, [(6, 1)])) (zq_ev r (0, [(7, 1)])) (zq_ev r (0, [(8, 1)])) (zq_ev r (0, [(13, 1)])) (zq_ev r (0, [(4, 1)])) P h := k4
  simp only [q10, q12, q18, q19, q7, q8, q9] at k4
  have k5 := zj_use x_YT (zq_okX_t (zq_okX_t (zq_okX_t (zq_okX_t (hK)))))
  have k5 : zk_YT (zq_ev r (0, [(5, 1)])) (zq_ev r (0, [(8, 1)])) (zq_ev r (0, [])) (zq_ev r (0, [(13, 1)])) P h := k5
  simp only [q10, q13, q14, q19] at k5
  have k6 := zj_use x_RO (zq_okX_t (zq_okX_t (zq_okX_t (zq_okX_t (zq_okX_t (hK))))))
  have k6 : zl_RO (zq_ev r (0, [(2, 1)])) (zq_ev r (0, [(3, 1)])) (zq_ev r (0, [(12, 1)])) (zq_ev r (0, [(0, 1)])) (zq_ev r (0, [(6, 1)])) (zq_ev r (0, [(14, 1)])) P h := k6
  simp only [q15, q16, q18, q3, q7, q8] at k6
  have k7 := zj_use x_DG (zq_okX_t (zq_okX_t (zq_okX_t (zq_okX_t (zq_okX_t (zq_okX_t (hK)))))))
  have k7 : zn_DG (zq_ev r (0, [(5, 1)])) (zq_ev r (0, [(7, 1)])) (zq_ev r (0, [(15, 1)])) P h := k7
  simp only [q13, q20, q9] at k7
  have k8 := zj_use x_DG (zq_okX_t (zq_okX_t (zq_okX_t (zq_okX_t (zq_okX_t (zq_okX_t (zq_okX_t (hK))))))))
  have k8 : zn_DG (zq_ev r (0, [(5, 1)])) (zq_ev r (0, [(10, 1)])) (zq_ev r (0, [(16, 1)])) P h := k8
  simp only [q13, q2, q21] at k8
  have k9 := zj_use x_MV (zq_okX_t (zq_okX_t (zq_okX_t (zq_okX_t (zq_okX_t (zq_okX_t (zq_okX_t (zq_okX_t (hK)))))))))
  have k9 : zk_MV (zq_ev r (0, [(5, 1)])) (zq_ev r (0, [(7, 1)])) (zq_ev r (0, [(10, 1)])) (zq_ev r (0, [(14, 1)])) (zq_ev r (0, [(17, 1)])) P h := k9
  simp only [q13, q2, q22, q3, q9] at k9
  obtain t1 := zo_dg_l (P := P) (h := h) (S := r 0) (m := r 1) (T := r 2) (f := r 3) (u := r 4) (M := r 5) (d := r 6) (w := r 7) (p := r 8) (W := r 9) (a := r 10) (y := r 11) (X := r 12) (z := r 13) (o := r 14) (i := r 15) (j := r 16) (N := r 17) a1 a2 a3 a4 a5 a6 k1 k2 k3 k4 k5 k6 k7 k8 k9
  obtain ⟨rq, hr⟩ : ∃ rq : Nat → Int, (∀ i, i < 18 → rq i = r i) := ⟨r, fun i hi => rfl⟩
  have v0 : rq 0 = r 0 := hr 0 (by decide)
  have v1 : rq 1 = r 1 := hr 1 (by decide)
  have v2 : rq 2 = r 2 := hr 2 (by decide)
  have v3 : rq 3 = r 3 := hr 3 (by decide)
  have v4 : rq 4 = r 4 := hr 4 (by decide)
  have v5 : rq 5 = r 5 := hr 5 (by decide)
  have v6 : rq 6 = r 6 := hr 6 (by decide)
  have v7 : rq 7 = r 7 := hr 7 (by decide)
  have v8 : rq 8 = r 8 := hr 8 (by decide)
  have v10 : rq 10 = r 10 := hr 10 (by decide)
  have v17 : rq 17 = r 17 := hr 17 (by decide)
  have g0 : zq_ev rq (0, [(0, 1)]) = r 0 := zu_f1 v0
  have g1 : zq_ev rq (0, [(1, 1)]) = r 1 := zu_f1 v1
  have g2 : zq_ev rq (0, [(2, 1)]) = r 2 := zu_f1 v2
  have g3 : zq_ev rq (0, [(3, 1)]) = r 3 := zu_f1 v3
  have g4 : zq_ev rq (0, [(4, 1)]) = r 4 := zu_f1 v4
  have g5 : zq_ev rq (0, [(5, 1)]) = r 5 := zu_f1 v5
  have g6 : zq_ev rq (0, [(6, 1)]) = r 6 := zu_f1 v6
  have g7 : zq_ev rq (0, [(7, 1)]) = r 7 := zu_f1 v7
  have g8 : zq_ev rq (0, [(8, 1)]) = r 8 := zu_f1 v8
  have g9 : zq_ev rq (0, [(10, 1)]) = r 10 := zu_f1 v10
  have g10 : zq_ev rq (0, [(17, 1)]) = r 17 := zu_f1 v17
  exact ⟨_, List.mem_cons_self .., rq, hr, zq_MeS_mk rfl hT (zq_all_nil) zq_fan (zq_fan) rfl (zu_fac ((x_DO _ _ _).mpr (by show zk_DO (zq_ev rq (0, [(0, 1)])) (zq_ev rq (0, [(1, 1)])) (zq_ev rq (0, [(2, 1)])) (zq_ev rq (0, [(3, 1)])) (zq_ev rq (0, [(4, 1)])) (zq_ev rq (0, [(5, 1)])) (zq_ev rq (0, [(6, 1)])) (zq_ev rq (0, [(7, 1)])) (zq_ev rq (0, [(8, 1)])) (zq_ev rq (0, [(10, 1)])) (zq_ev rq (0, [(17, 1)])) P h; simp only [g0, g1, g10, g2, g3, g4, g5, g6, g7, g8, g9]; exact t1)) zq_fan)⟩
noncomputable def zo_kn : zq_S × List zq_S := (([], [], [(0, [(11, 1)]), (3, [(11, -1)]), (0, [(9, 1)]), (-1, [(2, 1), (9, -1)]), (0, [(10, 1)]), (-1, [(1, 1), (10, -1)])], [], [], [], [(318, [(0, [(0, 1)]), (0, [(1, 1)]), (0, [(3, 1)]), (0, [(4, 1)]), (0, [(5, 1)]), (0, [(6, 1)]), (0, [(9, 1)]), (0, [(10, 1)]), (0, [(11, 1)]), (-1, []), (0, [(12, 1)])])], 13), [([], [], [], [], [], [], [(304, [(0, [(0, 1)]), (0, [(1, 1)]), (0, [(2, 1)]), (0, [(3, 1)]), (0, [(4, 1)]), (0, [(5, 1)]), (0, [(6, 1)]), (0, [(7, 1)]), (0, [(8, 1)]), (0, [(9, 1)]), (0, [(10, 1)]), (0, [(11, 1)]), (-3, []), (0, [(6, 1)]), (0, [(7, 1)]), (0, [(8, 1)])])], 13)])
theorem zo_kn_l {P : zq_Ty} {h : zq_H} {S m e T f u M n Z d w p G : Int} (a1 : 0 ≤ p) (a2 : 0 ≤ -p + 3) (a3 : 0 ≤ d) (a4 : 0 ≤ e - d - 1) (a5 : 0 ≤ w) (a6 : 0 ≤ m - w - 1) (k1 : zk_DO S m T f u M d w p (-1) G P h) : (zk_CM S m e T f u M n Z d w p (-3) M n Z P h) := by
  obtain ⟨W, a, k1, k2, q⟩ := k1
  refine Or.inr ⟨by omega, by omega, Or.inr ⟨by omega, by omega, by omega, by omega, W, a, k1, k2, ?_⟩⟩
  rcases q with ⟨q1, q2, q3⟩ | ⟨q1, q2, q3, q4, q5⟩ | ⟨q1, q2, q3, o, qo, ⟨q4, q5, q6⟩ | ⟨q4, q5, q6, q7, q8, q9⟩⟩
  · exact Or.inl ⟨q1, rfl, rfl, rfl, rfl⟩
  · exfalso; omega
  · exact Or.inr (Or.inr ⟨q1, q2, q3, o, qo, Or.inl ⟨q4, rfl, rfl, rfl, rfl⟩⟩)
  · exfalso; omega
theorem zo_kn_ok {w : zq_Wd} (x_DO : zj_is w 318 (fun q => zk_DO (q 0) (q 1) (q 2) (q 3) (q 4) (q 5) (q 6) (q 7) (q 8) (q 9) (q 10))) (x_CM : zj_is w 304 (fun q => zk_CM (q 0) (q 1) (q 2) (q 3) (q 4) (q 5) (q 6) (q 7) (q 8) (q 9) (q 10) (q 11) (q 12) (q 13) (q 14) (q 15))) : zq_okG1 w zo_kn := by
  refine ⟨rfl, rfl, zu_fac ⟨rfl, by decide⟩ zq_fan, ?_⟩
  intro r P h H hM
  have q0 : zq_ev r (0, [(11, 1)]) = r 11 := zu_e1 _ _
  have q1 : zq_ev r (3, [(11, -1)]) = -r 11 + 3 := zu_e5 _ _ _
  have q2 : zq_ev r (0, [(9, 1)]) = r 9 := zu_e1 _ _
  have q3 : zq_ev r (-1, [(2, 1), (9, -1)]) = r 2 - r 9 - 1 := by simp only [zq_ev, zq_ts] <;> omega
  have q4 : zq_ev r (0, [(10, 1)]) = r 10 := zu_e1 _ _
  have q5 : zq_ev r (-1, [(1, 1), (10, -1)]) = r 1 - r 10 - 1 := by simp only [zq_ev, zq_ts] <;> omega
  have q6 : zq_ev r (0, [(0, 1)]) = r 0 := zu_e1 _ _
  have q7 : zq_ev r (0, [(1, 1)]) = r 1 := zu_e1 _ _
  have q8 : zq_ev r (0, [(3, 1)]) = r 3 := zu_e1 _ _
  have q9 : zq_ev r (0, [(4, 1)]) = r 4 := zu_e1 _ _
  have q10 : zq_ev r (0, [(5, 1)]) = r 5 := zu_e1 _ _
  have q11 : zq_ev r (0, [(6, 1)]) = r 6 := zu_e1 _ _
  have q12 : zq_ev r (-1, []) = -1 := zu_e0 _ _
  have q13 : zq_ev r (0, [(12, 1)]) = r 12 := zu_e1 _ _
  obtain ⟨hT, hC, hF, hS, -, hK⟩ := hM
  have c := hC.1
  have a1 := zq_all_1 c
  rw [q0] at a1
  have c := zq_all_t c
  have a2 := zq_all_1 c
  rw [q1] at a2
  have c := zq_all_t c
  have a3 := zq_all_1 c
  rw [q2] at a3
  have c := zq_all_t c
  have a4 := zq_all_1 c
  rw [q3] at a4
  have c := zq_all_t c
  have a5 := zq_all_1 c
  rw [q4] at a5
  have c := zq_all_t c
  have a6 := zq_all_1 c
  rw [q5] at a6
  have k1 := zj_use x_DO (hK)
  have k1 : zk_DO (zq_ev r (0, [(0, 1)])) (zq_ev r (0, [(1, 1)])) (zq_ev r (0, [(3, 1)])) (zq_ev r (0, [(4, 1)])) (zq_ev r (0, [(5, 1)])) (zq_ev r (0, [(6, 1)])) (zq_ev r (0, [(9, 1)])) (zq_ev r (0, [(10, 1)])) (zq_ev r (0, [(11, 1)])) (zq_ev r (-1, [])) (zq_ev r (0, [(12, 1)])) P h := k1
  simp only [q0, q10, q11, q12, q13, q2, q4, q6, q7, q8, q9] at k1
  obtain t1 := zo_kn_l (P := P) (h := h) (S := r 0) (m := r 1) (e := r 2) (T := r 3) (f := r 4) (u := r 5) (M := r 6) (n := r 7) (Z := r 8) (d := r 9) (w := r 10) (p := r 11) (G := r 12) a1 a2 a3 a4 a5 a6 k1
  obtain ⟨rq, hr⟩ : ∃ rq : Nat → Int, (∀ i, i < 13 → rq i = r i) := ⟨r, fun i hi => rfl⟩
  have v0 : rq 0 = r 0 := hr 0 (by decide)
  have v1 : rq 1 = r 1 := hr 1 (by decide)
  have v2 : rq 2 = r 2 := hr 2 (by decide)
  have v3 : rq 3 = r 3 := hr 3 (by decide)
  have v4 : rq 4 = r 4 := hr 4 (by decide)
  have v5 : rq 5 = r 5 := hr 5 (by decide)
  have v6 : rq 6 = r 6 := hr 6 (by decide)
  have v7 : rq 7 = r 7 := hr 7 (by decide)
  have v8 : rq 8 = r 8 := hr 8 (by decide)
  have v9 : rq 9 = r 9 := hr 9 (by decide)
  have v10 : rq 10 = r 10 := hr 10 (by decide)
  have v11 : rq 11 = r 11 := hr 11 (by decide)
  have g0 : zq_ev rq (0, [(0, 1)]) = r 0 := zu_f1 v0
  have g1 : zq_ev rq (0, [(1, 1)]) = r 1 := zu_f1 v1
  have g2 : zq_ev rq (0, [(2, 1)]) = r 2 := zu_f1 v2
  have g3 : zq_ev rq (0, [(3, 1)]) = r 3 := zu_f1 v3
  have g4 : zq_ev rq (0, [(4, 1)]) = r 4 := zu_f1 v4
  have g5 : zq_ev rq (0, [(5, 1)]) = r 5 := zu_f1 v5
  have g6 : zq_ev rq (0, [(6, 1)]) = r 6 := zu_f1 v6
  have g7 : zq_ev rq (0, [(7, 1)]) = r 7 := zu_f1 v7
  have g8 : zq_ev rq (0, [(8, 1)]) = r 8 := zu_f1 v8
  have g9 : zq_ev rq (0, [(9, 1)]) = r 9 := zu_f1 v9
  have g10 : zq_ev rq (0, [(10, 1)]) = r 10 := zu_f1 v10
  have g11 : zq_ev rq (0, [(11, 1)]) = r 11 := zu_f1 v11
  have g12 : zq_ev rq (-3, []) = -3 := zu_e0 _ _
  exact ⟨_, List.mem_cons_self .., rq, hr, zq_MeS_mk rfl hT (zq_all_nil) zq_fan (zq_fan) rfl (zu_fac ((x_CM _ _ _).mpr (by show zk_CM (zq_ev rq (0, [(0, 1)])) (zq_ev rq (0, [(1, 1)])) (zq_ev rq (0, [(2, 1)])) (zq_ev rq (0, [(3, 1)])) (zq_ev rq (0, [(4, 1)])) (zq_ev rq (0, [(5, 1)])) (zq_ev rq (0, [(6, 1)])) (zq_ev rq (0, [(7, 1)])) (zq_ev rq (0, [(8, 1)])) (zq_ev rq (0, [(9, 1)])) (zq_ev rq (0, [(10, 1)])) (zq_ev rq (0, [(11, 1)])) (zq_ev rq (-3, [])) (zq_ev rq (0, [(6, 1)])) (zq_ev rq (0, [(7, 1)])) (zq_ev rq (0, [(8, 1)])) P h; simp only [g0, g1, g10, g11, g12, g2, g3, g4, g5, g6, g7, g8, g9]; exact t1)) zq_fan)⟩
noncomputable def zo_k6 : zq_S × List zq_S := (([], [], [(0, [(11, 1)]), (3, [(11, -1)]), (0, [(9, 1)]), (-1, [(2, 1), (9, -1)]), (0, [(10, 1)]), (-1, [(1, 1), (10, -1)]), (-6, [(13, 1)]), (6, [(13, -1)])], [], [], [], [(318, [(0, [(0, 1)]), (0, [(1, 1)]), (0, [(3, 1)]), (0, [(4, 1)]), (0, [(5, 1)]), (0, [(6, 1)]), (0, [(9, 1)]), (0, [(10, 1)]), (0, [(11, 1)]), (0, [(13, 1)]), (0, [(12, 1)])]), (290, [(0, [(6, 1)]), (0, [(10, 1)]), (0, [(14, 1)]), (0, [(15, 1)])]), (134, [(0, [(12, 1)]), (0, [(10, 1)]), (0, [(14, 1)])]), (314, [(0, [(12, 1)])]), (291, [(0, [(8, 1)]), (0, [(7, 1)]), (0, [(6, 1)]), (0, []), (0, [(16, 1)]), (0, [(17, 1)])])], 18), [([], [], [], [], [], [], [(304, [(0, [(0, 1)]), (0, [(1, 1)]), (0, [(2, 1)]), (0, [(3, 1)]), (0, [(4, 1)]), (0, [(5, 1)]), (0, [(6, 1)]), (0, [(7, 1)]), (0, [(8, 1)]), (0, [(9, 1)]), (0, [(10, 1)]), (0, [(11, 1)]), (0, [(13, 1)]), (0, [(15, 1)]), (0, [(16, 1)]), (0, [(17, 1)])])], 18)])
theorem zo_k6_l {P : zq_Ty} {h : zq_H} {S m e T f u M n Z d w p G r x N q_ Y : Int} (a1 : 0 ≤ p) (a2 : 0 ≤ -p + 3) (a3 : 0 ≤ d) (a4 : 0 ≤ e - d - 1) (a5 : 0 ≤ w) (a6 : 0 ≤ m - w - 1) (a7 : 0 ≤ r - 6) (a8 : 0 ≤ -r + 6) (k1 : zk_DO S m T f u M d w p r G P h) (k2 : zm_UM M w x N P h) (k3 : zn_DG G w x P h) (k4 : zm_CN G P h) (k5 : zm_PZ Z n M 0 q_ Y P h) : (zk_CM S m e T f u M n Z d w p r N q_ Y P h) := by
  have h2 : N = zm_st M w x := k2
  have h4 : x = zn_dg G w := k3
  have h6 : G = zm_pk (zn_dg G) 11 := k4
  have h7 := k5
  
  obtain ⟨W, a, k1, k2, q⟩ := k1
  refine Or.inr ⟨by omega, by omega, Or.inr ⟨by omega, by omega, by omega, by omega, W, a, k1, k2, ?_⟩⟩
  rcases q with ⟨q1, q2, q3⟩ | ⟨q1, q2, q3, q4, q5⟩ | ⟨q1, q2, q3, o, qo, ⟨q4, q5, q6⟩ | ⟨q4, q5, q6, q7, q8, q9⟩⟩
  · exfalso; omega
  · refine Or.inr (Or.inl ⟨q1, q2, q3, q4, ?_, h7.1, h7.2⟩)
    rw [h2, ← q5]
    exact zm_st_one h4 h6 (fun j _ _ _ => rfl)
  · exfalso; omega
  · exfalso; omega
theorem zo_k6_ok {w : zq_Wd} (x_DO : zj_is w 318 (fun q => zk_DO (q 0) (q 1) (q 2) (q 3) (q 4) (q 5) (q 6) (q 7) (q 8) (q 9) (q 10))) (x_UM : zj_is w 290 (fun q => zm_UM (q 0) (q 1) (q 2) (q 3))) (x_DG : zj_is w 134 (fun q => zn_DG (q 0) (q 1) (q 2))) (x_CN : zj_is w 314 (fun q => zm_CN (q 0))) (x_PZ : zj_is w 291 (fun q => zm_PZ (q 0) (q 1) (q 2) (q 3) (q 4) (q 5))) (x_CM : zj_is w 304 (fun q => zk_CM (q 0) (q 1) (q 2) (q 3) (q 4) (q 5) (q 6) (q 7) (q 8) (q 9) (q 10) (q 11) (q 12) (q 13) (q 14) (q 15))) : zq_okG1 w zo_k6 := by
  refine ⟨rfl, rfl, zu_fac ⟨rfl, by decide⟩ zq_fan, ?_⟩
  intro r P h H hM
  have q0 : zq_ev r (0, [(11, 1)]) = r 11 := zu_e1 _ _
  have q1 : zq_ev r (3, [(11, -1)]) = -r 11 + 3 := zu_e5 _ _ _
  have q2 : zq_ev r (0, [(9, 1)]) = r 9 := zu_e1 _ _
  have q3 : zq_ev r (-1, [(2, 1), (9, -1)]) = r 2 - r 9 - 1 := by simp only [zq_ev, zq_ts] <;> omega
  have q4 : zq_ev r (0, [(10, 1)]) = r 10 := zu_e1 _ _
  have q5 : zq_ev r (-1, [(1, 1), (10, -1)]) = r 1 - r 10 - 1 := by simp only [zq_ev, zq_ts] <;> omega
  have q6 : zq_ev r (-6, [(13, 1)]) = r 13 - 6 := zu_e3 _ _ _
  have q7 : zq_ev r (6, [(13, -1)]) = -r 13 + 6 := zu_e5 _ _ _
  have q8 : zq_ev r (0, [(0, 1)]) = r 0 := zu_e1 _ _
  have q9 : zq_ev r (0, [(1, 1)]) = r 1 := zu_e1 _ _
  have q10 : zq_ev r (0, [(3, 1)]) = r 3 := zu_e1 _ _
  have q11 : zq_ev r (0, [(4, 1)]) = r 4 := zu_e1 _ _
  have q12 : zq_ev r (0, [(5, 1)]) = r 5 := zu_e1 _ _
  have q13 : zq_ev r (0, [(6, 1)]) = r 6 := zu_e1 _ _
  have q14 : zq_ev r (0, [(13, 1)]) = r 13 := zu_e1 _ _
  have q15 : zq_ev r (0, [(12, 1)]) = r 12 := zu_e1 _ _
  have q16 : zq_ev r (0, [(14, 1)]) = r 14 := zu_e1 _ _
  have q17 : zq_ev r (0, [(15, 1)]) = r 15 := zu_e1 _ _
  have q18 : zq_ev r (0, [(8, 1)]) = r 8 := zu_e1 _ _
  have q19 : zq_ev r (0, [(7, 1)]) = r 7 := zu_e1 _ _
  have q20 : zq_ev r (0, []) = 0 := zu_e0 _ _
  have q21 : zq_ev r (0, [(16, 1)]) = r 16 := zu_e1 _ _
  have q22 : zq_ev r (0, [(17, 1)]) = r 17 := zu_e1 _ _
  obtain ⟨hT, hC, hF, hS, -, hK⟩ := hM
  have c := hC.1
  have a1 := zq_all_1 c
  rw [q0] at a1
  have c := zq_all_t c
  have a2 := zq_all_1 c
  rw [q1] at a2
  have c := zq_all_t c
  have a3 := zq_all_1 c
  rw [q2] at a3
  have c := zq_all_t c
  have a4 := zq_all_1 c
  rw [q3] at a4
  have c := zq_all_t c
  have a5 := zq_all_1 c
  rw [q4] at a5
  have c := zq_all_t c
  have a6 := zq_all_1 c
  rw [q5] at a6
  have c := zq_all_t c
  have a7 := zq_all_1 c
  rw [q6] at a7
  have c := zq_all_t c
  have a8 := zq_all_1 c
  rw [q7] at a8
  have k1 := zj_use x_DO (hK)
  have k1 : zk_DO (zq_ev r (0, [(0, 1)])) (zq_ev r (0, [(1, 1)])) (zq_ev r (0, [(3, 1)])) (zq_ev r (0, [(4, 1)])) (zq_ev r (0, [(5, 1)])) (zq_ev r (0, [(6, 1)])) (zq_ev r (0, [(9, 1)])) (zq_ev r (0, [(10, 1)])) (zq_ev r (0, [(11, 1)])) (zq_ev r (0, [(13, 1)])) (zq_ev r (0, [(12, 1)])) P h := k1
  simp only [q0, q10, q11, q12, q13, q14, q15, q2, q4, q8, q9] at k1
  have k2 := zj_use x_UM (zq_okX_t (hK))
  have k2 : zm_UM (zq_ev r (0, [(6, 1)])) (zq_ev r (0, [(10, 1)])) (zq_ev r (0, [(14, 1)])) (zq_ev r (0, [(15, 1)])) P h := k2
  simp only [q13, q16, q17, q4] at k2
  have k3 := zj_use x_DG (zq_okX_t (zq_okX_t (hK)))
  have k3 : zn_DG (zq_ev r (0, [(12, 1)])) (zq_ev r (0, [(10, 1)])) (zq_ev r (0, [(14, 1)])) P h := k3
  simp only [q15, q16, q4] at k3
  have k4 := zj_use x_CN (zq_okX_t (zq_okX_t (zq_okX_t (hK))))
  have k4 : zm_CN (zq_ev r (0, [(12, 1)])) P h := k4
  simp only [q15] at k4
  have k5 := zj_use x_PZ (zq_okX_t (zq_okX_t (zq_okX_t (zq_okX_t (hK)))))
  have k5 : zm_PZ (zq_ev r (0, [(8, 1)])) (zq_ev r (0, [(7, 1)])) (zq_ev r (0, [(6, 1)])) (zq_ev r (0, [])) (zq_ev r (0, [(16, 1)])) (zq_ev r (0, [(17, 1)])) P h := k5
  simp only [q13, q18, q19, q20, q21, q22] at k5
  obtain t1 := zo_k6_l (P := P) (h := h) (S := r 0) (m := r 1) (e := r 2) (T := r 3) (f := r 4) (u := r 5) (M := r 6) (n := r 7) (Z := r 8) (d := r 9) (w := r 10) (p := r 11) (G := r 12) (r := r 13) (x := r 14) (N := r 15) (q_ := r 16) (Y := r 17) a1 a2 a3 a4 a5 a6 a7 a8 k1 k2 k3 k4 k5
  obtain ⟨rq, hr⟩ : ∃ rq : Nat → Int, (∀ i, i < 18 → rq i = r i) := ⟨r, fun i hi => rfl⟩
  have v0 : rq 0 = r 0 := hr 0 (by decide)
  have v1 : rq 1 = r 1 := hr 1 (by decide)
  have v2 : rq 2 = r 2 := hr 2 (by decide)
  have v3 : rq 3 = r 3 := hr 3 (by decide)
  have v4 : rq 4 = r 4 := hr 4 (by decide)
  have v5 : rq 5 = r 5 := hr 5 (by decide)
  have v6 : rq 6 = r 6 := hr 6 (by decide)
  have v7 : rq 7 = r 7 := hr 7 (by decide)
  have v8 : rq 8 = r 8 := hr 8 (by decide)
  have v9 : rq 9 = r 9 := hr 9 (by decide)
  have v10 : rq 10 = r 10 := hr 10 (by decide)
  have v11 : rq 11 = r 11 := hr 11 (by decide)
  have v13 : rq 13 = r 13 := hr 13 (by decide)
  have v15 : rq 15 = r 15 := hr 15 (by decide)
  have v16 : rq 16 = r 16 := hr 16 (by decide)
  have v17 : rq 17 = r 17 := hr 17 (by decide)
  have g0 : zq_ev rq (0, [(0, 1)]) = r 0 := zu_f1 v0
  have g1 : zq_ev rq (0, [(1, 1)]) = r 1 := zu_f1 v1
  have g2 : zq_ev rq (0, [(2, 1)]) = r 2 := zu_f1 v2
  have g3 : zq_ev rq (0, [(3, 1)]) = r 3 := zu_f1 v3
  have g4 : zq_ev rq (0, [(4, 1)]) = r 4 := zu_f1 v4
  have g5 : zq_ev rq (0, [(5, 1)]) = r 5 := zu_f1 v5
  have g6 : zq_ev rq (0, [(6, 1)]) = r 6 := zu_f1 v6
  have g7 : zq_ev rq (0, [(7, 1)]) = r 7 := zu_f1 v7
  have g8 : zq_ev rq (0, [(8, 1)]) = r 8 := zu_f1 v8
  have g9 : zq_ev rq (0, [(9, 1)]) = r 9 := zu_f1 v9
  have g10 : zq_ev rq (0, [(10, 1)]) = r 10 := zu_f1 v10
  have g11 : zq_ev rq (0, [(11, 1)]) = r 11 := zu_f1 v11
  have g12 : zq_ev rq (0, [(13, 1)]) = r 13 := zu_f1 v13
  have g13 : zq_ev rq (0, [(15, 1)]) = r 15 := zu_f1 v15
  have g14 : zq_ev rq (0, [(16, 1)]) = r 16 := zu_f1 v16
  have g15 : zq_ev rq (0, [(17, 1)]) = r 17 := zu_f1 v17
  exact ⟨_, List.mem_cons_self .., rq, hr, zq_MeS_mk rfl hT (zq_all_nil) zq_fan (zq_fan) rfl (zu_fac ((x_CM _ _ _).mpr (by show zk_CM (zq_ev rq (0, [(0, 1)])) (zq_ev rq (0, [(1, 1)])) (zq_ev rq (0, [(2, 1)])) (zq_ev rq (0, [(3, 1)])) (zq_ev rq (0, [(4, 1)])) (zq_ev rq (0, [(5, 1)])) (zq_ev rq (0, [(6, 1)])) (zq_ev rq (0, [(7, 1)])) (zq_ev rq (0, [(8, 1)])) (zq_ev rq (0, [(9, 1)])) (zq_ev rq (0, [(10, 1)])) (zq_ev rq (0, [(11, 1)])) (zq_ev rq (0, [(13, 1)])) (zq_ev rq (0, [(15, 1)])) (zq_ev rq (0, [(16, 1)])) (zq_ev rq (0, [(17, 1)])) P h; simp only [g0, g1, g10, g11, g12, g13, g14, g15, g2, g3, g4, g5, g6, g7, g8, g9]; exact t1)) zq_fan)⟩
noncomputable def zo_ka : zq_S × List zq_S := (([], [], [(0, [(11, 1)]), (3, [(11, -1)]), (0, [(9, 1)]), (-1, [(2, 1), (9, -1)]), (0, [(10, 1)]), (-1, [(1, 1), (10, -1)]), (0, [(13, 1)]), (5, [(13, -1)])], [], [], [], [(318, [(0, [(0, 1)]), (0, [(1, 1)]), (0, [(3, 1)]), (0, [(4, 1)]), (0, [(5, 1)]), (0, [(6, 1)]), (0, [(9, 1)]), (0, [(10, 1)]), (0, [(11, 1)]), (0, [(13, 1)]), (0, [(12, 1)])]), (290, [(0, [(6, 1)]), (0, [(10, 1)]), (0, [(14, 1)]), (0, [(16, 1)])]), (290, [(0, [(16, 1)]), (0, [(13, 1)]), (0, [(15, 1)]), (0, [(17, 1)])]), (134, [(0, [(12, 1)]), (0, [(10, 1)]), (0, [(14, 1)])]), (134, [(0, [(12, 1)]), (0, [(13, 1)]), (0, [(15, 1)])]), (314, [(0, [(12, 1)])]), (291, [(0, [(8, 1)]), (0, [(7, 1)]), (0, [(6, 1)]), (0, []), (0, [(18, 1)]), (0, [(19, 1)])])], 20), [([], [], [], [], [], [], [(304, [(0, [(0, 1)]), (0, [(1, 1)]), (0, [(2, 1)]), (0, [(3, 1)]), (0, [(4, 1)]), (0, [(5, 1)]), (0, [(6, 1)]), (0, [(7, 1)]), (0, [(8, 1)]), (0, [(9, 1)]), (0, [(10, 1)]), (0, [(11, 1)]), (0, [(13, 1)]), (0, [(17, 1)]), (0, [(18, 1)]), (0, [(19, 1)])])], 20)])
theorem zo_ka_l {P : zq_Ty} {h : zq_H} {S m e T f u M n Z d w p G r x y L N q_ Y : Int} (a1 : 0 ≤ p) (a2 : 0 ≤ -p + 3) (a3 : 0 ≤ d) (a4 : 0 ≤ e - d - 1) (a5 : 0 ≤ w) (a6 : 0 ≤ m - w - 1) (a7 : 0 ≤ r) (a8 : 0 ≤ -r + 5) (k1 : zk_DO S m T f u M d w p r G P h) (k2 : zm_UM M w x L P h) (k3 : zm_UM L r y N P h) (k4 : zn_DG G w x P h) (k5 : zn_DG G r y P h) (k6 : zm_CN G P h) (k7 : zm_PZ Z n M 0 q_ Y P h) : (zk_CM S m e T f u M n Z d w p r N q_ Y P h) := by
  have h2 : L = zm_st M w x := k2
  have h3 : N = zm_st L r y := k3
  have h4 : x = zn_dg G w := k4
  have h5 : y = zn_dg G r := k5
  have h6 : G = zm_pk (zn_dg G) 11 := k6
  have h7 := k7
  
  obtain ⟨W, a, k1, k2, q⟩ := k1
  refine Or.inr ⟨by omega, by omega, Or.inr ⟨by omega, by omega, by omega, by omega, W, a, k1, k2, ?_⟩⟩
  rcases q with ⟨q1, q2, q3⟩ | ⟨q1, q2, q3, q4, q5⟩ | ⟨q1, q2, q3, o, qo, ⟨q4, q5, q6⟩ | ⟨q4, q5, q6, q7, q8, q9⟩⟩
  · exfalso; omega
  · refine Or.inr (Or.inl ⟨q1, q2, q3, q4, ?_, h7.1, h7.2⟩)
    rw [h3, ← q5]
    exact zm_st_two (M := M) h2 h4 h5 h6 (fun j _ _ _ _ => by rw [q5])
  · exfalso; omega
  · refine Or.inr (Or.inr ⟨q1, q2, q3, o, qo, Or.inr ⟨q4, q5, q6, q7, q8, ?_, h7.1, h7.2⟩⟩)
    rw [h3, ← q9]
    refine zm_st_two (M := M) h2 h4 h5 h6 (fun j u1 u2 u3 u4 => ?_)
    rw [q9]
    unfold zk_mv
    rw [zm_pk_dg 11 j (fun i v1 v2 => ?_) u1 (by omega), if_neg u3, if_neg (by omega)]
    · omega
    · have r1 := zn_dg_in M i
      unfold zn_in at r1 ⊢
      by_cases e1 : i = w <;> by_cases e2 : i = a
      · rw [if_pos e1, if_pos e2]; omega
      · rw [if_pos e1, if_neg e2, e1]; rw [e1] at r1; omega
      · rw [if_neg e1, if_pos e2, e2]; rw [e2] at r1; omega
      · rw [if_neg e1, if_neg e2]; omega
theorem zo_ka_ok {w : zq_Wd} (x_DO : zj_is w 318 (fun q => zk_DO (q 0) (q 1) (q 2) (q 3) (q 4) (q 5) (q 6) (q 7) (q 8) (q 9) (q 10))) (x_UM : zj_is w 290 (fun q => zm_UM (q 0) (q 1) (q 2) (q 3))) (x_DG : zj_is w 134 (fun q => zn_DG (q 0) (q 1) (q 2))) (x_CN : zj_is w 314 (fun q => zm_CN (q 0))) (x_PZ : zj_is w 291 (fun q => zm_PZ (q 0) (q 1) (q 2) (q 3) (q 4) (q 5))) (x_CM : zj_is w 304 (fun q => zk_CM (q 0) (q 1) (q 2) (q 3) (q 4) (q 5) (q 6) (q 7) (q 8) (q 9) (q 10) (q 11) (q 12) (q 13) (q 14) (q 15))) : zq_okG1 w zo_ka := by
  refine ⟨rfl, rfl, zu_fac ⟨rfl, by decide⟩ zq_fan, ?_⟩
  intro r P h H hM
  have q0 : zq_ev r (0, [(11, 1)]) = r 11 := zu_e1 _ _
  have q1 : zq_ev r (3, [(11, -1)]) = -r 11 + 3 := zu_e5 _ _ _
  have q2 : zq_ev r (0, [(9, 1)]) = r 9 := zu_e1 _ _
  have q3 : zq_ev r (-1, [(2, 1), (9, -1)]) = r 2 - r 9 - 1 := by simp only [zq_ev, zq_ts] <;> omega
  have q4 : zq_ev r (0, [(10, 1)]) = r 10 := zu_e1 _ _
  have q5 : zq_ev r (-1, [(1, 1), (10, -1)]) = r 1 - r 10 - 1 := by simp only [zq_ev, zq_ts] <;> omega
  have q6 : zq_ev r (0, [(13, 1)]) = r 13 := zu_e1 _ _
  have q7 : zq_ev r (5, [(13, -1)]) = -r 13 + 5 := zu_e5 _ _ _
  have q8 : zq_ev r (0, [(0, 1)]) = r 0 := zu_e1 _ _
  have q9 : zq_ev r (0, [(1, 1)]) = r 1 := zu_e1 _ _
  have q10 : zq_ev r (0, [(3, 1)]) = r 3 := zu_e1 _ _
  have q11 : zq_ev r (0, [(4, 1)]) = r 4 := zu_e1 _ _
  have q12 : zq_ev r (0, [(5, 1)]) = r 5 := zu_e1 _ _
  have q13 : zq_ev r (0, [(6, 1)]) = r 6 := zu_e1 _ _
  have q14 : zq_ev r (0, [(12, 1)]) = r 12 := zu_e1 _ _
  have q15 : zq_ev r (0, [(14, 1)]) = r 14 := zu_e1 _ _
  have q16 : zq_ev r (0, [(16, 1)]) = r 16 := zu_e1 _ _
  have q17 : zq_ev r (0, [(15, 1)]) = r 15 := zu_e1 _ _
  have q18 : zq_ev r (0, [(17, 1)]) = r 17 := zu_e1 _ _
  have q19 : zq_ev r (0, [(8, 1)]) = r 8 := zu_e1 _ _
  have q20 : zq_ev r (0, [(7, 1)]) = r 7 := zu_e1 _ _
  have q21 : zq_ev r (0, []) = 0 := zu_e0 _ _
  have q22 : zq_ev r (0, [(18, 1)]) = r 18 := zu_e1 _ _
  have q23 : zq_ev r (0, [(19, 1)]) = r 19 := zu_e1 _ _
  obtain ⟨hT, hC, hF, hS, -, hK⟩ := hM
  have c := hC.1
  have a1 := zq_all_1 c
  rw [q0] at a1
  have c := zq_all_t c
  have a2 := zq_all_1 c
  rw [q1] at a2
  have c := zq_all_t c
  have a3 := zq_all_1 c
  rw [q2] at a3
  have c := zq_all_t c
  have a4 := zq_all_1 c
  rw [q3] at a4
  have c := zq_all_t c
  have a5 := zq_all_1 c
  rw [q4] at a5
  have c := zq_all_t c
  have a6 := zq_all_1 c
  rw [q5] at a6
  have c := zq_all_t c
  have a7 := zq_all_1 c
  rw [q6] at a7
  have c := zq_all_t c
  have a8 := zq_all_1 c
  rw [q7] at a8
  have k1 := zj_use x_DO (hK)
  have k1 : zk_DO (zq_ev r (0, [(0, 1)])) (zq_ev r (0, [(1, 1)])) (zq_ev r (0, [(3, 1)])) (zq_ev r (0, [(4, 1)])) (zq_ev r (0, [(5, 1)])) (zq_ev r (0, [(6, 1)])) (zq_ev r (0, [(9, 1)])) (zq_ev r (0, [(10, 1)])) (zq_ev r (0, [(11, 1)])) (zq_ev r (0, [(13, 1)])) (zq_ev r (0, [(12, 1)])) P h := k1
  simp only [q0, q10, q11, q12, q13, q14, q2, q4, q6, q8, q9] at k1
  have k2 := zj_use x_UM (zq_okX_t (hK))
  have k2 : zm_UM (zq_ev r (0, [(6, 1)])) (zq_ev r (0, [(10, 1)])) (zq_ev r (0, [(14, 1)])) (zq_ev r (0, [(16, 1)])) P h := k2
  simp only [q13, q15, q16, q4] at k2
  have k3 := zj_use x_UM (zq_okX_t (zq_okX_t (hK)))
  have k3 : zm_UM (zq_ev r (0, [(16, 1)])) (zq_ev r (0, [(13, 1)])) (zq_ev r (0, [(15, 1)])) (zq_ev r (0, [(17, 1)])) P h := k3
  simp only [q16, q17, q18, q6] at k3
  have k4 := zj_use x_DG (zq_okX_t (zq_okX_t (zq_okX_t (hK))))
  have k4 : zn_DG (zq_ev r (0, [(12, 1)])) (zq_ev r (0, [(10, 1)])) (zq_ev r (0, [(14, 1)])) P h := k4
  simp only [q14, q15, q4] at k4
  have k5 := zj_use x_DG (zq_okX_t (zq_okX_t (zq_okX_t (zq_okX_t (hK)))))
  have k5 : zn_DG (zq_ev r (0, [(12, 1)])) (zq_ev r (0, [(13, 1)])) (zq_ev r (0, [(15, 1)])) P h := k5
  simp only [q14, q17, q6] at k5
  have k6 := zj_use x_CN (zq_okX_t (zq_okX_t (zq_okX_t (zq_okX_t (zq_okX_t (hK))))))
  have k6 : zm_CN (zq_ev r (0, [(12, 1)])) P h := k6
  simp only [q14] at k6
  have k7 := zj_use x_PZ (zq_okX_t (zq_okX_t (zq_okX_t (zq_okX_t (zq_okX_t (zq_okX_t (hK)))))))
  have k7 : zm_PZ (zq_ev r (0, [(8, 1)])) (zq_ev r (0, [(7, 1)])) (zq_ev r (0, [(6, 1)])) (zq_ev r (0, [])) (zq_ev r (0, [(18, 1)])) (zq_ev r (0, [(19, 1)])) P h := k7
  simp only [q13, q19, q20, q21, q22, q23] at k7
  obtain t1 := zo_ka_l (P := P) (h := h) (S := r 0) (m := r 1) (e := r 2) (T := r 3) (f := r 4) (u := r 5) (M := r 6) (n := r 7) (Z := r 8) (d := r 9) (w := r 10) (p := r 11) (G := r 12) (r := r 13) (x := r 14) (y := r 15) (L := r 16) (N := r 17) (q_ := r 18) (Y := r 19) a1 a2 a3 a4 a5 a6 a7 a8 k1 k2 k3 k4 k5 k6 k7
  obtain ⟨rq, hr⟩ : ∃ rq : Nat → Int, (∀ i, i < 20 → rq i = r i) := ⟨r, fun i hi => rfl⟩
  have v0 : rq 0 = r 0 := hr 0 (by decide)
  have v1 : rq 1 = r 1 := hr 1 (by decide)
  have v2 : rq 2 = r 2 := hr 2 (by decide)
  have v3 : rq 3 = r 3 := hr 3 (by decide)
  have v4 : rq 4 = r 4 := hr 4 (by decide)
  have v5 : rq 5 = r 5 := hr 5 (by decide)
  have v6 : rq 6 = r 6 := hr 6 (by decide)
  have v7 : rq 7 = r 7 := hr 7 (by decide)
  have v8 : rq 8 = r 8 := hr 8 (by decide)
  have v9 : rq 9 = r 9 := hr 9 (by decide)
  have v10 : rq 10 = r 10 := hr 10 (by decide)
  have v11 : rq 11 = r 11 := hr 11 (by decide)
  have v13 : rq 13 = r 13 := hr 13 (by decide)
  have v17 : rq 17 = r 17 := hr 17 (by decide)
  have v18 : rq 18 = r 18 := hr 18 (by decide)
  have v19 : rq 19 = r 19 := hr 19 (by decide)
  have g0 : zq_ev rq (0, [(0, 1)]) = r 0 := zu_f1 v0
  have g1 : zq_ev rq (0, [(1, 1)]) = r 1 := zu_f1 v1
  have g2 : zq_ev rq (0, [(2, 1)]) = r 2 := zu_f1 v2
  have g3 : zq_ev rq (0, [(3, 1)]) = r 3 := zu_f1 v3
  have g4 : zq_ev rq (0, [(4, 1)]) = r 4 := zu_f1 v4
  have g5 : zq_ev rq (0, [(5, 1)]) = r 5 := zu_f1 v5
  have g6 : zq_ev rq (0, [(6, 1)]) = r 6 := zu_f1 v6
  have g7 : zq_ev rq (0, [(7, 1)]) = r 7 := zu_f1 v7
  have g8 : zq_ev rq (0, [(8, 1)]) = r 8 := zu_f1 v8
  have g9 : zq_ev rq (0, [(9, 1)]) = r 9 := zu_f1 v9
  have g10 : zq_ev rq (0, [(10, 1)]) = r 10 := zu_f1 v10
  have g11 : zq_ev rq (0, [(11, 1)]) = r 11 := zu_f1 v11
  have g12 : zq_ev rq (0, [(13, 1)]) = r 13 := zu_f1 v13
  have g13 : zq_ev rq (0, [(17, 1)]) = r 17 := zu_f1 v17
  have g14 : zq_ev rq (0, [(18, 1)]) = r 18 := zu_f1 v18
  have g15 : zq_ev rq (0, [(19, 1)]) = r 19 := zu_f1 v19
  exact ⟨_, List.mem_cons_self .., rq, hr, zq_MeS_mk rfl hT (zq_all_nil) zq_fan (zq_fan) rfl (zu_fac ((x_CM _ _ _).mpr (by show zk_CM (zq_ev rq (0, [(0, 1)])) (zq_ev rq (0, [(1, 1)])) (zq_ev rq (0, [(2, 1)])) (zq_ev rq (0, [(3, 1)])) (zq_ev rq (0, [(4, 1)])) (zq_ev rq (0, [(5, 1)])) (zq_ev rq (0, [(6, 1)])) (zq_ev rq (0, [(7, 1)])) (zq_ev rq (0, [(8, 1)])) (zq_ev rq (0, [(9, 1)])) (zq_ev rq (0, [(10, 1)])) (zq_ev rq (0, [(11, 1)])) (zq_ev rq (0, [(13, 1)])) (zq_ev rq (0, [(17, 1)])) (zq_ev rq (0, [(18, 1)])) (zq_ev rq (0, [(19, 1)])) P h; simp only [g0, g1, g10, g11, g12, g13, g14, g15, g2, g3, g4, g5, g6, g7, g8, g9]; exact t1)) zq_fan)⟩
noncomputable def zo_eW : zq_S × List zq_S := (([], [], [], [], [], [], [(301, [(0, [(0, 1)]), (0, [(1, 1)]), (0, [(2, 1)]), (0, [(3, 1)]), (0, [(4, 1)]), (0, [(5, 1)]), (0, [(6, 1)]), (0, [(7, 1)]), (0, [(8, 1)])]), (301, [(0, [(0, 1)]), (0, [(1, 1)]), (0, [(2, 1)]), (0, [(3, 1)]), (0, [(4, 1)]), (0, [(9, 1)]), (0, [(10, 1)]), (0, [(11, 1)]), (0, [(12, 1)])])], 13), [([], [], [(0, [(5, 1), (9, -1)]), (0, [(5, -1), (9, 1)]), (0, [(6, 1), (10, -1)]), (0, [(6, -1), (10, 1)]), (0, [(7, 1), (11, -1)]), (0, [(7, -1), (11, 1)]), (0, [(8, 1), (12, -1)]), (0, [(8, -1), (12, 1)])], [], [], [], [], 13)])
theorem zo_eW_l {P : zq_Ty} {h : zq_H} {M n Z q c r1 N1 n1 Z1 r2 N2 n2 Z2 : Int} (k1 : zk_WN M n Z q c r1 N1 n1 Z1 P h) (k2 : zk_WN M n Z q c r2 N2 n2 Z2 P h) : (0 ≤ r1 - r2 ∧ 0 ≤ -r1 + r2 ∧ 0 ≤ N1 - N2 ∧ 0 ≤ -N1 + N2 ∧ 0 ≤ n1 - n2 ∧ 0 ≤ -n1 + n2 ∧ 0 ≤ Z1 - Z2 ∧ 0 ≤ -Z1 + Z2) := by
  have e := zk_WN_u k1 k2
  omega
theorem zo_eW_ok {w : zq_Wd} (x_WN : zj_is w 301 (fun q => zk_WN (q 0) (q 1) (q 2) (q 3) (q 4) (q 5) (q 6) (q 7) (q 8))) : zq_okG1 w zo_eW := by
  refine ⟨rfl, rfl, zu_fac ⟨rfl, by decide⟩ zq_fan, ?_⟩
  intro r P h H hM
  have q0 : zq_ev r (0, [(0, 1)]) = r 0 := zu_e1 _ _
  have q1 : zq_ev r (0, [(1, 1)]) = r 1 := zu_e1 _ _
  have q2 : zq_ev r (0, [(2, 1)]) = r 2 := zu_e1 _ _
  have q3 : zq_ev r (0, [(3, 1)]) = r 3 := zu_e1 _ _
  have q4 : zq_ev r (0, [(4, 1)]) = r 4 := zu_e1 _ _
  have q5 : zq_ev r (0, [(5, 1)]) = r 5 := zu_e1 _ _
  have q6 : zq_ev r (0, [(6, 1)]) = r 6 := zu_e1 _ _
  have q7 : zq_ev r (0, [(7, 1)]) = r 7 := zu_e1 _ _
  have q8 : zq_ev r (0, [(8, 1)]) = r 8 := zu_e1 _ _
  have q9 : zq_ev r (0, [(9, 1)]) = r 9 := zu_e1 _ _
  have q10 : zq_ev r (0, [(10, 1)]) = r 10 := zu_e1 _ _
  have q11 : zq_ev r (0, [(11, 1)]) = r 11 := zu_e1 _ _
  have q12 : zq_ev r (0, [(12, 1)]) = r 12 := zu_e1 _ _
  obtain ⟨hT, hC, hF, hS, -, hK⟩ := hM
  have c := hC.1
  have k1 := zj_use x_WN (hK)
  have k1 : zk_WN (zq_ev r (0, [(0, 1)])) (zq_ev r (0, [(1, 1)])) (zq_ev r (0, [(2, 1)])) (zq_ev r (0, [(3, 1)])) (zq_ev r (0, [(4, 1)])) (zq_ev r (0, [(5, 1)])) (zq_ev r (0, [(6, 1)])) (zq_ev r (0, [(7, 1)])) (zq_ev r (0, [(8, 1)])) P h := k1
  simp only [q0, q1, q2, q3, q4, q5, q6, q7, q8] at k1
  have k2 := zj_use x_WN (zq_okX_t (hK))
  have k2 : zk_WN (zq_ev r (0, [(0, 1)])) (zq_ev r (0, [(1, 1)])) (zq_ev r (0, [(2, 1)])) (zq_ev r (0, [(3, 1)])) (zq_ev r (0, [(4, 1)])) (zq_ev r (0, [(9, 1)])) (zq_ev r (0, [(10, 1)])) (zq_ev r (0, [(11, 1)])) (zq_ev r (0, [(12, 1)])) P h := k2
  simp only [q0, q1, q10, q11, q12, q2, q3, q4, q9] at k2
  obtain ⟨c1, c2, c3, c4, c5, c6, c7, c8⟩ := zo_eW_l (P := P) (h := h) (M := r 0) (n := r 1) (Z := r 2) (q := r 3) (c := r 4) (r1 := r 5) (N1 := r 6) (n1 := r 7) (Z1 := r 8) (r2 := r 9) (N2 := r 10) (n2 := r 11) (Z2 := r 12) k1 k2
  obtain ⟨rq, hr⟩ : ∃ rq : Nat → Int, (∀ i, i < 13 → rq i = r i) := ⟨r, fun i hi => rfl⟩
  have v5 : rq 5 = r 5 := hr 5 (by decide)
  have v6 : rq 6 = r 6 := hr 6 (by decide)
  have v7 : rq 7 = r 7 := hr 7 (by decide)
  have v8 : rq 8 = r 8 := hr 8 (by decide)
  have v9 : rq 9 = r 9 := hr 9 (by decide)
  have v10 : rq 10 = r 10 := hr 10 (by decide)
  have v11 : rq 11 = r 11 := hr 11 (by decide)
  have v12 : rq 12 = r 12 := hr 12 (by decide)
  have g0 : zq_ev rq (0, [(8, -1), (12, 1)]) = -r 8 + r 12 := by simp only [zq_ev, zq_ts, v5, v6, v7, v8, v9, v10, v11, v12] <;> omega
  have g1 : zq_ev rq (0, [(8, 1), (12, -1)]) = r 8 - r 12 := by simp only [zq_ev, zq_ts, v5, v6, v7, v8, v9, v10, v11, v12] <;> omega
  have g2 : zq_ev rq (0, [(7, -1), (11, 1)]) = -r 7 + r 11 := by simp only [zq_ev, zq_ts, v5, v6, v7, v8, v9, v10, v11, v12] <;> omega
  have g3 : zq_ev rq (0, [(7, 1), (11, -1)]) = r 7 - r 11 := by simp only [zq_ev, zq_ts, v5, v6, v7, v8, v9, v10, v11, v12] <;> omega
  have g4 : zq_ev rq (0, [(6, -1), (10, 1)]) = -r 6 + r 10 := by simp only [zq_ev, zq_ts, v5, v6, v7, v8, v9, v10, v11, v12] <;> omega
  have g5 : zq_ev rq (0, [(6, 1), (10, -1)]) = r 6 - r 10 := by simp only [zq_ev, zq_ts, v5, v6, v7, v8, v9, v10, v11, v12] <;> omega
  have g6 : zq_ev rq (0, [(5, -1), (9, 1)]) = -r 5 + r 9 := by simp only [zq_ev, zq_ts, v5, v6, v7, v8, v9, v10, v11, v12] <;> omega
  have g7 : zq_ev rq (0, [(5, 1), (9, -1)]) = r 5 - r 9 := by simp only [zq_ev, zq_ts, v5, v6, v7, v8, v9, v10, v11, v12] <;> omega
  exact ⟨_, List.mem_cons_self .., rq, hr, zq_MeS_mk rfl hT (zq_all_cons (by rw [g7]; exact c1) (zq_all_cons (by rw [g6]; exact c2) (zq_all_cons (by rw [g5]; exact c3) (zq_all_cons (by rw [g4]; exact c4) (zq_all_cons (by rw [g3]; exact c5) (zq_all_cons (by rw [g2]; exact c6) (zq_all_cons (by rw [g1]; exact c7) (zq_all_cons (by rw [g0]; exact c8) (zq_all_nil))))))))) zq_fan (zq_fan) rfl zq_fan⟩
noncomputable def zo_eA : zq_S × List zq_S := (([], [], [], [], [], [], [(302, [(0, [(0, 1)]), (0, [(1, 1)]), (0, [(2, 1)]), (0, [(3, 1)]), (0, [(4, 1)]), (0, [(5, 1)]), (0, [(6, 1)])]), (302, [(0, [(0, 1)]), (0, [(1, 1)]), (0, [(2, 1)]), (0, [(7, 1)]), (0, [(8, 1)]), (0, [(9, 1)]), (0, [(10, 1)])])], 11), [([], [], [(0, [(3, 1), (7, -1)]), (0, [(3, -1), (7, 1)]), (0, [(4, 1), (8, -1)]), (0, [(4, -1), (8, 1)]), (0, [(5, 1), (9, -1)]), (0, [(5, -1), (9, 1)]), (0, [(6, 1), (10, -1)]), (0, [(6, -1), (10, 1)])], [], [], [], [], 11)])
theorem zo_eA_l {P : zq_Ty} {h : zq_H} {M n Z r1 N1 n1 Z1 r2 N2 n2 Z2 : Int} (k1 : zk_PA M n Z r1 N1 n1 Z1 P h) (k2 : zk_PA M n Z r2 N2 n2 Z2 P h) : (0 ≤ r1 - r2 ∧ 0 ≤ -r1 + r2 ∧ 0 ≤ N1 - N2 ∧ 0 ≤ -N1 + N2 ∧ 0 ≤ n1 - n2 ∧ 0 ≤ -n1 + n2 ∧ 0 ≤ Z1 - Z2 ∧ 0 ≤ -Z1 + Z2) := by
  have e := zk_PA_u k1 k2
  omega
theorem zo_eA_ok {w : zq_Wd} (x_PA : zj_is w 302 (fun q => zk_PA (q 0) (q 1) (q 2) (q 3) (q 4) (q 5) (q 6))) : zq_okG1 w zo_eA := by
  refine ⟨rfl, rfl, zu_fac ⟨rfl, by decide⟩ zq_fan, ?_⟩
  intro r P h H hM
  have q0 : zq_ev r (0, [(0, 1)]) = r 0 := zu_e1 _ _
  have q1 : zq_ev r (0, [(1, 1)]) = r 1 := zu_e1 _ _
  have q2 : zq_ev r (0, [(2, 1)]) = r 2 := zu_e1 _ _
  have q3 : zq_ev r (0, [(3, 1)]) = r 3 := zu_e1 _ _
  have q4 : zq_ev r (0, [(4, 1)]) = r 4 := zu_e1 _ _
  have q5 : zq_ev r (0, [(5, 1)]) = r 5 := zu_e1 _ _
  have q6 : zq_ev r (0, [(6, 1)]) = r 6 := zu_e1 _ _
  have q7 : zq_ev r (0, [(7, 1)]) = r 7 := zu_e1 _ _
  have q8 : zq_ev r (0, [(8, 1)]) = r 8 := zu_e1 _ _
  have q9 : zq_ev r (0, [(9, 1)]) = r 9 := zu_e1 _ _
  have q10 : zq_ev r (0, [(10, 1)]) = r 10 := zu_e1 _ _
  obtain ⟨hT, hC, hF, hS, -, hK⟩ := hM
  have c := hC.1
  have k1 := zj_use x_PA (hK)
  have k1 : zk_PA (zq_ev r (0, [(0, 1)])) (zq_ev r (0, [(1, 1)])) (zq_ev r (0, [(2, 1)])) (zq_ev r (0, [(3, 1)])) (zq_ev r (0, [(4, 1)])) (zq_ev r (0, [(5, 1)])) (zq_ev r (0, [(6, 1)])) P h := k1
  simp only [q0, q1, q2, q3, q4, q5, q6] at k1
  have k2 := zj_use x_PA (zq_okX_t (hK))
  have k2 : zk_PA (zq_ev r (0, [(0, 1)])) (zq_ev r (0, [(1, 1)])) (zq_ev r (0, [(2, 1)])) (zq_ev r (0, [(7, 1)])) (zq_ev r (0, [(8, 1)])) (zq_ev r (0, [(9, 1)])) (zq_ev r (0, [(10, 1)])) P h := k2
  simp only [q0, q1, q10, q2, q7, q8, q9] at k2
  obtain ⟨c1, c2, c3, c4, c5, c6, c7, c8⟩ := zo_eA_l (P := P) (h := h) (M := r 0) (n := r 1) (Z := r 2) (r1 := r 3) (N1 := r 4) (n1 := r 5) (Z1 := r 6) (r2 := r 7) (N2 := r 8) (n2 := r 9) (Z2 := r 10) k1 k2
  obtain ⟨rq, hr⟩ : ∃ rq : Nat → Int, (∀ i, i < 11 → rq i = r i) := ⟨r, fun i hi => rfl⟩
  have v3 : rq 3 = r 3 := hr 3 (by decide)
  have v4 : rq 4 = r 4 := hr 4 (by decide)
  have v5 : rq 5 = r 5 := hr 5 (by decide)
  have v6 : rq 6 = r 6 := hr 6 (by decide)
  have v7 : rq 7 = r 7 := hr 7 (by decide)
  have v8 : rq 8 = r 8 := hr 8 (by decide)
  have v9 : rq 9 = r 9 := hr 9 (by decide)
  have v10 : rq 10 = r 10 := hr 10 (by decide)
  have g0 : zq_ev rq (0, [(6, -1), (10, 1)]) = -r 6 + r 10 := by simp only [zq_ev, zq_ts, v3, v4, v5, v6, v7, v8, v9, v10] <;> omega
  have g1 : zq_ev rq (0, [(6, 1), (10, -1)]) = r 6 - r 10 := by simp only [zq_ev, zq_ts, v3, v4, v5, v6, v7, v8, v9, v10] <;> omega
  have g2 : zq_ev rq (0, [(5, -1), (9, 1)]) = -r 5 + r 9 := by simp only [zq_ev, zq_ts, v3, v4, v5, v6, v7, v8, v9, v10] <;> omega
  have g3 : zq_ev rq (0, [(5, 1), (9, -1)]) = r 5 - r 9 := by simp only [zq_ev, zq_ts, v3, v4, v5, v6, v7, v8, v9, v10] <;> omega
  have g4 : zq_ev rq (0, [(4, -1), (8, 1)]) = -r 4 + r 8 := by simp only [zq_ev, zq_ts, v3, v4, v5, v6, v7, v8, v9, v10] <;> omega
  have g5 : zq_ev rq (0, [(4, 1), (8, -1)]) = r 4 - r 8 := by simp only [zq_ev, zq_ts, v3, v4, v5, v6, v7, v8, v9, v10] <;> omega
  have g6 : zq_ev rq (0, [(3, -1), (7, 1)]) = -r 3 + r 7 := by simp only [zq_ev, zq_ts, v3, v4, v5, v6, v7, v8, v9, v10] <;> omega
  have g7 : zq_ev rq (0, [(3, 1), (7, -1)]) = r 3 - r 7 := by simp only [zq_ev, zq_ts, v3, v4, v5, v6, v7, v8, v9, v10] <;> omega
  exact ⟨_, List.mem_cons_self .., rq, hr, zq_MeS_mk rfl hT (zq_all_cons (by rw [g7]; exact c1) (zq_all_cons (by rw [g6]; exact c2) (zq_all_cons (by rw [g5]; exact c3) (zq_all_cons (by rw [g4]; exact c4) (zq_all_cons (by rw [g3]; exact c5) (zq_all_cons (by rw [g2]; exact c6) (zq_all_cons (by rw [g1]; exact c7) (zq_all_cons (by rw [g0]; exact c8) (zq_all_nil))))))))) zq_fan (zq_fan) rfl zq_fan⟩
noncomputable def zo_eP : zq_S × List zq_S := (([], [], [], [], [], [], [(303, [(0, [(0, 1)]), (0, [(1, 1)]), (0, [(2, 1)]), (0, [(3, 1)]), (0, [(4, 1)]), (0, [(5, 1)]), (0, [(6, 1)]), (0, [(7, 1)]), (0, [(8, 1)]), (0, [(9, 1)]), (0, [(10, 1)])]), (303, [(0, [(0, 1)]), (0, [(1, 1)]), (0, [(2, 1)]), (0, [(3, 1)]), (0, [(4, 1)]), (0, [(5, 1)]), (0, [(6, 1)]), (0, [(11, 1)]), (0, [(12, 1)]), (0, [(13, 1)]), (0, [(14, 1)])])], 15), [([], [], [(0, [(7, 1), (11, -1)]), (0, [(7, -1), (11, 1)]), (0, [(8, 1), (12, -1)]), (0, [(8, -1), (12, 1)]), (0, [(9, 1), (13, -1)]), (0, [(9, -1), (13, 1)]), (0, [(10, 1), (14, -1)]), (0, [(10, -1), (14, 1)])], [], [], [], [], 15)])
theorem zo_eP_l {P : zq_Ty} {h : zq_H} {p M n Z a b v r1 N1 n1 Z1 r2 N2 n2 Z2 : Int} (k1 : zk_PY p M n Z a b v r1 N1 n1 Z1 P h) (k2 : zk_PY p M n Z a b v r2 N2 n2 Z2 P h) : (0 ≤ r1 - r2 ∧ 0 ≤ -r1 + r2 ∧ 0 ≤ N1 - N2 ∧ 0 ≤ -N1 + N2 ∧ 0 ≤ n1 - n2 ∧ 0 ≤ -n1 + n2 ∧ 0 ≤ Z1 - Z2 ∧ 0 ≤ -Z1 + Z2) := by
  have e := zk_PY_u k1 k2
  omega
theorem zo_eP_ok {w : zq_Wd} (x_PY : zj_is w 303 (fun q => zk_PY (q 0) (q 1) (q 2) (q 3) (q 4) (q 5) (q 6) (q 7) (q 8) (q 9) (q 10))) : zq_okG1 w zo_eP := by
  refine ⟨rfl, rfl, zu_fac ⟨rfl, by decide⟩ zq_fan, ?_⟩
  intro r P h H hM
  have q0 : zq_ev r (0, [(0, 1)]) = r 0 := zu_e1 _ _
  have q1 : zq_ev r (0, [(1, 1)]) = r 1 := zu_e1 _ _
  have q2 : zq_ev r (0, [(2, 1)]) = r 2 := zu_e1 _ _
  have q3 : zq_ev r (0, [(3, 1)]) = r 3 := zu_e1 _ _
  have q4 : zq_ev r (0, [(4, 1)]) = r 4 := zu_e1 _ _
  have q5 : zq_ev r (0, [(5, 1)]) = r 5 := zu_e1 _ _
  have q6 : zq_ev r (0, [(6, 1)]) = r 6 := zu_e1 _ _
  have q7 : zq_ev r (0, [(7, 1)]) = r 7 := zu_e1 _ _
  have q8 : zq_ev r (0, [(8, 1)]) = r 8 := zu_e1 _ _
  have q9 : zq_ev r (0, [(9, 1)]) = r 9 := zu_e1 _ _
  have q10 : zq_ev r (0, [(10, 1)]) = r 10 := zu_e1 _ _
  have q11 : zq_ev r (0, [(11, 1)]) = r 11 := zu_e1 _ _
  have q12 : zq_ev r (0, [(12, 1)]) = r 12 := zu_e1 _ _
  have q13 : zq_ev r (0, [(13, 1)]) = r 13 := zu_e1 _ _
  have q14 : zq_ev r (0, [(14, 1)]) = r 14 := zu_e1 _ _
  obtain ⟨hT, hC, hF, hS, -, hK⟩ := hM
  have c := hC.1
  have k1 := zj_use x_PY (hK)
  have k1 : zk_PY (zq_ev r (0, [(0, 1)])) (zq_ev r (0, [(1, 1)])) (zq_ev r (0, [(2, 1)])) (zq_ev r (0, [(3, 1)])) (zq_ev r (0, [(4, 1)])) (zq_ev r (0, [(5, 1)])) (zq_ev r (0, [(6, 1)])) (zq_ev r (0, [(7, 1)])) (zq_ev r (0, [(8, 1)])) (zq_ev r (0, [(9, 1)])) (zq_ev r (0, [(10, 1)])) P h := k1
  simp only [q0, q1, q10, q2, q3, q4, q5, q6, q7, q8, q9] at k1
  have k2 := zj_use x_PY (zq_okX_t (hK))
  have k2 : zk_PY (zq_ev r (0, [(0, 1)])) (zq_ev r (0, [(1, 1)])) (zq_ev r (0, [(2, 1)])) (zq_ev r (0, [(3, 1)])) (zq_ev r (0, [(4, 1)])) (zq_ev r (0, [(5, 1)])) (zq_ev r (0, [(6, 1)])) (zq_ev r (0, [(11, 1)])) (zq_ev r (0, [(12, 1)])) (zq_ev r (0, [(13, 1)])) (zq_ev r (0, [(14, 1)])) P h := k2
  simp only [q0, q1, q11, q12, q13, q14, q2, q3, q4, q5, q6] at k2
  obtain ⟨c1, c2, c3, c4, c5, c6, c7, c8⟩ := zo_eP_l (P := P) (h := h) (p := r 0) (M := r 1) (n := r 2) (Z := r 3) (a := r 4) (b := r 5) (v := r 6) (r1 := r 7) (N1 := r 8) (n1 := r 9) (Z1 := r 10) (r2 := r 11) (N2 := r 12) (n2 := r 13) (Z2 := r 14) k1 k2
  obtain ⟨rq, hr⟩ : ∃ rq : Nat → Int, (∀ i, i < 15 → rq i = r i) := ⟨r, fun i hi => rfl⟩
  have v7 : rq 7 = r 7 := hr 7 (by decide)
  have v8 : rq 8 = r 8 := hr 8 (by decide)
  have v9 : rq 9 = r 9 := hr 9 (by decide)
  have v10 : rq 10 = r 10 := hr 10 (by decide)
  have v11 : rq 11 = r 11 := hr 11 (by decide)
  have v12 : rq 12 = r 12 := hr 12 (by decide)
  have v13 : rq 13 = r 13 := hr 13 (by decide)
  have v14 : rq 14 = r 14 := hr 14 (by decide)
  have g0 : zq_ev rq (0, [(10, -1), (14, 1)]) = -r 10 + r 14 := by simp only [zq_ev, zq_ts, v7, v8, v9, v10, v11, v12, v13, v14] <;> omega
  have g1 : zq_ev rq (0, [(10, 1), (14, -1)]) = r 10 - r 14 := by simp only [zq_ev, zq_ts, v7, v8, v9, v10, v11, v12, v13, v14] <;> omega
  have g2 : zq_ev rq (0, [(9, -1), (13, 1)]) = -r 9 + r 13 := by simp only [zq_ev, zq_ts, v7, v8, v9, v10, v11, v12, v13, v14] <;> omega
  have g3 : zq_ev rq (0, [(9, 1), (13, -1)]) = r 9 - r 13 := by simp only [zq_ev, zq_ts, v7, v8, v9, v10, v11, v12, v13, v14] <;> omega
  have g4 : zq_ev rq (0, [(8, -1), (12, 1)]) = -r 8 + r 12 := by simp only [zq_ev, zq_ts, v7, v8, v9, v10, v11, v12, v13, v14] <;> omega
  have g5 : zq_ev rq (0, [(8, 1), (12, -1)]) = r 8 - r 12 := by simp only [zq_ev, zq_ts, v7, v8, v9, v10, v11, v12, v13, v14] <;> omega
  have g6 : zq_ev rq (0, [(7, -1), (11, 1)]) = -r 7 + r 11 := by simp only [zq_ev, zq_ts, v7, v8, v9, v10, v11, v12, v13, v14] <;> omega
  have g7 : zq_ev rq (0, [(7, 1), (11, -1)]) = r 7 - r 11 := by simp only [zq_ev, zq_ts, v7, v8, v9, v10, v11, v12, v13, v14] <;> omega
  exact ⟨_, List.mem_cons_self .., rq, hr, zq_MeS_mk rfl hT (zq_all_cons (by rw [g7]; exact c1) (zq_all_cons (by rw [g6]; exact c2) (zq_all_cons (by rw [g5]; exact c3) (zq_all_cons (by rw [g4]; exact c4) (zq_all_cons (by rw [g3]; exact c5) (zq_all_cons (by rw [g2]; exact c6) (zq_all_cons (by rw [g1]; exact c7) (zq_all_cons (by rw [g0]; exact c8) (zq_all_nil))))))))) zq_fan (zq_fan) rfl zq_fan⟩
noncomputable def zo_eC : zq_S × List zq_S := (([], [], [], [], [], [], [(304, [(0, [(0, 1)]), (0, [(1, 1)]), (0, [(2, 1)]), (0, [(3, 1)]), (0, [(4, 1)]), (0, [(5, 1)]), (0, [(6, 1)]), (0, [(7, 1)]), (0, [(8, 1)]), (0, [(9, 1)]), (0, [(10, 1)]), (0, [(11, 1)]), (0, [(12, 1)]), (0, [(13, 1)]), (0, [(14, 1)]), (0, [(15, 1)])]), (304, [(0, [(0, 1)]), (0, [(1, 1)]), (0, [(2, 1)]), (0, [(3, 1)]), (0, [(4, 1)]), (0, [(5, 1)]), (0, [(6, 1)]), (0, [(7, 1)]), (0, [(8, 1)]), (0, [(9, 1)]), (0, [(10, 1)]), (0, [(11, 1)]), (0, [(16, 1)]), (0, [(17, 1)]), (0, [(18, 1)]), (0, [(19, 1)])])], 20), [([], [], [(0, [(12, 1), (16, -1)]), (0, [(12, -1), (16, 1)]), (0, [(13, 1), (17, -1)]), (0, [(13, -1), (17, 1)]), (0, [(14, 1), (18, -1)]), (0, [(14, -1), (18, 1)]), (0, [(15, 1), (19, -1)]), (0, [(15, -1), (19, 1)])], [], [], [], [], 20)])
theorem zo_eC_l {P : zq_Ty} {h : zq_H} {S m e T f u M n Z d w p r1 N1 n1 Z1 r2 N2 n2 Z2 : Int} (k1 : zk_CM S m e T f u M n Z d w p r1 N1 n1 Z1 P h) (k2 : zk_CM S m e T f u M n Z d w p r2 N2 n2 Z2 P h) : (0 ≤ r1 - r2 ∧ 0 ≤ -r1 + r2 ∧ 0 ≤ N1 - N2 ∧ 0 ≤ -N1 + N2 ∧ 0 ≤ n1 - n2 ∧ 0 ≤ -n1 + n2 ∧ 0 ≤ Z1 - Z2 ∧ 0 ≤ -Z1 + Z2) := by
  have e := zk_CM_u k1 k2
  omega
theorem zo_eC_ok {w : zq_Wd} (x_CM : zj_is w 304 (fun q => zk_CM (q 0) (q 1) (q 2) (q 3) (q 4) (q 5) (q 6) (q 7) (q 8) (q 9) (q 10) (q 11) (q 12) (q 13) (q 14) (q 15))) : zq_okG1 w zo_eC := by
  refine ⟨rfl, rfl, zu_fac ⟨rfl, by decide⟩ zq_fan, ?_⟩
  intro r P h H hM
  have q0 : zq_ev r (0, [(0, 1)]) = r 0 := zu_e1 _ _
  have q1 : zq_ev r (0, [(1, 1)]) = r 1 := zu_e1 _ _
  have q2 : zq_ev r (0, [(2, 1)]) = r 2 := zu_e1 _ _
  have q3 : zq_ev r (0, [(3, 1)]) = r 3 := zu_e1 _ _
  have q4 : zq_ev r (0, [(4, 1)]) = r 4 := zu_e1 _ _
  have q5 : zq_ev r (0, [(5, 1)]) = r 5 := zu_e1 _ _
  have q6 : zq_ev r (0, [(6, 1)]) = r 6 := zu_e1 _ _
  have q7 : zq_ev r (0, [(7, 1)]) = r 7 := zu_e1 _ _
  have q8 : zq_ev r (0, [(8, 1)]) = r 8 := zu_e1 _ _
  have q9 : zq_ev r (0, [(9, 1)]) = r 9 := zu_e1 _ _
  have q10 : zq_ev r (0, [(10, 1)]) = r 10 := zu_e1 _ _
  have q11 : zq_ev r (0, [(11, 1)]) = r 11 := zu_e1 _ _
  have q12 : zq_ev r (0, [(12, 1)]) = r 12 := zu_e1 _ _
  have q13 : zq_ev r (0, [(13, 1)]) = r 13 := zu_e1 _ _
  have q14 : zq_ev r (0, [(14, 1)]) = r 14 := zu_e1 _ _
  have q15 : zq_ev r (0, [(15, 1)]) = r 15 := zu_e1 _ _
  have q16 : zq_ev r (0, [(16, 1)]) = r 16 := zu_e1 _ _
  have q17 : zq_ev r (0, [(17, 1)]) = r 17 := zu_e1 _ _
  have q18 : zq_ev r (0, [(18, 1)]) = r 18 := zu_e1 _ _
  have q19 : zq_ev r (0, [(19, 1)]) = r 19 := zu_e1 _ _
  obtain ⟨hT, hC, hF, hS, -, hK⟩ := hM
  have c := hC.1
  have k1 := zj_use x_CM (hK)
  have k1 : zk_CM (zq_ev r (0, [(0, 1)])) (zq_ev r (0, [(1, 1)])) (zq_ev r (0, [(2, 1)])) (zq_ev r (0, [(3, 1)])) (zq_ev r (0, [(4, 1)])) (zq_ev r (0, [(5, 1)])) (zq_ev r (0, [(6, 1)])) (zq_ev r (0, [(7, 1)])) (zq_ev r (0, [(8, 1)])) (zq_ev r (0, [(9, 1)])) (zq_ev r (0, [(10, 1)])) (zq_ev r (0, [(11, 1)])) (zq_ev r (0, [(12, 1)])) (zq_ev r (0, [(13, 1)])) (zq_ev r (0, [(14, 1)])) (zq_ev r (0, [(15, 1)])) P h := k1
  simp only [q0, q1, q10, q11, q12, q13, q14, q15, q2, q3, q4, q5, q6, q7, q8, q9] at k1
  have k2 := zj_use x_CM (zq_okX_t (hK))
  have k2 : zk_CM (zq_ev r (0, [(0, 1)])) (zq_ev r (0, [(1, 1)])) (zq_ev r (0, [(2, 1)])) (zq_ev r (0, [(3, 1)])) (zq_ev r (0, [(4, 1)])) (zq_ev r (0, [(5, 1)])) (zq_ev r (0, [(6, 1)])) (zq_ev r (0, [(7, 1)])) (zq_ev r (0, [(8, 1)])) (zq_ev r (0, [(9, 1)])) (zq_ev r (0, [(10, 1)])) (zq_ev r (0, [(11, 1)])) (zq_ev r (0, [(16, 1)])) (zq_ev r (0, [(17, 1)])) (zq_ev r (0, [(18, 1)])) (zq_ev r (0, [(19, 1)])) P h := k2
  simp only [q0, q1, q10, q11, q16, q17, q18, q19, q2, q3, q4, q5, q6, q7, q8, q9] at k2
  obtain ⟨c1, c2, c3, c4, c5, c6, c7, c8⟩ := zo_eC_l (P := P) (h := h) (S := r 0) (m := r 1) (e := r 2) (T := r 3) (f := r 4) (u := r 5) (M := r 6) (n := r 7) (Z := r 8) (d := r 9) (w := r 10) (p := r 11) (r1 := r 12) (N1 := r 13) (n1 := r 14) (Z1 := r 15) (r2 := r 16) (N2 := r 17) (n2 := r 18) (Z2 := r 19) k1 k2
  obtain ⟨rq, hr⟩ : ∃ rq : Nat → Int, (∀ i, i < 20 → rq i = r i) := ⟨r, fun i hi => rfl⟩
  have v12 : rq 12 = r 12 := hr 12 (by decide)
  have v13 : rq 13 = r 13 := hr 13 (by decide)
  have v14 : rq 14 = r 14 := hr 14 (by decide)
  have v15 : rq 15 = r 15 := hr 15 (by decide)
  have v16 : rq 16 = r 16 := hr 16 (by decide)
  have v17 : rq 17 = r 17 := hr 17 (by decide)
  have v18 : rq 18 = r 18 := hr 18 (by decide)
  have v19 : rq 19 = r 19 := hr 19 (by decide)
  have g0 : zq_ev rq (0, [(15, -1), (19, 1)]) = -r 15 + r 19 := by simp only [zq_ev, zq_ts, v12, v13, v14, v15, v16, v17, v18, v19] <;> omega
  have g1 : zq_ev rq (0, [(15, 1), (19, -1)]) = r 15 - r 19 := by simp only [zq_ev, zq_ts, v12, v13, v14, v15, v16, v17, v18, v19] <;> omega
  have g2 : zq_ev rq (0, [(14, -1), (18, 1)]) = -r 14 + r 18 := by simp only [zq_ev, zq_ts, v12, v13, v14, v15, v16, v17, v18, v19] <;> omega
  have g3 : zq_ev rq (0, [(14, 1), (18, -1)]) = r 14 - r 18 := by simp only [zq_ev, zq_ts, v12, v13, v14, v15, v16, v17, v18, v19] <;> omega
  have g4 : zq_ev rq (0, [(13, -1), (17, 1)]) = -r 13 + r 17 := by simp only [zq_ev, zq_ts, v12, v13, v14, v15, v16, v17, v18, v19] <;> omega
  have g5 : zq_ev rq (0, [(13, 1), (17, -1)]) = r 13 - r 17 := by simp only [zq_ev, zq_ts, v12, v13, v14, v15, v16, v17, v18, v19] <;> omega
  have g6 : zq_ev rq (0, [(12, -1), (16, 1)]) = -r 12 + r 16 := by simp only [zq_ev, zq_ts, v12, v13, v14, v15, v16, v17, v18, v19] <;> omega
  have g7 : zq_ev rq (0, [(12, 1), (16, -1)]) = r 12 - r 16 := by simp only [zq_ev, zq_ts, v12, v13, v14, v15, v16, v17, v18, v19] <;> omega
  exact ⟨_, List.mem_cons_self .., rq, hr, zq_MeS_mk rfl hT (zq_all_cons (by rw [g7]; exact c1) (zq_all_cons (by rw [g6]; exact c2) (zq_all_cons (by rw [g5]; exact c3) (zq_all_cons (by rw [g4]; exact c4) (zq_all_cons (by rw [g3]; exact c5) (zq_all_cons (by rw [g2]; exact c6) (zq_all_cons (by rw [g1]; exact c7) (zq_all_cons (by rw [g0]; exact c8) (zq_all_nil))))))))) zq_fan (zq_fan) rfl zq_fan⟩
noncomputable def zo_eU : zq_S × List zq_S := (([], [], [], [], [], [], [(305, [(0, [(0, 1)]), (0, [(1, 1)]), (0, [(2, 1)]), (0, [(3, 1)]), (0, [(4, 1)]), (0, [(5, 1)])]), (305, [(0, [(0, 1)]), (0, [(1, 1)]), (0, [(2, 1)]), (0, [(6, 1)]), (0, [(7, 1)]), (0, [(8, 1)])])], 9), [([], [], [(0, [(3, 1), (6, -1)]), (0, [(3, -1), (6, 1)]), (0, [(4, 1), (7, -1)]), (0, [(4, -1), (7, 1)]), (0, [(5, 1), (8, -1)]), (0, [(5, -1), (8, 1)])], [], [], [], [], 9)])
theorem zo_eU_l {P : zq_Ty} {h : zq_H} {M n Z r1 N1 n1 r2 N2 n2 : Int} (k1 : zk_UN M n Z r1 N1 n1 P h) (k2 : zk_UN M n Z r2 N2 n2 P h) : (0 ≤ r1 - r2 ∧ 0 ≤ -r1 + r2 ∧ 0 ≤ N1 - N2 ∧ 0 ≤ -N1 + N2 ∧ 0 ≤ n1 - n2 ∧ 0 ≤ -n1 + n2) := by
  have e := zk_UN_u k1 k2
  omega
theorem zo_eU_ok {w : zq_Wd} (x_UN : zj_is w 305 (fun q => zk_UN (q 0) (q 1) (q 2) (q 3) (q 4) (q 5))) : zq_okG1 w zo_eU := by
  refine ⟨rfl, rfl, zu_fac ⟨rfl, by decide⟩ zq_fan, ?_⟩
  intro r P h H hM
  have q0 : zq_ev r (0, [(0, 1)]) = r 0 := zu_e1 _ _
  have q1 : zq_ev r (0, [(1, 1)]) = r 1 := zu_e1 _ _
  have q2 : zq_ev r (0, [(2, 1)]) = r 2 := zu_e1 _ _
  have q3 : zq_ev r (0, [(3, 1)]) = r 3 := zu_e1 _ _
  have q4 : zq_ev r (0, [(4, 1)]) = r 4 := zu_e1 _ _
  have q5 : zq_ev r (0, [(5, 1)]) = r 5 := zu_e1 _ _
  have q6 : zq_ev r (0, [(6, 1)]) = r 6 := zu_e1 _ _
  have q7 : zq_ev r (0, [(7, 1)]) = r 7 := zu_e1 _ _
  have q8 : zq_ev r (0, [(8, 1)]) = r 8 := zu_e1 _ _
  obtain ⟨hT, hC, hF, hS, -, hK⟩ := hM
  have c := hC.1
  have k1 := zj_use x_UN (hK)
  have k1 : zk_UN (zq_ev r (0, [(0, 1)])) (zq_ev r (0, [(1, 1)])) (zq_ev r (0, [(2, 1)])) (zq_ev r (0, [(3, 1)])) (zq_ev r (0, [(4, 1)])) (zq_ev r (0, [(5, 1)])) P h := k1
  simp only [q0, q1, q2, q3, q4, q5] at k1
  have k2 := zj_use x_UN (zq_okX_t (hK))
  have k2 : zk_UN (zq_ev r (0, [(0, 1)])) (zq_ev r (0, [(1, 1)])) (zq_ev r (0, [(2, 1)])) (zq_ev r (0, [(6, 1)])) (zq_ev r (0, [(7, 1)])) (zq_ev r (0, [(8, 1)])) P h := k2
  simp only [q0, q1, q2, q6, q7, q8] at k2
  obtain ⟨c1, c2, c3, c4, c5, c6⟩ := zo_eU_l (P := P) (h := h) (M := r 0) (n := r 1) (Z := r 2) (r1 := r 3) (N1 := r 4) (n1 := r 5) (r2 := r 6) (N2 := r 7) (n2 := r 8) k1 k2
  obtain ⟨rq, hr⟩ : ∃ rq : Nat → Int, (∀ i, i < 9 → rq i = r i) := ⟨r, fun i hi => rfl⟩
  have v3 : rq 3 = r 3 := hr 3 (by decide)
  have v4 : rq 4 = r 4 := hr 4 (by decide)
  have v5 : rq 5 = r 5 := hr 5 (by decide)
  have v6 : rq 6 = r 6 := hr 6 (by decide)
  have v7 : rq 7 = r 7 := hr 7 (by decide)
  have v8 : rq 8 = r 8 := hr 8 (by decide)
  have g0 : zq_ev rq (0, [(5, -1), (8, 1)]) = -r 5 + r 8 := by simp only [zq_ev, zq_ts, v3, v4, v5, v6, v7, v8] <;> omega
  have g1 : zq_ev rq (0, [(5, 1), (8, -1)]) = r 5 - r 8 := by simp only [zq_ev, zq_ts, v3, v4, v5, v6, v7, v8] <;> omega
  have g2 : zq_ev rq (0, [(4, -1), (7, 1)]) = -r 4 + r 7 := by simp only [zq_ev, zq_ts, v3, v4, v5, v6, v7, v8] <;> omega
  have g3 : zq_ev rq (0, [(4, 1), (7, -1)]) = r 4 - r 7 := by simp only [zq_ev, zq_ts, v3, v4, v5, v6, v7, v8] <;> omega
  have g4 : zq_ev rq (0, [(3, -1), (6, 1)]) = -r 3 + r 6 := by simp only [zq_ev, zq_ts, v3, v4, v5, v6, v7, v8] <;> omega
  have g5 : zq_ev rq (0, [(3, 1), (6, -1)]) = r 3 - r 6 := by simp only [zq_ev, zq_ts, v3, v4, v5, v6, v7, v8] <;> omega
  exact ⟨_, List.mem_cons_self .., rq, hr, zq_MeS_mk rfl hT (zq_all_cons (by rw [g5]; exact c1) (zq_all_cons (by rw [g4]; exact c2) (zq_all_cons (by rw [g3]; exact c3) (zq_all_cons (by rw [g2]; exact c4) (zq_all_cons (by rw [g1]; exact c5) (zq_all_cons (by rw [g0]; exact c6) (zq_all_nil))))))) zq_fan (zq_fan) rfl zq_fan⟩
