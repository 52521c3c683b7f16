/-! SIGHTS: facts -/
noncomputable def zm_sv0 : zq_S × List zq_S := (([], [], [(0, [(1, 1)])], [], [], [], [], 2), [([], [], [], [], [], [], [(372, [(0, [(0, 1)]), (0, [(1, 1)]), (0, [])])], 2)])
theorem zm_sv0_l {P : zq_Ty} {h : zq_H} {S d : Int} (a1 : 0 ≤ d) : (zs_SV S d 0 P h) := by
  exact ⟨a1, fun i x y => by omega⟩
theorem zm_sv0_ok {w : zq_Wd} (x_SV : zj_is w 372 (fun q => zs_SV (q 0) (q 1) (q 2))) : zq_okG1 w zm_sv0 := by
  refine ⟨rfl, rfl, zu_fac ⟨rfl, by decide⟩ zq_fan, ?_⟩
  intro r P h H hM
  have q0 : zq_ev r (0, [(1, 1)]) = r 1 := zu_e1 _ _
  obtain ⟨hT, hC, hF, hS, -, hK⟩ := hM
  have c := hC.1
  have a1 := zq_all_1 c
  rw [q0] at a1
  obtain t1 := zm_sv0_l (P := P) (h := h) (S := r 0) (d := r 1) a1
  obtain ⟨rq, hr⟩ : ∃ rq : Nat → Int, (∀ i, i < 2 → rq i = r i) := ⟨r, fun i hi => rfl⟩
  have v0 : rq 0 = r 0 := hr 0 (by decide)
  have v1 : rq 1 = r 1 := hr 1 (by decide)
  have g0 : zq_ev rq (0, [(0, 1)]) = r 0 := zu_f1 v0
  have g1 : zq_ev rq (0, [(1, 1)]) = r 1 := zu_f1 v1
  have g2 : zq_ev rq (0, []) = 0 := zu_e0 _ _
  exact ⟨_, List.mem_cons_self .., rq, hr, zq_MeS_mk rfl hT (zq_all_nil) zq_fan (zq_fan) rfl (zu_fac ((x_SV _ _ _).mpr (by show zs_SV (zq_ev rq (0, [(0, 1)])) (zq_ev rq (0, [(1, 1)])) (zq_ev rq (0, [])) P h; simp only [g0, g1, g2]; exact t1)) zq_fan)⟩
noncomputable def zm_svr : zq_S × List zq_S := (([], [], [(0, [(3, 1)]), (-1, [(2, 1), (3, -1)])], [], [], [], [(372, [(0, [(0, 1)]), (0, [(1, 1)]), (0, [(2, 1)])]), (134, [(0, [(0, 1)]), (19, [(3, 4)]), (0, [(4, 1)])])], 5), [([], [], [(0, [(4, 1)]), (-1, [(1, 1), (4, -1)])], [], [], [], [], 5)])
theorem zm_svr_l {P : zq_Ty} {h : zq_H} {S d s i v : Int} (a1 : 0 ≤ i) (a2 : 0 ≤ s - i - 1) (k1 : zs_SV S d s P h) (k2 : zn_DG S (4 * i + 19) v P h) : (0 ≤ v ∧ 0 ≤ d - v - 1) := by
  have k2 : v = zn_dg S (4 * i + 19) := k2
  have q := k1.2 i a1 (by omega)
  rw [show 19 + 4 * i = 4 * i + 19 by omega, ← k2] at q
  omega
theorem zm_svr_ok {w : zq_Wd} (x_SV : zj_is w 372 (fun q => zs_SV (q 0) (q 1) (q 2))) (x_DG : zj_is w 134 (fun q => zn_DG (q 0) (q 1) (q 2))) : zq_okG1 w zm_svr := by
  refine ⟨rfl, rfl, zu_fac ⟨rfl, by decide⟩ zq_fan, ?_⟩
  intro r P h H hM
  have q0 : zq_ev r (0, [(3, 1)]) = r 3 := zu_e1 _ _
  have q1 : zq_ev r (-1, [(2, 1), (3, -1)]) = r 2 - r 3 - 1 := by simp only [zq_ev, zq_ts] <;> omega
  have q2 : zq_ev r (0, [(0, 1)]) = r 0 := zu_e1 _ _
  have q3 : zq_ev r (0, [(1, 1)]) = r 1 := zu_e1 _ _
  have q4 : zq_ev r (0, [(2, 1)]) = r 2 := zu_e1 _ _
  have q5 : zq_ev r (19, [(3, 4)]) = 4 * r 3 + 19 := by simp only [zq_ev, zq_ts] <;> omega
  have q6 : zq_ev r (0, [(4, 1)]) = r 4 := zu_e1 _ _
  obtain ⟨hT, hC, hF, hS, -, hK⟩ := hM
  have c := hC.1
  have a1 := zq_all_1 c
  rw [q0] at a1
  have c := zq_all_t c
  have a2 := zq_all_1 c
  rw [q1] at a2
  have k1 := zj_use x_SV (hK)
  have k1 : zs_SV (zq_ev r (0, [(0, 1)])) (zq_ev r (0, [(1, 1)])) (zq_ev r (0, [(2, 1)])) P h := k1
  simp only [q2, q3, q4] at k1
  have k2 := zj_use x_DG (zq_okX_t (hK))
  have k2 : zn_DG (zq_ev r (0, [(0, 1)])) (zq_ev r (19, [(3, 4)])) (zq_ev r (0, [(4, 1)])) P h := k2
  simp only [q2, q5, q6] at k2
  obtain ⟨c1, c2⟩ := zm_svr_l (P := P) (h := h) (S := r 0) (d := r 1) (s := r 2) (i := r 3) (v := r 4) a1 a2 k1 k2
  obtain ⟨rq, hr⟩ : ∃ rq : Nat → Int, (∀ i, i < 5 → rq i = r i) := ⟨r, fun i hi => rfl⟩
  have v1 : rq 1 = r 1 := hr 1 (by decide)
  have v4 : rq 4 = r 4 := hr 4 (by decide)
  have g0 : zq_ev rq (-1, [(1, 1), (4, -1)]) = r 1 - r 4 - 1 := by simp only [zq_ev, zq_ts, v1, v4] <;> omega
  have g1 : zq_ev rq (0, [(4, 1)]) = r 4 := zu_f1 v4
  exact ⟨_, List.mem_cons_self .., rq, hr, zq_MeS_mk rfl hT (zq_all_cons (by rw [g1]; exact c1) (zq_all_cons (by rw [g0]; exact c2) (zq_all_nil))) zq_fan (zq_fan) rfl zq_fan⟩
noncomputable def zm_svp : zq_S × List zq_S := (([], [], [(0, [(1, 1)]), (5, [(1, -1)]), (2147483648, [(2, 1)]), (2147483647, [(2, -1)])], [], [], [], [(131, [(0, [(0, 1)]), (0, [(1, 1)]), (0, [(2, 1)]), (0, [(3, 1)])]), (372, [(0, [(0, 1)]), (0, [(4, 1)]), (0, [(5, 1)])])], 6), [([], [], [], [], [], [], [(372, [(0, [(3, 1)]), (0, [(4, 1)]), (0, [(5, 1)])])], 6)])
theorem zm_svp_l {P : zq_Ty} {h : zq_H} {S p v T d s : Int} (a1 : 0 ≤ p) (a2 : 0 ≤ -p + 5) (a3 : 0 ≤ v + 2147483648) (a4 : 0 ≤ -v + 2147483647) (k1 : zn_PE S p v T P h) (k2 : zs_SV S d s P h) : (zs_SV T d s P h) := by
  rw [show T = zn_pe S p v from k1]
  exact zs_SV_p k2 a1 (by omega) (by unfold zn_in; omega)
theorem zm_svp_ok {w : zq_Wd} (x_PE : zj_is w 131 (fun q => zn_PE (q 0) (q 1) (q 2) (q 3))) (x_SV : zj_is w 372 (fun q => zs_SV (q 0) (q 1) (q 2))) : zq_okG1 w zm_svp := by
  refine ⟨rfl, rfl, zu_fac ⟨rfl, by decide⟩ zq_fan, ?_⟩
  intro r P h H hM
  have q0 : zq_ev r (0, [(1, 1)]) = r 1 := zu_e1 _ _
  have q1 : zq_ev r (5, [(1, -1)]) = -r 1 + 5 := zu_e5 _ _ _
  have q2 : zq_ev r (2147483648, [(2, 1)]) = r 2 + 2147483648 := zu_e2 _ _ _
  have q3 : zq_ev r (2147483647, [(2, -1)]) = -r 2 + 2147483647 := zu_e5 _ _ _
  have q4 : zq_ev r (0, [(0, 1)]) = r 0 := zu_e1 _ _
  have q5 : zq_ev r (0, [(2, 1)]) = r 2 := zu_e1 _ _
  have q6 : zq_ev r (0, [(3, 1)]) = r 3 := zu_e1 _ _
  have q7 : zq_ev r (0, [(4, 1)]) = r 4 := zu_e1 _ _
  have q8 : zq_ev r (0, [(5, 1)]) = r 5 := zu_e1 _ _
  obtain ⟨hT, hC, hF, hS, -, hK⟩ := hM
  have c := hC.1
  have a1 := zq_all_1 c
  rw [q0] at a1
  have c := zq_all_t c
  have a2 := zq_all_1 c
  rw [q1] at a2
  have c := zq_all_t c
  have a3 := zq_all_1 c
  rw [q2] at a3
  have c := zq_all_t c
  have a4 := zq_all_1 c
  rw [q3] at a4
  have k1 := zj_use x_PE (hK)
  have k1 : zn_PE (zq_ev r (0, [(0, 1)])) (zq_ev r (0, [(1, 1)])) (zq_ev r (0, [(2, 1)])) (zq_ev r (0, [(3, 1)])) P h := k1
  simp only [q0, q4, q5, q6] at k1
  have k2 := zj_use x_SV (zq_okX_t (hK))
  have k2 : zs_SV (zq_ev r (0, [(0, 1)])) (zq_ev r (0, [(4, 1)])) (zq_ev r (0, [(5, 1)])) P h := k2
  simp only [q4, q7, q8] at k2
  obtain t1 := zm_svp_l (P := P) (h := h) (S := r 0) (p := r 1) (v := r 2) (T := r 3) (d := r 4) (s := r 5) a1 a2 a3 a4 k1 k2
  obtain ⟨rq, hr⟩ : ∃ rq : Nat → Int, (∀ i, i < 6 → rq i = r i) := ⟨r, fun i hi => rfl⟩
  have v3 : rq 3 = r 3 := hr 3 (by decide)
  have v4 : rq 4 = r 4 := hr 4 (by decide)
  have v5 : rq 5 = r 5 := hr 5 (by decide)
  have g0 : zq_ev rq (0, [(3, 1)]) = r 3 := zu_f1 v3
  have g1 : zq_ev rq (0, [(4, 1)]) = r 4 := zu_f1 v4
  have g2 : zq_ev rq (0, [(5, 1)]) = r 5 := zu_f1 v5
  exact ⟨_, List.mem_cons_self .., rq, hr, zq_MeS_mk rfl hT (zq_all_nil) zq_fan (zq_fan) rfl (zu_fac ((x_SV _ _ _).mpr (by show zs_SV (zq_ev rq (0, [(3, 1)])) (zq_ev rq (0, [(4, 1)])) (zq_ev rq (0, [(5, 1)])) P h; simp only [g0, g1, g2]; exact t1)) zq_fan)⟩
noncomputable def zm_svd : zq_S × List zq_S := (([], [], [(0, [(1, 1)]), (5, [(1, -1)]), (2147483648, [(2, 1)]), (2147483647, [(2, -1)]), (2147483648, [(3, 1)]), (2147483647, [(3, -1)])], [], [], [], [(132, [(0, [(0, 1)]), (0, [(1, 1)]), (0, [(2, 1)]), (0, [(3, 1)]), (0, [(4, 1)])]), (372, [(0, [(0, 1)]), (0, [(1, 1)]), (0, [(5, 1)])])], 6), [([], [], [], [], [], [], [(372, [(0, [(4, 1)]), (1, [(1, 1)]), (0, [(5, 1)])])], 6)])
theorem zm_svd_l {P : zq_Ty} {h : zq_H} {S d a b T s : Int} (a1 : 0 ≤ d) (a2 : 0 ≤ -d + 5) (a3 : 0 ≤ a + 2147483648) (a4 : 0 ≤ -a + 2147483647) (a5 : 0 ≤ b + 2147483648) (a6 : 0 ≤ -b + 2147483647) (k1 : zn_DE S d a b T P h) (k2 : zs_SV S d s P h) : (zs_SV T (d + 1) s P h) := by
  rw [show T = zn_de S d a b from k1]
  exact zs_SV_d k2 a1 (by omega) (by unfold zn_in; omega) (by unfold zn_in; omega) (by omega)
theorem zm_svd_ok {w : zq_Wd} (x_DE : zj_is w 132 (fun q => zn_DE (q 0) (q 1) (q 2) (q 3) (q 4))) (x_SV : zj_is w 372 (fun q => zs_SV (q 0) (q 1) (q 2))) : zq_okG1 w zm_svd := by
  refine ⟨rfl, rfl, zu_fac ⟨rfl, by decide⟩ zq_fan, ?_⟩
  intro r P h H hM
  have q0 : zq_ev r (0, [(1, 1)]) = r 1 := zu_e1 _ _
  have q1 : zq_ev r (5, [(1, -1)]) = -r 1 + 5 := zu_e5 _ _ _
  have q2 : zq_ev r (2147483648, [(2, 1)]) = r 2 + 2147483648 := zu_e2 _ _ _
  have q3 : zq_ev r (2147483647, [(2, -1)]) = -r 2 + 2147483647 := zu_e5 _ _ _
  have q4 : zq_ev r (2147483648, [(3, 1)]) = r 3 + 2147483648 := zu_e2 _ _ _
  have q5 : zq_ev r (2147483647, [(3, -1)]) = -r 3 + 2147483647 := zu_e5 _ _ _
  have q6 : zq_ev r (0, [(0, 1)]) = r 0 := zu_e1 _ _
  have q7 : zq_ev r (0, [(2, 1)]) = r 2 := zu_e1 _ _
  have q8 : zq_ev r (0, [(3, 1)]) = r 3 := zu_e1 _ _
  have q9 : zq_ev r (0, [(4, 1)]) = r 4 := zu_e1 _ _
  have q10 : zq_ev r (0, [(5, 1)]) = r 5 := zu_e1 _ _
  obtain ⟨hT, hC, hF, hS, -, hK⟩ := hM
  have c := hC.1
  have a1 := zq_all_1 c
  rw [q0] at a1
  have c := zq_all_t c
  have a2 := zq_all_1 c
  rw [q1] at a2
  have c := zq_all_t c
  have a3 := zq_all_1 c
  rw [q2] at a3
  have c := zq_all_t c
  have a4 := zq_all_1 c
  rw [q3] at a4
  have c := zq_all_t c
  have a5 := zq_all_1 c
  rw [q4] at a5
  have c := zq_all_t c
  have a6 := zq_all_1 c
  rw [q5] at a6
  have k1 := zj_use x_DE (hK)
  have k1 : zn_DE (zq_ev r (0, [(0, 1)])) (zq_ev r (0, [(1, 1)])) (zq_ev r (0, [(2, 1)])) (zq_ev r (0, [(3, 1)])) (zq_ev r (0, [(4, 1)])) P h := k1
  simp only [q0, q6, q7, q8, q9] at k1
  have k2 := zj_use x_SV (zq_okX_t (hK))
  have k2 : zs_SV (zq_ev r (0, [(0, 1)])) (zq_ev r (0, [(1, 1)])) (zq_ev r (0, [(5, 1)])) P h := k2
  simp only [q0, q10, q6] at k2
  obtain t1 := zm_svd_l (P := P) (h := h) (S := r 0) (d := r 1) (a := r 2) (b := r 3) (T := r 4) (s := r 5) a1 a2 a3 a4 a5 a6 k1 k2
  obtain ⟨rq, hr⟩ : ∃ rq : Nat → Int, (∀ i, i < 6 → rq i = r i) := ⟨r, fun i hi => rfl⟩
  have v1 : rq 1 = r 1 := hr 1 (by decide)
  have v4 : rq 4 = r 4 := hr 4 (by decide)
  have v5 : rq 5 = r 5 := hr 5 (by decide)
  have g0 : zq_ev rq (0, [(4, 1)]) = r 4 := zu_f1 v4
  have g1 : zq_ev rq (1, [(1, 1)]) = r 1 + 1 := zu_f2 v1 _
  have g2 : zq_ev rq (0, [(5, 1)]) = r 5 := zu_f1 v5
  exact ⟨_, List.mem_cons_self .., rq, hr, zq_MeS_mk rfl hT (zq_all_nil) zq_fan (zq_fan) rfl (zu_fac ((x_SV _ _ _).mpr (by show zs_SV (zq_ev rq (0, [(4, 1)])) (zq_ev rq (1, [(1, 1)])) (zq_ev rq (0, [(5, 1)])) P h; simp only [g0, g1, g2]; exact t1)) zq_fan)⟩
noncomputable def zm_svs : zq_S × List zq_S := (([], [], [(0, [(1, 1)]), (0, [(3, 1)]), (-1, [(3, -1), (7, 1)]), (2147483648, [(2, 1)]), (2147483647, [(2, -1)]), (2147483648, [(3, 1)]), (2147483647, [(3, -1)]), (2147483648, [(4, 1)]), (2147483647, [(4, -1)]), (2147483648, [(5, 1)]), (2147483647, [(5, -1)])], [], [], [], [(133, [(0, [(0, 1)]), (0, [(1, 1)]), (0, [(2, 1)]), (0, [(3, 1)]), (0, [(4, 1)]), (0, [(5, 1)]), (0, [(6, 1)])]), (372, [(0, [(0, 1)]), (0, [(7, 1)]), (0, [(1, 1)])])], 8), [([], [], [], [], [], [], [(372, [(0, [(6, 1)]), (0, [(7, 1)]), (1, [(1, 1)])])], 8)])
theorem zm_svs_l {P : zq_Ty} {h : zq_H} {S s x y z w T d : Int} (a1 : 0 ≤ s) (a2 : 0 ≤ y) (a3 : 0 ≤ -y + d - 1) (a4 : 0 ≤ x + 2147483648) (a5 : 0 ≤ -x + 2147483647) (a6 : 0 ≤ y + 2147483648) (a7 : 0 ≤ -y + 2147483647) (a8 : 0 ≤ z + 2147483648) (a9 : 0 ≤ -z + 2147483647) (a10 : 0 ≤ w + 2147483648) (a11 : 0 ≤ -w + 2147483647) (k1 : zn_SI S s x y z w T P h) (k2 : zs_SV S d s P h) : (zs_SV T d (s + 1) P h) := by
  rw [show T = zn_sg S s x y z w from k1]
  exact zs_SV_s k2 a1 a2 (by omega) (by unfold zn_in; omega) (by unfold zn_in; omega) (by unfold zn_in; omega) (by unfold zn_in; omega)
theorem zm_svs_ok {w : zq_Wd} (x_SI : zj_is w 133 (fun q => zn_SI (q 0) (q 1) (q 2) (q 3) (q 4) (q 5) (q 6))) (x_SV : zj_is w 372 (fun q => zs_SV (q 0) (q 1) (q 2))) : zq_okG1 w zm_svs := by
  refine ⟨rfl, rfl, zu_fac ⟨rfl, by decide⟩ zq_fan, ?_⟩
  intro r P h H hM
  have q0 : zq_ev r (0, [(1, 1)]) = r 1 := zu_e1 _ _
  have q1 : zq_ev r (0, [(3, 1)]) = r 3 := zu_e1 _ _
  have q2 : zq_ev r (-1, [(3, -1), (7, 1)]) = -r 3 + r 7 - 1 := by simp only [zq_ev, zq_ts] <;> omega
  have q3 : zq_ev r (2147483648, [(2, 1)]) = r 2 + 2147483648 := zu_e2 _ _ _
  have q4 : zq_ev r (2147483647, [(2, -1)]) = -r 2 + 2147483647 := zu_e5 _ _ _
  have q5 : zq_ev r (2147483648, [(3, 1)]) = r 3 + 2147483648 := zu_e2 _ _ _
  have q6 : zq_ev r (2147483647, [(3, -1)]) = -r 3 + 2147483647 := zu_e5 _ _ _
  have q7 : zq_ev r (2147483648, [(4, 1)]) = r 4 + 2147483648 := zu_e2 _ _ _
  have q8 : zq_ev r (2147483647, [(4, -1)]) = -r 4 + 2147483647 := zu_e5 _ _ _
  have q9 : zq_ev r (2147483648, [(5, 1)]) = r 5 + 2147483648 := zu_e2 _ _ _
  have q10 : zq_ev r (2147483647, [(5, -1)]) = -r 5 + 2147483647 := zu_e5 _ _ _
  have q11 : zq_ev r (0, [(0, 1)]) = r 0 := zu_e1 _ _
  have q12 : zq_ev r (0, [(2, 1)]) = r 2 := zu_e1 _ _
  have q13 : zq_ev r (0, [(4, 1)]) = r 4 := zu_e1 _ _
  have q14 : zq_ev r (0, [(5, 1)]) = r 5 := zu_e1 _ _
  have q15 : zq_ev r (0, [(6, 1)]) = r 6 := zu_e1 _ _
  have q16 : zq_ev r (0, [(7, 1)]) = r 7 := zu_e1 _ _
  obtain ⟨hT, hC, hF, hS, -, hK⟩ := hM
  have c := hC.1
  have a1 := zq_all_1 c
  rw [q0] at a1
  have c := zq_all_t c
  have a2 := zq_all_1 c
  rw [q1] at a2
  have c := zq_all_t c
  have a3 := zq_all_1 c
  rw [q2] at a3
  have c := zq_all_t c
  have a4 := zq_all_1 c
  rw [q3] at a4
  have c := zq_all_t c
  have a5 := zq_all_1 c
  rw [q4] at a5
  have c := zq_all_t c
  have a6 := zq_all_1 c
  rw [q5] at a6
  have c := zq_all_t c
  have a7 := zq_all_1 c
  rw [q6] at a7
  have c := zq_all_t c
  have a8 := zq_all_1 c
  rw [q7] at a8
  have c := zq_all_t c
  have a9 := zq_all_1 c
  rw [q8] at a9
  have c := zq_all_t c
  have a10 := zq_all_1 c
  rw [q9] at a10
  have c := zq_all_t c
  have a11 := zq_all_1 c
  rw [q10] at a11
  have k1 := zj_use x_SI (hK)
  have k1 : zn_SI (zq_ev r (0, [(0, 1)])) (zq_ev r (0, [(1, 1)])) (zq_ev r (0, [(2, 1)])) (zq_ev r (0, [(3, 1)])) (zq_ev r (0, [(4, 1)])) (zq_ev r (0, [(5, 1)])) (zq_ev r (0, [(6, 1)])) P h := k1
  simp only [q0, q1, q11, q12, q13, q14, q15] at k1
  have k2 := zj_use x_SV (zq_okX_t (hK))
  have k2 : zs_SV (zq_ev r (0, [(0, 1)])) (zq_ev r (0, [(7, 1)])) (zq_ev r (0, [(1, 1)])) P h := k2
  simp only [q0, q11, q16] at k2
  obtain t1 := zm_svs_l (P := P) (h := h) (S := r 0) (s := r 1) (x := r 2) (y := r 3) (z := r 4) (w := r 5) (T := r 6) (d := r 7) a1 a2 a3 a4 a5 a6 a7 a8 a9 a10 a11 k1 k2
  obtain ⟨rq, hr⟩ : ∃ rq : Nat → Int, (∀ i, i < 8 → rq i = r i) := ⟨r, fun i hi => rfl⟩
  have v1 : rq 1 = r 1 := hr 1 (by decide)
  have v6 : rq 6 = r 6 := hr 6 (by decide)
  have v7 : rq 7 = r 7 := hr 7 (by decide)
  have g0 : zq_ev rq (0, [(6, 1)]) = r 6 := zu_f1 v6
  have g1 : zq_ev rq (0, [(7, 1)]) = r 7 := zu_f1 v7
  have g2 : zq_ev rq (1, [(1, 1)]) = r 1 + 1 := zu_f2 v1 _
  exact ⟨_, List.mem_cons_self .., rq, hr, zq_MeS_mk rfl hT (zq_all_nil) zq_fan (zq_fan) rfl (zu_fac ((x_SV _ _ _).mpr (by show zs_SV (zq_ev rq (0, [(6, 1)])) (zq_ev rq (0, [(7, 1)])) (zq_ev rq (1, [(1, 1)])) P h; simp only [g0, g1, g2]; exact t1)) zq_fan)⟩
noncomputable def zm_svf : zq_S × List zq_S := (([], [], [], [], [], [], [(372, [(0, [(0, 1)]), (0, [(1, 1)]), (0, [(2, 1)])])], 3), [([], [], [], [], [], [], [(372, [(0, [(0, 1)]), (0, [(1, 1)]), (0, [])])], 3)])
theorem zm_svf_l {P : zq_Ty} {h : zq_H} {S d s : Int} (k1 : zs_SV S d s P h) : (zs_SV S d 0 P h) := by
  exact ⟨k1.1, fun i x y => by omega⟩
theorem zm_svf_ok {w : zq_Wd} (x_SV : zj_is w 372 (fun q => zs_SV (q 0) (q 1) (q 2))) : zq_okG1 w zm_svf := by
  refine ⟨rfl, rfl, zu_fac ⟨rfl, by decide⟩ zq_fan, ?_⟩
  intro r P h H hM
  have q0 : zq_ev r (0, [(0, 1)]) = r 0 := zu_e1 _ _
  have q1 : zq_ev r (0, [(1, 1)]) = r 1 := zu_e1 _ _
  have q2 : zq_ev r (0, [(2, 1)]) = r 2 := zu_e1 _ _
  obtain ⟨hT, hC, hF, hS, -, hK⟩ := hM
  have c := hC.1
  have k1 := zj_use x_SV (hK)
  have k1 : zs_SV (zq_ev r (0, [(0, 1)])) (zq_ev r (0, [(1, 1)])) (zq_ev r (0, [(2, 1)])) P h := k1
  simp only [q0, q1, q2] at k1
  obtain t1 := zm_svf_l (P := P) (h := h) (S := r 0) (d := r 1) (s := r 2) k1
  obtain ⟨rq, hr⟩ : ∃ rq : Nat → Int, (∀ i, i < 3 → rq i = r i) := ⟨r, fun i hi => rfl⟩
  have v0 : rq 0 = r 0 := hr 0 (by decide)
  have v1 : rq 1 = r 1 := hr 1 (by decide)
  have g0 : zq_ev rq (0, [(0, 1)]) = r 0 := zu_f1 v0
  have g1 : zq_ev rq (0, [(1, 1)]) = r 1 := zu_f1 v1
  have g2 : zq_ev rq (0, []) = 0 := zu_e0 _ _
  exact ⟨_, List.mem_cons_self .., rq, hr, zq_MeS_mk rfl hT (zq_all_nil) zq_fan (zq_fan) rfl (zu_fac ((x_SV _ _ _).mpr (by show zs_SV (zq_ev rq (0, [(0, 1)])) (zq_ev rq (0, [(1, 1)])) (zq_ev rq (0, [])) P h; simp only [g0, g1, g2]; exact t1)) zq_fan)⟩
noncomputable def zm_svt : zq_S × List zq_S := (([], [], [], [], [], [], [(372, [(0, [(0, 1)]), (0, [(1, 1)]), (0, [(2, 1)])]), (154, [(0, [(3, 1)]), (0, [(4, 1)]), (0, [(1, 1)]), (0, [(0, 1)]), (0, [(5, 1)]), (0, [(6, 1)])])], 7), [([], [], [], [], [], [], [(372, [(0, [(6, 1)]), (0, [(1, 1), (5, 1)]), (0, [(2, 1)])])], 7)])
theorem zm_svt_l {P : zq_Ty} {h : zq_H} {S d s b n c T : Int} (k1 : zs_SV S d s P h) (k2 : zn_RT 95 b n d S c T P h) : (zs_SV T (d + c) s P h) := by
  have z := zs_SV_r k1 k2
  exact z
theorem zm_svt_ok {w : zq_Wd} (x_SV : zj_is w 372 (fun q => zs_SV (q 0) (q 1) (q 2))) (x_RTc : zj_is w 154 (fun q => zn_RT 95 (q 0) (q 1) (q 2) (q 3) (q 4) (q 5))) : zq_okG1 w zm_svt := by
  refine ⟨rfl, rfl, zu_fac ⟨rfl, by decide⟩ zq_fan, ?_⟩
  intro r P h H hM
  have q0 : zq_ev r (0, [(0, 1)]) = r 0 := zu_e1 _ _
  have q1 : zq_ev r (0, [(1, 1)]) = r 1 := zu_e1 _ _
  have q2 : zq_ev r (0, [(2, 1)]) = r 2 := zu_e1 _ _
  have q3 : zq_ev r (0, [(3, 1)]) = r 3 := zu_e1 _ _
  have q4 : zq_ev r (0, [(4, 1)]) = r 4 := zu_e1 _ _
  have q5 : zq_ev r (0, [(5, 1)]) = r 5 := zu_e1 _ _
  have q6 : zq_ev r (0, [(6, 1)]) = r 6 := zu_e1 _ _
  obtain ⟨hT, hC, hF, hS, -, hK⟩ := hM
  have c := hC.1
  have k1 := zj_use x_SV (hK)
  have k1 : zs_SV (zq_ev r (0, [(0, 1)])) (zq_ev r (0, [(1, 1)])) (zq_ev r (0, [(2, 1)])) P h := k1
  simp only [q0, q1, q2] at k1
  have k2 := zj_use x_RTc (zq_okX_t (hK))
  have k2 : zn_RT 95 (zq_ev r (0, [(3, 1)])) (zq_ev r (0, [(4, 1)])) (zq_ev r (0, [(1, 1)])) (zq_ev r (0, [(0, 1)])) (zq_ev r (0, [(5, 1)])) (zq_ev r (0, [(6, 1)])) P h := k2
  simp only [q0, q1, q3, q4, q5, q6] at k2
  obtain t1 := zm_svt_l (P := P) (h := h) (S := r 0) (d := r 1) (s := r 2) (b := r 3) (n := r 4) (c := r 5) (T := r 6) k1 k2
  obtain ⟨rq, hr⟩ : ∃ rq : Nat → Int, (∀ i, i < 7 → rq i = r i) := ⟨r, fun i hi => rfl⟩
  have v1 : rq 1 = r 1 := hr 1 (by decide)
  have v2 : rq 2 = r 2 := hr 2 (by decide)
  have v5 : rq 5 = r 5 := hr 5 (by decide)
  have v6 : rq 6 = r 6 := hr 6 (by decide)
  have g0 : zq_ev rq (0, [(6, 1)]) = r 6 := zu_f1 v6
  have g1 : zq_ev rq (0, [(1, 1), (5, 1)]) = r 1 + r 5 := by simp only [zq_ev, zq_ts, v1, v2, v5, v6] <;> omega
  have g2 : zq_ev rq (0, [(2, 1)]) = r 2 := zu_f1 v2
  exact ⟨_, List.mem_cons_self .., rq, hr, zq_MeS_mk rfl hT (zq_all_nil) zq_fan (zq_fan) rfl (zu_fac ((x_SV _ _ _).mpr (by show zs_SV (zq_ev rq (0, [(6, 1)])) (zq_ev rq (0, [(1, 1), (5, 1)])) (zq_ev rq (0, [(2, 1)])) P h; simp only [g0, g1, g2]; exact t1)) zq_fan)⟩
noncomputable def zm_lrs : zq_S × List zq_S := (([], [], [(0, [(8, 1)]), (-1, [(6, 1), (8, -1)])], [], [((0, [(3, 1)]), (1, [(8, 4)]), (0, [(9, 1)]))], [], [(140, [(0, [(0, 1)]), (0, [(1, 1)]), (0, [(2, 1)]), (0, [(3, 1)]), (0, [(4, 1)]), (0, [(5, 1)]), (0, [(6, 1)]), (0, [(7, 1)])])], 10), [([], [], [], [], [], [], [(134, [(0, [(7, 1)]), (19, [(8, 4)]), (0, [(9, 1)])])], 10)])
theorem zm_lrs_l {P : zq_Ty} {h : zq_H} {sg kn wt si p d s S i v : Int} (a1 : 0 ≤ i) (a2 : 0 ≤ s - i - 1) (s1 : 0 ≤ si ∧ P (si).toNat ≠ none ∧ h (si).toNat (4 * i + 1) = v) (k1 : zn_LA 35 sg kn wt si p d s S P h) : (zn_DG S (4 * i + 19) v P h) := by
  obtain ⟨_, _, _, _, _, _, _, _, z⟩ := k1
  have q := z (4 * i + 1) (by omega) (by omega)
  try dsimp only at q
  try simp only [Int.zero_add] at q
  rw [s1.2.2, show 18 + (4 * i + 1) = 4 * i + 19 by omega] at q
  exact q
theorem zm_lrs_ok {w : zq_Wd} (x_LA : zj_is w 140 (fun q => zn_LA 35 (q 0) (q 1) (q 2) (q 3) (q 4) (q 5) (q 6) (q 7))) (x_DG : zj_is w 134 (fun q => zn_DG (q 0) (q 1) (q 2))) : zq_okG1 w zm_lrs := by
  refine ⟨rfl, rfl, zu_fac ⟨rfl, by decide⟩ zq_fan, ?_⟩
  intro r P h H hM
  have q0 : zq_ev r (0, [(8, 1)]) = r 8 := zu_e1 _ _
  have q1 : zq_ev r (-1, [(6, 1), (8, -1)]) = r 6 - r 8 - 1 := by simp only [zq_ev, zq_ts] <;> omega
  have q2 : zq_ev r (0, [(3, 1)]) = r 3 := zu_e1 _ _
  have q3 : zq_ev r (1, [(8, 4)]) = 4 * r 8 + 1 := by simp only [zq_ev, zq_ts] <;> omega
  have q4 : zq_ev r (0, [(9, 1)]) = r 9 := zu_e1 _ _
  have q5 : zq_ev r (0, [(0, 1)]) = r 0 := zu_e1 _ _
  have q6 : zq_ev r (0, [(1, 1)]) = r 1 := zu_e1 _ _
  have q7 : zq_ev r (0, [(2, 1)]) = r 2 := zu_e1 _ _
  have q8 : zq_ev r (0, [(4, 1)]) = r 4 := zu_e1 _ _
  have q9 : zq_ev r (0, [(5, 1)]) = r 5 := zu_e1 _ _
  have q10 : zq_ev r (0, [(6, 1)]) = r 6 := zu_e1 _ _
  have q11 : zq_ev r (0, [(7, 1)]) = r 7 := zu_e1 _ _
  obtain ⟨hT, hC, hF, hS, -, hK⟩ := hM
  have c := hC.1
  have a1 := zq_all_1 c
  rw [q0] at a1
  have c := zq_all_t c
  have a2 := zq_all_1 c
  rw [q1] at a2
  have s1 := zq_okS_1 (hS)
  simp only [q2, q3, q4] at s1
  have k1 := zj_use x_LA (hK)
  have k1 : zn_LA 35 (zq_ev r (0, [(0, 1)])) (zq_ev r (0, [(1, 1)])) (zq_ev r (0, [(2, 1)])) (zq_ev r (0, [(3, 1)])) (zq_ev r (0, [(4, 1)])) (zq_ev r (0, [(5, 1)])) (zq_ev r (0, [(6, 1)])) (zq_ev r (0, [(7, 1)])) P h := k1
  simp only [q10, q11, q2, q5, q6, q7, q8, q9] at k1
  obtain t1 := zm_lrs_l (P := P) (h := h) (sg := r 0) (kn := r 1) (wt := r 2) (si := r 3) (p := r 4) (d := r 5) (s := r 6) (S := r 7) (i := r 8) (v := r 9) a1 a2 s1 k1
  obtain ⟨rq, hr⟩ : ∃ rq : Nat → Int, (∀ i, i < 10 → rq i = r i) := ⟨r, fun i hi => rfl⟩
  have v7 : rq 7 = r 7 := hr 7 (by decide)
  have v8 : rq 8 = r 8 := hr 8 (by decide)
  have v9 : rq 9 = r 9 := hr 9 (by decide)
  have g0 : zq_ev rq (0, [(7, 1)]) = r 7 := zu_f1 v7
  have g1 : zq_ev rq (19, [(8, 4)]) = 4 * r 8 + 19 := by simp only [zq_ev, zq_ts, v7, v8, v9] <;> omega
  have g2 : zq_ev rq (0, [(9, 1)]) = r 9 := zu_f1 v9
  exact ⟨_, List.mem_cons_self .., rq, hr, zq_MeS_mk rfl hT (zq_all_nil) zq_fan (zq_fan) rfl (zu_fac ((x_DG _ _ _).mpr (by show zn_DG (zq_ev rq (0, [(7, 1)])) (zq_ev rq (19, [(8, 4)])) (zq_ev rq (0, [(9, 1)])) P h; simp only [g0, g1, g2]; exact t1)) zq_fan)⟩
noncomputable def zm_krs : zq_S × List zq_S := (([], [], [(0, [(5, 1)]), (-1, [(3, 1), (5, -1)])], [], [((0, [(0, 1)]), (34, [(5, 4)]), (0, [(6, 1)]))], [], [(148, [(0, [(0, 1)]), (0, [(1, 1)]), (0, [(2, 1)]), (0, [(3, 1)]), (0, [(4, 1)])])], 7), [([], [], [], [], [], [], [(134, [(0, [(4, 1)]), (19, [(5, 4)]), (0, [(6, 1)])])], 7)])
theorem zm_krs_l {P : zq_Ty} {h : zq_H} {a p d s S i v : Int} (a1 : 0 ≤ i) (a2 : 0 ≤ s - i - 1) (s1 : 0 ≤ a ∧ P (a).toNat ≠ none ∧ h (a).toNat (4 * i + 34) = v) (k1 : zn_KA 1 0 a p d s S P h) : (zn_DG S (4 * i + 19) v P h) := by
  obtain ⟨_, _, _, _, _, z⟩ := k1
  have q := z (4 * i + 1) (by omega) (by omega)
  try dsimp only at q
  rw [show (0 : Int) + 33 + (4 * i + 1) = 4 * i + 34 by omega, s1.2.2, show 18 + (4 * i + 1) = 4 * i + 19 by omega] at q
  exact q
theorem zm_krs_ok {w : zq_Wd} (x_KA : zj_is w 148 (fun q => zn_KA 1 0 (q 0) (q 1) (q 2) (q 3) (q 4))) (x_DG : zj_is w 134 (fun q => zn_DG (q 0) (q 1) (q 2))) : zq_okG1 w zm_krs := by
  refine ⟨rfl, rfl, zu_fac ⟨rfl, by decide⟩ zq_fan, ?_⟩
  intro r P h H hM
  have q0 : zq_ev r (0, [(5, 1)]) = r 5 := zu_e1 _ _
  have q1 : zq_ev r (-1, [(3, 1), (5, -1)]) = r 3 - r 5 - 1 := by simp only [zq_ev, zq_ts] <;> omega
  have q2 : zq_ev r (0, [(0, 1)]) = r 0 := zu_e1 _ _
  have q3 : zq_ev r (34, [(5, 4)]) = 4 * r 5 + 34 := by simp only [zq_ev, zq_ts] <;> omega
  have q4 : zq_ev r (0, [(6, 1)]) = r 6 := zu_e1 _ _
  have q5 : zq_ev r (0, [(1, 1)]) = r 1 := zu_e1 _ _
  have q6 : zq_ev r (0, [(2, 1)]) = r 2 := zu_e1 _ _
  have q7 : zq_ev r (0, [(3, 1)]) = r 3 := zu_e1 _ _
  have q8 : zq_ev r (0, [(4, 1)]) = r 4 := zu_e1 _ _
  obtain ⟨hT, hC, hF, hS, -, hK⟩ := hM
  have c := hC.1
  have a1 := zq_all_1 c
  rw [q0] at a1
  have c := zq_all_t c
  have a2 := zq_all_1 c
  rw [q1] at a2
  have s1 := zq_okS_1 (hS)
  simp only [q2, q3, q4] at s1
  have k1 := zj_use x_KA (hK)
  have k1 : zn_KA 1 0 (zq_ev r (0, [(0, 1)])) (zq_ev r (0, [(1, 1)])) (zq_ev r (0, [(2, 1)])) (zq_ev r (0, [(3, 1)])) (zq_ev r (0, [(4, 1)])) P h := k1
  simp only [q2, q5, q6, q7, q8] at k1
  obtain t1 := zm_krs_l (P := P) (h := h) (a := r 0) (p := r 1) (d := r 2) (s := r 3) (S := r 4) (i := r 5) (v := r 6) a1 a2 s1 k1
  obtain ⟨rq, hr⟩ : ∃ rq : Nat → Int, (∀ i, i < 7 → rq i = r i) := ⟨r, fun i hi => rfl⟩
  have v4 : rq 4 = r 4 := hr 4 (by decide)
  have v5 : rq 5 = r 5 := hr 5 (by decide)
  have v6 : rq 6 = r 6 := hr 6 (by decide)
  have g0 : zq_ev rq (0, [(4, 1)]) = r 4 := zu_f1 v4
  have g1 : zq_ev rq (19, [(5, 4)]) = 4 * r 5 + 19 := by simp only [zq_ev, zq_ts, v4, v5, v6] <;> omega
  have g2 : zq_ev rq (0, [(6, 1)]) = r 6 := zu_f1 v6
  exact ⟨_, List.mem_cons_self .., rq, hr, zq_MeS_mk rfl hT (zq_all_nil) zq_fan (zq_fan) rfl (zu_fac ((x_DG _ _ _).mpr (by show zn_DG (zq_ev rq (0, [(4, 1)])) (zq_ev rq (19, [(5, 4)])) (zq_ev rq (0, [(6, 1)])) P h; simp only [g0, g1, g2]; exact t1)) zq_fan)⟩
