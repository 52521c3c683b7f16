/-! WHAT A LAND HOLDS: facts -/
noncomputable def zn_E (N kd ks : Nat) (a b : Int) (P : zq_Ty) (h : zq_H) : Prop := zj_EN N kd ks (zq_en [a, b]) P h
noncomputable def zn_C7 (a b o j : Int) (P : zq_Ty) (h : zq_H) : Prop := zx_7 (zq_en [a, b, o, j]) P h
noncomputable def zn_Tc (k : Nat) (a n g : Int) (P : zq_Ty) (h : zq_H) : Prop := zt_TC k (zq_en [a, n, g]) P h
theorem zn_ad1 {f : Int → Int} {n d c q x y : Int} (e1 : f (2 * q) = x) (e2 : f (2 * q + 1) = y) (h1 : 2 * q + 1 < n) (h2 : d + c < 6) (a1 : 0 ≤ x) (a2 : x ≤ 3) (a3 : 1 ≤ y) (a4 : y ≤ 9) : zt_ad f n d c q = 1 := by
  unfold zt_ad
  rw [e1, e2, if_pos ⟨h1, h2, by omega, by omega, by omega⟩]
theorem zn_RS_2 {k : Nat} {b n d i c S T : Int} {P : zq_Ty} {h : zq_H} (z : zn_RS k b n d i c S T P h) (e : zt_ad (h b.toNat) n d c (i / 2) ≠ 1) : zn_RS k b n d (i + 2) c S T P h := by
  obtain ⟨z1, z2, z3, z4, z5, z6, z7, z8⟩ := z
  have e2 : ((i + 2) / 2).toNat = (i / 2).toNat + 1 := by omega
  have e3 : (((i / 2).toNat : Nat) : Int) = i / 2 := by omega
  have e0 : zt_ad (h b.toNat) n d c (i / 2) = 0 := by
    unfold zt_ad at e ⊢
    split
    · rename_i q; rw [if_pos q] at e; omega
    · rfl
  refine ⟨z1, z2, z3, z4, by omega, by omega, ?_, ?_⟩
  · rw [e2]
    show c = zt_rc (h b.toNat) n d (i / 2).toNat + zt_ad (h b.toNat) n d (zt_rc (h b.toNat) n d (i / 2).toNat) (((i / 2).toNat : Nat) : Int)
    rw [← z7, e3, e0]; omega
  · rw [e2]
    show T = if zt_ad (h b.toNat) n d (zt_rc (h b.toNat) n d (i / 2).toNat) (((i / 2).toNat : Nat) : Int) = 1 then _ else zn_rS (h b.toNat) n d S (i / 2).toNat
    rw [← z7, e3, if_neg e]; exact z8
noncomputable def zn_L0_0 : zq_S × List zq_S := (([], [], [(0, [(0, 1)]), (0, [(1, 1)]), (0, [(2, 1)]), (0, [(3, 1)])], [((0, [(0, 1)]), 35), ((0, [(1, 1)]), 37), ((0, [(2, 1)]), 38), ((0, [(3, 1)]), 41)], [], [], [], 4), [([], [], [], [], [], [], [(140, [(0, [(0, 1)]), (0, [(1, 1)]), (0, [(2, 1)]), (0, [(3, 1)]), (0, []), (0, []), (0, []), (0, [])])], 4)])
theorem zn_L0_0_l {P : zq_Ty} {h : zq_H} {sg kn wt si : Int} (a1 : 0 ≤ sg) (a2 : 0 ≤ kn) (a3 : 0 ≤ wt) (a4 : 0 ≤ si) (b1 : 0 ≤ sg → P (sg).toNat = some 35) (b2 : 0 ≤ kn → P (kn).toNat = some 37) (b3 : 0 ≤ wt → P (wt).toNat = some 38) (b4 : 0 ≤ si → P (si).toNat = some 41) : (zn_LA 35 sg kn wt si 0 0 0 0 P h) := by
  exact ⟨⟨a1, b1 a1⟩, ⟨a2, b2 a2⟩, ⟨a3, b3 a3⟩, ⟨a4, b4 a4⟩, zn_cn_0⟩
theorem zn_L0_0_ok {w : zq_Wd} (x_LA0 : zj_is w 140 (fun q => zn_LA 35 (q 0) (q 1) (q 2) (q 3) (q 4) (q 5) (q 6) (q 7))) : zq_okG1 w zn_L0_0 := by
  refine ⟨rfl, rfl, zu_fac ⟨rfl, by decide⟩ zq_fan, ?_⟩
  intro r P h H hM
  have q0 : zq_ev r (0, [(0, 1)]) = r 0 := zu_e1 _ _
  have q1 : zq_ev r (0, [(1, 1)]) = r 1 := zu_e1 _ _
  have q2 : zq_ev r (0, [(2, 1)]) = r 2 := zu_e1 _ _
  have q3 : zq_ev r (0, [(3, 1)]) = r 3 := zu_e1 _ _
  obtain ⟨hT, hC, hF, hS, -, hK⟩ := hM
  have c := hC.1
  have a1 := zq_all_1 c
  rw [q0] at a1
  have c := zq_all_t c
  have a2 := zq_all_1 c
  rw [q1] at a2
  have c := zq_all_t c
  have a3 := zq_all_1 c
  rw [q2] at a3
  have c := zq_all_t c
  have a4 := zq_all_1 c
  rw [q3] at a4
  have b1 : 0 ≤ r 0 → P (r 0).toNat = some 35 := fun z => by
    have z1 : 0 ≤ zq_ev r (0, [(0, 1)]) := by rw [q0]; exact z
    have z2 := zq_okF_1 (hF) z1
    simp only [q0] at z2
    exact z2
  have b2 : 0 ≤ r 1 → P (r 1).toNat = some 37 := fun z => by
    have z1 : 0 ≤ zq_ev r (0, [(1, 1)]) := by rw [q1]; exact z
    have z2 := zq_okF_1 (zq_okF_t (hF)) z1
    simp only [q1] at z2
    exact z2
  have b3 : 0 ≤ r 2 → P (r 2).toNat = some 38 := fun z => by
    have z1 : 0 ≤ zq_ev r (0, [(2, 1)]) := by rw [q2]; exact z
    have z2 := zq_okF_1 (zq_okF_t (zq_okF_t (hF))) z1
    simp only [q2] at z2
    exact z2
  have b4 : 0 ≤ r 3 → P (r 3).toNat = some 41 := fun z => by
    have z1 : 0 ≤ zq_ev r (0, [(3, 1)]) := by rw [q3]; exact z
    have z2 := zq_okF_1 (zq_okF_t (zq_okF_t (zq_okF_t (hF)))) z1
    simp only [q3] at z2
    exact z2
  obtain t1 := zn_L0_0_l (P := P) (h := h) (sg := r 0) (kn := r 1) (wt := r 2) (si := r 3) a1 a2 a3 a4 b1 b2 b3 b4
  obtain ⟨rq, hr⟩ : ∃ rq : Nat → Int, (∀ i, i < 4 → rq i = r i) := ⟨r, fun i hi => rfl⟩
  have v0 : rq 0 = r 0 := hr 0 (by decide)
  have v1 : rq 1 = r 1 := hr 1 (by decide)
  have v2 : rq 2 = r 2 := hr 2 (by decide)
  have v3 : rq 3 = r 3 := hr 3 (by decide)
  have g0 : zq_ev rq (0, [(0, 1)]) = r 0 := zu_f1 v0
  have g1 : zq_ev rq (0, [(1, 1)]) = r 1 := zu_f1 v1
  have g2 : zq_ev rq (0, [(2, 1)]) = r 2 := zu_f1 v2
  have g3 : zq_ev rq (0, [(3, 1)]) = r 3 := zu_f1 v3
  have g4 : zq_ev rq (0, []) = 0 := zu_e0 _ _
  exact ⟨_, List.mem_cons_self .., rq, hr, zq_MeS_mk rfl hT (zq_all_nil) zq_fan (zq_fan) rfl (zu_fac ((x_LA0 _ _ _).mpr (by show zn_LA 35 (zq_ev rq (0, [(0, 1)])) (zq_ev rq (0, [(1, 1)])) (zq_ev rq (0, [(2, 1)])) (zq_ev rq (0, [(3, 1)])) (zq_ev rq (0, [])) (zq_ev rq (0, [])) (zq_ev rq (0, [])) (zq_ev rq (0, [])) P h; simp only [g0, g1, g2, g3, g4]; exact t1)) zq_fan)⟩
noncomputable def zn_L0_2 : zq_S × List zq_S := (([], [], [(0, [(0, 1)]), (0, [(1, 1)]), (0, [(2, 1)]), (0, [(3, 1)])], [((0, [(0, 1)]), 65), ((0, [(1, 1)]), 67), ((0, [(2, 1)]), 68), ((0, [(3, 1)]), 71)], [], [], [], 4), [([], [], [], [], [], [], [(142, [(0, [(0, 1)]), (0, [(1, 1)]), (0, [(2, 1)]), (0, [(3, 1)]), (0, []), (0, []), (0, []), (0, [])])], 4)])
theorem zn_L0_2_l {P : zq_Ty} {h : zq_H} {sg kn wt si : Int} (a1 : 0 ≤ sg) (a2 : 0 ≤ kn) (a3 : 0 ≤ wt) (a4 : 0 ≤ si) (b1 : 0 ≤ sg → P (sg).toNat = some 65) (b2 : 0 ≤ kn → P (kn).toNat = some 67) (b3 : 0 ≤ wt → P (wt).toNat = some 68) (b4 : 0 ≤ si → P (si).toNat = some 71) : (zn_LA 65 sg kn wt si 0 0 0 0 P h) := by
  exact ⟨⟨a1, b1 a1⟩, ⟨a2, b2 a2⟩, ⟨a3, b3 a3⟩, ⟨a4, b4 a4⟩, zn_cn_0⟩
theorem zn_L0_2_ok {w : zq_Wd} (x_LA2 : zj_is w 142 (fun q => zn_LA 65 (q 0) (q 1) (q 2) (q 3) (q 4) (q 5) (q 6) (q 7))) : zq_okG1 w zn_L0_2 := by
  refine ⟨rfl, rfl, zu_fac ⟨rfl, by decide⟩ zq_fan, ?_⟩
  intro r P h H hM
  have q0 : zq_ev r (0, [(0, 1)]) = r 0 := zu_e1 _ _
  have q1 : zq_ev r (0, [(1, 1)]) = r 1 := zu_e1 _ _
  have q2 : zq_ev r (0, [(2, 1)]) = r 2 := zu_e1 _ _
  have q3 : zq_ev r (0, [(3, 1)]) = r 3 := zu_e1 _ _
  obtain ⟨hT, hC, hF, hS, -, hK⟩ := hM
  have c := hC.1
  have a1 := zq_all_1 c
  rw [q0] at a1
  have c := zq_all_t c
  have a2 := zq_all_1 c
  rw [q1] at a2
  have c := zq_all_t c
  have a3 := zq_all_1 c
  rw [q2] at a3
  have c := zq_all_t c
  have a4 := zq_all_1 c
  rw [q3] at a4
  have b1 : 0 ≤ r 0 → P (r 0).toNat = some 65 := fun z => by
    have z1 : 0 ≤ zq_ev r (0, [(0, 1)]) := by rw [q0]; exact z
    have z2 := zq_okF_1 (hF) z1
    simp only [q0] at z2
    exact z2
  have b2 : 0 ≤ r 1 → P (r 1).toNat = some 67 := fun z => by
    have z1 : 0 ≤ zq_ev r (0, [(1, 1)]) := by rw [q1]; exact z
    have z2 := zq_okF_1 (zq_okF_t (hF)) z1
    simp only [q1] at z2
    exact z2
  have b3 : 0 ≤ r 2 → P (r 2).toNat = some 68 := fun z => by
    have z1 : 0 ≤ zq_ev r (0, [(2, 1)]) := by rw [q2]; exact z
    have z2 := zq_okF_1 (zq_okF_t (zq_okF_t (hF))) z1
    simp only [q2] at z2
    exact z2
  have b4 : 0 ≤ r 3 → P (r 3).toNat = some 71 := fun z => by
    have z1 : 0 ≤ zq_ev r (0, [(3, 1)]) := by rw [q3]; exact z
    have z2 := zq_okF_1 (zq_okF_t (zq_okF_t (zq_okF_t (hF)))) z1
    simp only [q3] at z2
    exact z2
  obtain t1 := zn_L0_2_l (P := P) (h := h) (sg := r 0) (kn := r 1) (wt := r 2) (si := r 3) a1 a2 a3 a4 b1 b2 b3 b4
  obtain ⟨rq, hr⟩ : ∃ rq : Nat → Int, (∀ i, i < 4 → rq i = r i) := ⟨r, fun i hi => rfl⟩
  have v0 : rq 0 = r 0 := hr 0 (by decide)
  have v1 : rq 1 = r 1 := hr 1 (by decide)
  have v2 : rq 2 = r 2 := hr 2 (by decide)
  have v3 : rq 3 = r 3 := hr 3 (by decide)
  have g0 : zq_ev rq (0, [(0, 1)]) = r 0 := zu_f1 v0
  have g1 : zq_ev rq (0, [(1, 1)]) = r 1 := zu_f1 v1
  have g2 : zq_ev rq (0, [(2, 1)]) = r 2 := zu_f1 v2
  have g3 : zq_ev rq (0, [(3, 1)]) = r 3 := zu_f1 v3
  have g4 : zq_ev rq (0, []) = 0 := zu_e0 _ _
  exact ⟨_, List.mem_cons_self .., rq, hr, zq_MeS_mk rfl hT (zq_all_nil) zq_fan (zq_fan) rfl (zu_fac ((x_LA2 _ _ _).mpr (by show zn_LA 65 (zq_ev rq (0, [(0, 1)])) (zq_ev rq (0, [(1, 1)])) (zq_ev rq (0, [(2, 1)])) (zq_ev rq (0, [(3, 1)])) (zq_ev rq (0, [])) (zq_ev rq (0, [])) (zq_ev rq (0, [])) (zq_ev rq (0, [])) P h; simp only [g0, g1, g2, g3, g4]; exact t1)) zq_fan)⟩
noncomputable def zn_L0_3 : zq_S × List zq_S := (([], [], [(0, [(0, 1)]), (0, [(1, 1)]), (0, [(2, 1)]), (0, [(3, 1)])], [((0, [(0, 1)]), 80), ((0, [(1, 1)]), 82), ((0, [(2, 1)]), 83), ((0, [(3, 1)]), 86)], [], [], [], 4), [([], [], [], [], [], [], [(143, [(0, [(0, 1)]), (0, [(1, 1)]), (0, [(2, 1)]), (0, [(3, 1)]), (0, []), (0, []), (0, []), (0, [])])], 4)])
theorem zn_L0_3_l {P : zq_Ty} {h : zq_H} {sg kn wt si : Int} (a1 : 0 ≤ sg) (a2 : 0 ≤ kn) (a3 : 0 ≤ wt) (a4 : 0 ≤ si) (b1 : 0 ≤ sg → P (sg).toNat = some 80) (b2 : 0 ≤ kn → P (kn).toNat = some 82) (b3 : 0 ≤ wt → P (wt).toNat = some 83) (b4 : 0 ≤ si → P (si).toNat = some 86) : (zn_LA 80 sg kn wt si 0 0 0 0 P h) := by
  exact ⟨⟨a1, b1 a1⟩, ⟨a2, b2 a2⟩, ⟨a3, b3 a3⟩, ⟨a4, b4 a4⟩, zn_cn_0⟩
theorem zn_L0_3_ok {w : zq_Wd} (x_LA3 : zj_is w 143 (fun q => zn_LA 80 (q 0) (q 1) (q 2) (q 3) (q 4) (q 5) (q 6) (q 7))) : zq_okG1 w zn_L0_3 := by
  refine ⟨rfl, rfl, zu_fac ⟨rfl, by decide⟩ zq_fan, ?_⟩
  intro r P h H hM
  have q0 : zq_ev r (0, [(0, 1)]) = r 0 := zu_e1 _ _
  have q1 : zq_ev r (0, [(1, 1)]) = r 1 := zu_e1 _ _
  have q2 : zq_ev r (0, [(2, 1)]) = r 2 := zu_e1 _ _
  have q3 : zq_ev r (0, [(3, 1)]) = r 3 := zu_e1 _ _
  obtain ⟨hT, hC, hF, hS, -, hK⟩ := hM
  have c := hC.1
  have a1 := zq_all_1 c
  rw [q0] at a1
  have c := zq_all_t c
  have a2 := zq_all_1 c
  rw [q1] at a2
  have c := zq_all_t c
  have a3 := zq_all_1 c
  rw [q2] at a3
  have c := zq_all_t c
  have a4 := zq_all_1 c
  rw [q3] at a4
  have b1 : 0 ≤ r 0 → P (r 0).toNat = some 80 := fun z => by
    have z1 : 0 ≤ zq_ev r (0, [(0, 1)]) := by rw [q0]; exact z
    have z2 := zq_okF_1 (hF) z1
    simp only [q0] at z2
    exact z2
  have b2 : 0 ≤ r 1 → P (r 1).toNat = some 82 := fun z => by
    have z1 : 0 ≤ zq_ev r (0, [(1, 1)]) := by rw [q1]; exact z
    have z2 := zq_okF_1 (zq_okF_t (hF)) z1
    simp only [q1] at z2
    exact z2
  have b3 : 0 ≤ r 2 → P (r 2).toNat = some 83 := fun z => by
    have z1 : 0 ≤ zq_ev r (0, [(2, 1)]) := by rw [q2]; exact z
    have z2 := zq_okF_1 (zq_okF_t (zq_okF_t (hF))) z1
    simp only [q2] at z2
    exact z2
  have b4 : 0 ≤ r 3 → P (r 3).toNat = some 86 := fun z => by
    have z1 : 0 ≤ zq_ev r (0, [(3, 1)]) := by rw [q3]; exact z
    have z2 := zq_okF_1 (zq_okF_t (zq_okF_t (zq_okF_t (hF)))) z1
    simp only [q3] at z2
    exact z2
  obtain t1 := zn_L0_3_l (P := P) (h := h) (sg := r 0) (kn := r 1) (wt := r 2) (si := r 3) a1 a2 a3 a4 b1 b2 b3 b4
  obtain ⟨rq, hr⟩ : ∃ rq : Nat → Int, (∀ i, i < 4 → rq i = r i) := ⟨r, fun i hi => rfl⟩
  have v0 : rq 0 = r 0 := hr 0 (by decide)
  have v1 : rq 1 = r 1 := hr 1 (by decide)
  have v2 : rq 2 = r 2 := hr 2 (by decide)
  have v3 : rq 3 = r 3 := hr 3 (by decide)
  have g0 : zq_ev rq (0, [(0, 1)]) = r 0 := zu_f1 v0
  have g1 : zq_ev rq (0, [(1, 1)]) = r 1 := zu_f1 v1
  have g2 : zq_ev rq (0, [(2, 1)]) = r 2 := zu_f1 v2
  have g3 : zq_ev rq (0, [(3, 1)]) = r 3 := zu_f1 v3
  have g4 : zq_ev rq (0, []) = 0 := zu_e0 _ _
  exact ⟨_, List.mem_cons_self .., rq, hr, zq_MeS_mk rfl hT (zq_all_nil) zq_fan (zq_fan) rfl (zu_fac ((x_LA3 _ _ _).mpr (by show zn_LA 80 (zq_ev rq (0, [(0, 1)])) (zq_ev rq (0, [(1, 1)])) (zq_ev rq (0, [(2, 1)])) (zq_ev rq (0, [(3, 1)])) (zq_ev rq (0, [])) (zq_ev rq (0, [])) (zq_ev rq (0, [])) (zq_ev rq (0, [])) P h; simp only [g0, g1, g2, g3, g4]; exact t1)) zq_fan)⟩
noncomputable def zn_K0_0 : zq_S × List zq_S := (([], [], [(0, [(0, 1)])], [((0, [(0, 1)]), 1)], [], [], [], 1), [([], [], [], [], [], [], [(148, [(0, [(0, 1)]), (0, []), (0, []), (0, []), (0, [])])], 1)])
theorem zn_K0_0_l {P : zq_Ty} {h : zq_H} {a : Int} (a1 : 0 ≤ a) (b1 : 0 ≤ a → P (a).toNat = some 1) : (zn_KA 1 0 a 0 0 0 0 P h) := by
  exact ⟨⟨a1, b1 a1⟩, zn_cn_0⟩
theorem zn_K0_0_ok {w : zq_Wd} (x_KA0 : zj_is w 148 (fun q => zn_KA 1 0 (q 0) (q 1) (q 2) (q 3) (q 4))) : zq_okG1 w zn_K0_0 := by
  refine ⟨rfl, rfl, zu_fac ⟨rfl, by decide⟩ zq_fan, ?_⟩
  intro r P h H hM
  have q0 : zq_ev r (0, [(0, 1)]) = r 0 := zu_e1 _ _
  obtain ⟨hT, hC, hF, hS, -, hK⟩ := hM
  have c := hC.1
  have a1 := zq_all_1 c
  rw [q0] at a1
  have b1 : 0 ≤ r 0 → P (r 0).toNat = some 1 := fun z => by
    have z1 : 0 ≤ zq_ev r (0, [(0, 1)]) := by rw [q0]; exact z
    have z2 := zq_okF_1 (hF) z1
    simp only [q0] at z2
    exact z2
  obtain t1 := zn_K0_0_l (P := P) (h := h) (a := r 0) a1 b1
  obtain ⟨rq, hr⟩ : ∃ rq : Nat → Int, (∀ i, i < 1 → rq i = r i) := ⟨r, fun i hi => rfl⟩
  have v0 : rq 0 = r 0 := hr 0 (by decide)
  have g0 : zq_ev rq (0, [(0, 1)]) = r 0 := zu_f1 v0
  have g1 : zq_ev rq (0, []) = 0 := zu_e0 _ _
  exact ⟨_, List.mem_cons_self .., rq, hr, zq_MeS_mk rfl hT (zq_all_nil) zq_fan (zq_fan) rfl (zu_fac ((x_KA0 _ _ _).mpr (by show zn_KA 1 0 (zq_ev rq (0, [(0, 1)])) (zq_ev rq (0, [])) (zq_ev rq (0, [])) (zq_ev rq (0, [])) (zq_ev rq (0, [])) P h; simp only [g0, g1]; exact t1)) zq_fan)⟩
noncomputable def zn_K0_1 : zq_S × List zq_S := (([], [], [(0, [(0, 1)])], [((0, [(0, 1)]), 2)], [], [], [], 1), [([], [], [], [], [], [], [(150, [(0, [(0, 1)]), (0, []), (0, []), (0, []), (0, [])])], 1)])
theorem zn_K0_1_l {P : zq_Ty} {h : zq_H} {a : Int} (a1 : 0 ≤ a) (b1 : 0 ≤ a → P (a).toNat = some 2) : (zn_KA 2 0 a 0 0 0 0 P h) := by
  exact ⟨⟨a1, b1 a1⟩, zn_cn_0⟩
theorem zn_K0_1_ok {w : zq_Wd} (x_KA1 : zj_is w 150 (fun q => zn_KA 2 0 (q 0) (q 1) (q 2) (q 3) (q 4))) : zq_okG1 w zn_K0_1 := by
  refine ⟨rfl, rfl, zu_fac ⟨rfl, by decide⟩ zq_fan, ?_⟩
  intro r P h H hM
  have q0 : zq_ev r (0, [(0, 1)]) = r 0 := zu_e1 _ _
  obtain ⟨hT, hC, hF, hS, -, hK⟩ := hM
  have c := hC.1
  have a1 := zq_all_1 c
  rw [q0] at a1
  have b1 : 0 ≤ r 0 → P (r 0).toNat = some 2 := fun z => by
    have z1 : 0 ≤ zq_ev r (0, [(0, 1)]) := by rw [q0]; exact z
    have z2 := zq_okF_1 (hF) z1
    simp only [q0] at z2
    exact z2
  obtain t1 := zn_K0_1_l (P := P) (h := h) (a := r 0) a1 b1
  obtain ⟨rq, hr⟩ : ∃ rq : Nat → Int, (∀ i, i < 1 → rq i = r i) := ⟨r, fun i hi => rfl⟩
  have v0 : rq 0 = r 0 := hr 0 (by decide)
  have g0 : zq_ev rq (0, [(0, 1)]) = r 0 := zu_f1 v0
  have g1 : zq_ev rq (0, []) = 0 := zu_e0 _ _
  exact ⟨_, List.mem_cons_self .., rq, hr, zq_MeS_mk rfl hT (zq_all_nil) zq_fan (zq_fan) rfl (zu_fac ((x_KA1 _ _ _).mpr (by show zn_KA 2 0 (zq_ev rq (0, [(0, 1)])) (zq_ev rq (0, [])) (zq_ev rq (0, [])) (zq_ev rq (0, [])) (zq_ev rq (0, [])) P h; simp only [g0, g1]; exact t1)) zq_fan)⟩
noncomputable def zn_K0_2 : zq_S × List zq_S := (([], [], [(0, [(0, 1)])], [((0, [(0, 1)]), 2)], [], [], [], 1), [([], [], [], [], [], [], [(151, [(0, [(0, 1)]), (0, []), (0, []), (0, []), (0, [])])], 1)])
theorem zn_K0_2_l {P : zq_Ty} {h : zq_H} {a : Int} (a1 : 0 ≤ a) (b1 : 0 ≤ a → P (a).toNat = some 2) : (zn_KA 2 5671 a 0 0 0 0 P h) := by
  exact ⟨⟨a1, b1 a1⟩, zn_cn_0⟩
theorem zn_K0_2_ok {w : zq_Wd} (x_KA2 : zj_is w 151 (fun q => zn_KA 2 5671 (q 0) (q 1) (q 2) (q 3) (q 4))) : zq_okG1 w zn_K0_2 := by
  refine ⟨rfl, rfl, zu_fac ⟨rfl, by decide⟩ zq_fan, ?_⟩
  intro r P h H hM
  have q0 : zq_ev r (0, [(0, 1)]) = r 0 := zu_e1 _ _
  obtain ⟨hT, hC, hF, hS, -, hK⟩ := hM
  have c := hC.1
  have a1 := zq_all_1 c
  rw [q0] at a1
  have b1 : 0 ≤ r 0 → P (r 0).toNat = some 2 := fun z => by
    have z1 : 0 ≤ zq_ev r (0, [(0, 1)]) := by rw [q0]; exact z
    have z2 := zq_okF_1 (hF) z1
    simp only [q0] at z2
    exact z2
  obtain t1 := zn_K0_2_l (P := P) (h := h) (a := r 0) a1 b1
  obtain ⟨rq, hr⟩ : ∃ rq : Nat → Int, (∀ i, i < 1 → rq i = r i) := ⟨r, fun i hi => rfl⟩
  have v0 : rq 0 = r 0 := hr 0 (by decide)
  have g0 : zq_ev rq (0, [(0, 1)]) = r 0 := zu_f1 v0
  have g1 : zq_ev rq (0, []) = 0 := zu_e0 _ _
  exact ⟨_, List.mem_cons_self .., rq, hr, zq_MeS_mk rfl hT (zq_all_nil) zq_fan (zq_fan) rfl (zu_fac ((x_KA2 _ _ _).mpr (by show zn_KA 2 5671 (zq_ev rq (0, [(0, 1)])) (zq_ev rq (0, [])) (zq_ev rq (0, [])) (zq_ev rq (0, [])) (zq_ev rq (0, [])) P h; simp only [g0, g1]; exact t1)) zq_fan)⟩
noncomputable def zn_LP : zq_S × List zq_S := (([], [], [(0, [(8, 1)]), (9999, [(8, -1)]), (5, [(4, -1)]), (0, [(4, -1), (9, 1)]), (0, [(4, 1), (9, -1)]), (-1, [(4, -1), (10, 1)]), (1, [(4, 1), (10, -1)])], [], [((0, [(0, 1)]), (0, [(9, 1)]), (0, [(8, 1)]))], [], [(140, [(0, [(0, 1)]), (0, [(1, 1)]), (0, [(2, 1)]), (0, [(3, 1)]), (0, [(4, 1)]), (0, [(5, 1)]), (0, [(6, 1)]), (0, [(7, 1)])])], 11), [([], [], [], [], [], [], [(131, [(0, [(7, 1)]), (0, [(4, 1)]), (0, [(8, 1)]), (0, [(11, 1)])]), (140, [(0, [(0, 1)]), (0, [(1, 1)]), (0, [(2, 1)]), (0, [(3, 1)]), (0, [(10, 1)]), (0, [(5, 1)]), (0, [(6, 1)]), (0, [(11, 1)])])], 12)])
theorem zn_LP_l {P : zq_Ty} {h : zq_H} {sg kn wt si p d s S v q u : Int} (a1 : 0 ≤ v) (a2 : 0 ≤ -v + 9999) (a3 : 0 ≤ -p + 5) (a4 : 0 ≤ -p + q) (a5 : 0 ≤ p - q) (a6 : 0 ≤ -p + u - 1) (a7 : 0 ≤ p - u + 1) (s1 : 0 ≤ sg ∧ P (sg).toNat ≠ none ∧ h (sg).toNat q = v) (k1 : zn_LA 35 sg kn wt si p d s S P h) : (∃ T : Int, zn_PE S p v T P h ∧ zn_LA 35 sg kn wt si u d s T P h) := by
  have eq : q = p := by omega
  have eu : u = p + 1 := by omega
  subst eq
  subst eu
  obtain ⟨z1, z2, z3, z4, c⟩ := k1
  exact ⟨zn_pe S q v, rfl, z1, z2, z3, z4, zn_cn_pe c (by omega) (by unfold zn_in; omega) s1.2.2⟩
theorem zn_LP_ok {w : zq_Wd} (x_LA0 : zj_is w 140 (fun q => zn_LA 35 (q 0) (q 1) (q 2) (q 3) (q 4) (q 5) (q 6) (q 7))) (x_PE : zj_is w 131 (fun q => zn_PE (q 0) (q 1) (q 2) (q 3))) : zq_okG1 w zn_LP := by
  refine ⟨rfl, rfl, zu_fac ⟨rfl, by decide⟩ zq_fan, ?_⟩
  intro r P h H hM
  have q0 : zq_ev r (0, [(8, 1)]) = r 8 := zu_e1 _ _
  have q1 : zq_ev r (9999, [(8, -1)]) = -r 8 + 9999 := zu_e5 _ _ _
  have q2 : zq_ev r (5, [(4, -1)]) = -r 4 + 5 := zu_e5 _ _ _
  have q3 : zq_ev r (0, [(4, -1), (9, 1)]) = -r 4 + r 9 := by simp only [zq_ev, zq_ts] <;> omega
  have q4 : zq_ev r (0, [(4, 1), (9, -1)]) = r 4 - r 9 := by simp only [zq_ev, zq_ts] <;> omega
  have q5 : zq_ev r (-1, [(4, -1), (10, 1)]) = -r 4 + r 10 - 1 := by simp only [zq_ev, zq_ts] <;> omega
  have q6 : zq_ev r (1, [(4, 1), (10, -1)]) = r 4 - r 10 + 1 := by simp only [zq_ev, zq_ts] <;> omega
  have q7 : zq_ev r (0, [(0, 1)]) = r 0 := zu_e1 _ _
  have q8 : zq_ev r (0, [(9, 1)]) = r 9 := zu_e1 _ _
  have q9 : zq_ev r (0, [(1, 1)]) = r 1 := zu_e1 _ _
  have q10 : zq_ev r (0, [(2, 1)]) = r 2 := zu_e1 _ _
  have q11 : zq_ev r (0, [(3, 1)]) = r 3 := zu_e1 _ _
  have q12 : zq_ev r (0, [(4, 1)]) = r 4 := zu_e1 _ _
  have q13 : zq_ev r (0, [(5, 1)]) = r 5 := zu_e1 _ _
  have q14 : zq_ev r (0, [(6, 1)]) = r 6 := zu_e1 _ _
  have q15 : zq_ev r (0, [(7, 1)]) = r 7 := zu_e1 _ _
  obtain ⟨hT, hC, hF, hS, -, hK⟩ := hM
  have c := hC.1
  have a1 := zq_all_1 c
  rw [q0] at a1
  have c := zq_all_t c
  have a2 := zq_all_1 c
  rw [q1] at a2
  have c := zq_all_t c
  have a3 := zq_all_1 c
  rw [q2] at a3
  have c := zq_all_t c
  have a4 := zq_all_1 c
  rw [q3] at a4
  have c := zq_all_t c
  have a5 := zq_all_1 c
  rw [q4] at a5
  have c := zq_all_t c
  have a6 := zq_all_1 c
  rw [q5] at a6
  have c := zq_all_t c
  have a7 := zq_all_1 c
  rw [q6] at a7
  have s1 := zq_okS_1 (hS)
  simp only [q0, q7, q8] at s1
  have k1 := zj_use x_LA0 (hK)
  have k1 : zn_LA 35 (zq_ev r (0, [(0, 1)])) (zq_ev r (0, [(1, 1)])) (zq_ev r (0, [(2, 1)])) (zq_ev r (0, [(3, 1)])) (zq_ev r (0, [(4, 1)])) (zq_ev r (0, [(5, 1)])) (zq_ev r (0, [(6, 1)])) (zq_ev r (0, [(7, 1)])) P h := k1
  simp only [q10, q11, q12, q13, q14, q15, q7, q9] at k1
  obtain ⟨y_0, t1, t2⟩ := zn_LP_l (P := P) (h := h) (sg := r 0) (kn := r 1) (wt := r 2) (si := r 3) (p := r 4) (d := r 5) (s := r 6) (S := r 7) (v := r 8) (q := r 9) (u := r 10) a1 a2 a3 a4 a5 a6 a7 s1 k1
  obtain ⟨rq, hr, w11⟩ : ∃ rq : Nat → Int, (∀ i, i < 11 → rq i = r i) ∧ rq 11 = y_0 := ⟨zq_up r 11 y_0, fun i hi => by rw [zu_up_ne (by omega)], rfl⟩
  have v0 : rq 0 = r 0 := hr 0 (by decide)
  have v1 : rq 1 = r 1 := hr 1 (by decide)
  have v2 : rq 2 = r 2 := hr 2 (by decide)
  have v3 : rq 3 = r 3 := hr 3 (by decide)
  have v4 : rq 4 = r 4 := hr 4 (by decide)
  have v5 : rq 5 = r 5 := hr 5 (by decide)
  have v6 : rq 6 = r 6 := hr 6 (by decide)
  have v7 : rq 7 = r 7 := hr 7 (by decide)
  have v8 : rq 8 = r 8 := hr 8 (by decide)
  have v10 : rq 10 = r 10 := hr 10 (by decide)
  have g0 : zq_ev rq (0, [(0, 1)]) = r 0 := zu_f1 v0
  have g1 : zq_ev rq (0, [(1, 1)]) = r 1 := zu_f1 v1
  have g2 : zq_ev rq (0, [(2, 1)]) = r 2 := zu_f1 v2
  have g3 : zq_ev rq (0, [(3, 1)]) = r 3 := zu_f1 v3
  have g4 : zq_ev rq (0, [(10, 1)]) = r 10 := zu_f1 v10
  have g5 : zq_ev rq (0, [(5, 1)]) = r 5 := zu_f1 v5
  have g6 : zq_ev rq (0, [(6, 1)]) = r 6 := zu_f1 v6
  have g7 : zq_ev rq (0, [(11, 1)]) = y_0 := zu_f1 w11
  have g8 : zq_ev rq (0, [(7, 1)]) = r 7 := zu_f1 v7
  have g9 : zq_ev rq (0, [(4, 1)]) = r 4 := zu_f1 v4
  have g10 : zq_ev rq (0, [(8, 1)]) = r 8 := zu_f1 v8
  exact ⟨_, List.mem_cons_self .., rq, hr, zq_MeS_mk rfl hT (zq_all_nil) zq_fan (zq_fan) rfl (zu_fac ((x_PE _ _ _).mpr (by show zn_PE (zq_ev rq (0, [(7, 1)])) (zq_ev rq (0, [(4, 1)])) (zq_ev rq (0, [(8, 1)])) (zq_ev rq (0, [(11, 1)])) P h; simp only [g10, g7, g8, g9]; exact t1)) (zu_fac ((x_LA0 _ _ _).mpr (by show zn_LA 35 (zq_ev rq (0, [(0, 1)])) (zq_ev rq (0, [(1, 1)])) (zq_ev rq (0, [(2, 1)])) (zq_ev rq (0, [(3, 1)])) (zq_ev rq (0, [(10, 1)])) (zq_ev rq (0, [(5, 1)])) (zq_ev rq (0, [(6, 1)])) (zq_ev rq (0, [(11, 1)])) P h; simp only [g0, g1, g2, g3, g4, g5, g6, g7]; exact t2)) zq_fan))⟩
noncomputable def zn_KP : zq_S × List zq_S := (([], [], [(0, [(5, 1)]), (9999, [(5, -1)]), (5, [(1, -1)]), (0, [(1, -1), (6, 1)]), (0, [(1, 1), (6, -1)]), (-1, [(1, -1), (7, 1)]), (1, [(1, 1), (7, -1)])], [], [((0, [(0, 1)]), (11, [(6, 1)]), (0, [(5, 1)]))], [], [(148, [(0, [(0, 1)]), (0, [(1, 1)]), (0, [(2, 1)]), (0, [(3, 1)]), (0, [(4, 1)])])], 8), [([], [], [], [], [], [], [(131, [(0, [(4, 1)]), (0, [(1, 1)]), (0, [(5, 1)]), (0, [(8, 1)])]), (148, [(0, [(0, 1)]), (0, [(7, 1)]), (0, [(2, 1)]), (0, [(3, 1)]), (0, [(8, 1)])])], 9)])
theorem zn_KP_l {P : zq_Ty} {h : zq_H} {a p d s S v q u : Int} (a1 : 0 ≤ v) (a2 : 0 ≤ -v + 9999) (a3 : 0 ≤ -p + 5) (a4 : 0 ≤ -p + q) (a5 : 0 ≤ p - q) (a6 : 0 ≤ -p + u - 1) (a7 : 0 ≤ p - u + 1) (s1 : 0 ≤ a ∧ P (a).toNat ≠ none ∧ h (a).toNat (q + 11) = v) (k1 : zn_KA 1 0 a p d s S P h) : (∃ T : Int, zn_PE S p v T P h ∧ zn_KA 1 0 a u d s T P h) := by
  have eq : q = p := by omega
  have eu : u = p + 1 := by omega
  subst eq
  subst eu
  obtain ⟨z1, c⟩ := k1
  refine ⟨zn_pe S q v, rfl, z1, zn_cn_pe c (by omega) (by unfold zn_in; omega) ?_⟩
  show h a.toNat (0 + 11 + q) = v
  rw [show (0 : Int) + 11 + q = q + 11 by omega]; exact s1.2.2
theorem zn_KP_ok {w : zq_Wd} (x_KA0 : zj_is w 148 (fun q => zn_KA 1 0 (q 0) (q 1) (q 2) (q 3) (q 4))) (x_PE : zj_is w 131 (fun q => zn_PE (q 0) (q 1) (q 2) (q 3))) : zq_okG1 w zn_KP := by
  refine ⟨rfl, rfl, zu_fac ⟨rfl, by decide⟩ zq_fan, ?_⟩
  intro r P h H hM
  have q0 : zq_ev r (0, [(5, 1)]) = r 5 := zu_e1 _ _
  have q1 : zq_ev r (9999, [(5, -1)]) = -r 5 + 9999 := zu_e5 _ _ _
  have q2 : zq_ev r (5, [(1, -1)]) = -r 1 + 5 := zu_e5 _ _ _
  have q3 : zq_ev r (0, [(1, -1), (6, 1)]) = -r 1 + r 6 := by simp only [zq_ev, zq_ts] <;> omega
  have q4 : zq_ev r (0, [(1, 1), (6, -1)]) = r 1 - r 6 := by simp only [zq_ev, zq_ts] <;> omega
  have q5 : zq_ev r (-1, [(1, -1), (7, 1)]) = -r 1 + r 7 - 1 := by simp only [zq_ev, zq_ts] <;> omega
  have q6 : zq_ev r (1, [(1, 1), (7, -1)]) = r 1 - r 7 + 1 := by simp only [zq_ev, zq_ts] <;> omega
  have q7 : zq_ev r (0, [(0, 1)]) = r 0 := zu_e1 _ _
  have q8 : zq_ev r (11, [(6, 1)]) = r 6 + 11 := zu_e2 _ _ _
  have q9 : zq_ev r (0, [(1, 1)]) = r 1 := zu_e1 _ _
  have q10 : zq_ev r (0, [(2, 1)]) = r 2 := zu_e1 _ _
  have q11 : zq_ev r (0, [(3, 1)]) = r 3 := zu_e1 _ _
  have q12 : zq_ev r (0, [(4, 1)]) = r 4 := zu_e1 _ _
  obtain ⟨hT, hC, hF, hS, -, hK⟩ := hM
  have c := hC.1
  have a1 := zq_all_1 c
  rw [q0] at a1
  have c := zq_all_t c
  have a2 := zq_all_1 c
  rw [q1] at a2
  have c := zq_all_t c
  have a3 := zq_all_1 c
  rw [q2] at a3
  have c := zq_all_t c
  have a4 := zq_all_1 c
  rw [q3] at a4
  have c := zq_all_t c
  have a5 := zq_all_1 c
  rw [q4] at a5
  have c := zq_all_t c
  have a6 := zq_all_1 c
  rw [q5] at a6
  have c := zq_all_t c
  have a7 := zq_all_1 c
  rw [q6] at a7
  have s1 := zq_okS_1 (hS)
  simp only [q0, q7, q8] at s1
  have k1 := zj_use x_KA0 (hK)
  have k1 : zn_KA 1 0 (zq_ev r (0, [(0, 1)])) (zq_ev r (0, [(1, 1)])) (zq_ev r (0, [(2, 1)])) (zq_ev r (0, [(3, 1)])) (zq_ev r (0, [(4, 1)])) P h := k1
  simp only [q10, q11, q12, q7, q9] at k1
  obtain ⟨y_0, t1, t2⟩ := zn_KP_l (P := P) (h := h) (a := r 0) (p := r 1) (d := r 2) (s := r 3) (S := r 4) (v := r 5) (q := r 6) (u := r 7) a1 a2 a3 a4 a5 a6 a7 s1 k1
  obtain ⟨rq, hr, w8⟩ : ∃ rq : Nat → Int, (∀ i, i < 8 → rq i = r i) ∧ rq 8 = y_0 := ⟨zq_up r 8 y_0, fun i hi => by rw [zu_up_ne (by omega)], rfl⟩
  have v0 : rq 0 = r 0 := hr 0 (by decide)
  have v1 : rq 1 = r 1 := hr 1 (by decide)
  have v2 : rq 2 = r 2 := hr 2 (by decide)
  have v3 : rq 3 = r 3 := hr 3 (by decide)
  have v4 : rq 4 = r 4 := hr 4 (by decide)
  have v5 : rq 5 = r 5 := hr 5 (by decide)
  have v7 : rq 7 = r 7 := hr 7 (by decide)
  have g0 : zq_ev rq (0, [(0, 1)]) = r 0 := zu_f1 v0
  have g1 : zq_ev rq (0, [(7, 1)]) = r 7 := zu_f1 v7
  have g2 : zq_ev rq (0, [(2, 1)]) = r 2 := zu_f1 v2
  have g3 : zq_ev rq (0, [(3, 1)]) = r 3 := zu_f1 v3
  have g4 : zq_ev rq (0, [(8, 1)]) = y_0 := zu_f1 w8
  have g5 : zq_ev rq (0, [(4, 1)]) = r 4 := zu_f1 v4
  have g6 : zq_ev rq (0, [(1, 1)]) = r 1 := zu_f1 v1
  have g7 : zq_ev rq (0, [(5, 1)]) = r 5 := zu_f1 v5
  exact ⟨_, List.mem_cons_self .., rq, hr, zq_MeS_mk rfl hT (zq_all_nil) zq_fan (zq_fan) rfl (zu_fac ((x_PE _ _ _).mpr (by show zn_PE (zq_ev rq (0, [(4, 1)])) (zq_ev rq (0, [(1, 1)])) (zq_ev rq (0, [(5, 1)])) (zq_ev rq (0, [(8, 1)])) P h; simp only [g4, g5, g6, g7]; exact t1)) (zu_fac ((x_KA0 _ _ _).mpr (by show zn_KA 1 0 (zq_ev rq (0, [(0, 1)])) (zq_ev rq (0, [(7, 1)])) (zq_ev rq (0, [(2, 1)])) (zq_ev rq (0, [(3, 1)])) (zq_ev rq (0, [(8, 1)])) P h; simp only [g0, g1, g2, g3, g4]; exact t2)) zq_fan))⟩
noncomputable def zn_LD : zq_S × List zq_S := (([], [], [(0, [(8, 1)]), (9999, [(8, -1)]), (0, [(9, 1)]), (9999, [(9, -1)]), (5, [(5, -1)]), (0, [(5, -1), (10, 1)]), (0, [(5, 1), (10, -1)]), (-1, [(5, -1), (11, 1)]), (1, [(5, 1), (11, -1)])], [], [((0, [(1, 1)]), (0, [(10, 1)]), (0, [(8, 1)])), ((0, [(2, 1)]), (0, [(10, 1)]), (0, [(9, 1)]))], [], [(140, [(0, [(0, 1)]), (0, [(1, 1)]), (0, [(2, 1)]), (0, [(3, 1)]), (0, [(4, 1)]), (0, [(5, 1)]), (0, [(6, 1)]), (0, [(7, 1)])])], 12), [([], [], [], [], [], [], [(132, [(0, [(7, 1)]), (0, [(5, 1)]), (0, [(8, 1)]), (0, [(9, 1)]), (0, [(12, 1)])]), (140, [(0, [(0, 1)]), (0, [(1, 1)]), (0, [(2, 1)]), (0, [(3, 1)]), (0, [(4, 1)]), (0, [(11, 1)]), (0, [(6, 1)]), (0, [(12, 1)])])], 13)])
theorem zn_LD_l {P : zq_Ty} {h : zq_H} {sg kn wt si p d s S x y q u : Int} (a1 : 0 ≤ x) (a2 : 0 ≤ -x + 9999) (a3 : 0 ≤ y) (a4 : 0 ≤ -y + 9999) (a5 : 0 ≤ -d + 5) (a6 : 0 ≤ -d + q) (a7 : 0 ≤ d - q) (a8 : 0 ≤ -d + u - 1) (a9 : 0 ≤ d - u + 1) (s1 : 0 ≤ kn ∧ P (kn).toNat ≠ none ∧ h (kn).toNat q = x) (s2 : 0 ≤ wt ∧ P (wt).toNat ≠ none ∧ h (wt).toNat q = y) (k1 : zn_LA 35 sg kn wt si p d s S P h) : (∃ T : Int, zn_DE S d x y T P h ∧ zn_LA 35 sg kn wt si p u s T P h) := by
  have eq : q = d := by omega
  have eu : u = d + 1 := by omega
  subst eq
  subst eu
  obtain ⟨z1, z2, z3, z4, c⟩ := k1
  exact ⟨zn_de S q x y, rfl, z1, z2, z3, z4, zn_cn_de c (by omega) (by unfold zn_in; omega) (by unfold zn_in; omega) s1.2.2 s2.2.2⟩
theorem zn_LD_ok {w : zq_Wd} (x_LA0 : zj_is w 140 (fun q => zn_LA 35 (q 0) (q 1) (q 2) (q 3) (q 4) (q 5) (q 6) (q 7))) (x_DE : zj_is w 132 (fun q => zn_DE (q 0) (q 1) (q 2) (q 3) (q 4))) : zq_okG1 w zn_LD := by
  refine ⟨rfl, rfl, zu_fac ⟨rfl, by decide⟩ zq_fan, ?_⟩
  intro r P h H hM
  have q0 : zq_ev r (0, [(8, 1)]) = r 8 := zu_e1 _ _
  have q1 : zq_ev r (9999, [(8, -1)]) = -r 8 + 9999 := zu_e5 _ _ _
  have q2 : zq_ev r (0, [(9, 1)]) = r 9 := zu_e1 _ _
  have q3 : zq_ev r (9999, [(9, -1)]) = -r 9 + 9999 := zu_e5 _ _ _
  have q4 : zq_ev r (5, [(5, -1)]) = -r 5 + 5 := zu_e5 _ _ _
  have q5 : zq_ev r (0, [(5, -1), (10, 1)]) = -r 5 + r 10 := by simp only [zq_ev, zq_ts] <;> omega
  have q6 : zq_ev r (0, [(5, 1), (10, -1)]) = r 5 - r 10 := by simp only [zq_ev, zq_ts] <;> omega
  have q7 : zq_ev r (-1, [(5, -1), (11, 1)]) = -r 5 + r 11 - 1 := by simp only [zq_ev, zq_ts] <;> omega
  have q8 : zq_ev r (1, [(5, 1), (11, -1)]) = r 5 - r 11 + 1 := by simp only [zq_ev, zq_ts] <;> omega
  have q9 : zq_ev r (0, [(1, 1)]) = r 1 := zu_e1 _ _
  have q10 : zq_ev r (0, [(10, 1)]) = r 10 := zu_e1 _ _
  have q11 : zq_ev r (0, [(2, 1)]) = r 2 := zu_e1 _ _
  have q12 : zq_ev r (0, [(0, 1)]) = r 0 := zu_e1 _ _
  have q13 : zq_ev r (0, [(3, 1)]) = r 3 := zu_e1 _ _
  have q14 : zq_ev r (0, [(4, 1)]) = r 4 := zu_e1 _ _
  have q15 : zq_ev r (0, [(5, 1)]) = r 5 := zu_e1 _ _
  have q16 : zq_ev r (0, [(6, 1)]) = r 6 := zu_e1 _ _
  have q17 : zq_ev r (0, [(7, 1)]) = r 7 := zu_e1 _ _
  obtain ⟨hT, hC, hF, hS, -, hK⟩ := hM
  have c := hC.1
  have a1 := zq_all_1 c
  rw [q0] at a1
  have c := zq_all_t c
  have a2 := zq_all_1 c
  rw [q1] at a2
  have c := zq_all_t c
  have a3 := zq_all_1 c
  rw [q2] at a3
  have c := zq_all_t c
  have a4 := zq_all_1 c
  rw [q3] at a4
  have c := zq_all_t c
  have a5 := zq_all_1 c
  rw [q4] at a5
  have c := zq_all_t c
  have a6 := zq_all_1 c
  rw [q5] at a6
  have c := zq_all_t c
  have a7 := zq_all_1 c
  rw [q6] at a7
  have c := zq_all_t c
  have a8 := zq_all_1 c
  rw [q7] at a8
  have c := zq_all_t c
  have a9 := zq_all_1 c
  rw [q8] at a9
  have s1 := zq_okS_1 (hS)
  simp only [q0, q10, q9] at s1
  have s2 := zq_okS_1 (zq_okS_t (hS))
  simp only [q10, q11, q2] at s2
  have k1 := zj_use x_LA0 (hK)
  have k1 : zn_LA 35 (zq_ev r (0, [(0, 1)])) (zq_ev r (0, [(1, 1)])) (zq_ev r (0, [(2, 1)])) (zq_ev r (0, [(3, 1)])) (zq_ev r (0, [(4, 1)])) (zq_ev r (0, [(5, 1)])) (zq_ev r (0, [(6, 1)])) (zq_ev r (0, [(7, 1)])) P h := k1
  simp only [q11, q12, q13, q14, q15, q16, q17, q9] at k1
  obtain ⟨y_0, t1, t2⟩ := zn_LD_l (P := P) (h := h) (sg := r 0) (kn := r 1) (wt := r 2) (si := r 3) (p := r 4) (d := r 5) (s := r 6) (S := r 7) (x := r 8) (y := r 9) (q := r 10) (u := r 11) a1 a2 a3 a4 a5 a6 a7 a8 a9 s1 s2 k1
  obtain ⟨rq, hr, w12⟩ : ∃ rq : Nat → Int, (∀ i, i < 12 → rq i = r i) ∧ rq 12 = y_0 := ⟨zq_up r 12 y_0, fun i hi => by rw [zu_up_ne (by omega)], rfl⟩
  have v0 : rq 0 = r 0 := hr 0 (by decide)
  have v1 : rq 1 = r 1 := hr 1 (by decide)
  have v2 : rq 2 = r 2 := hr 2 (by decide)
  have v3 : rq 3 = r 3 := hr 3 (by decide)
  have v4 : rq 4 = r 4 := hr 4 (by decide)
  have v5 : rq 5 = r 5 := hr 5 (by decide)
  have v6 : rq 6 = r 6 := hr 6 (by decide)
  have v7 : rq 7 = r 7 := hr 7 (by decide)
  have v8 : rq 8 = r 8 := hr 8 (by decide)
  have v9 : rq 9 = r 9 := hr 9 (by decide)
  have v11 : rq 11 = r 11 := hr 11 (by decide)
  have g0 : zq_ev rq (0, [(0, 1)]) = r 0 := zu_f1 v0
  have g1 : zq_ev rq (0, [(1, 1)]) = r 1 := zu_f1 v1
  have g2 : zq_ev rq (0, [(2, 1)]) = r 2 := zu_f1 v2
  have g3 : zq_ev rq (0, [(3, 1)]) = r 3 := zu_f1 v3
  have g4 : zq_ev rq (0, [(4, 1)]) = r 4 := zu_f1 v4
  have g5 : zq_ev rq (0, [(11, 1)]) = r 11 := zu_f1 v11
  have g6 : zq_ev rq (0, [(6, 1)]) = r 6 := zu_f1 v6
  have g7 : zq_ev rq (0, [(12, 1)]) = y_0 := zu_f1 w12
  have g8 : zq_ev rq (0, [(7, 1)]) = r 7 := zu_f1 v7
  have g9 : zq_ev rq (0, [(5, 1)]) = r 5 := zu_f1 v5
  have g10 : zq_ev rq (0, [(8, 1)]) = r 8 := zu_f1 v8
  have g11 : zq_ev rq (0, [(9, 1)]) = r 9 := zu_f1 v9
  exact ⟨_, List.mem_cons_self .., rq, hr, zq_MeS_mk rfl hT (zq_all_nil) zq_fan (zq_fan) rfl (zu_fac ((x_DE _ _ _).mpr (by show zn_DE (zq_ev rq (0, [(7, 1)])) (zq_ev rq (0, [(5, 1)])) (zq_ev rq (0, [(8, 1)])) (zq_ev rq (0, [(9, 1)])) (zq_ev rq (0, [(12, 1)])) P h; simp only [g10, g11, g7, g8, g9]; exact t1)) (zu_fac ((x_LA0 _ _ _).mpr (by show zn_LA 35 (zq_ev rq (0, [(0, 1)])) (zq_ev rq (0, [(1, 1)])) (zq_ev rq (0, [(2, 1)])) (zq_ev rq (0, [(3, 1)])) (zq_ev rq (0, [(4, 1)])) (zq_ev rq (0, [(11, 1)])) (zq_ev rq (0, [(6, 1)])) (zq_ev rq (0, [(12, 1)])) P h; simp only [g0, g1, g2, g3, g4, g5, g6, g7]; exact t2)) zq_fan))⟩
noncomputable def zn_KD : zq_S × List zq_S := (([], [], [(0, [(5, 1)]), (9999, [(5, -1)]), (0, [(6, 1)]), (9999, [(6, -1)]), (5, [(2, -1)]), (0, [(2, -1), (7, 1)]), (0, [(2, 1), (7, -1)]), (-1, [(2, -1), (8, 1)]), (1, [(2, 1), (8, -1)])], [], [((0, [(0, 1)]), (21, [(7, 1)]), (0, [(5, 1)])), ((0, [(0, 1)]), (27, [(7, 1)]), (0, [(6, 1)]))], [], [(148, [(0, [(0, 1)]), (0, [(1, 1)]), (0, [(2, 1)]), (0, [(3, 1)]), (0, [(4, 1)])])], 9), [([], [], [], [], [], [], [(132, [(0, [(4, 1)]), (0, [(2, 1)]), (0, [(5, 1)]), (0, [(6, 1)]), (0, [(9, 1)])]), (148, [(0, [(0, 1)]), (0, [(1, 1)]), (0, [(8, 1)]), (0, [(3, 1)]), (0, [(9, 1)])])], 10)])
theorem zn_KD_l {P : zq_Ty} {h : zq_H} {a p d s S x y q u : Int} (a1 : 0 ≤ x) (a2 : 0 ≤ -x + 9999) (a3 : 0 ≤ y) (a4 : 0 ≤ -y + 9999) (a5 : 0 ≤ -d + 5) (a6 : 0 ≤ -d + q) (a7 : 0 ≤ d - q) (a8 : 0 ≤ -d + u - 1) (a9 : 0 ≤ d - u + 1) (s1 : 0 ≤ a ∧ P (a).toNat ≠ none ∧ h (a).toNat (q + 21) = x) (s2 : 0 ≤ a ∧ P (a).toNat ≠ none ∧ h (a).toNat (q + 27) = y) (k1 : zn_KA 1 0 a p d s S P h) : (∃ T : Int, zn_DE S d x y T P h ∧ zn_KA 1 0 a p u s T P h) := by
  have eq : q = d := by omega
  have eu : u = d + 1 := by omega
  subst eq
  subst eu
  obtain ⟨z1, c⟩ := k1
  refine ⟨zn_de S q x y, rfl, z1, zn_cn_de c (by omega) (by unfold zn_in; omega) (by unfold zn_in; omega) ?_ ?_⟩
  · show h a.toNat (0 + 21 + q) = x
    rw [show (0 : Int) + 21 + q = q + 21 by omega]; exact s1.2.2
  · show h a.toNat (0 + 27 + q) = y
    rw [show (0 : Int) + 27 + q = q + 27 by omega]; exact s2.2.2
theorem zn_KD_ok {w : zq_Wd} (x_KA0 : zj_is w 148 (fun q => zn_KA 1 0 (q 0) (q 1) (q 2) (q 3) (q 4))) (x_DE : zj_is w 132 (fun q => zn_DE (q 0) (q 1) (q 2) (q 3) (q 4))) : zq_okG1 w zn_KD := by
  refine ⟨rfl, rfl, zu_fac ⟨rfl, by decide⟩ zq_fan, ?_⟩
  intro r P h H hM
  have q0 : zq_ev r (0, [(5, 1)]) = r 5 := zu_e1 _ _
  have q1 : zq_ev r (9999, [(5, -1)]) = -r 5 + 9999 := zu_e5 _ _ _
  have q2 : zq_ev r (0, [(6, 1)]) = r 6 := zu_e1 _ _
  have q3 : zq_ev r (9999, [(6, -1)]) = -r 6 + 9999 := zu_e5 _ _ _
  have q4 : zq_ev r (5, [(2, -1)]) = -r 2 + 5 := zu_e5 _ _ _
  have q5 : zq_ev r (0, [(2, -1), (7, 1)]) = -r 2 + r 7 := by simp only [zq_ev, zq_ts] <;> omega
  have q6 : zq_ev r (0, [(2, 1), (7, -1)]) = r 2 - r 7 := by simp only [zq_ev, zq_ts] <;> omega
  have q7 : zq_ev r (-1, [(2, -1), (8, 1)]) = -r 2 + r 8 - 1 := by simp only [zq_ev, zq_ts] <;> omega
  have q8 : zq_ev r (1, [(2, 1), (8, -1)]) = r 2 - r 8 + 1 := by simp only [zq_ev, zq_ts] <;> omega
  have q9 : zq_ev r (0, [(0, 1)]) = r 0 := zu_e1 _ _
  have q10 : zq_ev r (21, [(7, 1)]) = r 7 + 21 := zu_e2 _ _ _
  have q11 : zq_ev r (27, [(7, 1)]) = r 7 + 27 := zu_e2 _ _ _
  have q12 : zq_ev r (0, [(1, 1)]) = r 1 := zu_e1 _ _
  have q13 : zq_ev r (0, [(2, 1)]) = r 2 := zu_e1 _ _
  have q14 : zq_ev r (0, [(3, 1)]) = r 3 := zu_e1 _ _
  have q15 : zq_ev r (0, [(4, 1)]) = r 4 := zu_e1 _ _
  obtain ⟨hT, hC, hF, hS, -, hK⟩ := hM
  have c := hC.1
  have a1 := zq_all_1 c
  rw [q0] at a1
  have c := zq_all_t c
  have a2 := zq_all_1 c
  rw [q1] at a2
  have c := zq_all_t c
  have a3 := zq_all_1 c
  rw [q2] at a3
  have c := zq_all_t c
  have a4 := zq_all_1 c
  rw [q3] at a4
  have c := zq_all_t c
  have a5 := zq_all_1 c
  rw [q4] at a5
  have c := zq_all_t c
  have a6 := zq_all_1 c
  rw [q5] at a6
  have c := zq_all_t c
  have a7 := zq_all_1 c
  rw [q6] at a7
  have c := zq_all_t c
  have a8 := zq_all_1 c
  rw [q7] at a8
  have c := zq_all_t c
  have a9 := zq_all_1 c
  rw [q8] at a9
  have s1 := zq_okS_1 (hS)
  simp only [q0, q10, q9] at s1
  have s2 := zq_okS_1 (zq_okS_t (hS))
  simp only [q11, q2, q9] at s2
  have k1 := zj_use x_KA0 (hK)
  have k1 : zn_KA 1 0 (zq_ev r (0, [(0, 1)])) (zq_ev r (0, [(1, 1)])) (zq_ev r (0, [(2, 1)])) (zq_ev r (0, [(3, 1)])) (zq_ev r (0, [(4, 1)])) P h := k1
  simp only [q12, q13, q14, q15, q9] at k1
  obtain ⟨y_0, t1, t2⟩ := zn_KD_l (P := P) (h := h) (a := r 0) (p := r 1) (d := r 2) (s := r 3) (S := r 4) (x := r 5) (y := r 6) (q := r 7) (u := r 8) a1 a2 a3 a4 a5 a6 a7 a8 a9 s1 s2 k1
  obtain ⟨rq, hr, w9⟩ : ∃ rq : Nat → Int, (∀ i, i < 9 → rq i = r i) ∧ rq 9 = y_0 := ⟨zq_up r 9 y_0, fun i hi => by rw [zu_up_ne (by omega)], rfl⟩
  have v0 : rq 0 = r 0 := hr 0 (by decide)
  have v1 : rq 1 = r 1 := hr 1 (by decide)
  have v2 : rq 2 = r 2 := hr 2 (by decide)
  have v3 : rq 3 = r 3 := hr 3 (by decide)
  have v4 : rq 4 = r 4 := hr 4 (by decide)
  have v5 : rq 5 = r 5 := hr 5 (by decide)
  have v6 : rq 6 = r 6 := hr 6 (by decide)
  have v8 : rq 8 = r 8 := hr 8 (by decide)
  have g0 : zq_ev rq (0, [(0, 1)]) = r 0 := zu_f1 v0
  have g1 : zq_ev rq (0, [(1, 1)]) = r 1 := zu_f1 v1
  have g2 : zq_ev rq (0, [(8, 1)]) = r 8 := zu_f1 v8
  have g3 : zq_ev rq (0, [(3, 1)]) = r 3 := zu_f1 v3
  have g4 : zq_ev rq (0, [(9, 1)]) = y_0 := zu_f1 w9
  have g5 : zq_ev rq (0, [(4, 1)]) = r 4 := zu_f1 v4
  have g6 : zq_ev rq (0, [(2, 1)]) = r 2 := zu_f1 v2
  have g7 : zq_ev rq (0, [(5, 1)]) = r 5 := zu_f1 v5
  have g8 : zq_ev rq (0, [(6, 1)]) = r 6 := zu_f1 v6
  exact ⟨_, List.mem_cons_self .., rq, hr, zq_MeS_mk rfl hT (zq_all_nil) zq_fan (zq_fan) rfl (zu_fac ((x_DE _ _ _).mpr (by show zn_DE (zq_ev rq (0, [(4, 1)])) (zq_ev rq (0, [(2, 1)])) (zq_ev rq (0, [(5, 1)])) (zq_ev rq (0, [(6, 1)])) (zq_ev rq (0, [(9, 1)])) P h; simp only [g4, g5, g6, g7, g8]; exact t1)) (zu_fac ((x_KA0 _ _ _).mpr (by show zn_KA 1 0 (zq_ev rq (0, [(0, 1)])) (zq_ev rq (0, [(1, 1)])) (zq_ev rq (0, [(8, 1)])) (zq_ev rq (0, [(3, 1)])) (zq_ev rq (0, [(9, 1)])) P h; simp only [g0, g1, g2, g3, g4]; exact t2)) zq_fan))⟩
noncomputable def zn_LS : zq_S × List zq_S := (([], [], [(0, [(8, 1)]), (9999, [(8, -1)]), (0, [(9, 1)]), (9999, [(9, -1)]), (0, [(10, 1)]), (9999, [(10, -1)]), (0, [(11, 1)]), (9999, [(11, -1)]), (5, [(6, -1)]), (0, [(6, -4), (12, 1)]), (0, [(6, 4), (12, -1)]), (-1, [(6, -1), (13, 1)]), (1, [(6, 1), (13, -1)])], [], [((0, [(3, 1)]), (0, [(12, 1)]), (0, [(8, 1)])), ((0, [(3, 1)]), (1, [(12, 1)]), (0, [(9, 1)])), ((0, [(3, 1)]), (2, [(12, 1)]), (0, [(10, 1)])), ((0, [(3, 1)]), (3, [(12, 1)]), (0, [(11, 1)]))], [], [(140, [(0, [(0, 1)]), (0, [(1, 1)]), (0, [(2, 1)]), (0, [(3, 1)]), (0, [(4, 1)]), (0, [(5, 1)]), (0, [(6, 1)]), (0, [(7, 1)])])], 14), [([], [], [], [], [], [], [(133, [(0, [(7, 1)]), (0, [(6, 1)]), (0, [(8, 1)]), (0, [(9, 1)]), (0, [(10, 1)]), (0, [(11, 1)]), (0, [(14, 1)])]), (140, [(0, [(0, 1)]), (0, [(1, 1)]), (0, [(2, 1)]), (0, [(3, 1)]), (0, [(4, 1)]), (0, [(5, 1)]), (0, [(13, 1)]), (0, [(14, 1)])])], 15)])
theorem zn_LS_l {P : zq_Ty} {h : zq_H} {sg kn wt si p d s S x y z w q u : Int} (a1 : 0 ≤ x) (a2 : 0 ≤ -x + 9999) (a3 : 0 ≤ y) (a4 : 0 ≤ -y + 9999) (a5 : 0 ≤ z) (a6 : 0 ≤ -z + 9999) (a7 : 0 ≤ w) (a8 : 0 ≤ -w + 9999) (a9 : 0 ≤ -s + 5) (a10 : 0 ≤ -4 * s + q) (a11 : 0 ≤ 4 * s - q) (a12 : 0 ≤ -s + u - 1) (a13 : 0 ≤ s - u + 1) (s1 : 0 ≤ si ∧ P (si).toNat ≠ none ∧ h (si).toNat q = x) (s2 : 0 ≤ si ∧ P (si).toNat ≠ none ∧ h (si).toNat (q + 1) = y) (s3 : 0 ≤ si ∧ P (si).toNat ≠ none ∧ h (si).toNat (q + 2) = z) (s4 : 0 ≤ si ∧ P (si).toNat ≠ none ∧ h (si).toNat (q + 3) = w) (k1 : zn_LA 35 sg kn wt si p d s S P h) : (∃ T : Int, zn_SI S s x y z w T P h ∧ zn_LA 35 sg kn wt si p d u T P h) := by
  have eq : q = 4 * s := by omega
  have eu : u = s + 1 := by omega
  subst eq
  subst eu
  obtain ⟨z1, z2, z3, z4, c⟩ := k1
  exact ⟨zn_sg S s x y z w, rfl, z1, z2, z3, z4, zn_cn_sg c (by omega) (by unfold zn_in; omega) (by unfold zn_in; omega) (by unfold zn_in; omega) (by unfold zn_in; omega) s1.2.2 s2.2.2 s3.2.2 s4.2.2⟩
theorem zn_LS_ok {w : zq_Wd} (x_LA0 : zj_is w 140 (fun q => zn_LA 35 (q 0) (q 1) (q 2) (q 3) (q 4) (q 5) (q 6) (q 7))) (x_SI : zj_is w 133 (fun q => zn_SI (q 0) (q 1) (q 2) (q 3) (q 4) (q 5) (q 6))) : zq_okG1 w zn_LS := by
  refine ⟨rfl, rfl, zu_fac ⟨rfl, by decide⟩ zq_fan, ?_⟩
  intro r P h H hM
  have q0 : zq_ev r (0, [(8, 1)]) = r 8 := zu_e1 _ _
  have q1 : zq_ev r (9999, [(8, -1)]) = -r 8 + 9999 := zu_e5 _ _ _
  have q2 : zq_ev r (0, [(9, 1)]) = r 9 := zu_e1 _ _
  have q3 : zq_ev r (9999, [(9, -1)]) = -r 9 + 9999 := zu_e5 _ _ _
  have q4 : zq_ev r (0, [(10, 1)]) = r 10 := zu_e1 _ _
  have q5 : zq_ev r (9999, [(10, -1)]) = -r 10 + 9999 := zu_e5 _ _ _
  have q6 : zq_ev r (0, [(11, 1)]) = r 11 := zu_e1 _ _
  have q7 : zq_ev r (9999, [(11, -1)]) = -r 11 + 9999 := zu_e5 _ _ _
  have q8 : zq_ev r (5, [(6, -1)]) = -r 6 + 5 := zu_e5 _ _ _
  have q9 : zq_ev r (0, [(6, -4), (12, 1)]) = -4 * r 6 + r 12 := by simp only [zq_ev, zq_ts] <;> omega
  have q10 : zq_ev r (0, [(6, 4), (12, -1)]) = 4 * r 6 - r 12 := by simp only [zq_ev, zq_ts] <;> omega
  have q11 : zq_ev r (-1, [(6, -1), (13, 1)]) = -r 6 + r 13 - 1 := by simp only [zq_ev, zq_ts] <;> omega
  have q12 : zq_ev r (1, [(6, 1), (13, -1)]) = r 6 - r 13 + 1 := by simp only [zq_ev, zq_ts] <;> omega
  have q13 : zq_ev r (0, [(3, 1)]) = r 3 := zu_e1 _ _
  have q14 : zq_ev r (0, [(12, 1)]) = r 12 := zu_e1 _ _
  have q15 : zq_ev r (1, [(12, 1)]) = r 12 + 1 := zu_e2 _ _ _
  have q16 : zq_ev r (2, [(12, 1)]) = r 12 + 2 := zu_e2 _ _ _
  have q17 : zq_ev r (3, [(12, 1)]) = r 12 + 3 := zu_e2 _ _ _
  have q18 : zq_ev r (0, [(0, 1)]) = r 0 := zu_e1 _ _
  have q19 : zq_ev r (0, [(1, 1)]) = r 1 := zu_e1 _ _
  have q20 : zq_ev r (0, [(2, 1)]) = r 2 := zu_e1 _ _
  have q21 : zq_ev r (0, [(4, 1)]) = r 4 := zu_e1 _ _
  have q22 : zq_ev r (0, [(5, 1)]) = r 5 := zu_e1 _ _
  have q23 : zq_ev r (0, [(6, 1)]) = r 6 := zu_e1 _ _
  have q24 : zq_ev r (0, [(7, 1)]) = r 7 := zu_e1 _ _
  obtain ⟨hT, hC, hF, hS, -, hK⟩ := hM
  have c := hC.1
  have a1 := zq_all_1 c
  rw [q0] at a1
  have c := zq_all_t c
  have a2 := zq_all_1 c
  rw [q1] at a2
  have c := zq_all_t c
  have a3 := zq_all_1 c
  rw [q2] at a3
  have c := zq_all_t c
  have a4 := zq_all_1 c
  rw [q3] at a4
  have c := zq_all_t c
  have a5 := zq_all_1 c
  rw [q4] at a5
  have c := zq_all_t c
  have a6 := zq_all_1 c
  rw [q5] at a6
  have c := zq_all_t c
  have a7 := zq_all_1 c
  rw [q6] at a7
  have c := zq_all_t c
  have a8 := zq_all_1 c
  rw [q7] at a8
  have c := zq_all_t c
  have a9 := zq_all_1 c
  rw [q8] at a9
  have c := zq_all_t c
  have a10 := zq_all_1 c
  rw [q9] at a10
  have c := zq_all_t c
  have a11 := zq_all_1 c
  rw [q10] at a11
  have c := zq_all_t c
  have a12 := zq_all_1 c
  rw [q11] at a12
  have c := zq_all_t c
  have a13 := zq_all_1 c
  rw [q12] at a13
  have s1 := zq_okS_1 (hS)
  simp only [q0, q13, q14] at s1
  have s2 := zq_okS_1 (zq_okS_t (hS))
  simp only [q13, q15, q2] at s2
  have s3 := zq_okS_1 (zq_okS_t (zq_okS_t (hS)))
  simp only [q13, q16, q4] at s3
  have s4 := zq_okS_1 (zq_okS_t (zq_okS_t (zq_okS_t (hS))))
  simp only [q13, q17, q6] at s4
  have k1 := zj_use x_LA0 (hK)
  have k1 : zn_LA 35 (zq_ev r (0, [(0, 1)])) (zq_ev r (0, [(1, 1)])) (zq_ev r (0, [(2, 1)])) (zq_ev r (0, [(3, 1)])) (zq_ev r (0, [(4, 1)])) (zq_ev r (0, [(5, 1)])) (zq_ev r (0, [(6, 1)])) (zq_ev r (0, [(7, 1)])) P h := k1
  simp only [q13, q18, q19, q20, q21, q22, q23, q24] at k1
  obtain ⟨y_0, t1, t2⟩ := zn_LS_l (P := P) (h := h) (sg := r 0) (kn := r 1) (wt := r 2) (si := r 3) (p := r 4) (d := r 5) (s := r 6) (S := r 7) (x := r 8) (y := r 9) (z := r 10) (w := r 11) (q := r 12) (u := r 13) a1 a2 a3 a4 a5 a6 a7 a8 a9 a10 a11 a12 a13 s1 s2 s3 s4 k1
  obtain ⟨rq, hr, w14⟩ : ∃ rq : Nat → Int, (∀ i, i < 14 → rq i = r i) ∧ rq 14 = y_0 := ⟨zq_up r 14 y_0, fun i hi => by rw [zu_up_ne (by omega)], rfl⟩
  have v0 : rq 0 = r 0 := hr 0 (by decide)
  have v1 : rq 1 = r 1 := hr 1 (by decide)
  have v2 : rq 2 = r 2 := hr 2 (by decide)
  have v3 : rq 3 = r 3 := hr 3 (by decide)
  have v4 : rq 4 = r 4 := hr 4 (by decide)
  have v5 : rq 5 = r 5 := hr 5 (by decide)
  have v6 : rq 6 = r 6 := hr 6 (by decide)
  have v7 : rq 7 = r 7 := hr 7 (by decide)
  have v8 : rq 8 = r 8 := hr 8 (by decide)
  have v9 : rq 9 = r 9 := hr 9 (by decide)
  have v10 : rq 10 = r 10 := hr 10 (by decide)
  have v11 : rq 11 = r 11 := hr 11 (by decide)
  have v13 : rq 13 = r 13 := hr 13 (by decide)
  have g0 : zq_ev rq (0, [(0, 1)]) = r 0 := zu_f1 v0
  have g1 : zq_ev rq (0, [(1, 1)]) = r 1 := zu_f1 v1
  have g2 : zq_ev rq (0, [(2, 1)]) = r 2 := zu_f1 v2
  have g3 : zq_ev rq (0, [(3, 1)]) = r 3 := zu_f1 v3
  have g4 : zq_ev rq (0, [(4, 1)]) = r 4 := zu_f1 v4
  have g5 : zq_ev rq (0, [(5, 1)]) = r 5 := zu_f1 v5
  have g6 : zq_ev rq (0, [(13, 1)]) = r 13 := zu_f1 v13
  have g7 : zq_ev rq (0, [(14, 1)]) = y_0 := zu_f1 w14
  have g8 : zq_ev rq (0, [(7, 1)]) = r 7 := zu_f1 v7
  have g9 : zq_ev rq (0, [(6, 1)]) = r 6 := zu_f1 v6
  have g10 : zq_ev rq (0, [(8, 1)]) = r 8 := zu_f1 v8
  have g11 : zq_ev rq (0, [(9, 1)]) = r 9 := zu_f1 v9
  have g12 : zq_ev rq (0, [(10, 1)]) = r 10 := zu_f1 v10
  have g13 : zq_ev rq (0, [(11, 1)]) = r 11 := zu_f1 v11
  exact ⟨_, List.mem_cons_self .., rq, hr, zq_MeS_mk rfl hT (zq_all_nil) zq_fan (zq_fan) rfl (zu_fac ((x_SI _ _ _).mpr (by show zn_SI (zq_ev rq (0, [(7, 1)])) (zq_ev rq (0, [(6, 1)])) (zq_ev rq (0, [(8, 1)])) (zq_ev rq (0, [(9, 1)])) (zq_ev rq (0, [(10, 1)])) (zq_ev rq (0, [(11, 1)])) (zq_ev rq (0, [(14, 1)])) P h; simp only [g10, g11, g12, g13, g7, g8, g9]; exact t1)) (zu_fac ((x_LA0 _ _ _).mpr (by show zn_LA 35 (zq_ev rq (0, [(0, 1)])) (zq_ev rq (0, [(1, 1)])) (zq_ev rq (0, [(2, 1)])) (zq_ev rq (0, [(3, 1)])) (zq_ev rq (0, [(4, 1)])) (zq_ev rq (0, [(5, 1)])) (zq_ev rq (0, [(13, 1)])) (zq_ev rq (0, [(14, 1)])) P h; simp only [g0, g1, g2, g3, g4, g5, g6, g7]; exact t2)) zq_fan))⟩
noncomputable def zn_KS : zq_S × List zq_S := (([], [], [(0, [(5, 1)]), (9999, [(5, -1)]), (0, [(6, 1)]), (9999, [(6, -1)]), (0, [(7, 1)]), (9999, [(7, -1)]), (0, [(8, 1)]), (9999, [(8, -1)]), (5, [(3, -1)]), (0, [(3, -4), (9, 1)]), (0, [(3, 4), (9, -1)]), (-1, [(3, -1), (10, 1)]), (1, [(3, 1), (10, -1)])], [], [((0, [(0, 1)]), (33, [(9, 1)]), (0, [(5, 1)])), ((0, [(0, 1)]), (34, [(9, 1)]), (0, [(6, 1)])), ((0, [(0, 1)]), (35, [(9, 1)]), (0, [(7, 1)])), ((0, [(0, 1)]), (36, [(9, 1)]), (0, [(8, 1)]))], [], [(148, [(0, [(0, 1)]), (0, [(1, 1)]), (0, [(2, 1)]), (0, [(3, 1)]), (0, [(4, 1)])])], 11), [([], [], [], [], [], [], [(133, [(0, [(4, 1)]), (0, [(3, 1)]), (0, [(5, 1)]), (0, [(6, 1)]), (0, [(7, 1)]), (0, [(8, 1)]), (0, [(11, 1)])]), (148, [(0, [(0, 1)]), (0, [(1, 1)]), (0, [(2, 1)]), (0, [(10, 1)]), (0, [(11, 1)])])], 12)])
theorem zn_KS_l {P : zq_Ty} {h : zq_H} {a p d s S x y z w q u : Int} (a1 : 0 ≤ x) (a2 : 0 ≤ -x + 9999) (a3 : 0 ≤ y) (a4 : 0 ≤ -y + 9999) (a5 : 0 ≤ z) (a6 : 0 ≤ -z + 9999) (a7 : 0 ≤ w) (a8 : 0 ≤ -w + 9999) (a9 : 0 ≤ -s + 5) (a10 : 0 ≤ -4 * s + q) (a11 : 0 ≤ 4 * s - q) (a12 : 0 ≤ -s + u - 1) (a13 : 0 ≤ s - u + 1) (s1 : 0 ≤ a ∧ P (a).toNat ≠ none ∧ h (a).toNat (q + 33) = x) (s2 : 0 ≤ a ∧ P (a).toNat ≠ none ∧ h (a).toNat (q + 34) = y) (s3 : 0 ≤ a ∧ P (a).toNat ≠ none ∧ h (a).toNat (q + 35) = z) (s4 : 0 ≤ a ∧ P (a).toNat ≠ none ∧ h (a).toNat (q + 36) = w) (k1 : zn_KA 1 0 a p d s S P h) : (∃ T : Int, zn_SI S s x y z w T P h ∧ zn_KA 1 0 a p d u T P h) := by
  have eq : q = 4 * s := by omega
  have eu : u = s + 1 := by omega
  subst eq
  subst eu
  obtain ⟨z1, c⟩ := k1
  refine ⟨zn_sg S s x y z w, rfl, z1, zn_cn_sg c (by omega) (by unfold zn_in; omega) (by unfold zn_in; omega) (by unfold zn_in; omega) (by unfold zn_in; omega) ?_ ?_ ?_ ?_⟩
  · show h a.toNat (0 + 33 + 4 * s) = x
    rw [show (0 : Int) + 33 + 4 * s = 4 * s + 33 by omega]; exact s1.2.2
  · show h a.toNat (0 + 33 + (4 * s + 1)) = y
    rw [show (0 : Int) + 33 + (4 * s + 1) = 4 * s + 34 by omega]; exact s2.2.2
  · show h a.toNat (0 + 33 + (4 * s + 2)) = z
    rw [show (0 : Int) + 33 + (4 * s + 2) = 4 * s + 35 by omega]; exact s3.2.2
  · show h a.toNat (0 + 33 + (4 * s + 3)) = w
    rw [show (0 : Int) + 33 + (4 * s + 3) = 4 * s + 36 by omega]; exact s4.2.2
theorem zn_KS_ok {w : zq_Wd} (x_KA0 : zj_is w 148 (fun q => zn_KA 1 0 (q 0) (q 1) (q 2) (q 3) (q 4))) (x_SI : zj_is w 133 (fun q => zn_SI (q 0) (q 1) (q 2) (q 3) (q 4) (q 5) (q 6))) : zq_okG1 w zn_KS := by
  refine ⟨rfl, rfl, zu_fac ⟨rfl, by decide⟩ zq_fan, ?_⟩
  intro r P h H hM
  have q0 : zq_ev r (0, [(5, 1)]) = r 5 := zu_e1 _ _
  have q1 : zq_ev r (9999, [(5, -1)]) = -r 5 + 9999 := zu_e5 _ _ _
  have q2 : zq_ev r (0, [(6, 1)]) = r 6 := zu_e1 _ _
  have q3 : zq_ev r (9999, [(6, -1)]) = -r 6 + 9999 := zu_e5 _ _ _
  have q4 : zq_ev r (0, [(7, 1)]) = r 7 := zu_e1 _ _
  have q5 : zq_ev r (9999, [(7, -1)]) = -r 7 + 9999 := zu_e5 _ _ _
  have q6 : zq_ev r (0, [(8, 1)]) = r 8 := zu_e1 _ _
  have q7 : zq_ev r (9999, [(8, -1)]) = -r 8 + 9999 := zu_e5 _ _ _
  have q8 : zq_ev r (5, [(3, -1)]) = -r 3 + 5 := zu_e5 _ _ _
  have q9 : zq_ev r (0, [(3, -4), (9, 1)]) = -4 * r 3 + r 9 := by simp only [zq_ev, zq_ts] <;> omega
  have q10 : zq_ev r (0, [(3, 4), (9, -1)]) = 4 * r 3 - r 9 := by simp only [zq_ev, zq_ts] <;> omega
  have q11 : zq_ev r (-1, [(3, -1), (10, 1)]) = -r 3 + r 10 - 1 := by simp only [zq_ev, zq_ts] <;> omega
  have q12 : zq_ev r (1, [(3, 1), (10, -1)]) = r 3 - r 10 + 1 := by simp only [zq_ev, zq_ts] <;> omega
  have q13 : zq_ev r (0, [(0, 1)]) = r 0 := zu_e1 _ _
  have q14 : zq_ev r (33, [(9, 1)]) = r 9 + 33 := zu_e2 _ _ _
  have q15 : zq_ev r (34, [(9, 1)]) = r 9 + 34 := zu_e2 _ _ _
  have q16 : zq_ev r (35, [(9, 1)]) = r 9 + 35 := zu_e2 _ _ _
  have q17 : zq_ev r (36, [(9, 1)]) = r 9 + 36 := zu_e2 _ _ _
  have q18 : zq_ev r (0, [(1, 1)]) = r 1 := zu_e1 _ _
  have q19 : zq_ev r (0, [(2, 1)]) = r 2 := zu_e1 _ _
  have q20 : zq_ev r (0, [(3, 1)]) = r 3 := zu_e1 _ _
  have q21 : zq_ev r (0, [(4, 1)]) = r 4 := zu_e1 _ _
  obtain ⟨hT, hC, hF, hS, -, hK⟩ := hM
  have c := hC.1
  have a1 := zq_all_1 c
  rw [q0] at a1
  have c := zq_all_t c
  have a2 := zq_all_1 c
  rw [q1] at a2
  have c := zq_all_t c
  have a3 := zq_all_1 c
  rw [q2] at a3
  have c := zq_all_t c
  have a4 := zq_all_1 c
  rw [q3] at a4
  have c := zq_all_t c
  have a5 := zq_all_1 c
  rw [q4] at a5
  have c := zq_all_t c
  have a6 := zq_all_1 c
  rw [q5] at a6
  have c := zq_all_t c
  have a7 := zq_all_1 c
  rw [q6] at a7
  have c := zq_all_t c
  have a8 := zq_all_1 c
  rw [q7] at a8
  have c := zq_all_t c
  have a9 := zq_all_1 c
  rw [q8] at a9
  have c := zq_all_t c
  have a10 := zq_all_1 c
  rw [q9] at a10
  have c := zq_all_t c
  have a11 := zq_all_1 c
  rw [q10] at a11
  have c := zq_all_t c
  have a12 := zq_all_1 c
  rw [q11] at a12
  have c := zq_all_t c
  have a13 := zq_all_1 c
  rw [q12] at a13
  have s1 := zq_okS_1 (hS)
  simp only [q0, q13, q14] at s1
  have s2 := zq_okS_1 (zq_okS_t (hS))
  simp only [q13, q15, q2] at s2
  have s3 := zq_okS_1 (zq_okS_t (zq_okS_t (hS)))
  simp only [q13, q16, q4] at s3
  have s4 := zq_okS_1 (zq_okS_t (zq_okS_t (zq_okS_t (hS))))
  simp only [q13, q17, q6] at s4
  have k1 := zj_use x_KA0 (hK)
  have k1 : zn_KA 1 0 (zq_ev r (0, [(0, 1)])) (zq_ev r (0, [(1, 1)])) (zq_ev r (0, [(2, 1)])) (zq_ev r (0, [(3, 1)])) (zq_ev r (0, [(4, 1)])) P h := k1
  simp only [q13, q18, q19, q20, q21] at k1
  obtain ⟨y_0, t1, t2⟩ := zn_KS_l (P := P) (h := h) (a := r 0) (p := r 1) (d := r 2) (s := r 3) (S := r 4) (x := r 5) (y := r 6) (z := r 7) (w := r 8) (q := r 9) (u := r 10) a1 a2 a3 a4 a5 a6 a7 a8 a9 a10 a11 a12 a13 s1 s2 s3 s4 k1
  obtain ⟨rq, hr, w11⟩ : ∃ rq : Nat → Int, (∀ i, i < 11 → rq i = r i) ∧ rq 11 = y_0 := ⟨zq_up r 11 y_0, fun i hi => by rw [zu_up_ne (by omega)], rfl⟩
  have v0 : rq 0 = r 0 := hr 0 (by decide)
  have v1 : rq 1 = r 1 := hr 1 (by decide)
  have v2 : rq 2 = r 2 := hr 2 (by decide)
  have v3 : rq 3 = r 3 := hr 3 (by decide)
  have v4 : rq 4 = r 4 := hr 4 (by decide)
  have v5 : rq 5 = r 5 := hr 5 (by decide)
  have v6 : rq 6 = r 6 := hr 6 (by decide)
  have v7 : rq 7 = r 7 := hr 7 (by decide)
  have v8 : rq 8 = r 8 := hr 8 (by decide)
  have v10 : rq 10 = r 10 := hr 10 (by decide)
  have g0 : zq_ev rq (0, [(0, 1)]) = r 0 := zu_f1 v0
  have g1 : zq_ev rq (0, [(1, 1)]) = r 1 := zu_f1 v1
  have g2 : zq_ev rq (0, [(2, 1)]) = r 2 := zu_f1 v2
  have g3 : zq_ev rq (0, [(10, 1)]) = r 10 := zu_f1 v10
  have g4 : zq_ev rq (0, [(11, 1)]) = y_0 := zu_f1 w11
  have g5 : zq_ev rq (0, [(4, 1)]) = r 4 := zu_f1 v4
  have g6 : zq_ev rq (0, [(3, 1)]) = r 3 := zu_f1 v3
  have g7 : zq_ev rq (0, [(5, 1)]) = r 5 := zu_f1 v5
  have g8 : zq_ev rq (0, [(6, 1)]) = r 6 := zu_f1 v6
  have g9 : zq_ev rq (0, [(7, 1)]) = r 7 := zu_f1 v7
  have g10 : zq_ev rq (0, [(8, 1)]) = r 8 := zu_f1 v8
  exact ⟨_, List.mem_cons_self .., rq, hr, zq_MeS_mk rfl hT (zq_all_nil) zq_fan (zq_fan) rfl (zu_fac ((x_SI _ _ _).mpr (by show zn_SI (zq_ev rq (0, [(4, 1)])) (zq_ev rq (0, [(3, 1)])) (zq_ev rq (0, [(5, 1)])) (zq_ev rq (0, [(6, 1)])) (zq_ev rq (0, [(7, 1)])) (zq_ev rq (0, [(8, 1)])) (zq_ev rq (0, [(11, 1)])) P h; simp only [g10, g4, g5, g6, g7, g8, g9]; exact t1)) (zu_fac ((x_KA0 _ _ _).mpr (by show zn_KA 1 0 (zq_ev rq (0, [(0, 1)])) (zq_ev rq (0, [(1, 1)])) (zq_ev rq (0, [(2, 1)])) (zq_ev rq (0, [(10, 1)])) (zq_ev rq (0, [(11, 1)])) P h; simp only [g0, g1, g2, g3, g4]; exact t2)) zq_fan))⟩
noncomputable def zn_LF : zq_S × List zq_S := (([], [], [(0, [(8, 1)]), (0, [(6, 1), (8, -1)])], [], [], [], [(140, [(0, [(0, 1)]), (0, [(1, 1)]), (0, [(2, 1)]), (0, [(3, 1)]), (0, [(4, 1)]), (0, [(5, 1)]), (0, [(6, 1)]), (0, [(7, 1)])])], 9), [([], [], [], [], [], [], [(140, [(0, [(0, 1)]), (0, [(1, 1)]), (0, [(2, 1)]), (0, [(3, 1)]), (0, [(4, 1)]), (0, [(5, 1)]), (0, [(8, 1)]), (0, [(7, 1)])])], 9)])
theorem zn_LF_l {P : zq_Ty} {h : zq_H} {sg kn wt si p d s S t : Int} (a1 : 0 ≤ t) (a2 : 0 ≤ s - t) (k1 : zn_LA 35 sg kn wt si p d s S P h) : (zn_LA 35 sg kn wt si p d t S P h) := by
  obtain ⟨z1, z2, z3, z4, c⟩ := k1
  exact ⟨z1, z2, z3, z4, zn_cn_le c (by omega) (by omega)⟩
theorem zn_LF_ok {w : zq_Wd} (x_LA0 : zj_is w 140 (fun q => zn_LA 35 (q 0) (q 1) (q 2) (q 3) (q 4) (q 5) (q 6) (q 7))) : zq_okG1 w zn_LF := by
  refine ⟨rfl, rfl, zu_fac ⟨rfl, by decide⟩ zq_fan, ?_⟩
  intro r P h H hM
  have q0 : zq_ev r (0, [(8, 1)]) = r 8 := zu_e1 _ _
  have q1 : zq_ev r (0, [(6, 1), (8, -1)]) = r 6 - r 8 := by simp only [zq_ev, zq_ts] <;> omega
  have q2 : zq_ev r (0, [(0, 1)]) = r 0 := zu_e1 _ _
  have q3 : zq_ev r (0, [(1, 1)]) = r 1 := zu_e1 _ _
  have q4 : zq_ev r (0, [(2, 1)]) = r 2 := zu_e1 _ _
  have q5 : zq_ev r (0, [(3, 1)]) = r 3 := zu_e1 _ _
  have q6 : zq_ev r (0, [(4, 1)]) = r 4 := zu_e1 _ _
  have q7 : zq_ev r (0, [(5, 1)]) = r 5 := zu_e1 _ _
  have q8 : zq_ev r (0, [(6, 1)]) = r 6 := zu_e1 _ _
  have q9 : zq_ev r (0, [(7, 1)]) = r 7 := zu_e1 _ _
  obtain ⟨hT, hC, hF, hS, -, hK⟩ := hM
  have c := hC.1
  have a1 := zq_all_1 c
  rw [q0] at a1
  have c := zq_all_t c
  have a2 := zq_all_1 c
  rw [q1] at a2
  have k1 := zj_use x_LA0 (hK)
  have k1 : zn_LA 35 (zq_ev r (0, [(0, 1)])) (zq_ev r (0, [(1, 1)])) (zq_ev r (0, [(2, 1)])) (zq_ev r (0, [(3, 1)])) (zq_ev r (0, [(4, 1)])) (zq_ev r (0, [(5, 1)])) (zq_ev r (0, [(6, 1)])) (zq_ev r (0, [(7, 1)])) P h := k1
  simp only [q2, q3, q4, q5, q6, q7, q8, q9] at k1
  obtain t1 := zn_LF_l (P := P) (h := h) (sg := r 0) (kn := r 1) (wt := r 2) (si := r 3) (p := r 4) (d := r 5) (s := r 6) (S := r 7) (t := r 8) a1 a2 k1
  obtain ⟨rq, hr⟩ : ∃ rq : Nat → Int, (∀ i, i < 9 → rq i = r i) := ⟨r, fun i hi => rfl⟩
  have v0 : rq 0 = r 0 := hr 0 (by decide)
  have v1 : rq 1 = r 1 := hr 1 (by decide)
  have v2 : rq 2 = r 2 := hr 2 (by decide)
  have v3 : rq 3 = r 3 := hr 3 (by decide)
  have v4 : rq 4 = r 4 := hr 4 (by decide)
  have v5 : rq 5 = r 5 := hr 5 (by decide)
  have v7 : rq 7 = r 7 := hr 7 (by decide)
  have v8 : rq 8 = r 8 := hr 8 (by decide)
  have g0 : zq_ev rq (0, [(0, 1)]) = r 0 := zu_f1 v0
  have g1 : zq_ev rq (0, [(1, 1)]) = r 1 := zu_f1 v1
  have g2 : zq_ev rq (0, [(2, 1)]) = r 2 := zu_f1 v2
  have g3 : zq_ev rq (0, [(3, 1)]) = r 3 := zu_f1 v3
  have g4 : zq_ev rq (0, [(4, 1)]) = r 4 := zu_f1 v4
  have g5 : zq_ev rq (0, [(5, 1)]) = r 5 := zu_f1 v5
  have g6 : zq_ev rq (0, [(8, 1)]) = r 8 := zu_f1 v8
  have g7 : zq_ev rq (0, [(7, 1)]) = r 7 := zu_f1 v7
  exact ⟨_, List.mem_cons_self .., rq, hr, zq_MeS_mk rfl hT (zq_all_nil) zq_fan (zq_fan) rfl (zu_fac ((x_LA0 _ _ _).mpr (by show zn_LA 35 (zq_ev rq (0, [(0, 1)])) (zq_ev rq (0, [(1, 1)])) (zq_ev rq (0, [(2, 1)])) (zq_ev rq (0, [(3, 1)])) (zq_ev rq (0, [(4, 1)])) (zq_ev rq (0, [(5, 1)])) (zq_ev rq (0, [(8, 1)])) (zq_ev rq (0, [(7, 1)])) P h; simp only [g0, g1, g2, g3, g4, g5, g6, g7]; exact t1)) zq_fan)⟩
noncomputable def zn_KF : zq_S × List zq_S := (([], [], [(0, [(5, 1)]), (0, [(3, 1), (5, -1)])], [], [], [], [(148, [(0, [(0, 1)]), (0, [(1, 1)]), (0, [(2, 1)]), (0, [(3, 1)]), (0, [(4, 1)])])], 6), [([], [], [], [], [], [], [(148, [(0, [(0, 1)]), (0, [(1, 1)]), (0, [(2, 1)]), (0, [(5, 1)]), (0, [(4, 1)])])], 6)])
theorem zn_KF_l {P : zq_Ty} {h : zq_H} {a p d s S t : Int} (a1 : 0 ≤ t) (a2 : 0 ≤ s - t) (k1 : zn_KA 1 0 a p d s S P h) : (zn_KA 1 0 a p d t S P h) := by
  obtain ⟨z1, c⟩ := k1
  exact ⟨z1, zn_cn_le c (by omega) (by omega)⟩
theorem zn_KF_ok {w : zq_Wd} (x_KA0 : zj_is w 148 (fun q => zn_KA 1 0 (q 0) (q 1) (q 2) (q 3) (q 4))) : zq_okG1 w zn_KF := by
  refine ⟨rfl, rfl, zu_fac ⟨rfl, by decide⟩ zq_fan, ?_⟩
  intro r P h H hM
  have q0 : zq_ev r (0, [(5, 1)]) = r 5 := zu_e1 _ _
  have q1 : zq_ev r (0, [(3, 1), (5, -1)]) = r 3 - r 5 := by simp only [zq_ev, zq_ts] <;> omega
  have q2 : zq_ev r (0, [(0, 1)]) = r 0 := zu_e1 _ _
  have q3 : zq_ev r (0, [(1, 1)]) = r 1 := zu_e1 _ _
  have q4 : zq_ev r (0, [(2, 1)]) = r 2 := zu_e1 _ _
  have q5 : zq_ev r (0, [(3, 1)]) = r 3 := zu_e1 _ _
  have q6 : zq_ev r (0, [(4, 1)]) = r 4 := zu_e1 _ _
  obtain ⟨hT, hC, hF, hS, -, hK⟩ := hM
  have c := hC.1
  have a1 := zq_all_1 c
  rw [q0] at a1
  have c := zq_all_t c
  have a2 := zq_all_1 c
  rw [q1] at a2
  have k1 := zj_use x_KA0 (hK)
  have k1 : zn_KA 1 0 (zq_ev r (0, [(0, 1)])) (zq_ev r (0, [(1, 1)])) (zq_ev r (0, [(2, 1)])) (zq_ev r (0, [(3, 1)])) (zq_ev r (0, [(4, 1)])) P h := k1
  simp only [q2, q3, q4, q5, q6] at k1
  obtain t1 := zn_KF_l (P := P) (h := h) (a := r 0) (p := r 1) (d := r 2) (s := r 3) (S := r 4) (t := r 5) a1 a2 k1
  obtain ⟨rq, hr⟩ : ∃ rq : Nat → Int, (∀ i, i < 6 → rq i = r i) := ⟨r, fun i hi => rfl⟩
  have v0 : rq 0 = r 0 := hr 0 (by decide)
  have v1 : rq 1 = r 1 := hr 1 (by decide)
  have v2 : rq 2 = r 2 := hr 2 (by decide)
  have v4 : rq 4 = r 4 := hr 4 (by decide)
  have v5 : rq 5 = r 5 := hr 5 (by decide)
  have g0 : zq_ev rq (0, [(0, 1)]) = r 0 := zu_f1 v0
  have g1 : zq_ev rq (0, [(1, 1)]) = r 1 := zu_f1 v1
  have g2 : zq_ev rq (0, [(2, 1)]) = r 2 := zu_f1 v2
  have g3 : zq_ev rq (0, [(5, 1)]) = r 5 := zu_f1 v5
  have g4 : zq_ev rq (0, [(4, 1)]) = r 4 := zu_f1 v4
  exact ⟨_, List.mem_cons_self .., rq, hr, zq_MeS_mk rfl hT (zq_all_nil) zq_fan (zq_fan) rfl (zu_fac ((x_KA0 _ _ _).mpr (by show zn_KA 1 0 (zq_ev rq (0, [(0, 1)])) (zq_ev rq (0, [(1, 1)])) (zq_ev rq (0, [(2, 1)])) (zq_ev rq (0, [(5, 1)])) (zq_ev rq (0, [(4, 1)])) P h; simp only [g0, g1, g2, g3, g4]; exact t1)) zq_fan)⟩
noncomputable def zn_LC0 : zq_S × List zq_S := (([], [], [], [], [], [], [(141, [(0, [(4, 1)]), (0, [(5, 1)]), (0, [(6, 1)]), (0, [(7, 1)]), (0, [(8, 1)]), (0, [(9, 1)]), (0, [(10, 1)]), (0, [(11, 1)])]), (160, [(0, [(0, 1)]), (0, [(4, 1)])]), (161, [(0, [(1, 1)]), (0, [(5, 1)])]), (162, [(0, [(2, 1)]), (0, [(6, 1)])]), (163, [(0, [(3, 1)]), (0, [(7, 1)])])], 12), [([], [], [], [], [], [], [(140, [(0, [(0, 1)]), (0, [(1, 1)]), (0, [(2, 1)]), (0, [(3, 1)]), (0, [(8, 1)]), (0, [(9, 1)]), (0, [(10, 1)]), (0, [(11, 1)])])], 12)])
theorem zn_LC0_l {P : zq_Ty} {h : zq_H} {sg kn wt si sh ko wu sj p d s S : Int} (k1 : zn_LA 50 sh ko wu sj p d s S P h) (k2 : zn_E 6 35 50 sg sh P h) (k3 : zn_E 6 37 52 kn ko P h) (k4 : zn_E 6 38 53 wt wu P h) (k5 : zn_E 24 41 56 si sj P h) : (zn_LA 35 sg kn wt si p d s S P h) := by
  obtain ⟨z1, z2, z3, z4, c⟩ := k1
  have b := c.1
  obtain ⟨p1, p2, -, -, p5⟩ := k2
  obtain ⟨q1, q2, -, -, q5⟩ := k3
  obtain ⟨r1, r2, -, -, r5⟩ := k4
  obtain ⟨t1, t2, -, -, t5⟩ := k5
  exact ⟨⟨p1, p2⟩, ⟨q1, q2⟩, ⟨r1, r2⟩, ⟨t1, t2⟩, zn_cn_cong (fun i x y => p5 i x (by show i < 6; omega)) (fun i x y => q5 i x (by show i < 6; omega)) (fun i x y => r5 i x (by show i < 6; omega)) (fun i x y => t5 i x (by show i < 24; omega)) c⟩
theorem zn_LC0_ok {w : zq_Wd} (x_LA1 : zj_is w 141 (fun q => zn_LA 50 (q 0) (q 1) (q 2) (q 3) (q 4) (q 5) (q 6) (q 7))) (x_E0_0 : zj_is w 160 (fun q => zn_E 6 35 50 (q 0) (q 1))) (x_E0_1 : zj_is w 161 (fun q => zn_E 6 37 52 (q 0) (q 1))) (x_E0_2 : zj_is w 162 (fun q => zn_E 6 38 53 (q 0) (q 1))) (x_E0_3 : zj_is w 163 (fun q => zn_E 24 41 56 (q 0) (q 1))) (x_LA0 : zj_is w 140 (fun q => zn_LA 35 (q 0) (q 1) (q 2) (q 3) (q 4) (q 5) (q 6) (q 7))) : zq_okG1 w zn_LC0 := by
  refine ⟨rfl, rfl, zu_fac ⟨rfl, by decide⟩ zq_fan, ?_⟩
  intro r P h H hM
  have q0 : zq_ev r (0, [(4, 1)]) = r 4 := zu_e1 _ _
  have q1 : zq_ev r (0, [(5, 1)]) = r 5 := zu_e1 _ _
  have q2 : zq_ev r (0, [(6, 1)]) = r 6 := zu_e1 _ _
  have q3 : zq_ev r (0, [(7, 1)]) = r 7 := zu_e1 _ _
  have q4 : zq_ev r (0, [(8, 1)]) = r 8 := zu_e1 _ _
  have q5 : zq_ev r (0, [(9, 1)]) = r 9 := zu_e1 _ _
  have q6 : zq_ev r (0, [(10, 1)]) = r 10 := zu_e1 _ _
  have q7 : zq_ev r (0, [(11, 1)]) = r 11 := zu_e1 _ _
  have q8 : zq_ev r (0, [(0, 1)]) = r 0 := zu_e1 _ _
  have q9 : zq_ev r (0, [(1, 1)]) = r 1 := zu_e1 _ _
  have q10 : zq_ev r (0, [(2, 1)]) = r 2 := zu_e1 _ _
  have q11 : zq_ev r (0, [(3, 1)]) = r 3 := zu_e1 _ _
  obtain ⟨hT, hC, hF, hS, -, hK⟩ := hM
  have c := hC.1
  have k1 := zj_use x_LA1 (hK)
  have k1 : zn_LA 50 (zq_ev r (0, [(4, 1)])) (zq_ev r (0, [(5, 1)])) (zq_ev r (0, [(6, 1)])) (zq_ev r (0, [(7, 1)])) (zq_ev r (0, [(8, 1)])) (zq_ev r (0, [(9, 1)])) (zq_ev r (0, [(10, 1)])) (zq_ev r (0, [(11, 1)])) P h := k1
  simp only [q0, q1, q2, q3, q4, q5, q6, q7] at k1
  have k2 := zj_use x_E0_0 (zq_okX_t (hK))
  have k2 : zn_E 6 35 50 (zq_ev r (0, [(0, 1)])) (zq_ev r (0, [(4, 1)])) P h := k2
  simp only [q0, q8] at k2
  have k3 := zj_use x_E0_1 (zq_okX_t (zq_okX_t (hK)))
  have k3 : zn_E 6 37 52 (zq_ev r (0, [(1, 1)])) (zq_ev r (0, [(5, 1)])) P h := k3
  simp only [q1, q9] at k3
  have k4 := zj_use x_E0_2 (zq_okX_t (zq_okX_t (zq_okX_t (hK))))
  have k4 : zn_E 6 38 53 (zq_ev r (0, [(2, 1)])) (zq_ev r (0, [(6, 1)])) P h := k4
  simp only [q10, q2] at k4
  have k5 := zj_use x_E0_3 (zq_okX_t (zq_okX_t (zq_okX_t (zq_okX_t (hK)))))
  have k5 : zn_E 24 41 56 (zq_ev r (0, [(3, 1)])) (zq_ev r (0, [(7, 1)])) P h := k5
  simp only [q11, q3] at k5
  obtain t1 := zn_LC0_l (P := P) (h := h) (sg := r 0) (kn := r 1) (wt := r 2) (si := r 3) (sh := r 4) (ko := r 5) (wu := r 6) (sj := r 7) (p := r 8) (d := r 9) (s := r 10) (S := r 11) k1 k2 k3 k4 k5
  obtain ⟨rq, hr⟩ : ∃ rq : Nat → Int, (∀ i, i < 12 → rq i = r i) := ⟨r, fun i hi => rfl⟩
  have v0 : rq 0 = r 0 := hr 0 (by decide)
  have v1 : rq 1 = r 1 := hr 1 (by decide)
  have v2 : rq 2 = r 2 := hr 2 (by decide)
  have v3 : rq 3 = r 3 := hr 3 (by decide)
  have v8 : rq 8 = r 8 := hr 8 (by decide)
  have v9 : rq 9 = r 9 := hr 9 (by decide)
  have v10 : rq 10 = r 10 := hr 10 (by decide)
  have v11 : rq 11 = r 11 := hr 11 (by decide)
  have g0 : zq_ev rq (0, [(0, 1)]) = r 0 := zu_f1 v0
  have g1 : zq_ev rq (0, [(1, 1)]) = r 1 := zu_f1 v1
  have g2 : zq_ev rq (0, [(2, 1)]) = r 2 := zu_f1 v2
  have g3 : zq_ev rq (0, [(3, 1)]) = r 3 := zu_f1 v3
  have g4 : zq_ev rq (0, [(8, 1)]) = r 8 := zu_f1 v8
  have g5 : zq_ev rq (0, [(9, 1)]) = r 9 := zu_f1 v9
  have g6 : zq_ev rq (0, [(10, 1)]) = r 10 := zu_f1 v10
  have g7 : zq_ev rq (0, [(11, 1)]) = r 11 := zu_f1 v11
  exact ⟨_, List.mem_cons_self .., rq, hr, zq_MeS_mk rfl hT (zq_all_nil) zq_fan (zq_fan) rfl (zu_fac ((x_LA0 _ _ _).mpr (by show zn_LA 35 (zq_ev rq (0, [(0, 1)])) (zq_ev rq (0, [(1, 1)])) (zq_ev rq (0, [(2, 1)])) (zq_ev rq (0, [(3, 1)])) (zq_ev rq (0, [(8, 1)])) (zq_ev rq (0, [(9, 1)])) (zq_ev rq (0, [(10, 1)])) (zq_ev rq (0, [(11, 1)])) P h; simp only [g0, g1, g2, g3, g4, g5, g6, g7]; exact t1)) zq_fan)⟩
noncomputable def zn_LC1 : zq_S × List zq_S := (([], [], [], [], [], [], [(140, [(0, [(4, 1)]), (0, [(5, 1)]), (0, [(6, 1)]), (0, [(7, 1)]), (0, [(8, 1)]), (0, [(9, 1)]), (0, [(10, 1)]), (0, [(11, 1)])]), (164, [(0, [(0, 1)]), (0, [(4, 1)])]), (165, [(0, [(1, 1)]), (0, [(5, 1)])]), (166, [(0, [(2, 1)]), (0, [(6, 1)])]), (167, [(0, [(3, 1)]), (0, [(7, 1)])])], 12), [([], [], [], [], [], [], [(141, [(0, [(0, 1)]), (0, [(1, 1)]), (0, [(2, 1)]), (0, [(3, 1)]), (0, [(8, 1)]), (0, [(9, 1)]), (0, [(10, 1)]), (0, [(11, 1)])])], 12)])
theorem zn_LC1_l {P : zq_Ty} {h : zq_H} {sg kn wt si sh ko wu sj p d s S : Int} (k1 : zn_LA 35 sh ko wu sj p d s S P h) (k2 : zn_E 6 50 35 sg sh P h) (k3 : zn_E 6 52 37 kn ko P h) (k4 : zn_E 6 53 38 wt wu P h) (k5 : zn_E 24 56 41 si sj P h) : (zn_LA 50 sg kn wt si p d s S P h) := by
  obtain ⟨z1, z2, z3, z4, c⟩ := k1
  have b := c.1
  obtain ⟨p1, p2, -, -, p5⟩ := k2
  obtain ⟨q1, q2, -, -, q5⟩ := k3
  obtain ⟨r1, r2, -, -, r5⟩ := k4
  obtain ⟨t1, t2, -, -, t5⟩ := k5
  exact ⟨⟨p1, p2⟩, ⟨q1, q2⟩, ⟨r1, r2⟩, ⟨t1, t2⟩, zn_cn_cong (fun i x y => p5 i x (by show i < 6; omega)) (fun i x y => q5 i x (by show i < 6; omega)) (fun i x y => r5 i x (by show i < 6; omega)) (fun i x y => t5 i x (by show i < 24; omega)) c⟩
theorem zn_LC1_ok {w : zq_Wd} (x_LA0 : zj_is w 140 (fun q => zn_LA 35 (q 0) (q 1) (q 2) (q 3) (q 4) (q 5) (q 6) (q 7))) (x_E1_0 : zj_is w 164 (fun q => zn_E 6 50 35 (q 0) (q 1))) (x_E1_1 : zj_is w 165 (fun q => zn_E 6 52 37 (q 0) (q 1))) (x_E1_2 : zj_is w 166 (fun q => zn_E 6 53 38 (q 0) (q 1))) (x_E1_3 : zj_is w 167 (fun q => zn_E 24 56 41 (q 0) (q 1))) (x_LA1 : zj_is w 141 (fun q => zn_LA 50 (q 0) (q 1) (q 2) (q 3) (q 4) (q 5) (q 6) (q 7))) : zq_okG1 w zn_LC1 := by
  refine ⟨rfl, rfl, zu_fac ⟨rfl, by decide⟩ zq_fan, ?_⟩
  intro r P h H hM
  have q0 : zq_ev r (0, [(4, 1)]) = r 4 := zu_e1 _ _
  have q1 : zq_ev r (0, [(5, 1)]) = r 5 := zu_e1 _ _
  have q2 : zq_ev r (0, [(6, 1)]) = r 6 := zu_e1 _ _
  have q3 : zq_ev r (0, [(7, 1)]) = r 7 := zu_e1 _ _
  have q4 : zq_ev r (0, [(8, 1)]) = r 8 := zu_e1 _ _
  have q5 : zq_ev r (0, [(9, 1)]) = r 9 := zu_e1 _ _
  have q6 : zq_ev r (0, [(10, 1)]) = r 10 := zu_e1 _ _
  have q7 : zq_ev r (0, [(11, 1)]) = r 11 := zu_e1 _ _
  have q8 : zq_ev r (0, [(0, 1)]) = r 0 := zu_e1 _ _
  have q9 : zq_ev r (0, [(1, 1)]) = r 1 := zu_e1 _ _
  have q10 : zq_ev r (0, [(2, 1)]) = r 2 := zu_e1 _ _
  have q11 : zq_ev r (0, [(3, 1)]) = r 3 := zu_e1 _ _
  obtain ⟨hT, hC, hF, hS, -, hK⟩ := hM
  have c := hC.1
  have k1 := zj_use x_LA0 (hK)
  have k1 : zn_LA 35 (zq_ev r (0, [(4, 1)])) (zq_ev r (0, [(5, 1)])) (zq_ev r (0, [(6, 1)])) (zq_ev r (0, [(7, 1)])) (zq_ev r (0, [(8, 1)])) (zq_ev r (0, [(9, 1)])) (zq_ev r (0, [(10, 1)])) (zq_ev r (0, [(11, 1)])) P h := k1
  simp only [q0, q1, q2, q3, q4, q5, q6, q7] at k1
  have k2 := zj_use x_E1_0 (zq_okX_t (hK))
  have k2 : zn_E 6 50 35 (zq_ev r (0, [(0, 1)])) (zq_ev r (0, [(4, 1)])) P h := k2
  simp only [q0, q8] at k2
  have k3 := zj_use x_E1_1 (zq_okX_t (zq_okX_t (hK)))
  have k3 : zn_E 6 52 37 (zq_ev r (0, [(1, 1)])) (zq_ev r (0, [(5, 1)])) P h := k3
  simp only [q1, q9] at k3
  have k4 := zj_use x_E1_2 (zq_okX_t (zq_okX_t (zq_okX_t (hK))))
  have k4 : zn_E 6 53 38 (zq_ev r (0, [(2, 1)])) (zq_ev r (0, [(6, 1)])) P h := k4
  simp only [q10, q2] at k4
  have k5 := zj_use x_E1_3 (zq_okX_t (zq_okX_t (zq_okX_t (zq_okX_t (hK)))))
  have k5 : zn_E 24 56 41 (zq_ev r (0, [(3, 1)])) (zq_ev r (0, [(7, 1)])) P h := k5
  simp only [q11, q3] at k5
  obtain t1 := zn_LC1_l (P := P) (h := h) (sg := r 0) (kn := r 1) (wt := r 2) (si := r 3) (sh := r 4) (ko := r 5) (wu := r 6) (sj := r 7) (p := r 8) (d := r 9) (s := r 10) (S := r 11) k1 k2 k3 k4 k5
  obtain ⟨rq, hr⟩ : ∃ rq : Nat → Int, (∀ i, i < 12 → rq i = r i) := ⟨r, fun i hi => rfl⟩
  have v0 : rq 0 = r 0 := hr 0 (by decide)
  have v1 : rq 1 = r 1 := hr 1 (by decide)
  have v2 : rq 2 = r 2 := hr 2 (by decide)
  have v3 : rq 3 = r 3 := hr 3 (by decide)
  have v8 : rq 8 = r 8 := hr 8 (by decide)
  have v9 : rq 9 = r 9 := hr 9 (by decide)
  have v10 : rq 10 = r 10 := hr 10 (by decide)
  have v11 : rq 11 = r 11 := hr 11 (by decide)
  have g0 : zq_ev rq (0, [(0, 1)]) = r 0 := zu_f1 v0
  have g1 : zq_ev rq (0, [(1, 1)]) = r 1 := zu_f1 v1
  have g2 : zq_ev rq (0, [(2, 1)]) = r 2 := zu_f1 v2
  have g3 : zq_ev rq (0, [(3, 1)]) = r 3 := zu_f1 v3
  have g4 : zq_ev rq (0, [(8, 1)]) = r 8 := zu_f1 v8
  have g5 : zq_ev rq (0, [(9, 1)]) = r 9 := zu_f1 v9
  have g6 : zq_ev rq (0, [(10, 1)]) = r 10 := zu_f1 v10
  have g7 : zq_ev rq (0, [(11, 1)]) = r 11 := zu_f1 v11
  exact ⟨_, List.mem_cons_self .., rq, hr, zq_MeS_mk rfl hT (zq_all_nil) zq_fan (zq_fan) rfl (zu_fac ((x_LA1 _ _ _).mpr (by show zn_LA 50 (zq_ev rq (0, [(0, 1)])) (zq_ev rq (0, [(1, 1)])) (zq_ev rq (0, [(2, 1)])) (zq_ev rq (0, [(3, 1)])) (zq_ev rq (0, [(8, 1)])) (zq_ev rq (0, [(9, 1)])) (zq_ev rq (0, [(10, 1)])) (zq_ev rq (0, [(11, 1)])) P h; simp only [g0, g1, g2, g3, g4, g5, g6, g7]; exact t1)) zq_fan)⟩
noncomputable def zn_LC2 : zq_S × List zq_S := (([], [], [], [], [], [], [(140, [(0, [(4, 1)]), (0, [(5, 1)]), (0, [(6, 1)]), (0, [(7, 1)]), (0, [(8, 1)]), (0, [(9, 1)]), (0, [(10, 1)]), (0, [(11, 1)])]), (168, [(0, [(0, 1)]), (0, [(4, 1)])]), (169, [(0, [(1, 1)]), (0, [(5, 1)])]), (170, [(0, [(2, 1)]), (0, [(6, 1)])]), (171, [(0, [(3, 1)]), (0, [(7, 1)])])], 12), [([], [], [], [], [], [], [(142, [(0, [(0, 1)]), (0, [(1, 1)]), (0, [(2, 1)]), (0, [(3, 1)]), (0, [(8, 1)]), (0, [(9, 1)]), (0, [(10, 1)]), (0, [(11, 1)])])], 12)])
theorem zn_LC2_l {P : zq_Ty} {h : zq_H} {sg kn wt si sh ko wu sj p d s S : Int} (k1 : zn_LA 35 sh ko wu sj p d s S P h) (k2 : zn_E 6 65 35 sg sh P h) (k3 : zn_E 6 67 37 kn ko P h) (k4 : zn_E 6 68 38 wt wu P h) (k5 : zn_E 24 71 41 si sj P h) : (zn_LA 65 sg kn wt si p d s S P h) := by
  obtain ⟨z1, z2, z3, z4, c⟩ := k1
  have b := c.1
  obtain ⟨p1, p2, -, -, p5⟩ := k2
  obtain ⟨q1, q2, -, -, q5⟩ := k3
  obtain ⟨r1, r2, -, -, r5⟩ := k4
  obtain ⟨t1, t2, -, -, t5⟩ := k5
  exact ⟨⟨p1, p2⟩, ⟨q1, q2⟩, ⟨r1, r2⟩, ⟨t1, t2⟩, zn_cn_cong (fun i x y => p5 i x (by show i < 6; omega)) (fun i x y => q5 i x (by show i < 6; omega)) (fun i x y => r5 i x (by show i < 6; omega)) (fun i x y => t5 i x (by show i < 24; omega)) c⟩
theorem zn_LC2_ok {w : zq_Wd} (x_LA0 : zj_is w 140 (fun q => zn_LA 35 (q 0) (q 1) (q 2) (q 3) (q 4) (q 5) (q 6) (q 7))) (x_E2_0 : zj_is w 168 (fun q => zn_E 6 65 35 (q 0) (q 1))) (x_E2_1 : zj_is w 169 (fun q => zn_E 6 67 37 (q 0) (q 1))) (x_E2_2 : zj_is w 170 (fun q => zn_E 6 68 38 (q 0) (q 1))) (x_E2_3 : zj_is w 171 (fun q => zn_E 24 71 41 (q 0) (q 1))) (x_LA2 : zj_is w 142 (fun q => zn_LA 65 (q 0) (q 1) (q 2) (q 3) (q 4) (q 5) (q 6) (q 7))) : zq_okG1 w zn_LC2 := by
  refine ⟨rfl, rfl, zu_fac ⟨rfl, by decide⟩ zq_fan, ?_⟩
  intro r P h H hM
  have q0 : zq_ev r (0, [(4, 1)]) = r 4 := zu_e1 _ _
  have q1 : zq_ev r (0, [(5, 1)]) = r 5 := zu_e1 _ _
  have q2 : zq_ev r (0, [(6, 1)]) = r 6 := zu_e1 _ _
  have q3 : zq_ev r (0, [(7, 1)]) = r 7 := zu_e1 _ _
  have q4 : zq_ev r (0, [(8, 1)]) = r 8 := zu_e1 _ _
  have q5 : zq_ev r (0, [(9, 1)]) = r 9 := zu_e1 _ _
  have q6 : zq_ev r (0, [(10, 1)]) = r 10 := zu_e1 _ _
  have q7 : zq_ev r (0, [(11, 1)]) = r 11 := zu_e1 _ _
  have q8 : zq_ev r (0, [(0, 1)]) = r 0 := zu_e1 _ _
  have q9 : zq_ev r (0, [(1, 1)]) = r 1 := zu_e1 _ _
  have q10 : zq_ev r (0, [(2, 1)]) = r 2 := zu_e1 _ _
  have q11 : zq_ev r (0, [(3, 1)]) = r 3 := zu_e1 _ _
  obtain ⟨hT, hC, hF, hS, -, hK⟩ := hM
  have c := hC.1
  have k1 := zj_use x_LA0 (hK)
  have k1 : zn_LA 35 (zq_ev r (0, [(4, 1)])) (zq_ev r (0, [(5, 1)])) (zq_ev r (0, [(6, 1)])) (zq_ev r (0, [(7, 1)])) (zq_ev r (0, [(8, 1)])) (zq_ev r (0, [(9, 1)])) (zq_ev r (0, [(10, 1)])) (zq_ev r (0, [(11, 1)])) P h := k1
  simp only [q0, q1, q2, q3, q4, q5, q6, q7] at k1
  have k2 := zj_use x_E2_0 (zq_okX_t (hK))
  have k2 : zn_E 6 65 35 (zq_ev r (0, [(0, 1)])) (zq_ev r (0, [(4, 1)])) P h := k2
  simp only [q0, q8] at k2
  have k3 := zj_use x_E2_1 (zq_okX_t (zq_okX_t (hK)))
  have k3 : zn_E 6 67 37 (zq_ev r (0, [(1, 1)])) (zq_ev r (0, [(5, 1)])) P h := k3
  simp only [q1, q9] at k3
  have k4 := zj_use x_E2_2 (zq_okX_t (zq_okX_t (zq_okX_t (hK))))
  have k4 : zn_E 6 68 38 (zq_ev r (0, [(2, 1)])) (zq_ev r (0, [(6, 1)])) P h := k4
  simp only [q10, q2] at k4
  have k5 := zj_use x_E2_3 (zq_okX_t (zq_okX_t (zq_okX_t (zq_okX_t (hK)))))
  have k5 : zn_E 24 71 41 (zq_ev r (0, [(3, 1)])) (zq_ev r (0, [(7, 1)])) P h := k5
  simp only [q11, q3] at k5
  obtain t1 := zn_LC2_l (P := P) (h := h) (sg := r 0) (kn := r 1) (wt := r 2) (si := r 3) (sh := r 4) (ko := r 5) (wu := r 6) (sj := r 7) (p := r 8) (d := r 9) (s := r 10) (S := r 11) k1 k2 k3 k4 k5
  obtain ⟨rq, hr⟩ : ∃ rq : Nat → Int, (∀ i, i < 12 → rq i = r i) := ⟨r, fun i hi => rfl⟩
  have v0 : rq 0 = r 0 := hr 0 (by decide)
  have v1 : rq 1 = r 1 := hr 1 (by decide)
  have v2 : rq 2 = r 2 := hr 2 (by decide)
  have v3 : rq 3 = r 3 := hr 3 (by decide)
  have v8 : rq 8 = r 8 := hr 8 (by decide)
  have v9 : rq 9 = r 9 := hr 9 (by decide)
  have v10 : rq 10 = r 10 := hr 10 (by decide)
  have v11 : rq 11 = r 11 := hr 11 (by decide)
  have g0 : zq_ev rq (0, [(0, 1)]) = r 0 := zu_f1 v0
  have g1 : zq_ev rq (0, [(1, 1)]) = r 1 := zu_f1 v1
  have g2 : zq_ev rq (0, [(2, 1)]) = r 2 := zu_f1 v2
  have g3 : zq_ev rq (0, [(3, 1)]) = r 3 := zu_f1 v3
  have g4 : zq_ev rq (0, [(8, 1)]) = r 8 := zu_f1 v8
  have g5 : zq_ev rq (0, [(9, 1)]) = r 9 := zu_f1 v9
  have g6 : zq_ev rq (0, [(10, 1)]) = r 10 := zu_f1 v10
  have g7 : zq_ev rq (0, [(11, 1)]) = r 11 := zu_f1 v11
  exact ⟨_, List.mem_cons_self .., rq, hr, zq_MeS_mk rfl hT (zq_all_nil) zq_fan (zq_fan) rfl (zu_fac ((x_LA2 _ _ _).mpr (by show zn_LA 65 (zq_ev rq (0, [(0, 1)])) (zq_ev rq (0, [(1, 1)])) (zq_ev rq (0, [(2, 1)])) (zq_ev rq (0, [(3, 1)])) (zq_ev rq (0, [(8, 1)])) (zq_ev rq (0, [(9, 1)])) (zq_ev rq (0, [(10, 1)])) (zq_ev rq (0, [(11, 1)])) P h; simp only [g0, g1, g2, g3, g4, g5, g6, g7]; exact t1)) zq_fan)⟩
noncomputable def zn_LC3 : zq_S × List zq_S := (([], [], [], [], [], [], [(140, [(0, [(4, 1)]), (0, [(5, 1)]), (0, [(6, 1)]), (0, [(7, 1)]), (0, [(8, 1)]), (0, [(9, 1)]), (0, [(10, 1)]), (0, [(11, 1)])]), (172, [(0, [(0, 1)]), (0, [(4, 1)])]), (173, [(0, [(1, 1)]), (0, [(5, 1)])]), (174, [(0, [(2, 1)]), (0, [(6, 1)])]), (175, [(0, [(3, 1)]), (0, [(7, 1)])])], 12), [([], [], [], [], [], [], [(143, [(0, [(0, 1)]), (0, [(1, 1)]), (0, [(2, 1)]), (0, [(3, 1)]), (0, [(8, 1)]), (0, [(9, 1)]), (0, [(10, 1)]), (0, [(11, 1)])])], 12)])
theorem zn_LC3_l {P : zq_Ty} {h : zq_H} {sg kn wt si sh ko wu sj p d s S : Int} (k1 : zn_LA 35 sh ko wu sj p d s S P h) (k2 : zn_E 6 80 35 sg sh P h) (k3 : zn_E 6 82 37 kn ko P h) (k4 : zn_E 6 83 38 wt wu P h) (k5 : zn_E 24 86 41 si sj P h) : (zn_LA 80 sg kn wt si p d s S P h) := by
  obtain ⟨z1, z2, z3, z4, c⟩ := k1
  have b := c.1
  obtain ⟨p1, p2, -, -, p5⟩ := k2
  obtain ⟨q1, q2, -, -, q5⟩ := k3
  obtain ⟨r1, r2, -, -, r5⟩ := k4
  obtain ⟨t1, t2, -, -, t5⟩ := k5
  exact ⟨⟨p1, p2⟩, ⟨q1, q2⟩, ⟨r1, r2⟩, ⟨t1, t2⟩, zn_cn_cong (fun i x y => p5 i x (by show i < 6; omega)) (fun i x y => q5 i x (by show i < 6; omega)) (fun i x y => r5 i x (by show i < 6; omega)) (fun i x y => t5 i x (by show i < 24; omega)) c⟩
theorem zn_LC3_ok {w : zq_Wd} (x_LA0 : zj_is w 140 (fun q => zn_LA 35 (q 0) (q 1) (q 2) (q 3) (q 4) (q 5) (q 6) (q 7))) (x_E3_0 : zj_is w 172 (fun q => zn_E 6 80 35 (q 0) (q 1))) (x_E3_1 : zj_is w 173 (fun q => zn_E 6 82 37 (q 0) (q 1))) (x_E3_2 : zj_is w 174 (fun q => zn_E 6 83 38 (q 0) (q 1))) (x_E3_3 : zj_is w 175 (fun q => zn_E 24 86 41 (q 0) (q 1))) (x_LA3 : zj_is w 143 (fun q => zn_LA 80 (q 0) (q 1) (q 2) (q 3) (q 4) (q 5) (q 6) (q 7))) : zq_okG1 w zn_LC3 := by
  refine ⟨rfl, rfl, zu_fac ⟨rfl, by decide⟩ zq_fan, ?_⟩
  intro r P h H hM
  have q0 : zq_ev r (0, [(4, 1)]) = r 4 := zu_e1 _ _
  have q1 : zq_ev r (0, [(5, 1)]) = r 5 := zu_e1 _ _
  have q2 : zq_ev r (0, [(6, 1)]) = r 6 := zu_e1 _ _
  have q3 : zq_ev r (0, [(7, 1)]) = r 7 := zu_e1 _ _
  have q4 : zq_ev r (0, [(8, 1)]) = r 8 := zu_e1 _ _
  have q5 : zq_ev r (0, [(9, 1)]) = r 9 := zu_e1 _ _
  have q6 : zq_ev r (0, [(10, 1)]) = r 10 := zu_e1 _ _
  have q7 : zq_ev r (0, [(11, 1)]) = r 11 := zu_e1 _ _
  have q8 : zq_ev r (0, [(0, 1)]) = r 0 := zu_e1 _ _
  have q9 : zq_ev r (0, [(1, 1)]) = r 1 := zu_e1 _ _
  have q10 : zq_ev r (0, [(2, 1)]) = r 2 := zu_e1 _ _
  have q11 : zq_ev r (0, [(3, 1)]) = r 3 := zu_e1 _ _
  obtain ⟨hT, hC, hF, hS, -, hK⟩ := hM
  have c := hC.1
  have k1 := zj_use x_LA0 (hK)
  have k1 : zn_LA 35 (zq_ev r (0, [(4, 1)])) (zq_ev r (0, [(5, 1)])) (zq_ev r (0, [(6, 1)])) (zq_ev r (0, [(7, 1)])) (zq_ev r (0, [(8, 1)])) (zq_ev r (0, [(9, 1)])) (zq_ev r (0, [(10, 1)])) (zq_ev r (0, [(11, 1)])) P h := k1
  simp only [q0, q1, q2, q3, q4, q5, q6, q7] at k1
  have k2 := zj_use x_E3_0 (zq_okX_t (hK))
  have k2 : zn_E 6 80 35 (zq_ev r (0, [(0, 1)])) (zq_ev r (0, [(4, 1)])) P h := k2
  simp only [q0, q8] at k2
  have k3 := zj_use x_E3_1 (zq_okX_t (zq_okX_t (hK)))
  have k3 : zn_E 6 82 37 (zq_ev r (0, [(1, 1)])) (zq_ev r (0, [(5, 1)])) P h := k3
  simp only [q1, q9] at k3
  have k4 := zj_use x_E3_2 (zq_okX_t (zq_okX_t (zq_okX_t (hK))))
  have k4 : zn_E 6 83 38 (zq_ev r (0, [(2, 1)])) (zq_ev r (0, [(6, 1)])) P h := k4
  simp only [q10, q2] at k4
  have k5 := zj_use x_E3_3 (zq_okX_t (zq_okX_t (zq_okX_t (zq_okX_t (hK)))))
  have k5 : zn_E 24 86 41 (zq_ev r (0, [(3, 1)])) (zq_ev r (0, [(7, 1)])) P h := k5
  simp only [q11, q3] at k5
  obtain t1 := zn_LC3_l (P := P) (h := h) (sg := r 0) (kn := r 1) (wt := r 2) (si := r 3) (sh := r 4) (ko := r 5) (wu := r 6) (sj := r 7) (p := r 8) (d := r 9) (s := r 10) (S := r 11) k1 k2 k3 k4 k5
  obtain ⟨rq, hr⟩ : ∃ rq : Nat → Int, (∀ i, i < 12 → rq i = r i) := ⟨r, fun i hi => rfl⟩
  have v0 : rq 0 = r 0 := hr 0 (by decide)
  have v1 : rq 1 = r 1 := hr 1 (by decide)
  have v2 : rq 2 = r 2 := hr 2 (by decide)
  have v3 : rq 3 = r 3 := hr 3 (by decide)
  have v8 : rq 8 = r 8 := hr 8 (by decide)
  have v9 : rq 9 = r 9 := hr 9 (by decide)
  have v10 : rq 10 = r 10 := hr 10 (by decide)
  have v11 : rq 11 = r 11 := hr 11 (by decide)
  have g0 : zq_ev rq (0, [(0, 1)]) = r 0 := zu_f1 v0
  have g1 : zq_ev rq (0, [(1, 1)]) = r 1 := zu_f1 v1
  have g2 : zq_ev rq (0, [(2, 1)]) = r 2 := zu_f1 v2
  have g3 : zq_ev rq (0, [(3, 1)]) = r 3 := zu_f1 v3
  have g4 : zq_ev rq (0, [(8, 1)]) = r 8 := zu_f1 v8
  have g5 : zq_ev rq (0, [(9, 1)]) = r 9 := zu_f1 v9
  have g6 : zq_ev rq (0, [(10, 1)]) = r 10 := zu_f1 v10
  have g7 : zq_ev rq (0, [(11, 1)]) = r 11 := zu_f1 v11
  exact ⟨_, List.mem_cons_self .., rq, hr, zq_MeS_mk rfl hT (zq_all_nil) zq_fan (zq_fan) rfl (zu_fac ((x_LA3 _ _ _).mpr (by show zn_LA 80 (zq_ev rq (0, [(0, 1)])) (zq_ev rq (0, [(1, 1)])) (zq_ev rq (0, [(2, 1)])) (zq_ev rq (0, [(3, 1)])) (zq_ev rq (0, [(8, 1)])) (zq_ev rq (0, [(9, 1)])) (zq_ev rq (0, [(10, 1)])) (zq_ev rq (0, [(11, 1)])) P h; simp only [g0, g1, g2, g3, g4, g5, g6, g7]; exact t1)) zq_fan)⟩
noncomputable def zn_LC4 : zq_S × List zq_S := (([], [], [], [], [], [], [(142, [(0, [(4, 1)]), (0, [(5, 1)]), (0, [(6, 1)]), (0, [(7, 1)]), (0, [(8, 1)]), (0, [(9, 1)]), (0, [(10, 1)]), (0, [(11, 1)])]), (176, [(0, [(0, 1)]), (0, [(4, 1)])]), (177, [(0, [(1, 1)]), (0, [(5, 1)])]), (178, [(0, [(2, 1)]), (0, [(6, 1)])]), (179, [(0, [(3, 1)]), (0, [(7, 1)])])], 12), [([], [], [], [], [], [], [(140, [(0, [(0, 1)]), (0, [(1, 1)]), (0, [(2, 1)]), (0, [(3, 1)]), (0, [(8, 1)]), (0, [(9, 1)]), (0, [(10, 1)]), (0, [(11, 1)])])], 12)])
theorem zn_LC4_l {P : zq_Ty} {h : zq_H} {sg kn wt si sh ko wu sj p d s S : Int} (k1 : zn_LA 65 sh ko wu sj p d s S P h) (k2 : zn_E 6 35 65 sg sh P h) (k3 : zn_E 6 37 67 kn ko P h) (k4 : zn_E 6 38 68 wt wu P h) (k5 : zn_E 24 41 71 si sj P h) : (zn_LA 35 sg kn wt si p d s S P h) := by
  obtain ⟨z1, z2, z3, z4, c⟩ := k1
  have b := c.1
  obtain ⟨p1, p2, -, -, p5⟩ := k2
  obtain ⟨q1, q2, -, -, q5⟩ := k3
  obtain ⟨r1, r2, -, -, r5⟩ := k4
  obtain ⟨t1, t2, -, -, t5⟩ := k5
  exact ⟨⟨p1, p2⟩, ⟨q1, q2⟩, ⟨r1, r2⟩, ⟨t1, t2⟩, zn_cn_cong (fun i x y => p5 i x (by show i < 6; omega)) (fun i x y => q5 i x (by show i < 6; omega)) (fun i x y => r5 i x (by show i < 6; omega)) (fun i x y => t5 i x (by show i < 24; omega)) c⟩
theorem zn_LC4_ok {w : zq_Wd} (x_LA2 : zj_is w 142 (fun q => zn_LA 65 (q 0) (q 1) (q 2) (q 3) (q 4) (q 5) (q 6) (q 7))) (x_E4_0 : zj_is w 176 (fun q => zn_E 6 35 65 (q 0) (q 1))) (x_E4_1 : zj_is w 177 (fun q => zn_E 6 37 67 (q 0) (q 1))) (x_E4_2 : zj_is w 178 (fun q => zn_E 6 38 68 (q 0) (q 1))) (x_E4_3 : zj_is w 179 (fun q => zn_E 24 41 71 (q 0) (q 1))) (x_LA0 : zj_is w 140 (fun q => zn_LA 35 (q 0) (q 1) (q 2) (q 3) (q 4) (q 5) (q 6) (q 7))) : zq_okG1 w zn_LC4 := by
  refine ⟨rfl, rfl, zu_fac ⟨rfl, by decide⟩ zq_fan, ?_⟩
  intro r P h H hM
  have q0 : zq_ev r (0, [(4, 1)]) = r 4 := zu_e1 _ _
  have q1 : zq_ev r (0, [(5, 1)]) = r 5 := zu_e1 _ _
  have q2 : zq_ev r (0, [(6, 1)]) = r 6 := zu_e1 _ _
  have q3 : zq_ev r (0, [(7, 1)]) = r 7 := zu_e1 _ _
  have q4 : zq_ev r (0, [(8, 1)]) = r 8 := zu_e1 _ _
  have q5 : zq_ev r (0, [(9, 1)]) = r 9 := zu_e1 _ _
  have q6 : zq_ev r (0, [(10, 1)]) = r 10 := zu_e1 _ _
  have q7 : zq_ev r (0, [(11, 1)]) = r 11 := zu_e1 _ _
  have q8 : zq_ev r (0, [(0, 1)]) = r 0 := zu_e1 _ _
  have q9 : zq_ev r (0, [(1, 1)]) = r 1 := zu_e1 _ _
  have q10 : zq_ev r (0, [(2, 1)]) = r 2 := zu_e1 _ _
  have q11 : zq_ev r (0, [(3, 1)]) = r 3 := zu_e1 _ _
  obtain ⟨hT, hC, hF, hS, -, hK⟩ := hM
  have c := hC.1
  have k1 := zj_use x_LA2 (hK)
  have k1 : zn_LA 65 (zq_ev r (0, [(4, 1)])) (zq_ev r (0, [(5, 1)])) (zq_ev r (0, [(6, 1)])) (zq_ev r (0, [(7, 1)])) (zq_ev r (0, [(8, 1)])) (zq_ev r (0, [(9, 1)])) (zq_ev r (0, [(10, 1)])) (zq_ev r (0, [(11, 1)])) P h := k1
  simp only [q0, q1, q2, q3, q4, q5, q6, q7] at k1
  have k2 := zj_use x_E4_0 (zq_okX_t (hK))
  have k2 : zn_E 6 35 65 (zq_ev r (0, [(0, 1)])) (zq_ev r (0, [(4, 1)])) P h := k2
  simp only [q0, q8] at k2
  have k3 := zj_use x_E4_1 (zq_okX_t (zq_okX_t (hK)))
  have k3 : zn_E 6 37 67 (zq_ev r (0, [(1, 1)])) (zq_ev r (0, [(5, 1)])) P h := k3
  simp only [q1, q9] at k3
  have k4 := zj_use x_E4_2 (zq_okX_t (zq_okX_t (zq_okX_t (hK))))
  have k4 : zn_E 6 38 68 (zq_ev r (0, [(2, 1)])) (zq_ev r (0, [(6, 1)])) P h := k4
  simp only [q10, q2] at k4
  have k5 := zj_use x_E4_3 (zq_okX_t (zq_okX_t (zq_okX_t (zq_okX_t (hK)))))
  have k5 : zn_E 24 41 71 (zq_ev r (0, [(3, 1)])) (zq_ev r (0, [(7, 1)])) P h := k5
  simp only [q11, q3] at k5
  obtain t1 := zn_LC4_l (P := P) (h := h) (sg := r 0) (kn := r 1) (wt := r 2) (si := r 3) (sh := r 4) (ko := r 5) (wu := r 6) (sj := r 7) (p := r 8) (d := r 9) (s := r 10) (S := r 11) k1 k2 k3 k4 k5
  obtain ⟨rq, hr⟩ : ∃ rq : Nat → Int, (∀ i, i < 12 → rq i = r i) := ⟨r, fun i hi => rfl⟩
  have v0 : rq 0 = r 0 := hr 0 (by decide)
  have v1 : rq 1 = r 1 := hr 1 (by decide)
  have v2 : rq 2 = r 2 := hr 2 (by decide)
  have v3 : rq 3 = r 3 := hr 3 (by decide)
  have v8 : rq 8 = r 8 := hr 8 (by decide)
  have v9 : rq 9 = r 9 := hr 9 (by decide)
  have v10 : rq 10 = r 10 := hr 10 (by decide)
  have v11 : rq 11 = r 11 := hr 11 (by decide)
  have g0 : zq_ev rq (0, [(0, 1)]) = r 0 := zu_f1 v0
  have g1 : zq_ev rq (0, [(1, 1)]) = r 1 := zu_f1 v1
  have g2 : zq_ev rq (0, [(2, 1)]) = r 2 := zu_f1 v2
  have g3 : zq_ev rq (0, [(3, 1)]) = r 3 := zu_f1 v3
  have g4 : zq_ev rq (0, [(8, 1)]) = r 8 := zu_f1 v8
  have g5 : zq_ev rq (0, [(9, 1)]) = r 9 := zu_f1 v9
  have g6 : zq_ev rq (0, [(10, 1)]) = r 10 := zu_f1 v10
  have g7 : zq_ev rq (0, [(11, 1)]) = r 11 := zu_f1 v11
  exact ⟨_, List.mem_cons_self .., rq, hr, zq_MeS_mk rfl hT (zq_all_nil) zq_fan (zq_fan) rfl (zu_fac ((x_LA0 _ _ _).mpr (by show zn_LA 35 (zq_ev rq (0, [(0, 1)])) (zq_ev rq (0, [(1, 1)])) (zq_ev rq (0, [(2, 1)])) (zq_ev rq (0, [(3, 1)])) (zq_ev rq (0, [(8, 1)])) (zq_ev rq (0, [(9, 1)])) (zq_ev rq (0, [(10, 1)])) (zq_ev rq (0, [(11, 1)])) P h; simp only [g0, g1, g2, g3, g4, g5, g6, g7]; exact t1)) zq_fan)⟩
noncomputable def zn_LC5 : zq_S × List zq_S := (([], [], [], [], [], [], [(143, [(0, [(4, 1)]), (0, [(5, 1)]), (0, [(6, 1)]), (0, [(7, 1)]), (0, [(8, 1)]), (0, [(9, 1)]), (0, [(10, 1)]), (0, [(11, 1)])]), (180, [(0, [(0, 1)]), (0, [(4, 1)])]), (181, [(0, [(1, 1)]), (0, [(5, 1)])]), (182, [(0, [(2, 1)]), (0, [(6, 1)])]), (183, [(0, [(3, 1)]), (0, [(7, 1)])])], 12), [([], [], [], [], [], [], [(140, [(0, [(0, 1)]), (0, [(1, 1)]), (0, [(2, 1)]), (0, [(3, 1)]), (0, [(8, 1)]), (0, [(9, 1)]), (0, [(10, 1)]), (0, [(11, 1)])])], 12)])
theorem zn_LC5_l {P : zq_Ty} {h : zq_H} {sg kn wt si sh ko wu sj p d s S : Int} (k1 : zn_LA 80 sh ko wu sj p d s S P h) (k2 : zn_E 6 35 80 sg sh P h) (k3 : zn_E 6 37 82 kn ko P h) (k4 : zn_E 6 38 83 wt wu P h) (k5 : zn_E 24 41 86 si sj P h) : (zn_LA 35 sg kn wt si p d s S P h) := by
  obtain ⟨z1, z2, z3, z4, c⟩ := k1
  have b := c.1
  obtain ⟨p1, p2, -, -, p5⟩ := k2
  obtain ⟨q1, q2, -, -, q5⟩ := k3
  obtain ⟨r1, r2, -, -, r5⟩ := k4
  obtain ⟨t1, t2, -, -, t5⟩ := k5
  exact ⟨⟨p1, p2⟩, ⟨q1, q2⟩, ⟨r1, r2⟩, ⟨t1, t2⟩, zn_cn_cong (fun i x y => p5 i x (by show i < 6; omega)) (fun i x y => q5 i x (by show i < 6; omega)) (fun i x y => r5 i x (by show i < 6; omega)) (fun i x y => t5 i x (by show i < 24; omega)) c⟩
theorem zn_LC5_ok {w : zq_Wd} (x_LA3 : zj_is w 143 (fun q => zn_LA 80 (q 0) (q 1) (q 2) (q 3) (q 4) (q 5) (q 6) (q 7))) (x_E5_0 : zj_is w 180 (fun q => zn_E 6 35 80 (q 0) (q 1))) (x_E5_1 : zj_is w 181 (fun q => zn_E 6 37 82 (q 0) (q 1))) (x_E5_2 : zj_is w 182 (fun q => zn_E 6 38 83 (q 0) (q 1))) (x_E5_3 : zj_is w 183 (fun q => zn_E 24 41 86 (q 0) (q 1))) (x_LA0 : zj_is w 140 (fun q => zn_LA 35 (q 0) (q 1) (q 2) (q 3) (q 4) (q 5) (q 6) (q 7))) : zq_okG1 w zn_LC5 := by
  refine ⟨rfl, rfl, zu_fac ⟨rfl, by decide⟩ zq_fan, ?_⟩
  intro r P h H hM
  have q0 : zq_ev r (0, [(4, 1)]) = r 4 := zu_e1 _ _
  have q1 : zq_ev r (0, [(5, 1)]) = r 5 := zu_e1 _ _
  have q2 : zq_ev r (0, [(6, 1)]) = r 6 := zu_e1 _ _
  have q3 : zq_ev r (0, [(7, 1)]) = r 7 := zu_e1 _ _
  have q4 : zq_ev r (0, [(8, 1)]) = r 8 := zu_e1 _ _
  have q5 : zq_ev r (0, [(9, 1)]) = r 9 := zu_e1 _ _
  have q6 : zq_ev r (0, [(10, 1)]) = r 10 := zu_e1 _ _
  have q7 : zq_ev r (0, [(11, 1)]) = r 11 := zu_e1 _ _
  have q8 : zq_ev r (0, [(0, 1)]) = r 0 := zu_e1 _ _
  have q9 : zq_ev r (0, [(1, 1)]) = r 1 := zu_e1 _ _
  have q10 : zq_ev r (0, [(2, 1)]) = r 2 := zu_e1 _ _
  have q11 : zq_ev r (0, [(3, 1)]) = r 3 := zu_e1 _ _
  obtain ⟨hT, hC, hF, hS, -, hK⟩ := hM
  have c := hC.1
  have k1 := zj_use x_LA3 (hK)
  have k1 : zn_LA 80 (zq_ev r (0, [(4, 1)])) (zq_ev r (0, [(5, 1)])) (zq_ev r (0, [(6, 1)])) (zq_ev r (0, [(7, 1)])) (zq_ev r (0, [(8, 1)])) (zq_ev r (0, [(9, 1)])) (zq_ev r (0, [(10, 1)])) (zq_ev r (0, [(11, 1)])) P h := k1
  simp only [q0, q1, q2, q3, q4, q5, q6, q7] at k1
  have k2 := zj_use x_E5_0 (zq_okX_t (hK))
  have k2 : zn_E 6 35 80 (zq_ev r (0, [(0, 1)])) (zq_ev r (0, [(4, 1)])) P h := k2
  simp only [q0, q8] at k2
  have k3 := zj_use x_E5_1 (zq_okX_t (zq_okX_t (hK)))
  have k3 : zn_E 6 37 82 (zq_ev r (0, [(1, 1)])) (zq_ev r (0, [(5, 1)])) P h := k3
  simp only [q1, q9] at k3
  have k4 := zj_use x_E5_2 (zq_okX_t (zq_okX_t (zq_okX_t (hK))))
  have k4 : zn_E 6 38 83 (zq_ev r (0, [(2, 1)])) (zq_ev r (0, [(6, 1)])) P h := k4
  simp only [q10, q2] at k4
  have k5 := zj_use x_E5_3 (zq_okX_t (zq_okX_t (zq_okX_t (zq_okX_t (hK)))))
  have k5 : zn_E 24 41 86 (zq_ev r (0, [(3, 1)])) (zq_ev r (0, [(7, 1)])) P h := k5
  simp only [q11, q3] at k5
  obtain t1 := zn_LC5_l (P := P) (h := h) (sg := r 0) (kn := r 1) (wt := r 2) (si := r 3) (sh := r 4) (ko := r 5) (wu := r 6) (sj := r 7) (p := r 8) (d := r 9) (s := r 10) (S := r 11) k1 k2 k3 k4 k5
  obtain ⟨rq, hr⟩ : ∃ rq : Nat → Int, (∀ i, i < 12 → rq i = r i) := ⟨r, fun i hi => rfl⟩
  have v0 : rq 0 = r 0 := hr 0 (by decide)
  have v1 : rq 1 = r 1 := hr 1 (by decide)
  have v2 : rq 2 = r 2 := hr 2 (by decide)
  have v3 : rq 3 = r 3 := hr 3 (by decide)
  have v8 : rq 8 = r 8 := hr 8 (by decide)
  have v9 : rq 9 = r 9 := hr 9 (by decide)
  have v10 : rq 10 = r 10 := hr 10 (by decide)
  have v11 : rq 11 = r 11 := hr 11 (by decide)
  have g0 : zq_ev rq (0, [(0, 1)]) = r 0 := zu_f1 v0
  have g1 : zq_ev rq (0, [(1, 1)]) = r 1 := zu_f1 v1
  have g2 : zq_ev rq (0, [(2, 1)]) = r 2 := zu_f1 v2
  have g3 : zq_ev rq (0, [(3, 1)]) = r 3 := zu_f1 v3
  have g4 : zq_ev rq (0, [(8, 1)]) = r 8 := zu_f1 v8
  have g5 : zq_ev rq (0, [(9, 1)]) = r 9 := zu_f1 v9
  have g6 : zq_ev rq (0, [(10, 1)]) = r 10 := zu_f1 v10
  have g7 : zq_ev rq (0, [(11, 1)]) = r 11 := zu_f1 v11
  exact ⟨_, List.mem_cons_self .., rq, hr, zq_MeS_mk rfl hT (zq_all_nil) zq_fan (zq_fan) rfl (zu_fac ((x_LA0 _ _ _).mpr (by show zn_LA 35 (zq_ev rq (0, [(0, 1)])) (zq_ev rq (0, [(1, 1)])) (zq_ev rq (0, [(2, 1)])) (zq_ev rq (0, [(3, 1)])) (zq_ev rq (0, [(8, 1)])) (zq_ev rq (0, [(9, 1)])) (zq_ev rq (0, [(10, 1)])) (zq_ev rq (0, [(11, 1)])) P h; simp only [g0, g1, g2, g3, g4, g5, g6, g7]; exact t1)) zq_fan)⟩
noncomputable def zn_KI0 : zq_S × List zq_S := (([], [], [], [], [], [], [(7, [(0, [(0, 1)]), (0, [(1, 1)]), (0, []), (5671, [])]), (148, [(0, [(0, 1)]), (0, [(2, 1)]), (0, [(3, 1)]), (0, [(4, 1)]), (0, [(5, 1)])])], 6), [([], [], [], [], [], [], [(150, [(0, [(1, 1)]), (0, [(2, 1)]), (0, [(3, 1)]), (0, [(4, 1)]), (0, [(5, 1)])])], 6)])
theorem zn_KI0_l {P : zq_Ty} {h : zq_H} {a m p d s S : Int} (k1 : zn_C7 a m 0 5671 P h) (k2 : zn_KA 1 0 a p d s S P h) : (zn_KA 2 0 m p d s S P h) := by
  obtain ⟨c1, c2, c3, c4, -, -, -, -, c5⟩ := k1
  obtain ⟨z1, c⟩ := k2
  have b := c.1
  have c5 : ∀ j : Int, 0 ≤ j → j < 5671 → h m.toNat (0 + j) = h a.toNat j := c5
  refine ⟨⟨c3, c4⟩, zn_cn_cong (fun i x y => ?_) (fun i x y => ?_) (fun i x y => ?_) (fun i x y => ?_) c⟩
  · show h m.toNat (0 + 11 + i) = h a.toNat (0 + 11 + i)
    rw [← c5 (0 + 11 + i) (by omega) (by omega)]; congr 1; omega
  · show h m.toNat (0 + 21 + i) = h a.toNat (0 + 21 + i)
    rw [← c5 (0 + 21 + i) (by omega) (by omega)]; congr 1; omega
  · show h m.toNat (0 + 27 + i) = h a.toNat (0 + 27 + i)
    rw [← c5 (0 + 27 + i) (by omega) (by omega)]; congr 1; omega
  · show h m.toNat (0 + 33 + i) = h a.toNat (0 + 33 + i)
    rw [← c5 (0 + 33 + i) (by omega) (by omega)]; congr 1; omega
theorem zn_KI0_ok {w : zq_Wd} (x_C7 : zj_is w 7 (fun q => zn_C7 (q 0) (q 1) (q 2) (q 3))) (x_KA0 : zj_is w 148 (fun q => zn_KA 1 0 (q 0) (q 1) (q 2) (q 3) (q 4))) (x_KA1 : zj_is w 150 (fun q => zn_KA 2 0 (q 0) (q 1) (q 2) (q 3) (q 4))) : zq_okG1 w zn_KI0 := by
  refine ⟨rfl, rfl, zu_fac ⟨rfl, by decide⟩ zq_fan, ?_⟩
  intro r P h H hM
  have q0 : zq_ev r (0, [(0, 1)]) = r 0 := zu_e1 _ _
  have q1 : zq_ev r (0, [(1, 1)]) = r 1 := zu_e1 _ _
  have q2 : zq_ev r (0, []) = 0 := zu_e0 _ _
  have q3 : zq_ev r (5671, []) = 5671 := zu_e0 _ _
  have q4 : zq_ev r (0, [(2, 1)]) = r 2 := zu_e1 _ _
  have q5 : zq_ev r (0, [(3, 1)]) = r 3 := zu_e1 _ _
  have q6 : zq_ev r (0, [(4, 1)]) = r 4 := zu_e1 _ _
  have q7 : zq_ev r (0, [(5, 1)]) = r 5 := zu_e1 _ _
  obtain ⟨hT, hC, hF, hS, -, hK⟩ := hM
  have c := hC.1
  have k1 := zj_use x_C7 (hK)
  have k1 : zn_C7 (zq_ev r (0, [(0, 1)])) (zq_ev r (0, [(1, 1)])) (zq_ev r (0, [])) (zq_ev r (5671, [])) P h := k1
  simp only [q0, q1, q2, q3] at k1
  have k2 := zj_use x_KA0 (zq_okX_t (hK))
  have k2 : zn_KA 1 0 (zq_ev r (0, [(0, 1)])) (zq_ev r (0, [(2, 1)])) (zq_ev r (0, [(3, 1)])) (zq_ev r (0, [(4, 1)])) (zq_ev r (0, [(5, 1)])) P h := k2
  simp only [q0, q4, q5, q6, q7] at k2
  obtain t1 := zn_KI0_l (P := P) (h := h) (a := r 0) (m := r 1) (p := r 2) (d := r 3) (s := r 4) (S := r 5) k1 k2
  obtain ⟨rq, hr⟩ : ∃ rq : Nat → Int, (∀ i, i < 6 → rq i = r i) := ⟨r, fun i hi => rfl⟩
  have v1 : rq 1 = r 1 := hr 1 (by decide)
  have v2 : rq 2 = r 2 := hr 2 (by decide)
  have v3 : rq 3 = r 3 := hr 3 (by decide)
  have v4 : rq 4 = r 4 := hr 4 (by decide)
  have v5 : rq 5 = r 5 := hr 5 (by decide)
  have g0 : zq_ev rq (0, [(1, 1)]) = r 1 := zu_f1 v1
  have g1 : zq_ev rq (0, [(2, 1)]) = r 2 := zu_f1 v2
  have g2 : zq_ev rq (0, [(3, 1)]) = r 3 := zu_f1 v3
  have g3 : zq_ev rq (0, [(4, 1)]) = r 4 := zu_f1 v4
  have g4 : zq_ev rq (0, [(5, 1)]) = r 5 := zu_f1 v5
  exact ⟨_, List.mem_cons_self .., rq, hr, zq_MeS_mk rfl hT (zq_all_nil) zq_fan (zq_fan) rfl (zu_fac ((x_KA1 _ _ _).mpr (by show zn_KA 2 0 (zq_ev rq (0, [(1, 1)])) (zq_ev rq (0, [(2, 1)])) (zq_ev rq (0, [(3, 1)])) (zq_ev rq (0, [(4, 1)])) (zq_ev rq (0, [(5, 1)])) P h; simp only [g0, g1, g2, g3, g4]; exact t1)) zq_fan)⟩
noncomputable def zn_IK0 : zq_S × List zq_S := (([], [], [], [], [], [], [(7, [(0, [(0, 1)]), (0, [(1, 1)]), (0, []), (5671, [])]), (150, [(0, [(1, 1)]), (0, [(2, 1)]), (0, [(3, 1)]), (0, [(4, 1)]), (0, [(5, 1)])])], 6), [([], [], [], [], [], [], [(148, [(0, [(0, 1)]), (0, [(2, 1)]), (0, [(3, 1)]), (0, [(4, 1)]), (0, [(5, 1)])])], 6)])
theorem zn_IK0_l {P : zq_Ty} {h : zq_H} {a m p d s S : Int} (k1 : zn_C7 a m 0 5671 P h) (k2 : zn_KA 2 0 m p d s S P h) : (zn_KA 1 0 a p d s S P h) := by
  obtain ⟨c1, c2, c3, c4, -, -, -, -, c5⟩ := k1
  obtain ⟨z1, c⟩ := k2
  have b := c.1
  have c5 : ∀ j : Int, 0 ≤ j → j < 5671 → h m.toNat (0 + j) = h a.toNat j := c5
  refine ⟨⟨c1, c2⟩, zn_cn_cong (fun i x y => ?_) (fun i x y => ?_) (fun i x y => ?_) (fun i x y => ?_) c⟩
  · show h a.toNat (0 + 11 + i) = h m.toNat (0 + 11 + i)
    rw [← c5 (0 + 11 + i) (by omega) (by omega)]; congr 1; omega
  · show h a.toNat (0 + 21 + i) = h m.toNat (0 + 21 + i)
    rw [← c5 (0 + 21 + i) (by omega) (by omega)]; congr 1; omega
  · show h a.toNat (0 + 27 + i) = h m.toNat (0 + 27 + i)
    rw [← c5 (0 + 27 + i) (by omega) (by omega)]; congr 1; omega
  · show h a.toNat (0 + 33 + i) = h m.toNat (0 + 33 + i)
    rw [← c5 (0 + 33 + i) (by omega) (by omega)]; congr 1; omega
theorem zn_IK0_ok {w : zq_Wd} (x_C7 : zj_is w 7 (fun q => zn_C7 (q 0) (q 1) (q 2) (q 3))) (x_KA1 : zj_is w 150 (fun q => zn_KA 2 0 (q 0) (q 1) (q 2) (q 3) (q 4))) (x_KA0 : zj_is w 148 (fun q => zn_KA 1 0 (q 0) (q 1) (q 2) (q 3) (q 4))) : zq_okG1 w zn_IK0 := by
  refine ⟨rfl, rfl, zu_fac ⟨rfl, by decide⟩ zq_fan, ?_⟩
  intro r P h H hM
  have q0 : zq_ev r (0, [(0, 1)]) = r 0 := zu_e1 _ _
  have q1 : zq_ev r (0, [(1, 1)]) = r 1 := zu_e1 _ _
  have q2 : zq_ev r (0, []) = 0 := zu_e0 _ _
  have q3 : zq_ev r (5671, []) = 5671 := zu_e0 _ _
  have q4 : zq_ev r (0, [(2, 1)]) = r 2 := zu_e1 _ _
  have q5 : zq_ev r (0, [(3, 1)]) = r 3 := zu_e1 _ _
  have q6 : zq_ev r (0, [(4, 1)]) = r 4 := zu_e1 _ _
  have q7 : zq_ev r (0, [(5, 1)]) = r 5 := zu_e1 _ _
  obtain ⟨hT, hC, hF, hS, -, hK⟩ := hM
  have c := hC.1
  have k1 := zj_use x_C7 (hK)
  have k1 : zn_C7 (zq_ev r (0, [(0, 1)])) (zq_ev r (0, [(1, 1)])) (zq_ev r (0, [])) (zq_ev r (5671, [])) P h := k1
  simp only [q0, q1, q2, q3] at k1
  have k2 := zj_use x_KA1 (zq_okX_t (hK))
  have k2 : zn_KA 2 0 (zq_ev r (0, [(1, 1)])) (zq_ev r (0, [(2, 1)])) (zq_ev r (0, [(3, 1)])) (zq_ev r (0, [(4, 1)])) (zq_ev r (0, [(5, 1)])) P h := k2
  simp only [q1, q4, q5, q6, q7] at k2
  obtain t1 := zn_IK0_l (P := P) (h := h) (a := r 0) (m := r 1) (p := r 2) (d := r 3) (s := r 4) (S := r 5) k1 k2
  obtain ⟨rq, hr⟩ : ∃ rq : Nat → Int, (∀ i, i < 6 → rq i = r i) := ⟨r, fun i hi => rfl⟩
  have v0 : rq 0 = r 0 := hr 0 (by decide)
  have v2 : rq 2 = r 2 := hr 2 (by decide)
  have v3 : rq 3 = r 3 := hr 3 (by decide)
  have v4 : rq 4 = r 4 := hr 4 (by decide)
  have v5 : rq 5 = r 5 := hr 5 (by decide)
  have g0 : zq_ev rq (0, [(0, 1)]) = r 0 := zu_f1 v0
  have g1 : zq_ev rq (0, [(2, 1)]) = r 2 := zu_f1 v2
  have g2 : zq_ev rq (0, [(3, 1)]) = r 3 := zu_f1 v3
  have g3 : zq_ev rq (0, [(4, 1)]) = r 4 := zu_f1 v4
  have g4 : zq_ev rq (0, [(5, 1)]) = r 5 := zu_f1 v5
  exact ⟨_, List.mem_cons_self .., rq, hr, zq_MeS_mk rfl hT (zq_all_nil) zq_fan (zq_fan) rfl (zu_fac ((x_KA0 _ _ _).mpr (by show zn_KA 1 0 (zq_ev rq (0, [(0, 1)])) (zq_ev rq (0, [(2, 1)])) (zq_ev rq (0, [(3, 1)])) (zq_ev rq (0, [(4, 1)])) (zq_ev rq (0, [(5, 1)])) P h; simp only [g0, g1, g2, g3, g4]; exact t1)) zq_fan)⟩
noncomputable def zn_KI1 : zq_S × List zq_S := (([], [], [], [], [], [], [(7, [(0, [(0, 1)]), (0, [(1, 1)]), (5671, []), (5671, [])]), (148, [(0, [(0, 1)]), (0, [(2, 1)]), (0, [(3, 1)]), (0, [(4, 1)]), (0, [(5, 1)])])], 6), [([], [], [], [], [], [], [(151, [(0, [(1, 1)]), (0, [(2, 1)]), (0, [(3, 1)]), (0, [(4, 1)]), (0, [(5, 1)])])], 6)])
theorem zn_KI1_l {P : zq_Ty} {h : zq_H} {a m p d s S : Int} (k1 : zn_C7 a m 5671 5671 P h) (k2 : zn_KA 1 0 a p d s S P h) : (zn_KA 2 5671 m p d s S P h) := by
  obtain ⟨c1, c2, c3, c4, -, -, -, -, c5⟩ := k1
  obtain ⟨z1, c⟩ := k2
  have b := c.1
  have c5 : ∀ j : Int, 0 ≤ j → j < 5671 → h m.toNat (5671 + j) = h a.toNat j := c5
  refine ⟨⟨c3, c4⟩, zn_cn_cong (fun i x y => ?_) (fun i x y => ?_) (fun i x y => ?_) (fun i x y => ?_) c⟩
  · show h m.toNat (5671 + 11 + i) = h a.toNat (0 + 11 + i)
    rw [← c5 (0 + 11 + i) (by omega) (by omega)]; congr 1; omega
  · show h m.toNat (5671 + 21 + i) = h a.toNat (0 + 21 + i)
    rw [← c5 (0 + 21 + i) (by omega) (by omega)]; congr 1; omega
  · show h m.toNat (5671 + 27 + i) = h a.toNat (0 + 27 + i)
    rw [← c5 (0 + 27 + i) (by omega) (by omega)]; congr 1; omega
  · show h m.toNat (5671 + 33 + i) = h a.toNat (0 + 33 + i)
    rw [← c5 (0 + 33 + i) (by omega) (by omega)]; congr 1; omega
theorem zn_KI1_ok {w : zq_Wd} (x_C7 : zj_is w 7 (fun q => zn_C7 (q 0) (q 1) (q 2) (q 3))) (x_KA0 : zj_is w 148 (fun q => zn_KA 1 0 (q 0) (q 1) (q 2) (q 3) (q 4))) (x_KA2 : zj_is w 151 (fun q => zn_KA 2 5671 (q 0) (q 1) (q 2) (q 3) (q 4))) : zq_okG1 w zn_KI1 := by
  refine ⟨rfl, rfl, zu_fac ⟨rfl, by decide⟩ zq_fan, ?_⟩
  intro r P h H hM
  have q0 : zq_ev r (0, [(0, 1)]) = r 0 := zu_e1 _ _
  have q1 : zq_ev r (0, [(1, 1)]) = r 1 := zu_e1 _ _
  have q2 : zq_ev r (5671, []) = 5671 := zu_e0 _ _
  have q3 : zq_ev r (0, [(2, 1)]) = r 2 := zu_e1 _ _
  have q4 : zq_ev r (0, [(3, 1)]) = r 3 := zu_e1 _ _
  have q5 : zq_ev r (0, [(4, 1)]) = r 4 := zu_e1 _ _
  have q6 : zq_ev r (0, [(5, 1)]) = r 5 := zu_e1 _ _
  obtain ⟨hT, hC, hF, hS, -, hK⟩ := hM
  have c := hC.1
  have k1 := zj_use x_C7 (hK)
  have k1 : zn_C7 (zq_ev r (0, [(0, 1)])) (zq_ev r (0, [(1, 1)])) (zq_ev r (5671, [])) (zq_ev r (5671, [])) P h := k1
  simp only [q0, q1, q2] at k1
  have k2 := zj_use x_KA0 (zq_okX_t (hK))
  have k2 : zn_KA 1 0 (zq_ev r (0, [(0, 1)])) (zq_ev r (0, [(2, 1)])) (zq_ev r (0, [(3, 1)])) (zq_ev r (0, [(4, 1)])) (zq_ev r (0, [(5, 1)])) P h := k2
  simp only [q0, q3, q4, q5, q6] at k2
  obtain t1 := zn_KI1_l (P := P) (h := h) (a := r 0) (m := r 1) (p := r 2) (d := r 3) (s := r 4) (S := r 5) k1 k2
  obtain ⟨rq, hr⟩ : ∃ rq : Nat → Int, (∀ i, i < 6 → rq i = r i) := ⟨r, fun i hi => rfl⟩
  have v1 : rq 1 = r 1 := hr 1 (by decide)
  have v2 : rq 2 = r 2 := hr 2 (by decide)
  have v3 : rq 3 = r 3 := hr 3 (by decide)
  have v4 : rq 4 = r 4 := hr 4 (by decide)
  have v5 : rq 5 = r 5 := hr 5 (by decide)
  have g0 : zq_ev rq (0, [(1, 1)]) = r 1 := zu_f1 v1
  have g1 : zq_ev rq (0, [(2, 1)]) = r 2 := zu_f1 v2
  have g2 : zq_ev rq (0, [(3, 1)]) = r 3 := zu_f1 v3
  have g3 : zq_ev rq (0, [(4, 1)]) = r 4 := zu_f1 v4
  have g4 : zq_ev rq (0, [(5, 1)]) = r 5 := zu_f1 v5
  exact ⟨_, List.mem_cons_self .., rq, hr, zq_MeS_mk rfl hT (zq_all_nil) zq_fan (zq_fan) rfl (zu_fac ((x_KA2 _ _ _).mpr (by show zn_KA 2 5671 (zq_ev rq (0, [(1, 1)])) (zq_ev rq (0, [(2, 1)])) (zq_ev rq (0, [(3, 1)])) (zq_ev rq (0, [(4, 1)])) (zq_ev rq (0, [(5, 1)])) P h; simp only [g0, g1, g2, g3, g4]; exact t1)) zq_fan)⟩
noncomputable def zn_IK1 : zq_S × List zq_S := (([], [], [], [], [], [], [(7, [(0, [(0, 1)]), (0, [(1, 1)]), (5671, []), (5671, [])]), (151, [(0, [(1, 1)]), (0, [(2, 1)]), (0, [(3, 1)]), (0, [(4, 1)]), (0, [(5, 1)])])], 6), [([], [], [], [], [], [], [(148, [(0, [(0, 1)]), (0, [(2, 1)]), (0, [(3, 1)]), (0, [(4, 1)]), (0, [(5, 1)])])], 6)])
theorem zn_IK1_l {P : zq_Ty} {h : zq_H} {a m p d s S : Int} (k1 : zn_C7 a m 5671 5671 P h) (k2 : zn_KA 2 5671 m p d s S P h) : (zn_KA 1 0 a p d s S P h) := by
  obtain ⟨c1, c2, c3, c4, -, -, -, -, c5⟩ := k1
  obtain ⟨z1, c⟩ := k2
  have b := c.1
  have c5 : ∀ j : Int, 0 ≤ j → j < 5671 → h m.toNat (5671 + j) = h a.toNat j := c5
  refine ⟨⟨c1, c2⟩, zn_cn_cong (fun i x y => ?_) (fun i x y => ?_) (fun i x y => ?_) (fun i x y => ?_) c⟩
  · show h a.toNat (0 + 11 + i) = h m.toNat (5671 + 11 + i)
    rw [← c5 (0 + 11 + i) (by omega) (by omega)]; congr 1; omega
  · show h a.toNat (0 + 21 + i) = h m.toNat (5671 + 21 + i)
    rw [← c5 (0 + 21 + i) (by omega) (by omega)]; congr 1; omega
  · show h a.toNat (0 + 27 + i) = h m.toNat (5671 + 27 + i)
    rw [← c5 (0 + 27 + i) (by omega) (by omega)]; congr 1; omega
  · show h a.toNat (0 + 33 + i) = h m.toNat (5671 + 33 + i)
    rw [← c5 (0 + 33 + i) (by omega) (by omega)]; congr 1; omega
theorem zn_IK1_ok {w : zq_Wd} (x_C7 : zj_is w 7 (fun q => zn_C7 (q 0) (q 1) (q 2) (q 3))) (x_KA2 : zj_is w 151 (fun q => zn_KA 2 5671 (q 0) (q 1) (q 2) (q 3) (q 4))) (x_KA0 : zj_is w 148 (fun q => zn_KA 1 0 (q 0) (q 1) (q 2) (q 3) (q 4))) : zq_okG1 w zn_IK1 := by
  refine ⟨rfl, rfl, zu_fac ⟨rfl, by decide⟩ zq_fan, ?_⟩
  intro r P h H hM
  have q0 : zq_ev r (0, [(0, 1)]) = r 0 := zu_e1 _ _
  have q1 : zq_ev r (0, [(1, 1)]) = r 1 := zu_e1 _ _
  have q2 : zq_ev r (5671, []) = 5671 := zu_e0 _ _
  have q3 : zq_ev r (0, [(2, 1)]) = r 2 := zu_e1 _ _
  have q4 : zq_ev r (0, [(3, 1)]) = r 3 := zu_e1 _ _
  have q5 : zq_ev r (0, [(4, 1)]) = r 4 := zu_e1 _ _
  have q6 : zq_ev r (0, [(5, 1)]) = r 5 := zu_e1 _ _
  obtain ⟨hT, hC, hF, hS, -, hK⟩ := hM
  have c := hC.1
  have k1 := zj_use x_C7 (hK)
  have k1 : zn_C7 (zq_ev r (0, [(0, 1)])) (zq_ev r (0, [(1, 1)])) (zq_ev r (5671, [])) (zq_ev r (5671, [])) P h := k1
  simp only [q0, q1, q2] at k1
  have k2 := zj_use x_KA2 (zq_okX_t (hK))
  have k2 : zn_KA 2 5671 (zq_ev r (0, [(1, 1)])) (zq_ev r (0, [(2, 1)])) (zq_ev r (0, [(3, 1)])) (zq_ev r (0, [(4, 1)])) (zq_ev r (0, [(5, 1)])) P h := k2
  simp only [q1, q3, q4, q5, q6] at k2
  obtain t1 := zn_IK1_l (P := P) (h := h) (a := r 0) (m := r 1) (p := r 2) (d := r 3) (s := r 4) (S := r 5) k1 k2
  obtain ⟨rq, hr⟩ : ∃ rq : Nat → Int, (∀ i, i < 6 → rq i = r i) := ⟨r, fun i hi => rfl⟩
  have v0 : rq 0 = r 0 := hr 0 (by decide)
  have v2 : rq 2 = r 2 := hr 2 (by decide)
  have v3 : rq 3 = r 3 := hr 3 (by decide)
  have v4 : rq 4 = r 4 := hr 4 (by decide)
  have v5 : rq 5 = r 5 := hr 5 (by decide)
  have g0 : zq_ev rq (0, [(0, 1)]) = r 0 := zu_f1 v0
  have g1 : zq_ev rq (0, [(2, 1)]) = r 2 := zu_f1 v2
  have g2 : zq_ev rq (0, [(3, 1)]) = r 3 := zu_f1 v3
  have g3 : zq_ev rq (0, [(4, 1)]) = r 4 := zu_f1 v4
  have g4 : zq_ev rq (0, [(5, 1)]) = r 5 := zu_f1 v5
  exact ⟨_, List.mem_cons_self .., rq, hr, zq_MeS_mk rfl hT (zq_all_nil) zq_fan (zq_fan) rfl (zu_fac ((x_KA0 _ _ _).mpr (by show zn_KA 1 0 (zq_ev rq (0, [(0, 1)])) (zq_ev rq (0, [(2, 1)])) (zq_ev rq (0, [(3, 1)])) (zq_ev rq (0, [(4, 1)])) (zq_ev rq (0, [(5, 1)])) P h; simp only [g0, g1, g2, g3, g4]; exact t1)) zq_fan)⟩
noncomputable def zn_LrG : zq_S × List zq_S := (([], [], [(0, [(8, 1)]), (-1, [(4, 1), (8, -1)])], [], [((0, [(0, 1)]), (0, [(8, 1)]), (0, [(9, 1)]))], [], [(140, [(0, [(0, 1)]), (0, [(1, 1)]), (0, [(2, 1)]), (0, [(3, 1)]), (0, [(4, 1)]), (0, [(5, 1)]), (0, [(6, 1)]), (0, [(7, 1)])])], 10), [([], [], [], [], [], [], [(134, [(0, [(7, 1)]), (0, [(8, 1)]), (0, [(9, 1)])])], 10)])
theorem zn_LrG_l {P : zq_Ty} {h : zq_H} {sg kn wt si p d s S i v : Int} (a1 : 0 ≤ i) (a2 : 0 ≤ p - i - 1) (s1 : 0 ≤ sg ∧ P (sg).toNat ≠ none ∧ h (sg).toNat i = v) (k1 : zn_LA 35 sg kn wt si p d s S P h) : (zn_DG S i v P h) := by
  obtain ⟨z1, z2, z3, z4, c⟩ := k1
  have e := c.2.1 i a1 (by omega)
  show v = zn_dg S i
  rw [← e]; exact s1.2.2.symm
theorem zn_LrG_ok {w : zq_Wd} (x_LA0 : zj_is w 140 (fun q => zn_LA 35 (q 0) (q 1) (q 2) (q 3) (q 4) (q 5) (q 6) (q 7))) (x_DG : zj_is w 134 (fun q => zn_DG (q 0) (q 1) (q 2))) : zq_okG1 w zn_LrG := by
  refine ⟨rfl, rfl, zu_fac ⟨rfl, by decide⟩ zq_fan, ?_⟩
  intro r P h H hM
  have q0 : zq_ev r (0, [(8, 1)]) = r 8 := zu_e1 _ _
  have q1 : zq_ev r (-1, [(4, 1), (8, -1)]) = r 4 - r 8 - 1 := by simp only [zq_ev, zq_ts] <;> omega
  have q2 : zq_ev r (0, [(0, 1)]) = r 0 := zu_e1 _ _
  have q3 : zq_ev r (0, [(9, 1)]) = r 9 := zu_e1 _ _
  have q4 : zq_ev r (0, [(1, 1)]) = r 1 := zu_e1 _ _
  have q5 : zq_ev r (0, [(2, 1)]) = r 2 := zu_e1 _ _
  have q6 : zq_ev r (0, [(3, 1)]) = r 3 := zu_e1 _ _
  have q7 : zq_ev r (0, [(4, 1)]) = r 4 := zu_e1 _ _
  have q8 : zq_ev r (0, [(5, 1)]) = r 5 := zu_e1 _ _
  have q9 : zq_ev r (0, [(6, 1)]) = r 6 := zu_e1 _ _
  have q10 : zq_ev r (0, [(7, 1)]) = r 7 := zu_e1 _ _
  obtain ⟨hT, hC, hF, hS, -, hK⟩ := hM
  have c := hC.1
  have a1 := zq_all_1 c
  rw [q0] at a1
  have c := zq_all_t c
  have a2 := zq_all_1 c
  rw [q1] at a2
  have s1 := zq_okS_1 (hS)
  simp only [q0, q2, q3] at s1
  have k1 := zj_use x_LA0 (hK)
  have k1 : zn_LA 35 (zq_ev r (0, [(0, 1)])) (zq_ev r (0, [(1, 1)])) (zq_ev r (0, [(2, 1)])) (zq_ev r (0, [(3, 1)])) (zq_ev r (0, [(4, 1)])) (zq_ev r (0, [(5, 1)])) (zq_ev r (0, [(6, 1)])) (zq_ev r (0, [(7, 1)])) P h := k1
  simp only [q10, q2, q4, q5, q6, q7, q8, q9] at k1
  obtain t1 := zn_LrG_l (P := P) (h := h) (sg := r 0) (kn := r 1) (wt := r 2) (si := r 3) (p := r 4) (d := r 5) (s := r 6) (S := r 7) (i := r 8) (v := r 9) a1 a2 s1 k1
  obtain ⟨rq, hr⟩ : ∃ rq : Nat → Int, (∀ i, i < 10 → rq i = r i) := ⟨r, fun i hi => rfl⟩
  have v7 : rq 7 = r 7 := hr 7 (by decide)
  have v8 : rq 8 = r 8 := hr 8 (by decide)
  have v9 : rq 9 = r 9 := hr 9 (by decide)
  have g0 : zq_ev rq (0, [(7, 1)]) = r 7 := zu_f1 v7
  have g1 : zq_ev rq (0, [(8, 1)]) = r 8 := zu_f1 v8
  have g2 : zq_ev rq (0, [(9, 1)]) = r 9 := zu_f1 v9
  exact ⟨_, List.mem_cons_self .., rq, hr, zq_MeS_mk rfl hT (zq_all_nil) zq_fan (zq_fan) rfl (zu_fac ((x_DG _ _ _).mpr (by show zn_DG (zq_ev rq (0, [(7, 1)])) (zq_ev rq (0, [(8, 1)])) (zq_ev rq (0, [(9, 1)])) P h; simp only [g0, g1, g2]; exact t1)) zq_fan)⟩
noncomputable def zn_KrG : zq_S × List zq_S := (([], [], [(0, [(5, 1)]), (-1, [(1, 1), (5, -1)])], [], [((0, [(0, 1)]), (11, [(5, 1)]), (0, [(6, 1)]))], [], [(148, [(0, [(0, 1)]), (0, [(1, 1)]), (0, [(2, 1)]), (0, [(3, 1)]), (0, [(4, 1)])])], 7), [([], [], [], [], [], [], [(134, [(0, [(4, 1)]), (0, [(5, 1)]), (0, [(6, 1)])])], 7)])
theorem zn_KrG_l {P : zq_Ty} {h : zq_H} {a p d s S i v : Int} (a1 : 0 ≤ i) (a2 : 0 ≤ p - i - 1) (s1 : 0 ≤ a ∧ P (a).toNat ≠ none ∧ h (a).toNat (i + 11) = v) (k1 : zn_KA 1 0 a p d s S P h) : (zn_DG S i v P h) := by
  obtain ⟨z1, c⟩ := k1
  have e : h a.toNat (0 + 11 + i) = _ := c.2.1 i a1 (by omega)
  show v = zn_dg S i
  rw [← e, show (0 : Int) + 11 + i = i + 11 by omega]; exact s1.2.2.symm
theorem zn_KrG_ok {w : zq_Wd} (x_KA0 : zj_is w 148 (fun q => zn_KA 1 0 (q 0) (q 1) (q 2) (q 3) (q 4))) (x_DG : zj_is w 134 (fun q => zn_DG (q 0) (q 1) (q 2))) : zq_okG1 w zn_KrG := by
  refine ⟨rfl, rfl, zu_fac ⟨rfl, by decide⟩ zq_fan, ?_⟩
  intro r P h H hM
  have q0 : zq_ev r (0, [(5, 1)]) = r 5 := zu_e1 _ _
  have q1 : zq_ev r (-1, [(1, 1), (5, -1)]) = r 1 - r 5 - 1 := by simp only [zq_ev, zq_ts] <;> omega
  have q2 : zq_ev r (0, [(0, 1)]) = r 0 := zu_e1 _ _
  have q3 : zq_ev r (11, [(5, 1)]) = r 5 + 11 := zu_e2 _ _ _
  have q4 : zq_ev r (0, [(6, 1)]) = r 6 := zu_e1 _ _
  have q5 : zq_ev r (0, [(1, 1)]) = r 1 := zu_e1 _ _
  have q6 : zq_ev r (0, [(2, 1)]) = r 2 := zu_e1 _ _
  have q7 : zq_ev r (0, [(3, 1)]) = r 3 := zu_e1 _ _
  have q8 : zq_ev r (0, [(4, 1)]) = r 4 := zu_e1 _ _
  obtain ⟨hT, hC, hF, hS, -, hK⟩ := hM
  have c := hC.1
  have a1 := zq_all_1 c
  rw [q0] at a1
  have c := zq_all_t c
  have a2 := zq_all_1 c
  rw [q1] at a2
  have s1 := zq_okS_1 (hS)
  simp only [q2, q3, q4] at s1
  have k1 := zj_use x_KA0 (hK)
  have k1 : zn_KA 1 0 (zq_ev r (0, [(0, 1)])) (zq_ev r (0, [(1, 1)])) (zq_ev r (0, [(2, 1)])) (zq_ev r (0, [(3, 1)])) (zq_ev r (0, [(4, 1)])) P h := k1
  simp only [q2, q5, q6, q7, q8] at k1
  obtain t1 := zn_KrG_l (P := P) (h := h) (a := r 0) (p := r 1) (d := r 2) (s := r 3) (S := r 4) (i := r 5) (v := r 6) a1 a2 s1 k1
  obtain ⟨rq, hr⟩ : ∃ rq : Nat → Int, (∀ i, i < 7 → rq i = r i) := ⟨r, fun i hi => rfl⟩
  have v4 : rq 4 = r 4 := hr 4 (by decide)
  have v5 : rq 5 = r 5 := hr 5 (by decide)
  have v6 : rq 6 = r 6 := hr 6 (by decide)
  have g0 : zq_ev rq (0, [(4, 1)]) = r 4 := zu_f1 v4
  have g1 : zq_ev rq (0, [(5, 1)]) = r 5 := zu_f1 v5
  have g2 : zq_ev rq (0, [(6, 1)]) = r 6 := zu_f1 v6
  exact ⟨_, List.mem_cons_self .., rq, hr, zq_MeS_mk rfl hT (zq_all_nil) zq_fan (zq_fan) rfl (zu_fac ((x_DG _ _ _).mpr (by show zn_DG (zq_ev rq (0, [(4, 1)])) (zq_ev rq (0, [(5, 1)])) (zq_ev rq (0, [(6, 1)])) P h; simp only [g0, g1, g2]; exact t1)) zq_fan)⟩
noncomputable def zn_LrN : zq_S × List zq_S := (([], [], [(0, [(8, 1)]), (-1, [(5, 1), (8, -1)])], [], [((0, [(1, 1)]), (0, [(8, 1)]), (0, [(9, 1)]))], [], [(140, [(0, [(0, 1)]), (0, [(1, 1)]), (0, [(2, 1)]), (0, [(3, 1)]), (0, [(4, 1)]), (0, [(5, 1)]), (0, [(6, 1)]), (0, [(7, 1)])])], 10), [([], [], [], [], [], [], [(134, [(0, [(7, 1)]), (6, [(8, 1)]), (0, [(9, 1)])])], 10)])
theorem zn_LrN_l {P : zq_Ty} {h : zq_H} {sg kn wt si p d s S i v : Int} (a1 : 0 ≤ i) (a2 : 0 ≤ d - i - 1) (s1 : 0 ≤ kn ∧ P (kn).toNat ≠ none ∧ h (kn).toNat i = v) (k1 : zn_LA 35 sg kn wt si p d s S P h) : (zn_DG S (i + 6) v P h) := by
  obtain ⟨z1, z2, z3, z4, c⟩ := k1
  have e := c.2.2.1 i a1 (by omega)
  show v = zn_dg S (i + 6)
  rw [show i + 6 = 6 + i by omega, ← e]; exact s1.2.2.symm
theorem zn_LrN_ok {w : zq_Wd} (x_LA0 : zj_is w 140 (fun q => zn_LA 35 (q 0) (q 1) (q 2) (q 3) (q 4) (q 5) (q 6) (q 7))) (x_DG : zj_is w 134 (fun q => zn_DG (q 0) (q 1) (q 2))) : zq_okG1 w zn_LrN := by
  refine ⟨rfl, rfl, zu_fac ⟨rfl, by decide⟩ zq_fan, ?_⟩
  intro r P h H hM
  have q0 : zq_ev r (0, [(8, 1)]) = r 8 := zu_e1 _ _
  have q1 : zq_ev r (-1, [(5, 1), (8, -1)]) = r 5 - r 8 - 1 := by simp only [zq_ev, zq_ts] <;> omega
  have q2 : zq_ev r (0, [(1, 1)]) = r 1 := zu_e1 _ _
  have q3 : zq_ev r (0, [(9, 1)]) = r 9 := zu_e1 _ _
  have q4 : zq_ev r (0, [(0, 1)]) = r 0 := zu_e1 _ _
  have q5 : zq_ev r (0, [(2, 1)]) = r 2 := zu_e1 _ _
  have q6 : zq_ev r (0, [(3, 1)]) = r 3 := zu_e1 _ _
  have q7 : zq_ev r (0, [(4, 1)]) = r 4 := zu_e1 _ _
  have q8 : zq_ev r (0, [(5, 1)]) = r 5 := zu_e1 _ _
  have q9 : zq_ev r (0, [(6, 1)]) = r 6 := zu_e1 _ _
  have q10 : zq_ev r (0, [(7, 1)]) = r 7 := zu_e1 _ _
  obtain ⟨hT, hC, hF, hS, -, hK⟩ := hM
  have c := hC.1
  have a1 := zq_all_1 c
  rw [q0] at a1
  have c := zq_all_t c
  have a2 := zq_all_1 c
  rw [q1] at a2
  have s1 := zq_okS_1 (hS)
  simp only [q0, q2, q3] at s1
  have k1 := zj_use x_LA0 (hK)
  have k1 : zn_LA 35 (zq_ev r (0, [(0, 1)])) (zq_ev r (0, [(1, 1)])) (zq_ev r (0, [(2, 1)])) (zq_ev r (0, [(3, 1)])) (zq_ev r (0, [(4, 1)])) (zq_ev r (0, [(5, 1)])) (zq_ev r (0, [(6, 1)])) (zq_ev r (0, [(7, 1)])) P h := k1
  simp only [q10, q2, q4, q5, q6, q7, q8, q9] at k1
  obtain t1 := zn_LrN_l (P := P) (h := h) (sg := r 0) (kn := r 1) (wt := r 2) (si := r 3) (p := r 4) (d := r 5) (s := r 6) (S := r 7) (i := r 8) (v := r 9) a1 a2 s1 k1
  obtain ⟨rq, hr⟩ : ∃ rq : Nat → Int, (∀ i, i < 10 → rq i = r i) := ⟨r, fun i hi => rfl⟩
  have v7 : rq 7 = r 7 := hr 7 (by decide)
  have v8 : rq 8 = r 8 := hr 8 (by decide)
  have v9 : rq 9 = r 9 := hr 9 (by decide)
  have g0 : zq_ev rq (0, [(7, 1)]) = r 7 := zu_f1 v7
  have g1 : zq_ev rq (6, [(8, 1)]) = r 8 + 6 := zu_f2 v8 _
  have g2 : zq_ev rq (0, [(9, 1)]) = r 9 := zu_f1 v9
  exact ⟨_, List.mem_cons_self .., rq, hr, zq_MeS_mk rfl hT (zq_all_nil) zq_fan (zq_fan) rfl (zu_fac ((x_DG _ _ _).mpr (by show zn_DG (zq_ev rq (0, [(7, 1)])) (zq_ev rq (6, [(8, 1)])) (zq_ev rq (0, [(9, 1)])) P h; simp only [g0, g1, g2]; exact t1)) zq_fan)⟩
noncomputable def zn_KrN : zq_S × List zq_S := (([], [], [(0, [(5, 1)]), (-1, [(2, 1), (5, -1)])], [], [((0, [(0, 1)]), (21, [(5, 1)]), (0, [(6, 1)]))], [], [(148, [(0, [(0, 1)]), (0, [(1, 1)]), (0, [(2, 1)]), (0, [(3, 1)]), (0, [(4, 1)])])], 7), [([], [], [], [], [], [], [(134, [(0, [(4, 1)]), (6, [(5, 1)]), (0, [(6, 1)])])], 7)])
theorem zn_KrN_l {P : zq_Ty} {h : zq_H} {a p d s S i v : Int} (a1 : 0 ≤ i) (a2 : 0 ≤ d - i - 1) (s1 : 0 ≤ a ∧ P (a).toNat ≠ none ∧ h (a).toNat (i + 21) = v) (k1 : zn_KA 1 0 a p d s S P h) : (zn_DG S (i + 6) v P h) := by
  obtain ⟨z1, c⟩ := k1
  have e : h a.toNat (0 + 21 + i) = _ := c.2.2.1 i a1 (by omega)
  show v = zn_dg S (i + 6)
  rw [show i + 6 = 6 + i by omega, ← e, show (0 : Int) + 21 + i = i + 21 by omega]; exact s1.2.2.symm
theorem zn_KrN_ok {w : zq_Wd} (x_KA0 : zj_is w 148 (fun q => zn_KA 1 0 (q 0) (q 1) (q 2) (q 3) (q 4))) (x_DG : zj_is w 134 (fun q => zn_DG (q 0) (q 1) (q 2))) : zq_okG1 w zn_KrN := by
  refine ⟨rfl, rfl, zu_fac ⟨rfl, by decide⟩ zq_fan, ?_⟩
  intro r P h H hM
  have q0 : zq_ev r (0, [(5, 1)]) = r 5 := zu_e1 _ _
  have q1 : zq_ev r (-1, [(2, 1), (5, -1)]) = r 2 - r 5 - 1 := by simp only [zq_ev, zq_ts] <;> omega
  have q2 : zq_ev r (0, [(0, 1)]) = r 0 := zu_e1 _ _
  have q3 : zq_ev r (21, [(5, 1)]) = r 5 + 21 := zu_e2 _ _ _
  have q4 : zq_ev r (0, [(6, 1)]) = r 6 := zu_e1 _ _
  have q5 : zq_ev r (0, [(1, 1)]) = r 1 := zu_e1 _ _
  have q6 : zq_ev r (0, [(2, 1)]) = r 2 := zu_e1 _ _
  have q7 : zq_ev r (0, [(3, 1)]) = r 3 := zu_e1 _ _
  have q8 : zq_ev r (0, [(4, 1)]) = r 4 := zu_e1 _ _
  obtain ⟨hT, hC, hF, hS, -, hK⟩ := hM
  have c := hC.1
  have a1 := zq_all_1 c
  rw [q0] at a1
  have c := zq_all_t c
  have a2 := zq_all_1 c
  rw [q1] at a2
  have s1 := zq_okS_1 (hS)
  simp only [q2, q3, q4] at s1
  have k1 := zj_use x_KA0 (hK)
  have k1 : zn_KA 1 0 (zq_ev r (0, [(0, 1)])) (zq_ev r (0, [(1, 1)])) (zq_ev r (0, [(2, 1)])) (zq_ev r (0, [(3, 1)])) (zq_ev r (0, [(4, 1)])) P h := k1
  simp only [q2, q5, q6, q7, q8] at k1
  obtain t1 := zn_KrN_l (P := P) (h := h) (a := r 0) (p := r 1) (d := r 2) (s := r 3) (S := r 4) (i := r 5) (v := r 6) a1 a2 s1 k1
  obtain ⟨rq, hr⟩ : ∃ rq : Nat → Int, (∀ i, i < 7 → rq i = r i) := ⟨r, fun i hi => rfl⟩
  have v4 : rq 4 = r 4 := hr 4 (by decide)
  have v5 : rq 5 = r 5 := hr 5 (by decide)
  have v6 : rq 6 = r 6 := hr 6 (by decide)
  have g0 : zq_ev rq (0, [(4, 1)]) = r 4 := zu_f1 v4
  have g1 : zq_ev rq (6, [(5, 1)]) = r 5 + 6 := zu_f2 v5 _
  have g2 : zq_ev rq (0, [(6, 1)]) = r 6 := zu_f1 v6
  exact ⟨_, List.mem_cons_self .., rq, hr, zq_MeS_mk rfl hT (zq_all_nil) zq_fan (zq_fan) rfl (zu_fac ((x_DG _ _ _).mpr (by show zn_DG (zq_ev rq (0, [(4, 1)])) (zq_ev rq (6, [(5, 1)])) (zq_ev rq (0, [(6, 1)])) P h; simp only [g0, g1, g2]; exact t1)) zq_fan)⟩
noncomputable def zn_LrW : zq_S × List zq_S := (([], [], [(0, [(8, 1)]), (-1, [(5, 1), (8, -1)])], [], [((0, [(2, 1)]), (0, [(8, 1)]), (0, [(9, 1)]))], [], [(140, [(0, [(0, 1)]), (0, [(1, 1)]), (0, [(2, 1)]), (0, [(3, 1)]), (0, [(4, 1)]), (0, [(5, 1)]), (0, [(6, 1)]), (0, [(7, 1)])])], 10), [([], [], [], [], [], [], [(134, [(0, [(7, 1)]), (12, [(8, 1)]), (0, [(9, 1)])])], 10)])
theorem zn_LrW_l {P : zq_Ty} {h : zq_H} {sg kn wt si p d s S i v : Int} (a1 : 0 ≤ i) (a2 : 0 ≤ d - i - 1) (s1 : 0 ≤ wt ∧ P (wt).toNat ≠ none ∧ h (wt).toNat i = v) (k1 : zn_LA 35 sg kn wt si p d s S P h) : (zn_DG S (i + 12) v P h) := by
  obtain ⟨z1, z2, z3, z4, c⟩ := k1
  have e := c.2.2.2.1 i a1 (by omega)
  show v = zn_dg S (i + 12)
  rw [show i + 12 = 12 + i by omega, ← e]; exact s1.2.2.symm
theorem zn_LrW_ok {w : zq_Wd} (x_LA0 : zj_is w 140 (fun q => zn_LA 35 (q 0) (q 1) (q 2) (q 3) (q 4) (q 5) (q 6) (q 7))) (x_DG : zj_is w 134 (fun q => zn_DG (q 0) (q 1) (q 2))) : zq_okG1 w zn_LrW := by
  refine ⟨rfl, rfl, zu_fac ⟨rfl, by decide⟩ zq_fan, ?_⟩
  intro r P h H hM
  have q0 : zq_ev r (0, [(8, 1)]) = r 8 := zu_e1 _ _
  have q1 : zq_ev r (-1, [(5, 1), (8, -1)]) = r 5 - r 8 - 1 := by simp only [zq_ev, zq_ts] <;> omega
  have q2 : zq_ev r (0, [(2, 1)]) = r 2 := zu_e1 _ _
  have q3 : zq_ev r (0, [(9, 1)]) = r 9 := zu_e1 _ _
  have q4 : zq_ev r (0, [(0, 1)]) = r 0 := zu_e1 _ _
  have q5 : zq_ev r (0, [(1, 1)]) = r 1 := zu_e1 _ _
  have q6 : zq_ev r (0, [(3, 1)]) = r 3 := zu_e1 _ _
  have q7 : zq_ev r (0, [(4, 1)]) = r 4 := zu_e1 _ _
  have q8 : zq_ev r (0, [(5, 1)]) = r 5 := zu_e1 _ _
  have q9 : zq_ev r (0, [(6, 1)]) = r 6 := zu_e1 _ _
  have q10 : zq_ev r (0, [(7, 1)]) = r 7 := zu_e1 _ _
  obtain ⟨hT, hC, hF, hS, -, hK⟩ := hM
  have c := hC.1
  have a1 := zq_all_1 c
  rw [q0] at a1
  have c := zq_all_t c
  have a2 := zq_all_1 c
  rw [q1] at a2
  have s1 := zq_okS_1 (hS)
  simp only [q0, q2, q3] at s1
  have k1 := zj_use x_LA0 (hK)
  have k1 : zn_LA 35 (zq_ev r (0, [(0, 1)])) (zq_ev r (0, [(1, 1)])) (zq_ev r (0, [(2, 1)])) (zq_ev r (0, [(3, 1)])) (zq_ev r (0, [(4, 1)])) (zq_ev r (0, [(5, 1)])) (zq_ev r (0, [(6, 1)])) (zq_ev r (0, [(7, 1)])) P h := k1
  simp only [q10, q2, q4, q5, q6, q7, q8, q9] at k1
  obtain t1 := zn_LrW_l (P := P) (h := h) (sg := r 0) (kn := r 1) (wt := r 2) (si := r 3) (p := r 4) (d := r 5) (s := r 6) (S := r 7) (i := r 8) (v := r 9) a1 a2 s1 k1
  obtain ⟨rq, hr⟩ : ∃ rq : Nat → Int, (∀ i, i < 10 → rq i = r i) := ⟨r, fun i hi => rfl⟩
  have v7 : rq 7 = r 7 := hr 7 (by decide)
  have v8 : rq 8 = r 8 := hr 8 (by decide)
  have v9 : rq 9 = r 9 := hr 9 (by decide)
  have g0 : zq_ev rq (0, [(7, 1)]) = r 7 := zu_f1 v7
  have g1 : zq_ev rq (12, [(8, 1)]) = r 8 + 12 := zu_f2 v8 _
  have g2 : zq_ev rq (0, [(9, 1)]) = r 9 := zu_f1 v9
  exact ⟨_, List.mem_cons_self .., rq, hr, zq_MeS_mk rfl hT (zq_all_nil) zq_fan (zq_fan) rfl (zu_fac ((x_DG _ _ _).mpr (by show zn_DG (zq_ev rq (0, [(7, 1)])) (zq_ev rq (12, [(8, 1)])) (zq_ev rq (0, [(9, 1)])) P h; simp only [g0, g1, g2]; exact t1)) zq_fan)⟩
noncomputable def zn_KrW : zq_S × List zq_S := (([], [], [(0, [(5, 1)]), (-1, [(2, 1), (5, -1)])], [], [((0, [(0, 1)]), (27, [(5, 1)]), (0, [(6, 1)]))], [], [(148, [(0, [(0, 1)]), (0, [(1, 1)]), (0, [(2, 1)]), (0, [(3, 1)]), (0, [(4, 1)])])], 7), [([], [], [], [], [], [], [(134, [(0, [(4, 1)]), (12, [(5, 1)]), (0, [(6, 1)])])], 7)])
theorem zn_KrW_l {P : zq_Ty} {h : zq_H} {a p d s S i v : Int} (a1 : 0 ≤ i) (a2 : 0 ≤ d - i - 1) (s1 : 0 ≤ a ∧ P (a).toNat ≠ none ∧ h (a).toNat (i + 27) = v) (k1 : zn_KA 1 0 a p d s S P h) : (zn_DG S (i + 12) v P h) := by
  obtain ⟨z1, c⟩ := k1
  have e : h a.toNat (0 + 27 + i) = _ := c.2.2.2.1 i a1 (by omega)
  show v = zn_dg S (i + 12)
  rw [show i + 12 = 12 + i by omega, ← e, show (0 : Int) + 27 + i = i + 27 by omega]; exact s1.2.2.symm
theorem zn_KrW_ok {w : zq_Wd} (x_KA0 : zj_is w 148 (fun q => zn_KA 1 0 (q 0) (q 1) (q 2) (q 3) (q 4))) (x_DG : zj_is w 134 (fun q => zn_DG (q 0) (q 1) (q 2))) : zq_okG1 w zn_KrW := by
  refine ⟨rfl, rfl, zu_fac ⟨rfl, by decide⟩ zq_fan, ?_⟩
  intro r P h H hM
  have q0 : zq_ev r (0, [(5, 1)]) = r 5 := zu_e1 _ _
  have q1 : zq_ev r (-1, [(2, 1), (5, -1)]) = r 2 - r 5 - 1 := by simp only [zq_ev, zq_ts] <;> omega
  have q2 : zq_ev r (0, [(0, 1)]) = r 0 := zu_e1 _ _
  have q3 : zq_ev r (27, [(5, 1)]) = r 5 + 27 := zu_e2 _ _ _
  have q4 : zq_ev r (0, [(6, 1)]) = r 6 := zu_e1 _ _
  have q5 : zq_ev r (0, [(1, 1)]) = r 1 := zu_e1 _ _
  have q6 : zq_ev r (0, [(2, 1)]) = r 2 := zu_e1 _ _
  have q7 : zq_ev r (0, [(3, 1)]) = r 3 := zu_e1 _ _
  have q8 : zq_ev r (0, [(4, 1)]) = r 4 := zu_e1 _ _
  obtain ⟨hT, hC, hF, hS, -, hK⟩ := hM
  have c := hC.1
  have a1 := zq_all_1 c
  rw [q0] at a1
  have c := zq_all_t c
  have a2 := zq_all_1 c
  rw [q1] at a2
  have s1 := zq_okS_1 (hS)
  simp only [q2, q3, q4] at s1
  have k1 := zj_use x_KA0 (hK)
  have k1 : zn_KA 1 0 (zq_ev r (0, [(0, 1)])) (zq_ev r (0, [(1, 1)])) (zq_ev r (0, [(2, 1)])) (zq_ev r (0, [(3, 1)])) (zq_ev r (0, [(4, 1)])) P h := k1
  simp only [q2, q5, q6, q7, q8] at k1
  obtain t1 := zn_KrW_l (P := P) (h := h) (a := r 0) (p := r 1) (d := r 2) (s := r 3) (S := r 4) (i := r 5) (v := r 6) a1 a2 s1 k1
  obtain ⟨rq, hr⟩ : ∃ rq : Nat → Int, (∀ i, i < 7 → rq i = r i) := ⟨r, fun i hi => rfl⟩
  have v4 : rq 4 = r 4 := hr 4 (by decide)
  have v5 : rq 5 = r 5 := hr 5 (by decide)
  have v6 : rq 6 = r 6 := hr 6 (by decide)
  have g0 : zq_ev rq (0, [(4, 1)]) = r 4 := zu_f1 v4
  have g1 : zq_ev rq (12, [(5, 1)]) = r 5 + 12 := zu_f2 v5 _
  have g2 : zq_ev rq (0, [(6, 1)]) = r 6 := zu_f1 v6
  exact ⟨_, List.mem_cons_self .., rq, hr, zq_MeS_mk rfl hT (zq_all_nil) zq_fan (zq_fan) rfl (zu_fac ((x_DG _ _ _).mpr (by show zn_DG (zq_ev rq (0, [(4, 1)])) (zq_ev rq (12, [(5, 1)])) (zq_ev rq (0, [(6, 1)])) P h; simp only [g0, g1, g2]; exact t1)) zq_fan)⟩
noncomputable def zn_UP : zq_S × List zq_S := (([], [], [(0, [(0, 1), (4, -1)]), (0, [(0, -1), (4, 1)]), (0, [(1, 1), (5, -1)]), (0, [(1, -1), (5, 1)]), (0, [(2, 1), (6, -1)]), (0, [(2, -1), (6, 1)])], [], [], [], [(131, [(0, [(0, 1)]), (0, [(1, 1)]), (0, [(2, 1)]), (0, [(3, 1)])]), (131, [(0, [(4, 1)]), (0, [(5, 1)]), (0, [(6, 1)]), (0, [(7, 1)])])], 8), [([], [], [(0, [(3, 1), (7, -1)]), (0, [(3, -1), (7, 1)])], [], [], [], [], 8)])
theorem zn_UP_l {P : zq_Ty} {h : zq_H} {x0 x1 x2 u y0 y1 y2 v : Int} (a1 : 0 ≤ x0 - y0) (a2 : 0 ≤ -x0 + y0) (a3 : 0 ≤ x1 - y1) (a4 : 0 ≤ -x1 + y1) (a5 : 0 ≤ x2 - y2) (a6 : 0 ≤ -x2 + y2) (k1 : zn_PE x0 x1 x2 u P h) (k2 : zn_PE y0 y1 y2 v P h) : (0 ≤ u - v ∧ 0 ≤ -u + v) := by
  have e0 : x0 = y0 := by omega
  have e1 : x1 = y1 := by omega
  have e2 : x2 = y2 := by omega
  subst e0
  subst e1
  subst e2
  have e : u = v := k1.trans k2.symm
  exact ⟨by omega, by omega⟩
theorem zn_UP_ok {w : zq_Wd} (x_PE : zj_is w 131 (fun q => zn_PE (q 0) (q 1) (q 2) (q 3))) : zq_okG1 w zn_UP := by
  refine ⟨rfl, rfl, zu_fac ⟨rfl, by decide⟩ zq_fan, ?_⟩
  intro r P h H hM
  have q0 : zq_ev r (0, [(0, 1), (4, -1)]) = r 0 - r 4 := by simp only [zq_ev, zq_ts] <;> omega
  have q1 : zq_ev r (0, [(0, -1), (4, 1)]) = -r 0 + r 4 := by simp only [zq_ev, zq_ts] <;> omega
  have q2 : zq_ev r (0, [(1, 1), (5, -1)]) = r 1 - r 5 := by simp only [zq_ev, zq_ts] <;> omega
  have q3 : zq_ev r (0, [(1, -1), (5, 1)]) = -r 1 + r 5 := by simp only [zq_ev, zq_ts] <;> omega
  have q4 : zq_ev r (0, [(2, 1), (6, -1)]) = r 2 - r 6 := by simp only [zq_ev, zq_ts] <;> omega
  have q5 : zq_ev r (0, [(2, -1), (6, 1)]) = -r 2 + r 6 := by simp only [zq_ev, zq_ts] <;> omega
  have q6 : zq_ev r (0, [(0, 1)]) = r 0 := zu_e1 _ _
  have q7 : zq_ev r (0, [(1, 1)]) = r 1 := zu_e1 _ _
  have q8 : zq_ev r (0, [(2, 1)]) = r 2 := zu_e1 _ _
  have q9 : zq_ev r (0, [(3, 1)]) = r 3 := zu_e1 _ _
  have q10 : zq_ev r (0, [(4, 1)]) = r 4 := zu_e1 _ _
  have q11 : zq_ev r (0, [(5, 1)]) = r 5 := zu_e1 _ _
  have q12 : zq_ev r (0, [(6, 1)]) = r 6 := zu_e1 _ _
  have q13 : zq_ev r (0, [(7, 1)]) = r 7 := zu_e1 _ _
  obtain ⟨hT, hC, hF, hS, -, hK⟩ := hM
  have c := hC.1
  have a1 := zq_all_1 c
  rw [q0] at a1
  have c := zq_all_t c
  have a2 := zq_all_1 c
  rw [q1] at a2
  have c := zq_all_t c
  have a3 := zq_all_1 c
  rw [q2] at a3
  have c := zq_all_t c
  have a4 := zq_all_1 c
  rw [q3] at a4
  have c := zq_all_t c
  have a5 := zq_all_1 c
  rw [q4] at a5
  have c := zq_all_t c
  have a6 := zq_all_1 c
  rw [q5] at a6
  have k1 := zj_use x_PE (hK)
  have k1 : zn_PE (zq_ev r (0, [(0, 1)])) (zq_ev r (0, [(1, 1)])) (zq_ev r (0, [(2, 1)])) (zq_ev r (0, [(3, 1)])) P h := k1
  simp only [q6, q7, q8, q9] at k1
  have k2 := zj_use x_PE (zq_okX_t (hK))
  have k2 : zn_PE (zq_ev r (0, [(4, 1)])) (zq_ev r (0, [(5, 1)])) (zq_ev r (0, [(6, 1)])) (zq_ev r (0, [(7, 1)])) P h := k2
  simp only [q10, q11, q12, q13] at k2
  obtain ⟨c1, c2⟩ := zn_UP_l (P := P) (h := h) (x0 := r 0) (x1 := r 1) (x2 := r 2) (u := r 3) (y0 := r 4) (y1 := r 5) (y2 := r 6) (v := r 7) a1 a2 a3 a4 a5 a6 k1 k2
  obtain ⟨rq, hr⟩ : ∃ rq : Nat → Int, (∀ i, i < 8 → rq i = r i) := ⟨r, fun i hi => rfl⟩
  have v3 : rq 3 = r 3 := hr 3 (by decide)
  have v7 : rq 7 = r 7 := hr 7 (by decide)
  have g0 : zq_ev rq (0, [(3, -1), (7, 1)]) = -r 3 + r 7 := by simp only [zq_ev, zq_ts, v3, v7] <;> omega
  have g1 : zq_ev rq (0, [(3, 1), (7, -1)]) = r 3 - r 7 := by simp only [zq_ev, zq_ts, v3, v7] <;> omega
  exact ⟨_, List.mem_cons_self .., rq, hr, zq_MeS_mk rfl hT (zq_all_cons (by rw [g1]; exact c1) (zq_all_cons (by rw [g0]; exact c2) (zq_all_nil))) zq_fan (zq_fan) rfl zq_fan⟩
noncomputable def zn_UD : zq_S × List zq_S := (([], [], [(0, [(0, 1), (5, -1)]), (0, [(0, -1), (5, 1)]), (0, [(1, 1), (6, -1)]), (0, [(1, -1), (6, 1)]), (0, [(2, 1), (7, -1)]), (0, [(2, -1), (7, 1)]), (0, [(3, 1), (8, -1)]), (0, [(3, -1), (8, 1)])], [], [], [], [(132, [(0, [(0, 1)]), (0, [(1, 1)]), (0, [(2, 1)]), (0, [(3, 1)]), (0, [(4, 1)])]), (132, [(0, [(5, 1)]), (0, [(6, 1)]), (0, [(7, 1)]), (0, [(8, 1)]), (0, [(9, 1)])])], 10), [([], [], [(0, [(4, 1), (9, -1)]), (0, [(4, -1), (9, 1)])], [], [], [], [], 10)])
theorem zn_UD_l {P : zq_Ty} {h : zq_H} {x0 x1 x2 x3 u y0 y1 y2 y3 v : Int} (a1 : 0 ≤ x0 - y0) (a2 : 0 ≤ -x0 + y0) (a3 : 0 ≤ x1 - y1) (a4 : 0 ≤ -x1 + y1) (a5 : 0 ≤ x2 - y2) (a6 : 0 ≤ -x2 + y2) (a7 : 0 ≤ x3 - y3) (a8 : 0 ≤ -x3 + y3) (k1 : zn_DE x0 x1 x2 x3 u P h) (k2 : zn_DE y0 y1 y2 y3 v P h) : (0 ≤ u - v ∧ 0 ≤ -u + v) := by
  have e0 : x0 = y0 := by omega
  have e1 : x1 = y1 := by omega
  have e2 : x2 = y2 := by omega
  have e3 : x3 = y3 := by omega
  subst e0
  subst e1
  subst e2
  subst e3
  have e : u = v := k1.trans k2.symm
  exact ⟨by omega, by omega⟩
theorem zn_UD_ok {w : zq_Wd} (x_DE : zj_is w 132 (fun q => zn_DE (q 0) (q 1) (q 2) (q 3) (q 4))) : zq_okG1 w zn_UD := by
  refine ⟨rfl, rfl, zu_fac ⟨rfl, by decide⟩ zq_fan, ?_⟩
  intro r P h H hM
  have q0 : zq_ev r (0, [(0, 1), (5, -1)]) = r 0 - r 5 := by simp only [zq_ev, zq_ts] <;> omega
  have q1 : zq_ev r (0, [(0, -1), (5, 1)]) = -r 0 + r 5 := by simp only [zq_ev, zq_ts] <;> omega
  have q2 : zq_ev r (0, [(1, 1), (6, -1)]) = r 1 - r 6 := by simp only [zq_ev, zq_ts] <;> omega
  have q3 : zq_ev r (0, [(1, -1), (6, 1)]) = -r 1 + r 6 := by simp only [zq_ev, zq_ts] <;> omega
  have q4 : zq_ev r (0, [(2, 1), (7, -1)]) = r 2 - r 7 := by simp only [zq_ev, zq_ts] <;> omega
  have q5 : zq_ev r (0, [(2, -1), (7, 1)]) = -r 2 + r 7 := by simp only [zq_ev, zq_ts] <;> omega
  have q6 : zq_ev r (0, [(3, 1), (8, -1)]) = r 3 - r 8 := by simp only [zq_ev, zq_ts] <;> omega
  have q7 : zq_ev r (0, [(3, -1), (8, 1)]) = -r 3 + r 8 := by simp only [zq_ev, zq_ts] <;> omega
  have q8 : zq_ev r (0, [(0, 1)]) = r 0 := zu_e1 _ _
  have q9 : zq_ev r (0, [(1, 1)]) = r 1 := zu_e1 _ _
  have q10 : zq_ev r (0, [(2, 1)]) = r 2 := zu_e1 _ _
  have q11 : zq_ev r (0, [(3, 1)]) = r 3 := zu_e1 _ _
  have q12 : zq_ev r (0, [(4, 1)]) = r 4 := zu_e1 _ _
  have q13 : zq_ev r (0, [(5, 1)]) = r 5 := zu_e1 _ _
  have q14 : zq_ev r (0, [(6, 1)]) = r 6 := zu_e1 _ _
  have q15 : zq_ev r (0, [(7, 1)]) = r 7 := zu_e1 _ _
  have q16 : zq_ev r (0, [(8, 1)]) = r 8 := zu_e1 _ _
  have q17 : zq_ev r (0, [(9, 1)]) = r 9 := zu_e1 _ _
  obtain ⟨hT, hC, hF, hS, -, hK⟩ := hM
  have c := hC.1
  have a1 := zq_all_1 c
  rw [q0] at a1
  have c := zq_all_t c
  have a2 := zq_all_1 c
  rw [q1] at a2
  have c := zq_all_t c
  have a3 := zq_all_1 c
  rw [q2] at a3
  have c := zq_all_t c
  have a4 := zq_all_1 c
  rw [q3] at a4
  have c := zq_all_t c
  have a5 := zq_all_1 c
  rw [q4] at a5
  have c := zq_all_t c
  have a6 := zq_all_1 c
  rw [q5] at a6
  have c := zq_all_t c
  have a7 := zq_all_1 c
  rw [q6] at a7
  have c := zq_all_t c
  have a8 := zq_all_1 c
  rw [q7] at a8
  have k1 := zj_use x_DE (hK)
  have k1 : zn_DE (zq_ev r (0, [(0, 1)])) (zq_ev r (0, [(1, 1)])) (zq_ev r (0, [(2, 1)])) (zq_ev r (0, [(3, 1)])) (zq_ev r (0, [(4, 1)])) P h := k1
  simp only [q10, q11, q12, q8, q9] at k1
  have k2 := zj_use x_DE (zq_okX_t (hK))
  have k2 : zn_DE (zq_ev r (0, [(5, 1)])) (zq_ev r (0, [(6, 1)])) (zq_ev r (0, [(7, 1)])) (zq_ev r (0, [(8, 1)])) (zq_ev r (0, [(9, 1)])) P h := k2
  simp only [q13, q14, q15, q16, q17] at k2
  obtain ⟨c1, c2⟩ := zn_UD_l (P := P) (h := h) (x0 := r 0) (x1 := r 1) (x2 := r 2) (x3 := r 3) (u := r 4) (y0 := r 5) (y1 := r 6) (y2 := r 7) (y3 := r 8) (v := r 9) a1 a2 a3 a4 a5 a6 a7 a8 k1 k2
  obtain ⟨rq, hr⟩ : ∃ rq : Nat → Int, (∀ i, i < 10 → rq i = r i) := ⟨r, fun i hi => rfl⟩
  have v4 : rq 4 = r 4 := hr 4 (by decide)
  have v9 : rq 9 = r 9 := hr 9 (by decide)
  have g0 : zq_ev rq (0, [(4, -1), (9, 1)]) = -r 4 + r 9 := by simp only [zq_ev, zq_ts, v4, v9] <;> omega
  have g1 : zq_ev rq (0, [(4, 1), (9, -1)]) = r 4 - r 9 := by simp only [zq_ev, zq_ts, v4, v9] <;> omega
  exact ⟨_, List.mem_cons_self .., rq, hr, zq_MeS_mk rfl hT (zq_all_cons (by rw [g1]; exact c1) (zq_all_cons (by rw [g0]; exact c2) (zq_all_nil))) zq_fan (zq_fan) rfl zq_fan⟩
noncomputable def zn_US : zq_S × List zq_S := (([], [], [(0, [(0, 1), (7, -1)]), (0, [(0, -1), (7, 1)]), (0, [(1, 1), (8, -1)]), (0, [(1, -1), (8, 1)]), (0, [(2, 1), (9, -1)]), (0, [(2, -1), (9, 1)]), (0, [(3, 1), (10, -1)]), (0, [(3, -1), (10, 1)]), (0, [(4, 1), (11, -1)]), (0, [(4, -1), (11, 1)]), (0, [(5, 1), (12, -1)]), (0, [(5, -1), (12, 1)])], [], [], [], [(133, [(0, [(0, 1)]), (0, [(1, 1)]), (0, [(2, 1)]), (0, [(3, 1)]), (0, [(4, 1)]), (0, [(5, 1)]), (0, [(6, 1)])]), (133, [(0, [(7, 1)]), (0, [(8, 1)]), (0, [(9, 1)]), (0, [(10, 1)]), (0, [(11, 1)]), (0, [(12, 1)]), (0, [(13, 1)])])], 14), [([], [], [(0, [(6, 1), (13, -1)]), (0, [(6, -1), (13, 1)])], [], [], [], [], 14)])
theorem zn_US_l {P : zq_Ty} {h : zq_H} {x0 x1 x2 x3 x4 x5 u y0 y1 y2 y3 y4 y5 v : Int} (a1 : 0 ≤ x0 - y0) (a2 : 0 ≤ -x0 + y0) (a3 : 0 ≤ x1 - y1) (a4 : 0 ≤ -x1 + y1) (a5 : 0 ≤ x2 - y2) (a6 : 0 ≤ -x2 + y2) (a7 : 0 ≤ x3 - y3) (a8 : 0 ≤ -x3 + y3) (a9 : 0 ≤ x4 - y4) (a10 : 0 ≤ -x4 + y4) (a11 : 0 ≤ x5 - y5) (a12 : 0 ≤ -x5 + y5) (k1 : zn_SI x0 x1 x2 x3 x4 x5 u P h) (k2 : zn_SI y0 y1 y2 y3 y4 y5 v P h) : (0 ≤ u - v ∧ 0 ≤ -u + v) := by
  have e0 : x0 = y0 := by omega
  have e1 : x1 = y1 := by omega
  have e2 : x2 = y2 := by omega
  have e3 : x3 = y3 := by omega
  have e4 : x4 = y4 := by omega
  have e5 : x5 = y5 := by omega
  subst e0
  subst e1
  subst e2
  subst e3
  subst e4
  subst e5
  have e : u = v := k1.trans k2.symm
  exact ⟨by omega, by omega⟩
theorem zn_US_ok {w : zq_Wd} (x_SI : zj_is w 133 (fun q => zn_SI (q 0) (q 1) (q 2) (q 3) (q 4) (q 5) (q 6))) : zq_okG1 w zn_US := by
  refine ⟨rfl, rfl, zu_fac ⟨rfl, by decide⟩ zq_fan, ?_⟩
  intro r P h H hM
  have q0 : zq_ev r (0, [(0, 1), (7, -1)]) = r 0 - r 7 := by simp only [zq_ev, zq_ts] <;> omega
  have q1 : zq_ev r (0, [(0, -1), (7, 1)]) = -r 0 + r 7 := by simp only [zq_ev, zq_ts] <;> omega
  have q2 : zq_ev r (0, [(1, 1), (8, -1)]) = r 1 - r 8 := by simp only [zq_ev, zq_ts] <;> omega
  have q3 : zq_ev r (0, [(1, -1), (8, 1)]) = -r 1 + r 8 := by simp only [zq_ev, zq_ts] <;> omega
  have q4 : zq_ev r (0, [(2, 1), (9, -1)]) = r 2 - r 9 := by simp only [zq_ev, zq_ts] <;> omega
  have q5 : zq_ev r (0, [(2, -1), (9, 1)]) = -r 2 + r 9 := by simp only [zq_ev, zq_ts] <;> omega
  have q6 : zq_ev r (0, [(3, 1), (10, -1)]) = r 3 - r 10 := by simp only [zq_ev, zq_ts] <;> omega
  have q7 : zq_ev r (0, [(3, -1), (10, 1)]) = -r 3 + r 10 := by simp only [zq_ev, zq_ts] <;> omega
  have q8 : zq_ev r (0, [(4, 1), (11, -1)]) = r 4 - r 11 := by simp only [zq_ev, zq_ts] <;> omega
  have q9 : zq_ev r (0, [(4, -1), (11, 1)]) = -r 4 + r 11 := by simp only [zq_ev, zq_ts] <;> omega
  have q10 : zq_ev r (0, [(5, 1), (12, -1)]) = r 5 - r 12 := by simp only [zq_ev, zq_ts] <;> omega
  have q11 : zq_ev r (0, [(5, -1), (12, 1)]) = -r 5 + r 12 := by simp only [zq_ev, zq_ts] <;> omega
  have q12 : zq_ev r (0, [(0, 1)]) = r 0 := zu_e1 _ _
  have q13 : zq_ev r (0, [(1, 1)]) = r 1 := zu_e1 _ _
  have q14 : zq_ev r (0, [(2, 1)]) = r 2 := zu_e1 _ _
  have q15 : zq_ev r (0, [(3, 1)]) = r 3 := zu_e1 _ _
  have q16 : zq_ev r (0, [(4, 1)]) = r 4 := zu_e1 _ _
  have q17 : zq_ev r (0, [(5, 1)]) = r 5 := zu_e1 _ _
  have q18 : zq_ev r (0, [(6, 1)]) = r 6 := zu_e1 _ _
  have q19 : zq_ev r (0, [(7, 1)]) = r 7 := zu_e1 _ _
  have q20 : zq_ev r (0, [(8, 1)]) = r 8 := zu_e1 _ _
  have q21 : zq_ev r (0, [(9, 1)]) = r 9 := zu_e1 _ _
  have q22 : zq_ev r (0, [(10, 1)]) = r 10 := zu_e1 _ _
  have q23 : zq_ev r (0, [(11, 1)]) = r 11 := zu_e1 _ _
  have q24 : zq_ev r (0, [(12, 1)]) = r 12 := zu_e1 _ _
  have q25 : zq_ev r (0, [(13, 1)]) = r 13 := zu_e1 _ _
  obtain ⟨hT, hC, hF, hS, -, hK⟩ := hM
  have c := hC.1
  have a1 := zq_all_1 c
  rw [q0] at a1
  have c := zq_all_t c
  have a2 := zq_all_1 c
  rw [q1] at a2
  have c := zq_all_t c
  have a3 := zq_all_1 c
  rw [q2] at a3
  have c := zq_all_t c
  have a4 := zq_all_1 c
  rw [q3] at a4
  have c := zq_all_t c
  have a5 := zq_all_1 c
  rw [q4] at a5
  have c := zq_all_t c
  have a6 := zq_all_1 c
  rw [q5] at a6
  have c := zq_all_t c
  have a7 := zq_all_1 c
  rw [q6] at a7
  have c := zq_all_t c
  have a8 := zq_all_1 c
  rw [q7] at a8
  have c := zq_all_t c
  have a9 := zq_all_1 c
  rw [q8] at a9
  have c := zq_all_t c
  have a10 := zq_all_1 c
  rw [q9] at a10
  have c := zq_all_t c
  have a11 := zq_all_1 c
  rw [q10] at a11
  have c := zq_all_t c
  have a12 := zq_all_1 c
  rw [q11] at a12
  have k1 := zj_use x_SI (hK)
  have k1 : zn_SI (zq_ev r (0, [(0, 1)])) (zq_ev r (0, [(1, 1)])) (zq_ev r (0, [(2, 1)])) (zq_ev r (0, [(3, 1)])) (zq_ev r (0, [(4, 1)])) (zq_ev r (0, [(5, 1)])) (zq_ev r (0, [(6, 1)])) P h := k1
  simp only [q12, q13, q14, q15, q16, q17, q18] at k1
  have k2 := zj_use x_SI (zq_okX_t (hK))
  have k2 : zn_SI (zq_ev r (0, [(7, 1)])) (zq_ev r (0, [(8, 1)])) (zq_ev r (0, [(9, 1)])) (zq_ev r (0, [(10, 1)])) (zq_ev r (0, [(11, 1)])) (zq_ev r (0, [(12, 1)])) (zq_ev r (0, [(13, 1)])) P h := k2
  simp only [q19, q20, q21, q22, q23, q24, q25] at k2
  obtain ⟨c1, c2⟩ := zn_US_l (P := P) (h := h) (x0 := r 0) (x1 := r 1) (x2 := r 2) (x3 := r 3) (x4 := r 4) (x5 := r 5) (u := r 6) (y0 := r 7) (y1 := r 8) (y2 := r 9) (y3 := r 10) (y4 := r 11) (y5 := r 12) (v := r 13) a1 a2 a3 a4 a5 a6 a7 a8 a9 a10 a11 a12 k1 k2
  obtain ⟨rq, hr⟩ : ∃ rq : Nat → Int, (∀ i, i < 14 → rq i = r i) := ⟨r, fun i hi => rfl⟩
  have v6 : rq 6 = r 6 := hr 6 (by decide)
  have v13 : rq 13 = r 13 := hr 13 (by decide)
  have g0 : zq_ev rq (0, [(6, -1), (13, 1)]) = -r 6 + r 13 := by simp only [zq_ev, zq_ts, v6, v13] <;> omega
  have g1 : zq_ev rq (0, [(6, 1), (13, -1)]) = r 6 - r 13 := by simp only [zq_ev, zq_ts, v6, v13] <;> omega
  exact ⟨_, List.mem_cons_self .., rq, hr, zq_MeS_mk rfl hT (zq_all_cons (by rw [g1]; exact c1) (zq_all_cons (by rw [g0]; exact c2) (zq_all_nil))) zq_fan (zq_fan) rfl zq_fan⟩
noncomputable def zn_UG : zq_S × List zq_S := (([], [], [(0, [(0, 1), (3, -1)]), (0, [(0, -1), (3, 1)]), (0, [(1, 1), (4, -1)]), (0, [(1, -1), (4, 1)])], [], [], [], [(134, [(0, [(0, 1)]), (0, [(1, 1)]), (0, [(2, 1)])]), (134, [(0, [(3, 1)]), (0, [(4, 1)]), (0, [(5, 1)])])], 6), [([], [], [(0, [(2, 1), (5, -1)]), (0, [(2, -1), (5, 1)])], [], [], [], [], 6)])
theorem zn_UG_l {P : zq_Ty} {h : zq_H} {x0 x1 u y0 y1 v : Int} (a1 : 0 ≤ x0 - y0) (a2 : 0 ≤ -x0 + y0) (a3 : 0 ≤ x1 - y1) (a4 : 0 ≤ -x1 + y1) (k1 : zn_DG x0 x1 u P h) (k2 : zn_DG y0 y1 v P h) : (0 ≤ u - v ∧ 0 ≤ -u + v) := by
  have e0 : x0 = y0 := by omega
  have e1 : x1 = y1 := by omega
  subst e0
  subst e1
  have e : u = v := k1.trans k2.symm
  exact ⟨by omega, by omega⟩
theorem zn_UG_ok {w : zq_Wd} (x_DG : zj_is w 134 (fun q => zn_DG (q 0) (q 1) (q 2))) : zq_okG1 w zn_UG := by
  refine ⟨rfl, rfl, zu_fac ⟨rfl, by decide⟩ zq_fan, ?_⟩
  intro r P h H hM
  have q0 : zq_ev r (0, [(0, 1), (3, -1)]) = r 0 - r 3 := by simp only [zq_ev, zq_ts] <;> omega
  have q1 : zq_ev r (0, [(0, -1), (3, 1)]) = -r 0 + r 3 := by simp only [zq_ev, zq_ts] <;> omega
  have q2 : zq_ev r (0, [(1, 1), (4, -1)]) = r 1 - r 4 := by simp only [zq_ev, zq_ts] <;> omega
  have q3 : zq_ev r (0, [(1, -1), (4, 1)]) = -r 1 + r 4 := by simp only [zq_ev, zq_ts] <;> omega
  have q4 : zq_ev r (0, [(0, 1)]) = r 0 := zu_e1 _ _
  have q5 : zq_ev r (0, [(1, 1)]) = r 1 := zu_e1 _ _
  have q6 : zq_ev r (0, [(2, 1)]) = r 2 := zu_e1 _ _
  have q7 : zq_ev r (0, [(3, 1)]) = r 3 := zu_e1 _ _
  have q8 : zq_ev r (0, [(4, 1)]) = r 4 := zu_e1 _ _
  have q9 : zq_ev r (0, [(5, 1)]) = r 5 := zu_e1 _ _
  obtain ⟨hT, hC, hF, hS, -, hK⟩ := hM
  have c := hC.1
  have a1 := zq_all_1 c
  rw [q0] at a1
  have c := zq_all_t c
  have a2 := zq_all_1 c
  rw [q1] at a2
  have c := zq_all_t c
  have a3 := zq_all_1 c
  rw [q2] at a3
  have c := zq_all_t c
  have a4 := zq_all_1 c
  rw [q3] at a4
  have k1 := zj_use x_DG (hK)
  have k1 : zn_DG (zq_ev r (0, [(0, 1)])) (zq_ev r (0, [(1, 1)])) (zq_ev r (0, [(2, 1)])) P h := k1
  simp only [q4, q5, q6] at k1
  have k2 := zj_use x_DG (zq_okX_t (hK))
  have k2 : zn_DG (zq_ev r (0, [(3, 1)])) (zq_ev r (0, [(4, 1)])) (zq_ev r (0, [(5, 1)])) P h := k2
  simp only [q7, q8, q9] at k2
  obtain ⟨c1, c2⟩ := zn_UG_l (P := P) (h := h) (x0 := r 0) (x1 := r 1) (u := r 2) (y0 := r 3) (y1 := r 4) (v := r 5) a1 a2 a3 a4 k1 k2
  obtain ⟨rq, hr⟩ : ∃ rq : Nat → Int, (∀ i, i < 6 → rq i = r i) := ⟨r, fun i hi => rfl⟩
  have v2 : rq 2 = r 2 := hr 2 (by decide)
  have v5 : rq 5 = r 5 := hr 5 (by decide)
  have g0 : zq_ev rq (0, [(2, -1), (5, 1)]) = -r 2 + r 5 := by simp only [zq_ev, zq_ts, v2, v5] <;> omega
  have g1 : zq_ev rq (0, [(2, 1), (5, -1)]) = r 2 - r 5 := by simp only [zq_ev, zq_ts, v2, v5] <;> omega
  exact ⟨_, List.mem_cons_self .., rq, hr, zq_MeS_mk rfl hT (zq_all_cons (by rw [g1]; exact c1) (zq_all_cons (by rw [g0]; exact c2) (zq_all_nil))) zq_fan (zq_fan) rfl zq_fan⟩
noncomputable def zn_R0_0 : zq_S × List zq_S := (([], [], [(0, [(0, 1)]), (0, [(1, 1)]), (400, [(1, -1)])], [((0, [(0, 1)]), 95)], [], [], [], 4), [([], [], [], [], [], [], [(152, [(0, [(0, 1)]), (0, [(1, 1)]), (0, [(2, 1)]), (0, []), (0, []), (0, [(3, 1)]), (0, [(3, 1)])])], 4)])
theorem zn_R0_0_l {P : zq_Ty} {h : zq_H} {b n d S : Int} (a1 : 0 ≤ b) (a2 : 0 ≤ n) (a3 : 0 ≤ -n + 400) (b1 : 0 ≤ b → P (b).toNat = some 95) : (zn_RS 95 b n d 0 0 S S P h) := by
  refine ⟨a1, b1 a1, a2, by omega, by omega, by omega, ?_, ?_⟩
  · rw [show ((0 : Int) / 2).toNat = 0 from rfl]; rfl
  · rw [show ((0 : Int) / 2).toNat = 0 from rfl]; rfl
theorem zn_R0_0_ok {w : zq_Wd} (x_RS0 : zj_is w 152 (fun q => zn_RS 95 (q 0) (q 1) (q 2) (q 3) (q 4) (q 5) (q 6))) : zq_okG1 w zn_R0_0 := by
  refine ⟨rfl, rfl, zu_fac ⟨rfl, by decide⟩ zq_fan, ?_⟩
  intro r P h H hM
  have q0 : zq_ev r (0, [(0, 1)]) = r 0 := zu_e1 _ _
  have q1 : zq_ev r (0, [(1, 1)]) = r 1 := zu_e1 _ _
  have q2 : zq_ev r (400, [(1, -1)]) = -r 1 + 400 := zu_e5 _ _ _
  obtain ⟨hT, hC, hF, hS, -, hK⟩ := hM
  have c := hC.1
  have a1 := zq_all_1 c
  rw [q0] at a1
  have c := zq_all_t c
  have a2 := zq_all_1 c
  rw [q1] at a2
  have c := zq_all_t c
  have a3 := zq_all_1 c
  rw [q2] at a3
  have b1 : 0 ≤ r 0 → P (r 0).toNat = some 95 := fun z => by
    have z1 : 0 ≤ zq_ev r (0, [(0, 1)]) := by rw [q0]; exact z
    have z2 := zq_okF_1 (hF) z1
    simp only [q0] at z2
    exact z2
  obtain t1 := zn_R0_0_l (P := P) (h := h) (b := r 0) (n := r 1) (d := r 2) (S := r 3) a1 a2 a3 b1
  obtain ⟨rq, hr⟩ : ∃ rq : Nat → Int, (∀ i, i < 4 → rq i = r i) := ⟨r, fun i hi => rfl⟩
  have v0 : rq 0 = r 0 := hr 0 (by decide)
  have v1 : rq 1 = r 1 := hr 1 (by decide)
  have v2 : rq 2 = r 2 := hr 2 (by decide)
  have v3 : rq 3 = r 3 := hr 3 (by decide)
  have g0 : zq_ev rq (0, [(0, 1)]) = r 0 := zu_f1 v0
  have g1 : zq_ev rq (0, [(1, 1)]) = r 1 := zu_f1 v1
  have g2 : zq_ev rq (0, [(2, 1)]) = r 2 := zu_f1 v2
  have g3 : zq_ev rq (0, []) = 0 := zu_e0 _ _
  have g4 : zq_ev rq (0, [(3, 1)]) = r 3 := zu_f1 v3
  exact ⟨_, List.mem_cons_self .., rq, hr, zq_MeS_mk rfl hT (zq_all_nil) zq_fan (zq_fan) rfl (zu_fac ((x_RS0 _ _ _).mpr (by show zn_RS 95 (zq_ev rq (0, [(0, 1)])) (zq_ev rq (0, [(1, 1)])) (zq_ev rq (0, [(2, 1)])) (zq_ev rq (0, [])) (zq_ev rq (0, [])) (zq_ev rq (0, [(3, 1)])) (zq_ev rq (0, [(3, 1)])) P h; simp only [g0, g1, g2, g3, g4]; exact t1)) zq_fan)⟩
noncomputable def zn_R1_0 : zq_S × List zq_S := (([], [], [(-2, [(1, 1), (3, -1)]), (5, [(2, -1), (4, -1)]), (0, [(7, 1)]), (3, [(7, -1)]), (-1, [(8, 1)]), (9, [(8, -1)]), (0, [(2, -1), (4, -1), (10, 1)]), (0, [(2, 1), (4, 1), (10, -1)])], [], [((0, [(0, 1)]), (0, [(3, 1)]), (0, [(7, 1)])), ((0, [(0, 1)]), (1, [(3, 1)]), (0, [(8, 1)]))], [], [(152, [(0, [(0, 1)]), (0, [(1, 1)]), (0, [(2, 1)]), (0, [(3, 1)]), (0, [(4, 1)]), (0, [(5, 1)]), (0, [(6, 1)])]), (132, [(0, [(6, 1)]), (0, [(10, 1)]), (0, [(7, 1)]), (0, [(8, 1)]), (0, [(9, 1)])])], 11), [([], [], [], [], [], [], [(152, [(0, [(0, 1)]), (0, [(1, 1)]), (0, [(2, 1)]), (2, [(3, 1)]), (1, [(4, 1)]), (0, [(5, 1)]), (0, [(9, 1)])])], 11)])
theorem zn_R1_0_l {P : zq_Ty} {h : zq_H} {b n d i c S T x y U e : Int} (a1 : 0 ≤ n - i - 2) (a2 : 0 ≤ -d - c + 5) (a3 : 0 ≤ x) (a4 : 0 ≤ -x + 3) (a5 : 0 ≤ y - 1) (a6 : 0 ≤ -y + 9) (a7 : 0 ≤ -d - c + e) (a8 : 0 ≤ d + c - e) (s1 : 0 ≤ b ∧ P (b).toNat ≠ none ∧ h (b).toNat i = x) (s2 : 0 ≤ b ∧ P (b).toNat ≠ none ∧ h (b).toNat (i + 1) = y) (k1 : zn_RS 95 b n d i c S T P h) (k2 : zn_DE T e x y U P h) : (zn_RS 95 b n d (i + 2) (c + 1) S U P h) := by
  obtain ⟨z1, z2, z3, z4, z5, z6, z7, z8⟩ := k1
  have k2 : U = zn_de T (d + c) x y := by have q : U = zn_de T e x y := k2; rw [q, show e = d + c by omega]
  have e2 : ((i + 2) / 2).toNat = (i / 2).toNat + 1 := by omega
  have e3 : (((i / 2).toNat : Nat) : Int) = i / 2 := by omega
  have f1 : h b.toNat (2 * (i / 2)) = x := by rw [show 2 * (i / 2) = i by omega]; exact s1.2.2
  have f2 : h b.toNat (2 * (i / 2) + 1) = y := by rw [show 2 * (i / 2) + 1 = i + 1 by omega]; exact s2.2.2
  have ad := zn_ad1 (f := h b.toNat) (n := n) (d := d) (c := c) f1 f2 (by omega) (by omega) a3 (by omega) (by omega) (by omega)
  refine ⟨z1, z2, z3, z4, by omega, by omega, ?_, ?_⟩
  · rw [e2]
    show c + 1 = zt_rc (h b.toNat) n d (i / 2).toNat + zt_ad (h b.toNat) n d (zt_rc (h b.toNat) n d (i / 2).toNat) (((i / 2).toNat : Nat) : Int)
    rw [← z7, e3, ad]
  · rw [e2]
    show U = if zt_ad (h b.toNat) n d (zt_rc (h b.toNat) n d (i / 2).toNat) (((i / 2).toNat : Nat) : Int) = 1 then zn_de (zn_rS (h b.toNat) n d S (i / 2).toNat) (d + zt_rc (h b.toNat) n d (i / 2).toNat) (h b.toNat (2 * (((i / 2).toNat : Nat) : Int)) % 256) (h b.toNat (2 * (((i / 2).toNat : Nat) : Int) + 1) % 256) else _
    rw [← z7, ← z8, e3, if_pos ad, f1, f2, k2, show x % 256 = x by omega, show y % 256 = y by omega]
theorem zn_R1_0_ok {w : zq_Wd} (x_RS0 : zj_is w 152 (fun q => zn_RS 95 (q 0) (q 1) (q 2) (q 3) (q 4) (q 5) (q 6))) (x_DE : zj_is w 132 (fun q => zn_DE (q 0) (q 1) (q 2) (q 3) (q 4))) : zq_okG1 w zn_R1_0 := by
  refine ⟨rfl, rfl, zu_fac ⟨rfl, by decide⟩ zq_fan, ?_⟩
  intro r P h H hM
  have q0 : zq_ev r (-2, [(1, 1), (3, -1)]) = r 1 - r 3 - 2 := by simp only [zq_ev, zq_ts] <;> omega
  have q1 : zq_ev r (5, [(2, -1), (4, -1)]) = -r 2 - r 4 + 5 := by simp only [zq_ev, zq_ts] <;> omega
  have q2 : zq_ev r (0, [(7, 1)]) = r 7 := zu_e1 _ _
  have q3 : zq_ev r (3, [(7, -1)]) = -r 7 + 3 := zu_e5 _ _ _
  have q4 : zq_ev r (-1, [(8, 1)]) = r 8 - 1 := zu_e3 _ _ _
  have q5 : zq_ev r (9, [(8, -1)]) = -r 8 + 9 := zu_e5 _ _ _
  have q6 : zq_ev r (0, [(2, -1), (4, -1), (10, 1)]) = -r 2 - r 4 + r 10 := by simp only [zq_ev, zq_ts] <;> omega
  have q7 : zq_ev r (0, [(2, 1), (4, 1), (10, -1)]) = r 2 + r 4 - r 10 := by simp only [zq_ev, zq_ts] <;> omega
  have q8 : zq_ev r (0, [(0, 1)]) = r 0 := zu_e1 _ _
  have q9 : zq_ev r (0, [(3, 1)]) = r 3 := zu_e1 _ _
  have q10 : zq_ev r (1, [(3, 1)]) = r 3 + 1 := zu_e2 _ _ _
  have q11 : zq_ev r (0, [(8, 1)]) = r 8 := zu_e1 _ _
  have q12 : zq_ev r (0, [(1, 1)]) = r 1 := zu_e1 _ _
  have q13 : zq_ev r (0, [(2, 1)]) = r 2 := zu_e1 _ _
  have q14 : zq_ev r (0, [(4, 1)]) = r 4 := zu_e1 _ _
  have q15 : zq_ev r (0, [(5, 1)]) = r 5 := zu_e1 _ _
  have q16 : zq_ev r (0, [(6, 1)]) = r 6 := zu_e1 _ _
  have q17 : zq_ev r (0, [(10, 1)]) = r 10 := zu_e1 _ _
  have q18 : zq_ev r (0, [(9, 1)]) = r 9 := zu_e1 _ _
  obtain ⟨hT, hC, hF, hS, -, hK⟩ := hM
  have c := hC.1
  have a1 := zq_all_1 c
  rw [q0] at a1
  have c := zq_all_t c
  have a2 := zq_all_1 c
  rw [q1] at a2
  have c := zq_all_t c
  have a3 := zq_all_1 c
  rw [q2] at a3
  have c := zq_all_t c
  have a4 := zq_all_1 c
  rw [q3] at a4
  have c := zq_all_t c
  have a5 := zq_all_1 c
  rw [q4] at a5
  have c := zq_all_t c
  have a6 := zq_all_1 c
  rw [q5] at a6
  have c := zq_all_t c
  have a7 := zq_all_1 c
  rw [q6] at a7
  have c := zq_all_t c
  have a8 := zq_all_1 c
  rw [q7] at a8
  have s1 := zq_okS_1 (hS)
  simp only [q2, q8, q9] at s1
  have s2 := zq_okS_1 (zq_okS_t (hS))
  simp only [q10, q11, q8] at s2
  have k1 := zj_use x_RS0 (hK)
  have k1 : zn_RS 95 (zq_ev r (0, [(0, 1)])) (zq_ev r (0, [(1, 1)])) (zq_ev r (0, [(2, 1)])) (zq_ev r (0, [(3, 1)])) (zq_ev r (0, [(4, 1)])) (zq_ev r (0, [(5, 1)])) (zq_ev r (0, [(6, 1)])) P h := k1
  simp only [q12, q13, q14, q15, q16, q8, q9] at k1
  have k2 := zj_use x_DE (zq_okX_t (hK))
  have k2 : zn_DE (zq_ev r (0, [(6, 1)])) (zq_ev r (0, [(10, 1)])) (zq_ev r (0, [(7, 1)])) (zq_ev r (0, [(8, 1)])) (zq_ev r (0, [(9, 1)])) P h := k2
  simp only [q11, q16, q17, q18, q2] at k2
  obtain t1 := zn_R1_0_l (P := P) (h := h) (b := r 0) (n := r 1) (d := r 2) (i := r 3) (c := r 4) (S := r 5) (T := r 6) (x := r 7) (y := r 8) (U := r 9) (e := r 10) a1 a2 a3 a4 a5 a6 a7 a8 s1 s2 k1 k2
  obtain ⟨rq, hr⟩ : ∃ rq : Nat → Int, (∀ i, i < 11 → rq i = r i) := ⟨r, fun i hi => rfl⟩
  have v0 : rq 0 = r 0 := hr 0 (by decide)
  have v1 : rq 1 = r 1 := hr 1 (by decide)
  have v2 : rq 2 = r 2 := hr 2 (by decide)
  have v3 : rq 3 = r 3 := hr 3 (by decide)
  have v4 : rq 4 = r 4 := hr 4 (by decide)
  have v5 : rq 5 = r 5 := hr 5 (by decide)
  have v9 : rq 9 = r 9 := hr 9 (by decide)
  have g0 : zq_ev rq (0, [(0, 1)]) = r 0 := zu_f1 v0
  have g1 : zq_ev rq (0, [(1, 1)]) = r 1 := zu_f1 v1
  have g2 : zq_ev rq (0, [(2, 1)]) = r 2 := zu_f1 v2
  have g3 : zq_ev rq (2, [(3, 1)]) = r 3 + 2 := zu_f2 v3 _
  have g4 : zq_ev rq (1, [(4, 1)]) = r 4 + 1 := zu_f2 v4 _
  have g5 : zq_ev rq (0, [(5, 1)]) = r 5 := zu_f1 v5
  have g6 : zq_ev rq (0, [(9, 1)]) = r 9 := zu_f1 v9
  exact ⟨_, List.mem_cons_self .., rq, hr, zq_MeS_mk rfl hT (zq_all_nil) zq_fan (zq_fan) rfl (zu_fac ((x_RS0 _ _ _).mpr (by show zn_RS 95 (zq_ev rq (0, [(0, 1)])) (zq_ev rq (0, [(1, 1)])) (zq_ev rq (0, [(2, 1)])) (zq_ev rq (2, [(3, 1)])) (zq_ev rq (1, [(4, 1)])) (zq_ev rq (0, [(5, 1)])) (zq_ev rq (0, [(9, 1)])) P h; simp only [g0, g1, g2, g3, g4, g5, g6]; exact t1)) zq_fan)⟩
noncomputable def zn_R20_0 : zq_S × List zq_S := (([], [], [(-6, [(2, 1), (4, 1)])], [], [], [], [(152, [(0, [(0, 1)]), (0, [(1, 1)]), (0, [(2, 1)]), (0, [(3, 1)]), (0, [(4, 1)]), (0, [(5, 1)]), (0, [(6, 1)])])], 7), [([], [], [], [], [], [], [(152, [(0, [(0, 1)]), (0, [(1, 1)]), (0, [(2, 1)]), (2, [(3, 1)]), (0, [(4, 1)]), (0, [(5, 1)]), (0, [(6, 1)])])], 7)])
theorem zn_R20_0_l {P : zq_Ty} {h : zq_H} {b n d i c S T : Int} (a1 : 0 ≤ d + c - 6) (k1 : zn_RS 95 b n d i c S T P h) : (zn_RS 95 b n d (i + 2) c S T P h) := by
  refine zn_RS_2 k1 (fun q => ?_)
  have z5 := k1.2.2.2.2.1
  have z6 := k1.2.2.2.2.2.1
  unfold zt_ad at q
  by_cases q2 : 2 * (i / 2) + 1 < n ∧ d + c < 6 ∧ h b.toNat (2 * (i / 2)) % 256 ≤ 3 ∧ 1 ≤ h b.toNat (2 * (i / 2) + 1) % 256 ∧ h b.toNat (2 * (i / 2) + 1) % 256 ≤ 9
  · have q3 := q2.2.1
    omega
  · rw [if_neg q2] at q; omega
theorem zn_R20_0_ok {w : zq_Wd} (x_RS0 : zj_is w 152 (fun q => zn_RS 95 (q 0) (q 1) (q 2) (q 3) (q 4) (q 5) (q 6))) : zq_okG1 w zn_R20_0 := by
  refine ⟨rfl, rfl, zu_fac ⟨rfl, by decide⟩ zq_fan, ?_⟩
  intro r P h H hM
  have q0 : zq_ev r (-6, [(2, 1), (4, 1)]) = r 2 + r 4 - 6 := by simp only [zq_ev, zq_ts] <;> omega
  have q1 : zq_ev r (0, [(0, 1)]) = r 0 := zu_e1 _ _
  have q2 : zq_ev r (0, [(1, 1)]) = r 1 := zu_e1 _ _
  have q3 : zq_ev r (0, [(2, 1)]) = r 2 := zu_e1 _ _
  have q4 : zq_ev r (0, [(3, 1)]) = r 3 := zu_e1 _ _
  have q5 : zq_ev r (0, [(4, 1)]) = r 4 := zu_e1 _ _
  have q6 : zq_ev r (0, [(5, 1)]) = r 5 := zu_e1 _ _
  have q7 : zq_ev r (0, [(6, 1)]) = r 6 := zu_e1 _ _
  obtain ⟨hT, hC, hF, hS, -, hK⟩ := hM
  have c := hC.1
  have a1 := zq_all_1 c
  rw [q0] at a1
  have k1 := zj_use x_RS0 (hK)
  have k1 : zn_RS 95 (zq_ev r (0, [(0, 1)])) (zq_ev r (0, [(1, 1)])) (zq_ev r (0, [(2, 1)])) (zq_ev r (0, [(3, 1)])) (zq_ev r (0, [(4, 1)])) (zq_ev r (0, [(5, 1)])) (zq_ev r (0, [(6, 1)])) P h := k1
  simp only [q1, q2, q3, q4, q5, q6, q7] at k1
  obtain t1 := zn_R20_0_l (P := P) (h := h) (b := r 0) (n := r 1) (d := r 2) (i := r 3) (c := r 4) (S := r 5) (T := r 6) a1 k1
  obtain ⟨rq, hr⟩ : ∃ rq : Nat → Int, (∀ i, i < 7 → rq i = r i) := ⟨r, fun i hi => rfl⟩
  have v0 : rq 0 = r 0 := hr 0 (by decide)
  have v1 : rq 1 = r 1 := hr 1 (by decide)
  have v2 : rq 2 = r 2 := hr 2 (by decide)
  have v3 : rq 3 = r 3 := hr 3 (by decide)
  have v4 : rq 4 = r 4 := hr 4 (by decide)
  have v5 : rq 5 = r 5 := hr 5 (by decide)
  have v6 : rq 6 = r 6 := hr 6 (by decide)
  have g0 : zq_ev rq (0, [(0, 1)]) = r 0 := zu_f1 v0
  have g1 : zq_ev rq (0, [(1, 1)]) = r 1 := zu_f1 v1
  have g2 : zq_ev rq (0, [(2, 1)]) = r 2 := zu_f1 v2
  have g3 : zq_ev rq (2, [(3, 1)]) = r 3 + 2 := zu_f2 v3 _
  have g4 : zq_ev rq (0, [(4, 1)]) = r 4 := zu_f1 v4
  have g5 : zq_ev rq (0, [(5, 1)]) = r 5 := zu_f1 v5
  have g6 : zq_ev rq (0, [(6, 1)]) = r 6 := zu_f1 v6
  exact ⟨_, List.mem_cons_self .., rq, hr, zq_MeS_mk rfl hT (zq_all_nil) zq_fan (zq_fan) rfl (zu_fac ((x_RS0 _ _ _).mpr (by show zn_RS 95 (zq_ev rq (0, [(0, 1)])) (zq_ev rq (0, [(1, 1)])) (zq_ev rq (0, [(2, 1)])) (zq_ev rq (2, [(3, 1)])) (zq_ev rq (0, [(4, 1)])) (zq_ev rq (0, [(5, 1)])) (zq_ev rq (0, [(6, 1)])) P h; simp only [g0, g1, g2, g3, g4, g5, g6]; exact t1)) zq_fan)⟩
noncomputable def zn_R21_0 : zq_S × List zq_S := (([], [], [(1, [(1, -1), (3, 1)])], [], [], [], [(152, [(0, [(0, 1)]), (0, [(1, 1)]), (0, [(2, 1)]), (0, [(3, 1)]), (0, [(4, 1)]), (0, [(5, 1)]), (0, [(6, 1)])])], 7), [([], [], [], [], [], [], [(152, [(0, [(0, 1)]), (0, [(1, 1)]), (0, [(2, 1)]), (2, [(3, 1)]), (0, [(4, 1)]), (0, [(5, 1)]), (0, [(6, 1)])])], 7)])
theorem zn_R21_0_l {P : zq_Ty} {h : zq_H} {b n d i c S T : Int} (a1 : 0 ≤ -n + i + 1) (k1 : zn_RS 95 b n d i c S T P h) : (zn_RS 95 b n d (i + 2) c S T P h) := by
  refine zn_RS_2 k1 (fun q => ?_)
  have z5 := k1.2.2.2.2.1
  have z6 := k1.2.2.2.2.2.1
  unfold zt_ad at q
  by_cases q2 : 2 * (i / 2) + 1 < n ∧ d + c < 6 ∧ h b.toNat (2 * (i / 2)) % 256 ≤ 3 ∧ 1 ≤ h b.toNat (2 * (i / 2) + 1) % 256 ∧ h b.toNat (2 * (i / 2) + 1) % 256 ≤ 9
  · have q3 := q2.1
    omega
  · rw [if_neg q2] at q; omega
theorem zn_R21_0_ok {w : zq_Wd} (x_RS0 : zj_is w 152 (fun q => zn_RS 95 (q 0) (q 1) (q 2) (q 3) (q 4) (q 5) (q 6))) : zq_okG1 w zn_R21_0 := by
  refine ⟨rfl, rfl, zu_fac ⟨rfl, by decide⟩ zq_fan, ?_⟩
  intro r P h H hM
  have q0 : zq_ev r (1, [(1, -1), (3, 1)]) = -r 1 + r 3 + 1 := by simp only [zq_ev, zq_ts] <;> omega
  have q1 : zq_ev r (0, [(0, 1)]) = r 0 := zu_e1 _ _
  have q2 : zq_ev r (0, [(1, 1)]) = r 1 := zu_e1 _ _
  have q3 : zq_ev r (0, [(2, 1)]) = r 2 := zu_e1 _ _
  have q4 : zq_ev r (0, [(3, 1)]) = r 3 := zu_e1 _ _
  have q5 : zq_ev r (0, [(4, 1)]) = r 4 := zu_e1 _ _
  have q6 : zq_ev r (0, [(5, 1)]) = r 5 := zu_e1 _ _
  have q7 : zq_ev r (0, [(6, 1)]) = r 6 := zu_e1 _ _
  obtain ⟨hT, hC, hF, hS, -, hK⟩ := hM
  have c := hC.1
  have a1 := zq_all_1 c
  rw [q0] at a1
  have k1 := zj_use x_RS0 (hK)
  have k1 : zn_RS 95 (zq_ev r (0, [(0, 1)])) (zq_ev r (0, [(1, 1)])) (zq_ev r (0, [(2, 1)])) (zq_ev r (0, [(3, 1)])) (zq_ev r (0, [(4, 1)])) (zq_ev r (0, [(5, 1)])) (zq_ev r (0, [(6, 1)])) P h := k1
  simp only [q1, q2, q3, q4, q5, q6, q7] at k1
  obtain t1 := zn_R21_0_l (P := P) (h := h) (b := r 0) (n := r 1) (d := r 2) (i := r 3) (c := r 4) (S := r 5) (T := r 6) a1 k1
  obtain ⟨rq, hr⟩ : ∃ rq : Nat → Int, (∀ i, i < 7 → rq i = r i) := ⟨r, fun i hi => rfl⟩
  have v0 : rq 0 = r 0 := hr 0 (by decide)
  have v1 : rq 1 = r 1 := hr 1 (by decide)
  have v2 : rq 2 = r 2 := hr 2 (by decide)
  have v3 : rq 3 = r 3 := hr 3 (by decide)
  have v4 : rq 4 = r 4 := hr 4 (by decide)
  have v5 : rq 5 = r 5 := hr 5 (by decide)
  have v6 : rq 6 = r 6 := hr 6 (by decide)
  have g0 : zq_ev rq (0, [(0, 1)]) = r 0 := zu_f1 v0
  have g1 : zq_ev rq (0, [(1, 1)]) = r 1 := zu_f1 v1
  have g2 : zq_ev rq (0, [(2, 1)]) = r 2 := zu_f1 v2
  have g3 : zq_ev rq (2, [(3, 1)]) = r 3 + 2 := zu_f2 v3 _
  have g4 : zq_ev rq (0, [(4, 1)]) = r 4 := zu_f1 v4
  have g5 : zq_ev rq (0, [(5, 1)]) = r 5 := zu_f1 v5
  have g6 : zq_ev rq (0, [(6, 1)]) = r 6 := zu_f1 v6
  exact ⟨_, List.mem_cons_self .., rq, hr, zq_MeS_mk rfl hT (zq_all_nil) zq_fan (zq_fan) rfl (zu_fac ((x_RS0 _ _ _).mpr (by show zn_RS 95 (zq_ev rq (0, [(0, 1)])) (zq_ev rq (0, [(1, 1)])) (zq_ev rq (0, [(2, 1)])) (zq_ev rq (2, [(3, 1)])) (zq_ev rq (0, [(4, 1)])) (zq_ev rq (0, [(5, 1)])) (zq_ev rq (0, [(6, 1)])) P h; simp only [g0, g1, g2, g3, g4, g5, g6]; exact t1)) zq_fan)⟩
noncomputable def zn_R22_0 : zq_S × List zq_S := (([], [], [(-4, [(7, 1)]), (255, [(7, -1)])], [], [((0, [(0, 1)]), (0, [(3, 1)]), (0, [(7, 1)]))], [], [(152, [(0, [(0, 1)]), (0, [(1, 1)]), (0, [(2, 1)]), (0, [(3, 1)]), (0, [(4, 1)]), (0, [(5, 1)]), (0, [(6, 1)])])], 8), [([], [], [], [], [], [], [(152, [(0, [(0, 1)]), (0, [(1, 1)]), (0, [(2, 1)]), (2, [(3, 1)]), (0, [(4, 1)]), (0, [(5, 1)]), (0, [(6, 1)])])], 8)])
theorem zn_R22_0_l {P : zq_Ty} {h : zq_H} {b n d i c S T x : Int} (a1 : 0 ≤ x - 4) (a2 : 0 ≤ -x + 255) (s1 : 0 ≤ b ∧ P (b).toNat ≠ none ∧ h (b).toNat i = x) (k1 : zn_RS 95 b n d i c S T P h) : (zn_RS 95 b n d (i + 2) c S T P h) := by
  refine zn_RS_2 k1 (fun q => ?_)
  have z5 := k1.2.2.2.2.1
  have z6 := k1.2.2.2.2.2.1
  unfold zt_ad at q
  by_cases q2 : 2 * (i / 2) + 1 < n ∧ d + c < 6 ∧ h b.toNat (2 * (i / 2)) % 256 ≤ 3 ∧ 1 ≤ h b.toNat (2 * (i / 2) + 1) % 256 ∧ h b.toNat (2 * (i / 2) + 1) % 256 ≤ 9
  · have q3 := q2.2.2.1
    rw [show 2 * (i / 2) = i by omega, s1.2.2] at q3
    omega
  · rw [if_neg q2] at q; omega
theorem zn_R22_0_ok {w : zq_Wd} (x_RS0 : zj_is w 152 (fun q => zn_RS 95 (q 0) (q 1) (q 2) (q 3) (q 4) (q 5) (q 6))) : zq_okG1 w zn_R22_0 := by
  refine ⟨rfl, rfl, zu_fac ⟨rfl, by decide⟩ zq_fan, ?_⟩
  intro r P h H hM
  have q0 : zq_ev r (-4, [(7, 1)]) = r 7 - 4 := zu_e3 _ _ _
  have q1 : zq_ev r (255, [(7, -1)]) = -r 7 + 255 := zu_e5 _ _ _
  have q2 : zq_ev r (0, [(0, 1)]) = r 0 := zu_e1 _ _
  have q3 : zq_ev r (0, [(3, 1)]) = r 3 := zu_e1 _ _
  have q4 : zq_ev r (0, [(7, 1)]) = r 7 := zu_e1 _ _
  have q5 : zq_ev r (0, [(1, 1)]) = r 1 := zu_e1 _ _
  have q6 : zq_ev r (0, [(2, 1)]) = r 2 := zu_e1 _ _
  have q7 : zq_ev r (0, [(4, 1)]) = r 4 := zu_e1 _ _
  have q8 : zq_ev r (0, [(5, 1)]) = r 5 := zu_e1 _ _
  have q9 : zq_ev r (0, [(6, 1)]) = r 6 := zu_e1 _ _
  obtain ⟨hT, hC, hF, hS, -, hK⟩ := hM
  have c := hC.1
  have a1 := zq_all_1 c
  rw [q0] at a1
  have c := zq_all_t c
  have a2 := zq_all_1 c
  rw [q1] at a2
  have s1 := zq_okS_1 (hS)
  simp only [q2, q3, q4] at s1
  have k1 := zj_use x_RS0 (hK)
  have k1 : zn_RS 95 (zq_ev r (0, [(0, 1)])) (zq_ev r (0, [(1, 1)])) (zq_ev r (0, [(2, 1)])) (zq_ev r (0, [(3, 1)])) (zq_ev r (0, [(4, 1)])) (zq_ev r (0, [(5, 1)])) (zq_ev r (0, [(6, 1)])) P h := k1
  simp only [q2, q3, q5, q6, q7, q8, q9] at k1
  obtain t1 := zn_R22_0_l (P := P) (h := h) (b := r 0) (n := r 1) (d := r 2) (i := r 3) (c := r 4) (S := r 5) (T := r 6) (x := r 7) a1 a2 s1 k1
  obtain ⟨rq, hr⟩ : ∃ rq : Nat → Int, (∀ i, i < 8 → rq i = r i) := ⟨r, fun i hi => rfl⟩
  have v0 : rq 0 = r 0 := hr 0 (by decide)
  have v1 : rq 1 = r 1 := hr 1 (by decide)
  have v2 : rq 2 = r 2 := hr 2 (by decide)
  have v3 : rq 3 = r 3 := hr 3 (by decide)
  have v4 : rq 4 = r 4 := hr 4 (by decide)
  have v5 : rq 5 = r 5 := hr 5 (by decide)
  have v6 : rq 6 = r 6 := hr 6 (by decide)
  have g0 : zq_ev rq (0, [(0, 1)]) = r 0 := zu_f1 v0
  have g1 : zq_ev rq (0, [(1, 1)]) = r 1 := zu_f1 v1
  have g2 : zq_ev rq (0, [(2, 1)]) = r 2 := zu_f1 v2
  have g3 : zq_ev rq (2, [(3, 1)]) = r 3 + 2 := zu_f2 v3 _
  have g4 : zq_ev rq (0, [(4, 1)]) = r 4 := zu_f1 v4
  have g5 : zq_ev rq (0, [(5, 1)]) = r 5 := zu_f1 v5
  have g6 : zq_ev rq (0, [(6, 1)]) = r 6 := zu_f1 v6
  exact ⟨_, List.mem_cons_self .., rq, hr, zq_MeS_mk rfl hT (zq_all_nil) zq_fan (zq_fan) rfl (zu_fac ((x_RS0 _ _ _).mpr (by show zn_RS 95 (zq_ev rq (0, [(0, 1)])) (zq_ev rq (0, [(1, 1)])) (zq_ev rq (0, [(2, 1)])) (zq_ev rq (2, [(3, 1)])) (zq_ev rq (0, [(4, 1)])) (zq_ev rq (0, [(5, 1)])) (zq_ev rq (0, [(6, 1)])) P h; simp only [g0, g1, g2, g3, g4, g5, g6]; exact t1)) zq_fan)⟩
noncomputable def zn_R23_0 : zq_S × List zq_S := (([], [], [(-1, [(7, -1)]), (128, [(7, 1)])], [], [((0, [(0, 1)]), (0, [(3, 1)]), (0, [(7, 1)]))], [], [(152, [(0, [(0, 1)]), (0, [(1, 1)]), (0, [(2, 1)]), (0, [(3, 1)]), (0, [(4, 1)]), (0, [(5, 1)]), (0, [(6, 1)])])], 8), [([], [], [], [], [], [], [(152, [(0, [(0, 1)]), (0, [(1, 1)]), (0, [(2, 1)]), (2, [(3, 1)]), (0, [(4, 1)]), (0, [(5, 1)]), (0, [(6, 1)])])], 8)])
theorem zn_R23_0_l {P : zq_Ty} {h : zq_H} {b n d i c S T x : Int} (a1 : 0 ≤ -x - 1) (a2 : 0 ≤ x + 128) (s1 : 0 ≤ b ∧ P (b).toNat ≠ none ∧ h (b).toNat i = x) (k1 : zn_RS 95 b n d i c S T P h) : (zn_RS 95 b n d (i + 2) c S T P h) := by
  refine zn_RS_2 k1 (fun q => ?_)
  have z5 := k1.2.2.2.2.1
  have z6 := k1.2.2.2.2.2.1
  unfold zt_ad at q
  by_cases q2 : 2 * (i / 2) + 1 < n ∧ d + c < 6 ∧ h b.toNat (2 * (i / 2)) % 256 ≤ 3 ∧ 1 ≤ h b.toNat (2 * (i / 2) + 1) % 256 ∧ h b.toNat (2 * (i / 2) + 1) % 256 ≤ 9
  · have q3 := q2.2.2.1
    rw [show 2 * (i / 2) = i by omega, s1.2.2] at q3
    omega
  · rw [if_neg q2] at q; omega
theorem zn_R23_0_ok {w : zq_Wd} (x_RS0 : zj_is w 152 (fun q => zn_RS 95 (q 0) (q 1) (q 2) (q 3) (q 4) (q 5) (q 6))) : zq_okG1 w zn_R23_0 := by
  refine ⟨rfl, rfl, zu_fac ⟨rfl, by decide⟩ zq_fan, ?_⟩
  intro r P h H hM
  have q0 : zq_ev r (-1, [(7, -1)]) = -r 7 - 1 := zu_e6 _ _ _
  have q1 : zq_ev r (128, [(7, 1)]) = r 7 + 128 := zu_e2 _ _ _
  have q2 : zq_ev r (0, [(0, 1)]) = r 0 := zu_e1 _ _
  have q3 : zq_ev r (0, [(3, 1)]) = r 3 := zu_e1 _ _
  have q4 : zq_ev r (0, [(7, 1)]) = r 7 := zu_e1 _ _
  have q5 : zq_ev r (0, [(1, 1)]) = r 1 := zu_e1 _ _
  have q6 : zq_ev r (0, [(2, 1)]) = r 2 := zu_e1 _ _
  have q7 : zq_ev r (0, [(4, 1)]) = r 4 := zu_e1 _ _
  have q8 : zq_ev r (0, [(5, 1)]) = r 5 := zu_e1 _ _
  have q9 : zq_ev r (0, [(6, 1)]) = r 6 := zu_e1 _ _
  obtain ⟨hT, hC, hF, hS, -, hK⟩ := hM
  have c := hC.1
  have a1 := zq_all_1 c
  rw [q0] at a1
  have c := zq_all_t c
  have a2 := zq_all_1 c
  rw [q1] at a2
  have s1 := zq_okS_1 (hS)
  simp only [q2, q3, q4] at s1
  have k1 := zj_use x_RS0 (hK)
  have k1 : zn_RS 95 (zq_ev r (0, [(0, 1)])) (zq_ev r (0, [(1, 1)])) (zq_ev r (0, [(2, 1)])) (zq_ev r (0, [(3, 1)])) (zq_ev r (0, [(4, 1)])) (zq_ev r (0, [(5, 1)])) (zq_ev r (0, [(6, 1)])) P h := k1
  simp only [q2, q3, q5, q6, q7, q8, q9] at k1
  obtain t1 := zn_R23_0_l (P := P) (h := h) (b := r 0) (n := r 1) (d := r 2) (i := r 3) (c := r 4) (S := r 5) (T := r 6) (x := r 7) a1 a2 s1 k1
  obtain ⟨rq, hr⟩ : ∃ rq : Nat → Int, (∀ i, i < 8 → rq i = r i) := ⟨r, fun i hi => rfl⟩
  have v0 : rq 0 = r 0 := hr 0 (by decide)
  have v1 : rq 1 = r 1 := hr 1 (by decide)
  have v2 : rq 2 = r 2 := hr 2 (by decide)
  have v3 : rq 3 = r 3 := hr 3 (by decide)
  have v4 : rq 4 = r 4 := hr 4 (by decide)
  have v5 : rq 5 = r 5 := hr 5 (by decide)
  have v6 : rq 6 = r 6 := hr 6 (by decide)
  have g0 : zq_ev rq (0, [(0, 1)]) = r 0 := zu_f1 v0
  have g1 : zq_ev rq (0, [(1, 1)]) = r 1 := zu_f1 v1
  have g2 : zq_ev rq (0, [(2, 1)]) = r 2 := zu_f1 v2
  have g3 : zq_ev rq (2, [(3, 1)]) = r 3 + 2 := zu_f2 v3 _
  have g4 : zq_ev rq (0, [(4, 1)]) = r 4 := zu_f1 v4
  have g5 : zq_ev rq (0, [(5, 1)]) = r 5 := zu_f1 v5
  have g6 : zq_ev rq (0, [(6, 1)]) = r 6 := zu_f1 v6
  exact ⟨_, List.mem_cons_self .., rq, hr, zq_MeS_mk rfl hT (zq_all_nil) zq_fan (zq_fan) rfl (zu_fac ((x_RS0 _ _ _).mpr (by show zn_RS 95 (zq_ev rq (0, [(0, 1)])) (zq_ev rq (0, [(1, 1)])) (zq_ev rq (0, [(2, 1)])) (zq_ev rq (2, [(3, 1)])) (zq_ev rq (0, [(4, 1)])) (zq_ev rq (0, [(5, 1)])) (zq_ev rq (0, [(6, 1)])) P h; simp only [g0, g1, g2, g3, g4, g5, g6]; exact t1)) zq_fan)⟩
noncomputable def zn_R24_0 : zq_S × List zq_S := (([], [], [(0, [(7, -1)]), (128, [(7, 1)])], [], [((0, [(0, 1)]), (1, [(3, 1)]), (0, [(7, 1)]))], [], [(152, [(0, [(0, 1)]), (0, [(1, 1)]), (0, [(2, 1)]), (0, [(3, 1)]), (0, [(4, 1)]), (0, [(5, 1)]), (0, [(6, 1)])])], 8), [([], [], [], [], [], [], [(152, [(0, [(0, 1)]), (0, [(1, 1)]), (0, [(2, 1)]), (2, [(3, 1)]), (0, [(4, 1)]), (0, [(5, 1)]), (0, [(6, 1)])])], 8)])
theorem zn_R24_0_l {P : zq_Ty} {h : zq_H} {b n d i c S T y : Int} (a1 : 0 ≤ -y) (a2 : 0 ≤ y + 128) (s1 : 0 ≤ b ∧ P (b).toNat ≠ none ∧ h (b).toNat (i + 1) = y) (k1 : zn_RS 95 b n d i c S T P h) : (zn_RS 95 b n d (i + 2) c S T P h) := by
  refine zn_RS_2 k1 (fun q => ?_)
  have z5 := k1.2.2.2.2.1
  have z6 := k1.2.2.2.2.2.1
  unfold zt_ad at q
  by_cases q2 : 2 * (i / 2) + 1 < n ∧ d + c < 6 ∧ h b.toNat (2 * (i / 2)) % 256 ≤ 3 ∧ 1 ≤ h b.toNat (2 * (i / 2) + 1) % 256 ∧ h b.toNat (2 * (i / 2) + 1) % 256 ≤ 9
  · have q3 := q2.2.2.2.2
    have q4 := q2.2.2.2.1
    rw [show 2 * (i / 2) + 1 = i + 1 by omega, s1.2.2] at q4
    rw [show 2 * (i / 2) + 1 = i + 1 by omega, s1.2.2] at q3
    omega
  · rw [if_neg q2] at q; omega
theorem zn_R24_0_ok {w : zq_Wd} (x_RS0 : zj_is w 152 (fun q => zn_RS 95 (q 0) (q 1) (q 2) (q 3) (q 4) (q 5) (q 6))) : zq_okG1 w zn_R24_0 := by
  refine ⟨rfl, rfl, zu_fac ⟨rfl, by decide⟩ zq_fan, ?_⟩
  intro r P h H hM
  have q0 : zq_ev r (0, [(7, -1)]) = -r 7 := zu_e4 _ _
  have q1 : zq_ev r (128, [(7, 1)]) = r 7 + 128 := zu_e2 _ _ _
  have q2 : zq_ev r (0, [(0, 1)]) = r 0 := zu_e1 _ _
  have q3 : zq_ev r (1, [(3, 1)]) = r 3 + 1 := zu_e2 _ _ _
  have q4 : zq_ev r (0, [(7, 1)]) = r 7 := zu_e1 _ _
  have q5 : zq_ev r (0, [(1, 1)]) = r 1 := zu_e1 _ _
  have q6 : zq_ev r (0, [(2, 1)]) = r 2 := zu_e1 _ _
  have q7 : zq_ev r (0, [(3, 1)]) = r 3 := zu_e1 _ _
  have q8 : zq_ev r (0, [(4, 1)]) = r 4 := zu_e1 _ _
  have q9 : zq_ev r (0, [(5, 1)]) = r 5 := zu_e1 _ _
  have q10 : zq_ev r (0, [(6, 1)]) = r 6 := zu_e1 _ _
  obtain ⟨hT, hC, hF, hS, -, hK⟩ := hM
  have c := hC.1
  have a1 := zq_all_1 c
  rw [q0] at a1
  have c := zq_all_t c
  have a2 := zq_all_1 c
  rw [q1] at a2
  have s1 := zq_okS_1 (hS)
  simp only [q2, q3, q4] at s1
  have k1 := zj_use x_RS0 (hK)
  have k1 : zn_RS 95 (zq_ev r (0, [(0, 1)])) (zq_ev r (0, [(1, 1)])) (zq_ev r (0, [(2, 1)])) (zq_ev r (0, [(3, 1)])) (zq_ev r (0, [(4, 1)])) (zq_ev r (0, [(5, 1)])) (zq_ev r (0, [(6, 1)])) P h := k1
  simp only [q10, q2, q5, q6, q7, q8, q9] at k1
  obtain t1 := zn_R24_0_l (P := P) (h := h) (b := r 0) (n := r 1) (d := r 2) (i := r 3) (c := r 4) (S := r 5) (T := r 6) (y := r 7) a1 a2 s1 k1
  obtain ⟨rq, hr⟩ : ∃ rq : Nat → Int, (∀ i, i < 8 → rq i = r i) := ⟨r, fun i hi => rfl⟩
  have v0 : rq 0 = r 0 := hr 0 (by decide)
  have v1 : rq 1 = r 1 := hr 1 (by decide)
  have v2 : rq 2 = r 2 := hr 2 (by decide)
  have v3 : rq 3 = r 3 := hr 3 (by decide)
  have v4 : rq 4 = r 4 := hr 4 (by decide)
  have v5 : rq 5 = r 5 := hr 5 (by decide)
  have v6 : rq 6 = r 6 := hr 6 (by decide)
  have g0 : zq_ev rq (0, [(0, 1)]) = r 0 := zu_f1 v0
  have g1 : zq_ev rq (0, [(1, 1)]) = r 1 := zu_f1 v1
  have g2 : zq_ev rq (0, [(2, 1)]) = r 2 := zu_f1 v2
  have g3 : zq_ev rq (2, [(3, 1)]) = r 3 + 2 := zu_f2 v3 _
  have g4 : zq_ev rq (0, [(4, 1)]) = r 4 := zu_f1 v4
  have g5 : zq_ev rq (0, [(5, 1)]) = r 5 := zu_f1 v5
  have g6 : zq_ev rq (0, [(6, 1)]) = r 6 := zu_f1 v6
  exact ⟨_, List.mem_cons_self .., rq, hr, zq_MeS_mk rfl hT (zq_all_nil) zq_fan (zq_fan) rfl (zu_fac ((x_RS0 _ _ _).mpr (by show zn_RS 95 (zq_ev rq (0, [(0, 1)])) (zq_ev rq (0, [(1, 1)])) (zq_ev rq (0, [(2, 1)])) (zq_ev rq (2, [(3, 1)])) (zq_ev rq (0, [(4, 1)])) (zq_ev rq (0, [(5, 1)])) (zq_ev rq (0, [(6, 1)])) P h; simp only [g0, g1, g2, g3, g4, g5, g6]; exact t1)) zq_fan)⟩
noncomputable def zn_R25_0 : zq_S × List zq_S := (([], [], [(-10, [(7, 1)]), (255, [(7, -1)])], [], [((0, [(0, 1)]), (1, [(3, 1)]), (0, [(7, 1)]))], [], [(152, [(0, [(0, 1)]), (0, [(1, 1)]), (0, [(2, 1)]), (0, [(3, 1)]), (0, [(4, 1)]), (0, [(5, 1)]), (0, [(6, 1)])])], 8), [([], [], [], [], [], [], [(152, [(0, [(0, 1)]), (0, [(1, 1)]), (0, [(2, 1)]), (2, [(3, 1)]), (0, [(4, 1)]), (0, [(5, 1)]), (0, [(6, 1)])])], 8)])
theorem zn_R25_0_l {P : zq_Ty} {h : zq_H} {b n d i c S T y : Int} (a1 : 0 ≤ y - 10) (a2 : 0 ≤ -y + 255) (s1 : 0 ≤ b ∧ P (b).toNat ≠ none ∧ h (b).toNat (i + 1) = y) (k1 : zn_RS 95 b n d i c S T P h) : (zn_RS 95 b n d (i + 2) c S T P h) := by
  refine zn_RS_2 k1 (fun q => ?_)
  have z5 := k1.2.2.2.2.1
  have z6 := k1.2.2.2.2.2.1
  unfold zt_ad at q
  by_cases q2 : 2 * (i / 2) + 1 < n ∧ d + c < 6 ∧ h b.toNat (2 * (i / 2)) % 256 ≤ 3 ∧ 1 ≤ h b.toNat (2 * (i / 2) + 1) % 256 ∧ h b.toNat (2 * (i / 2) + 1) % 256 ≤ 9
  · have q3 := q2.2.2.2.2
    rw [show 2 * (i / 2) + 1 = i + 1 by omega, s1.2.2] at q3
    omega
  · rw [if_neg q2] at q; omega
theorem zn_R25_0_ok {w : zq_Wd} (x_RS0 : zj_is w 152 (fun q => zn_RS 95 (q 0) (q 1) (q 2) (q 3) (q 4) (q 5) (q 6))) : zq_okG1 w zn_R25_0 := by
  refine ⟨rfl, rfl, zu_fac ⟨rfl, by decide⟩ zq_fan, ?_⟩
  intro r P h H hM
  have q0 : zq_ev r (-10, [(7, 1)]) = r 7 - 10 := zu_e3 _ _ _
  have q1 : zq_ev r (255, [(7, -1)]) = -r 7 + 255 := zu_e5 _ _ _
  have q2 : zq_ev r (0, [(0, 1)]) = r 0 := zu_e1 _ _
  have q3 : zq_ev r (1, [(3, 1)]) = r 3 + 1 := zu_e2 _ _ _
  have q4 : zq_ev r (0, [(7, 1)]) = r 7 := zu_e1 _ _
  have q5 : zq_ev r (0, [(1, 1)]) = r 1 := zu_e1 _ _
  have q6 : zq_ev r (0, [(2, 1)]) = r 2 := zu_e1 _ _
  have q7 : zq_ev r (0, [(3, 1)]) = r 3 := zu_e1 _ _
  have q8 : zq_ev r (0, [(4, 1)]) = r 4 := zu_e1 _ _
  have q9 : zq_ev r (0, [(5, 1)]) = r 5 := zu_e1 _ _
  have q10 : zq_ev r (0, [(6, 1)]) = r 6 := zu_e1 _ _
  obtain ⟨hT, hC, hF, hS, -, hK⟩ := hM
  have c := hC.1
  have a1 := zq_all_1 c
  rw [q0] at a1
  have c := zq_all_t c
  have a2 := zq_all_1 c
  rw [q1] at a2
  have s1 := zq_okS_1 (hS)
  simp only [q2, q3, q4] at s1
  have k1 := zj_use x_RS0 (hK)
  have k1 : zn_RS 95 (zq_ev r (0, [(0, 1)])) (zq_ev r (0, [(1, 1)])) (zq_ev r (0, [(2, 1)])) (zq_ev r (0, [(3, 1)])) (zq_ev r (0, [(4, 1)])) (zq_ev r (0, [(5, 1)])) (zq_ev r (0, [(6, 1)])) P h := k1
  simp only [q10, q2, q5, q6, q7, q8, q9] at k1
  obtain t1 := zn_R25_0_l (P := P) (h := h) (b := r 0) (n := r 1) (d := r 2) (i := r 3) (c := r 4) (S := r 5) (T := r 6) (y := r 7) a1 a2 s1 k1
  obtain ⟨rq, hr⟩ : ∃ rq : Nat → Int, (∀ i, i < 8 → rq i = r i) := ⟨r, fun i hi => rfl⟩
  have v0 : rq 0 = r 0 := hr 0 (by decide)
  have v1 : rq 1 = r 1 := hr 1 (by decide)
  have v2 : rq 2 = r 2 := hr 2 (by decide)
  have v3 : rq 3 = r 3 := hr 3 (by decide)
  have v4 : rq 4 = r 4 := hr 4 (by decide)
  have v5 : rq 5 = r 5 := hr 5 (by decide)
  have v6 : rq 6 = r 6 := hr 6 (by decide)
  have g0 : zq_ev rq (0, [(0, 1)]) = r 0 := zu_f1 v0
  have g1 : zq_ev rq (0, [(1, 1)]) = r 1 := zu_f1 v1
  have g2 : zq_ev rq (0, [(2, 1)]) = r 2 := zu_f1 v2
  have g3 : zq_ev rq (2, [(3, 1)]) = r 3 + 2 := zu_f2 v3 _
  have g4 : zq_ev rq (0, [(4, 1)]) = r 4 := zu_f1 v4
  have g5 : zq_ev rq (0, [(5, 1)]) = r 5 := zu_f1 v5
  have g6 : zq_ev rq (0, [(6, 1)]) = r 6 := zu_f1 v6
  exact ⟨_, List.mem_cons_self .., rq, hr, zq_MeS_mk rfl hT (zq_all_nil) zq_fan (zq_fan) rfl (zu_fac ((x_RS0 _ _ _).mpr (by show zn_RS 95 (zq_ev rq (0, [(0, 1)])) (zq_ev rq (0, [(1, 1)])) (zq_ev rq (0, [(2, 1)])) (zq_ev rq (2, [(3, 1)])) (zq_ev rq (0, [(4, 1)])) (zq_ev rq (0, [(5, 1)])) (zq_ev rq (0, [(6, 1)])) P h; simp only [g0, g1, g2, g3, g4, g5, g6]; exact t1)) zq_fan)⟩
noncomputable def zn_RZ_0 : zq_S × List zq_S := (([], [], [(1, [(1, -1), (3, 1)])], [], [], [], [(152, [(0, [(0, 1)]), (0, [(1, 1)]), (0, [(2, 1)]), (0, [(3, 1)]), (0, [(4, 1)]), (0, [(5, 1)]), (0, [(6, 1)])])], 7), [([], [], [], [], [], [], [(154, [(0, [(0, 1)]), (0, [(1, 1)]), (0, [(2, 1)]), (0, [(5, 1)]), (0, [(4, 1)]), (0, [(6, 1)])])], 7)])
theorem zn_RZ_0_l {P : zq_Ty} {h : zq_H} {b n d i c S T : Int} (a1 : 0 ≤ -n + i + 1) (k1 : zn_RS 95 b n d i c S T P h) : (zn_RT 95 b n d S c T P h) := by
  obtain ⟨z1, z2, z3, z4, z5, z6, z7, z8⟩ := k1
  refine ⟨z1, z2, z3, z4, ?_, ?_⟩
  · rcases Nat.le_total (i / 2).toNat 200 with q | q
    · obtain ⟨m, hm⟩ := Nat.le.dest q
      rw [← hm, zt_rc_st (by omega) m]; exact z7
    · obtain ⟨m, hm⟩ := Nat.le.dest q
      rw [z7, ← hm, zt_rc_st (by omega) m]
  · rcases Nat.le_total (i / 2).toNat 200 with q | q
    · obtain ⟨m, hm⟩ := Nat.le.dest q
      rw [← hm, zn_rS_st (by omega) m]; exact z8
    · obtain ⟨m, hm⟩ := Nat.le.dest q
      rw [z8, ← hm, zn_rS_st (by omega) m]
theorem zn_RZ_0_ok {w : zq_Wd} (x_RS0 : zj_is w 152 (fun q => zn_RS 95 (q 0) (q 1) (q 2) (q 3) (q 4) (q 5) (q 6))) (x_RT0 : zj_is w 154 (fun q => zn_RT 95 (q 0) (q 1) (q 2) (q 3) (q 4) (q 5))) : zq_okG1 w zn_RZ_0 := by
  refine ⟨rfl, rfl, zu_fac ⟨rfl, by decide⟩ zq_fan, ?_⟩
  intro r P h H hM
  have q0 : zq_ev r (1, [(1, -1), (3, 1)]) = -r 1 + r 3 + 1 := by simp only [zq_ev, zq_ts] <;> omega
  have q1 : zq_ev r (0, [(0, 1)]) = r 0 := zu_e1 _ _
  have q2 : zq_ev r (0, [(1, 1)]) = r 1 := zu_e1 _ _
  have q3 : zq_ev r (0, [(2, 1)]) = r 2 := zu_e1 _ _
  have q4 : zq_ev r (0, [(3, 1)]) = r 3 := zu_e1 _ _
  have q5 : zq_ev r (0, [(4, 1)]) = r 4 := zu_e1 _ _
  have q6 : zq_ev r (0, [(5, 1)]) = r 5 := zu_e1 _ _
  have q7 : zq_ev r (0, [(6, 1)]) = r 6 := zu_e1 _ _
  obtain ⟨hT, hC, hF, hS, -, hK⟩ := hM
  have c := hC.1
  have a1 := zq_all_1 c
  rw [q0] at a1
  have k1 := zj_use x_RS0 (hK)
  have k1 : zn_RS 95 (zq_ev r (0, [(0, 1)])) (zq_ev r (0, [(1, 1)])) (zq_ev r (0, [(2, 1)])) (zq_ev r (0, [(3, 1)])) (zq_ev r (0, [(4, 1)])) (zq_ev r (0, [(5, 1)])) (zq_ev r (0, [(6, 1)])) P h := k1
  simp only [q1, q2, q3, q4, q5, q6, q7] at k1
  obtain t1 := zn_RZ_0_l (P := P) (h := h) (b := r 0) (n := r 1) (d := r 2) (i := r 3) (c := r 4) (S := r 5) (T := r 6) a1 k1
  obtain ⟨rq, hr⟩ : ∃ rq : Nat → Int, (∀ i, i < 7 → rq i = r i) := ⟨r, fun i hi => rfl⟩
  have v0 : rq 0 = r 0 := hr 0 (by decide)
  have v1 : rq 1 = r 1 := hr 1 (by decide)
  have v2 : rq 2 = r 2 := hr 2 (by decide)
  have v4 : rq 4 = r 4 := hr 4 (by decide)
  have v5 : rq 5 = r 5 := hr 5 (by decide)
  have v6 : rq 6 = r 6 := hr 6 (by decide)
  have g0 : zq_ev rq (0, [(0, 1)]) = r 0 := zu_f1 v0
  have g1 : zq_ev rq (0, [(1, 1)]) = r 1 := zu_f1 v1
  have g2 : zq_ev rq (0, [(2, 1)]) = r 2 := zu_f1 v2
  have g3 : zq_ev rq (0, [(5, 1)]) = r 5 := zu_f1 v5
  have g4 : zq_ev rq (0, [(4, 1)]) = r 4 := zu_f1 v4
  have g5 : zq_ev rq (0, [(6, 1)]) = r 6 := zu_f1 v6
  exact ⟨_, List.mem_cons_self .., rq, hr, zq_MeS_mk rfl hT (zq_all_nil) zq_fan (zq_fan) rfl (zu_fac ((x_RT0 _ _ _).mpr (by show zn_RT 95 (zq_ev rq (0, [(0, 1)])) (zq_ev rq (0, [(1, 1)])) (zq_ev rq (0, [(2, 1)])) (zq_ev rq (0, [(5, 1)])) (zq_ev rq (0, [(4, 1)])) (zq_ev rq (0, [(6, 1)])) P h; simp only [g0, g1, g2, g3, g4, g5]; exact t1)) zq_fan)⟩
noncomputable def zn_R0_1 : zq_S × List zq_S := (([], [], [(0, [(0, 1)]), (0, [(1, 1)]), (400, [(1, -1)])], [((0, [(0, 1)]), 6)], [], [], [], 4), [([], [], [], [], [], [], [(153, [(0, [(0, 1)]), (0, [(1, 1)]), (0, [(2, 1)]), (0, []), (0, []), (0, [(3, 1)]), (0, [(3, 1)])])], 4)])
theorem zn_R0_1_l {P : zq_Ty} {h : zq_H} {b n d S : Int} (a1 : 0 ≤ b) (a2 : 0 ≤ n) (a3 : 0 ≤ -n + 400) (b1 : 0 ≤ b → P (b).toNat = some 6) : (zn_RS 6 b n d 0 0 S S P h) := by
  refine ⟨a1, b1 a1, a2, by omega, by omega, by omega, ?_, ?_⟩
  · rw [show ((0 : Int) / 2).toNat = 0 from rfl]; rfl
  · rw [show ((0 : Int) / 2).toNat = 0 from rfl]; rfl
theorem zn_R0_1_ok {w : zq_Wd} (x_RS1 : zj_is w 153 (fun q => zn_RS 6 (q 0) (q 1) (q 2) (q 3) (q 4) (q 5) (q 6))) : zq_okG1 w zn_R0_1 := by
  refine ⟨rfl, rfl, zu_fac ⟨rfl, by decide⟩ zq_fan, ?_⟩
  intro r P h H hM
  have q0 : zq_ev r (0, [(0, 1)]) = r 0 := zu_e1 _ _
  have q1 : zq_ev r (0, [(1, 1)]) = r 1 := zu_e1 _ _
  have q2 : zq_ev r (400, [(1, -1)]) = -r 1 + 400 := zu_e5 _ _ _
  obtain ⟨hT, hC, hF, hS, -, hK⟩ := hM
  have c := hC.1
  have a1 := zq_all_1 c
  rw [q0] at a1
  have c := zq_all_t c
  have a2 := zq_all_1 c
  rw [q1] at a2
  have c := zq_all_t c
  have a3 := zq_all_1 c
  rw [q2] at a3
  have b1 : 0 ≤ r 0 → P (r 0).toNat = some 6 := fun z => by
    have z1 : 0 ≤ zq_ev r (0, [(0, 1)]) := by rw [q0]; exact z
    have z2 := zq_okF_1 (hF) z1
    simp only [q0] at z2
    exact z2
  obtain t1 := zn_R0_1_l (P := P) (h := h) (b := r 0) (n := r 1) (d := r 2) (S := r 3) a1 a2 a3 b1
  obtain ⟨rq, hr⟩ : ∃ rq : Nat → Int, (∀ i, i < 4 → rq i = r i) := ⟨r, fun i hi => rfl⟩
  have v0 : rq 0 = r 0 := hr 0 (by decide)
  have v1 : rq 1 = r 1 := hr 1 (by decide)
  have v2 : rq 2 = r 2 := hr 2 (by decide)
  have v3 : rq 3 = r 3 := hr 3 (by decide)
  have g0 : zq_ev rq (0, [(0, 1)]) = r 0 := zu_f1 v0
  have g1 : zq_ev rq (0, [(1, 1)]) = r 1 := zu_f1 v1
  have g2 : zq_ev rq (0, [(2, 1)]) = r 2 := zu_f1 v2
  have g3 : zq_ev rq (0, []) = 0 := zu_e0 _ _
  have g4 : zq_ev rq (0, [(3, 1)]) = r 3 := zu_f1 v3
  exact ⟨_, List.mem_cons_self .., rq, hr, zq_MeS_mk rfl hT (zq_all_nil) zq_fan (zq_fan) rfl (zu_fac ((x_RS1 _ _ _).mpr (by show zn_RS 6 (zq_ev rq (0, [(0, 1)])) (zq_ev rq (0, [(1, 1)])) (zq_ev rq (0, [(2, 1)])) (zq_ev rq (0, [])) (zq_ev rq (0, [])) (zq_ev rq (0, [(3, 1)])) (zq_ev rq (0, [(3, 1)])) P h; simp only [g0, g1, g2, g3, g4]; exact t1)) zq_fan)⟩
noncomputable def zn_R1_1 : zq_S × List zq_S := (([], [], [(-2, [(1, 1), (3, -1)]), (5, [(2, -1), (4, -1)]), (0, [(7, 1)]), (3, [(7, -1)]), (-1, [(8, 1)]), (9, [(8, -1)]), (0, [(2, -1), (4, -1), (10, 1)]), (0, [(2, 1), (4, 1), (10, -1)])], [], [((0, [(0, 1)]), (0, [(3, 1)]), (0, [(7, 1)])), ((0, [(0, 1)]), (1, [(3, 1)]), (0, [(8, 1)]))], [], [(153, [(0, [(0, 1)]), (0, [(1, 1)]), (0, [(2, 1)]), (0, [(3, 1)]), (0, [(4, 1)]), (0, [(5, 1)]), (0, [(6, 1)])]), (132, [(0, [(6, 1)]), (0, [(10, 1)]), (0, [(7, 1)]), (0, [(8, 1)]), (0, [(9, 1)])])], 11), [([], [], [], [], [], [], [(153, [(0, [(0, 1)]), (0, [(1, 1)]), (0, [(2, 1)]), (2, [(3, 1)]), (1, [(4, 1)]), (0, [(5, 1)]), (0, [(9, 1)])])], 11)])
theorem zn_R1_1_l {P : zq_Ty} {h : zq_H} {b n d i c S T x y U e : Int} (a1 : 0 ≤ n - i - 2) (a2 : 0 ≤ -d - c + 5) (a3 : 0 ≤ x) (a4 : 0 ≤ -x + 3) (a5 : 0 ≤ y - 1) (a6 : 0 ≤ -y + 9) (a7 : 0 ≤ -d - c + e) (a8 : 0 ≤ d + c - e) (s1 : 0 ≤ b ∧ P (b).toNat ≠ none ∧ h (b).toNat i = x) (s2 : 0 ≤ b ∧ P (b).toNat ≠ none ∧ h (b).toNat (i + 1) = y) (k1 : zn_RS 6 b n d i c S T P h) (k2 : zn_DE T e x y U P h) : (zn_RS 6 b n d (i + 2) (c + 1) S U P h) := by
  obtain ⟨z1, z2, z3, z4, z5, z6, z7, z8⟩ := k1
  have k2 : U = zn_de T (d + c) x y := by have q : U = zn_de T e x y := k2; rw [q, show e = d + c by omega]
  have e2 : ((i + 2) / 2).toNat = (i / 2).toNat + 1 := by omega
  have e3 : (((i / 2).toNat : Nat) : Int) = i / 2 := by omega
  have f1 : h b.toNat (2 * (i / 2)) = x := by rw [show 2 * (i / 2) = i by omega]; exact s1.2.2
  have f2 : h b.toNat (2 * (i / 2) + 1) = y := by rw [show 2 * (i / 2) + 1 = i + 1 by omega]; exact s2.2.2
  have ad := zn_ad1 (f := h b.toNat) (n := n) (d := d) (c := c) f1 f2 (by omega) (by omega) a3 (by omega) (by omega) (by omega)
  refine ⟨z1, z2, z3, z4, by omega, by omega, ?_, ?_⟩
  · rw [e2]
    show c + 1 = zt_rc (h b.toNat) n d (i / 2).toNat + zt_ad (h b.toNat) n d (zt_rc (h b.toNat) n d (i / 2).toNat) (((i / 2).toNat : Nat) : Int)
    rw [← z7, e3, ad]
  · rw [e2]
    show U = if zt_ad (h b.toNat) n d (zt_rc (h b.toNat) n d (i / 2).toNat) (((i / 2).toNat : Nat) : Int) = 1 then zn_de (zn_rS (h b.toNat) n d S (i / 2).toNat) (d + zt_rc (h b.toNat) n d (i / 2).toNat) (h b.toNat (2 * (((i / 2).toNat : Nat) : Int)) % 256) (h b.toNat (2 * (((i / 2).toNat : Nat) : Int) + 1) % 256) else _
    rw [← z7, ← z8, e3, if_pos ad, f1, f2, k2, show x % 256 = x by omega, show y % 256 = y by omega]
theorem zn_R1_1_ok {w : zq_Wd} (x_RS1 : zj_is w 153 (fun q => zn_RS 6 (q 0) (q 1) (q 2) (q 3) (q 4) (q 5) (q 6))) (x_DE : zj_is w 132 (fun q => zn_DE (q 0) (q 1) (q 2) (q 3) (q 4))) : zq_okG1 w zn_R1_1 := by
  refine ⟨rfl, rfl, zu_fac ⟨rfl, by decide⟩ zq_fan, ?_⟩
  intro r P h H hM
  have q0 : zq_ev r (-2, [(1, 1), (3, -1)]) = r 1 - r 3 - 2 := by simp only [zq_ev, zq_ts] <;> omega
  have q1 : zq_ev r (5, [(2, -1), (4, -1)]) = -r 2 - r 4 + 5 := by simp only [zq_ev, zq_ts] <;> omega
  have q2 : zq_ev r (0, [(7, 1)]) = r 7 := zu_e1 _ _
  have q3 : zq_ev r (3, [(7, -1)]) = -r 7 + 3 := zu_e5 _ _ _
  have q4 : zq_ev r (-1, [(8, 1)]) = r 8 - 1 := zu_e3 _ _ _
  have q5 : zq_ev r (9, [(8, -1)]) = -r 8 + 9 := zu_e5 _ _ _
  have q6 : zq_ev r (0, [(2, -1), (4, -1), (10, 1)]) = -r 2 - r 4 + r 10 := by simp only [zq_ev, zq_ts] <;> omega
  have q7 : zq_ev r (0, [(2, 1), (4, 1), (10, -1)]) = r 2 + r 4 - r 10 := by simp only [zq_ev, zq_ts] <;> omega
  have q8 : zq_ev r (0, [(0, 1)]) = r 0 := zu_e1 _ _
  have q9 : zq_ev r (0, [(3, 1)]) = r 3 := zu_e1 _ _
  have q10 : zq_ev r (1, [(3, 1)]) = r 3 + 1 := zu_e2 _ _ _
  have q11 : zq_ev r (0, [(8, 1)]) = r 8 := zu_e1 _ _
  have q12 : zq_ev r (0, [(1, 1)]) = r 1 := zu_e1 _ _
  have q13 : zq_ev r (0, [(2, 1)]) = r 2 := zu_e1 _ _
  have q14 : zq_ev r (0, [(4, 1)]) = r 4 := zu_e1 _ _
  have q15 : zq_ev r (0, [(5, 1)]) = r 5 := zu_e1 _ _
  have q16 : zq_ev r (0, [(6, 1)]) = r 6 := zu_e1 _ _
  have q17 : zq_ev r (0, [(10, 1)]) = r 10 := zu_e1 _ _
  have q18 : zq_ev r (0, [(9, 1)]) = r 9 := zu_e1 _ _
  obtain ⟨hT, hC, hF, hS, -, hK⟩ := hM
  have c := hC.1
  have a1 := zq_all_1 c
  rw [q0] at a1
  have c := zq_all_t c
  have a2 := zq_all_1 c
  rw [q1] at a2
  have c := zq_all_t c
  have a3 := zq_all_1 c
  rw [q2] at a3
  have c := zq_all_t c
  have a4 := zq_all_1 c
  rw [q3] at a4
  have c := zq_all_t c
  have a5 := zq_all_1 c
  rw [q4] at a5
  have c := zq_all_t c
  have a6 := zq_all_1 c
  rw [q5] at a6
  have c := zq_all_t c
  have a7 := zq_all_1 c
  rw [q6] at a7
  have c := zq_all_t c
  have a8 := zq_all_1 c
  rw [q7] at a8
  have s1 := zq_okS_1 (hS)
  simp only [q2, q8, q9] at s1
  have s2 := zq_okS_1 (zq_okS_t (hS))
  simp only [q10, q11, q8] at s2
  have k1 := zj_use x_RS1 (hK)
  have k1 : zn_RS 6 (zq_ev r (0, [(0, 1)])) (zq_ev r (0, [(1, 1)])) (zq_ev r (0, [(2, 1)])) (zq_ev r (0, [(3, 1)])) (zq_ev r (0, [(4, 1)])) (zq_ev r (0, [(5, 1)])) (zq_ev r (0, [(6, 1)])) P h := k1
  simp only [q12, q13, q14, q15, q16, q8, q9] at k1
  have k2 := zj_use x_DE (zq_okX_t (hK))
  have k2 : zn_DE (zq_ev r (0, [(6, 1)])) (zq_ev r (0, [(10, 1)])) (zq_ev r (0, [(7, 1)])) (zq_ev r (0, [(8, 1)])) (zq_ev r (0, [(9, 1)])) P h := k2
  simp only [q11, q16, q17, q18, q2] at k2
  obtain t1 := zn_R1_1_l (P := P) (h := h) (b := r 0) (n := r 1) (d := r 2) (i := r 3) (c := r 4) (S := r 5) (T := r 6) (x := r 7) (y := r 8) (U := r 9) (e := r 10) a1 a2 a3 a4 a5 a6 a7 a8 s1 s2 k1 k2
  obtain ⟨rq, hr⟩ : ∃ rq : Nat → Int, (∀ i, i < 11 → rq i = r i) := ⟨r, fun i hi => rfl⟩
  have v0 : rq 0 = r 0 := hr 0 (by decide)
  have v1 : rq 1 = r 1 := hr 1 (by decide)
  have v2 : rq 2 = r 2 := hr 2 (by decide)
  have v3 : rq 3 = r 3 := hr 3 (by decide)
  have v4 : rq 4 = r 4 := hr 4 (by decide)
  have v5 : rq 5 = r 5 := hr 5 (by decide)
  have v9 : rq 9 = r 9 := hr 9 (by decide)
  have g0 : zq_ev rq (0, [(0, 1)]) = r 0 := zu_f1 v0
  have g1 : zq_ev rq (0, [(1, 1)]) = r 1 := zu_f1 v1
  have g2 : zq_ev rq (0, [(2, 1)]) = r 2 := zu_f1 v2
  have g3 : zq_ev rq (2, [(3, 1)]) = r 3 + 2 := zu_f2 v3 _
  have g4 : zq_ev rq (1, [(4, 1)]) = r 4 + 1 := zu_f2 v4 _
  have g5 : zq_ev rq (0, [(5, 1)]) = r 5 := zu_f1 v5
  have g6 : zq_ev rq (0, [(9, 1)]) = r 9 := zu_f1 v9
  exact ⟨_, List.mem_cons_self .., rq, hr, zq_MeS_mk rfl hT (zq_all_nil) zq_fan (zq_fan) rfl (zu_fac ((x_RS1 _ _ _).mpr (by show zn_RS 6 (zq_ev rq (0, [(0, 1)])) (zq_ev rq (0, [(1, 1)])) (zq_ev rq (0, [(2, 1)])) (zq_ev rq (2, [(3, 1)])) (zq_ev rq (1, [(4, 1)])) (zq_ev rq (0, [(5, 1)])) (zq_ev rq (0, [(9, 1)])) P h; simp only [g0, g1, g2, g3, g4, g5, g6]; exact t1)) zq_fan)⟩
noncomputable def zn_R20_1 : zq_S × List zq_S := (([], [], [(-6, [(2, 1), (4, 1)])], [], [], [], [(153, [(0, [(0, 1)]), (0, [(1, 1)]), (0, [(2, 1)]), (0, [(3, 1)]), (0, [(4, 1)]), (0, [(5, 1)]), (0, [(6, 1)])])], 7), [([], [], [], [], [], [], [(153, [(0, [(0, 1)]), (0, [(1, 1)]), (0, [(2, 1)]), (2, [(3, 1)]), (0, [(4, 1)]), (0, [(5, 1)]), (0, [(6, 1)])])], 7)])
theorem zn_R20_1_l {P : zq_Ty} {h : zq_H} {b n d i c S T : Int} (a1 : 0 ≤ d + c - 6) (k1 : zn_RS 6 b n d i c S T P h) : (zn_RS 6 b n d (i + 2) c S T P h) := by
  refine zn_RS_2 k1 (fun q => ?_)
  have z5 := k1.2.2.2.2.1
  have z6 := k1.2.2.2.2.2.1
  unfold zt_ad at q
  by_cases q2 : 2 * (i / 2) + 1 < n ∧ d + c < 6 ∧ h b.toNat (2 * (i / 2)) % 256 ≤ 3 ∧ 1 ≤ h b.toNat (2 * (i / 2) + 1) % 256 ∧ h b.toNat (2 * (i / 2) + 1) % 256 ≤ 9
  · have q3 := q2.2.1
    omega
  · rw [if_neg q2] at q; omega
theorem zn_R20_1_ok {w : zq_Wd} (x_RS1 : zj_is w 153 (fun q => zn_RS 6 (q 0) (q 1) (q 2) (q 3) (q 4) (q 5) (q 6))) : zq_okG1 w zn_R20_1 := by
  refine ⟨rfl, rfl, zu_fac ⟨rfl, by decide⟩ zq_fan, ?_⟩
  intro r P h H hM
  have q0 : zq_ev r (-6, [(2, 1), (4, 1)]) = r 2 + r 4 - 6 := by simp only [zq_ev, zq_ts] <;> omega
  have q1 : zq_ev r (0, [(0, 1)]) = r 0 := zu_e1 _ _
  have q2 : zq_ev r (0, [(1, 1)]) = r 1 := zu_e1 _ _
  have q3 : zq_ev r (0, [(2, 1)]) = r 2 := zu_e1 _ _
  have q4 : zq_ev r (0, [(3, 1)]) = r 3 := zu_e1 _ _
  have q5 : zq_ev r (0, [(4, 1)]) = r 4 := zu_e1 _ _
  have q6 : zq_ev r (0, [(5, 1)]) = r 5 := zu_e1 _ _
  have q7 : zq_ev r (0, [(6, 1)]) = r 6 := zu_e1 _ _
  obtain ⟨hT, hC, hF, hS, -, hK⟩ := hM
  have c := hC.1
  have a1 := zq_all_1 c
  rw [q0] at a1
  have k1 := zj_use x_RS1 (hK)
  have k1 : zn_RS 6 (zq_ev r (0, [(0, 1)])) (zq_ev r (0, [(1, 1)])) (zq_ev r (0, [(2, 1)])) (zq_ev r (0, [(3, 1)])) (zq_ev r (0, [(4, 1)])) (zq_ev r (0, [(5, 1)])) (zq_ev r (0, [(6, 1)])) P h := k1
  simp only [q1, q2, q3, q4, q5, q6, q7] at k1
  obtain t1 := zn_R20_1_l (P := P) (h := h) (b := r 0) (n := r 1) (d := r 2) (i := r 3) (c := r 4) (S := r 5) (T := r 6) a1 k1
  obtain ⟨rq, hr⟩ : ∃ rq : Nat → Int, (∀ i, i < 7 → rq i = r i) := ⟨r, fun i hi => rfl⟩
  have v0 : rq 0 = r 0 := hr 0 (by decide)
  have v1 : rq 1 = r 1 := hr 1 (by decide)
  have v2 : rq 2 = r 2 := hr 2 (by decide)
  have v3 : rq 3 = r 3 := hr 3 (by decide)
  have v4 : rq 4 = r 4 := hr 4 (by decide)
  have v5 : rq 5 = r 5 := hr 5 (by decide)
  have v6 : rq 6 = r 6 := hr 6 (by decide)
  have g0 : zq_ev rq (0, [(0, 1)]) = r 0 := zu_f1 v0
  have g1 : zq_ev rq (0, [(1, 1)]) = r 1 := zu_f1 v1
  have g2 : zq_ev rq (0, [(2, 1)]) = r 2 := zu_f1 v2
  have g3 : zq_ev rq (2, [(3, 1)]) = r 3 + 2 := zu_f2 v3 _
  have g4 : zq_ev rq (0, [(4, 1)]) = r 4 := zu_f1 v4
  have g5 : zq_ev rq (0, [(5, 1)]) = r 5 := zu_f1 v5
  have g6 : zq_ev rq (0, [(6, 1)]) = r 6 := zu_f1 v6
  exact ⟨_, List.mem_cons_self .., rq, hr, zq_MeS_mk rfl hT (zq_all_nil) zq_fan (zq_fan) rfl (zu_fac ((x_RS1 _ _ _).mpr (by show zn_RS 6 (zq_ev rq (0, [(0, 1)])) (zq_ev rq (0, [(1, 1)])) (zq_ev rq (0, [(2, 1)])) (zq_ev rq (2, [(3, 1)])) (zq_ev rq (0, [(4, 1)])) (zq_ev rq (0, [(5, 1)])) (zq_ev rq (0, [(6, 1)])) P h; simp only [g0, g1, g2, g3, g4, g5, g6]; exact t1)) zq_fan)⟩
noncomputable def zn_R21_1 : zq_S × List zq_S := (([], [], [(1, [(1, -1), (3, 1)])], [], [], [], [(153, [(0, [(0, 1)]), (0, [(1, 1)]), (0, [(2, 1)]), (0, [(3, 1)]), (0, [(4, 1)]), (0, [(5, 1)]), (0, [(6, 1)])])], 7), [([], [], [], [], [], [], [(153, [(0, [(0, 1)]), (0, [(1, 1)]), (0, [(2, 1)]), (2, [(3, 1)]), (0, [(4, 1)]), (0, [(5, 1)]), (0, [(6, 1)])])], 7)])
theorem zn_R21_1_l {P : zq_Ty} {h : zq_H} {b n d i c S T : Int} (a1 : 0 ≤ -n + i + 1) (k1 : zn_RS 6 b n d i c S T P h) : (zn_RS 6 b n d (i + 2) c S T P h) := by
  refine zn_RS_2 k1 (fun q => ?_)
  have z5 := k1.2.2.2.2.1
  have z6 := k1.2.2.2.2.2.1
  unfold zt_ad at q
  by_cases q2 : 2 * (i / 2) + 1 < n ∧ d + c < 6 ∧ h b.toNat (2 * (i / 2)) % 256 ≤ 3 ∧ 1 ≤ h b.toNat (2 * (i / 2) + 1) % 256 ∧ h b.toNat (2 * (i / 2) + 1) % 256 ≤ 9
  · have q3 := q2.1
    omega
  · rw [if_neg q2] at q; omega
theorem zn_R21_1_ok {w : zq_Wd} (x_RS1 : zj_is w 153 (fun q => zn_RS 6 (q 0) (q 1) (q 2) (q 3) (q 4) (q 5) (q 6))) : zq_okG1 w zn_R21_1 := by
  refine ⟨rfl, rfl, zu_fac ⟨rfl, by decide⟩ zq_fan, ?_⟩
  intro r P h H hM
  have q0 : zq_ev r (1, [(1, -1), (3, 1)]) = -r 1 + r 3 + 1 := by simp only [zq_ev, zq_ts] <;> omega
  have q1 : zq_ev r (0, [(0, 1)]) = r 0 := zu_e1 _ _
  have q2 : zq_ev r (0, [(1, 1)]) = r 1 := zu_e1 _ _
  have q3 : zq_ev r (0, [(2, 1)]) = r 2 := zu_e1 _ _
  have q4 : zq_ev r (0, [(3, 1)]) = r 3 := zu_e1 _ _
  have q5 : zq_ev r (0, [(4, 1)]) = r 4 := zu_e1 _ _
  have q6 : zq_ev r (0, [(5, 1)]) = r 5 := zu_e1 _ _
  have q7 : zq_ev r (0, [(6, 1)]) = r 6 := zu_e1 _ _
  obtain ⟨hT, hC, hF, hS, -, hK⟩ := hM
  have c := hC.1
  have a1 := zq_all_1 c
  rw [q0] at a1
  have k1 := zj_use x_RS1 (hK)
  have k1 : zn_RS 6 (zq_ev r (0, [(0, 1)])) (zq_ev r (0, [(1, 1)])) (zq_ev r (0, [(2, 1)])) (zq_ev r (0, [(3, 1)])) (zq_ev r (0, [(4, 1)])) (zq_ev r (0, [(5, 1)])) (zq_ev r (0, [(6, 1)])) P h := k1
  simp only [q1, q2, q3, q4, q5, q6, q7] at k1
  obtain t1 := zn_R21_1_l (P := P) (h := h) (b := r 0) (n := r 1) (d := r 2) (i := r 3) (c := r 4) (S := r 5) (T := r 6) a1 k1
  obtain ⟨rq, hr⟩ : ∃ rq : Nat → Int, (∀ i, i < 7 → rq i = r i) := ⟨r, fun i hi => rfl⟩
  have v0 : rq 0 = r 0 := hr 0 (by decide)
  have v1 : rq 1 = r 1 := hr 1 (by decide)
  have v2 : rq 2 = r 2 := hr 2 (by decide)
  have v3 : rq 3 = r 3 := hr 3 (by decide)
  have v4 : rq 4 = r 4 := hr 4 (by decide)
  have v5 : rq 5 = r 5 := hr 5 (by decide)
  have v6 : rq 6 = r 6 := hr 6 (by decide)
  have g0 : zq_ev rq (0, [(0, 1)]) = r 0 := zu_f1 v0
  have g1 : zq_ev rq (0, [(1, 1)]) = r 1 := zu_f1 v1
  have g2 : zq_ev rq (0, [(2, 1)]) = r 2 := zu_f1 v2
  have g3 : zq_ev rq (2, [(3, 1)]) = r 3 + 2 := zu_f2 v3 _
  have g4 : zq_ev rq (0, [(4, 1)]) = r 4 := zu_f1 v4
  have g5 : zq_ev rq (0, [(5, 1)]) = r 5 := zu_f1 v5
  have g6 : zq_ev rq (0, [(6, 1)]) = r 6 := zu_f1 v6
  exact ⟨_, List.mem_cons_self .., rq, hr, zq_MeS_mk rfl hT (zq_all_nil) zq_fan (zq_fan) rfl (zu_fac ((x_RS1 _ _ _).mpr (by show zn_RS 6 (zq_ev rq (0, [(0, 1)])) (zq_ev rq (0, [(1, 1)])) (zq_ev rq (0, [(2, 1)])) (zq_ev rq (2, [(3, 1)])) (zq_ev rq (0, [(4, 1)])) (zq_ev rq (0, [(5, 1)])) (zq_ev rq (0, [(6, 1)])) P h; simp only [g0, g1, g2, g3, g4, g5, g6]; exact t1)) zq_fan)⟩
noncomputable def zn_R22_1 : zq_S × List zq_S := (([], [], [(-4, [(7, 1)]), (255, [(7, -1)])], [], [((0, [(0, 1)]), (0, [(3, 1)]), (0, [(7, 1)]))], [], [(153, [(0, [(0, 1)]), (0, [(1, 1)]), (0, [(2, 1)]), (0, [(3, 1)]), (0, [(4, 1)]), (0, [(5, 1)]), (0, [(6, 1)])])], 8), [([], [], [], [], [], [], [(153, [(0, [(0, 1)]), (0, [(1, 1)]), (0, [(2, 1)]), (2, [(3, 1)]), (0, [(4, 1)]), (0, [(5, 1)]), (0, [(6, 1)])])], 8)])
theorem zn_R22_1_l {P : zq_Ty} {h : zq_H} {b n d i c S T x : Int} (a1 : 0 ≤ x - 4) (a2 : 0 ≤ -x + 255) (s1 : 0 ≤ b ∧ P (b).toNat ≠ none ∧ h (b).toNat i = x) (k1 : zn_RS 6 b n d i c S T P h) : (zn_RS 6 b n d (i + 2) c S T P h) := by
  refine zn_RS_2 k1 (fun q => ?_)
  have z5 := k1.2.2.2.2.1
  have z6 := k1.2.2.2.2.2.1
  unfold zt_ad at q
  by_cases q2 : 2 * (i / 2) + 1 < n ∧ d + c < 6 ∧ h b.toNat (2 * (i / 2)) % 256 ≤ 3 ∧ 1 ≤ h b.toNat (2 * (i / 2) + 1) % 256 ∧ h b.toNat (2 * (i / 2) + 1) % 256 ≤ 9
  · have q3 := q2.2.2.1
    rw [show 2 * (i / 2) = i by omega, s1.2.2] at q3
    omega
  · rw [if_neg q2] at q; omega
theorem zn_R22_1_ok {w : zq_Wd} (x_RS1 : zj_is w 153 (fun q => zn_RS 6 (q 0) (q 1) (q 2) (q 3) (q 4) (q 5) (q 6))) : zq_okG1 w zn_R22_1 := by
  refine ⟨rfl, rfl, zu_fac ⟨rfl, by decide⟩ zq_fan, ?_⟩
  intro r P h H hM
  have q0 : zq_ev r (-4, [(7, 1)]) = r 7 - 4 := zu_e3 _ _ _
  have q1 : zq_ev r (255, [(7, -1)]) = -r 7 + 255 := zu_e5 _ _ _
  have q2 : zq_ev r (0, [(0, 1)]) = r 0 := zu_e1 _ _
  have q3 : zq_ev r (0, [(3, 1)]) = r 3 := zu_e1 _ _
  have q4 : zq_ev r (0, [(7, 1)]) = r 7 := zu_e1 _ _
  have q5 : zq_ev r (0, [(1, 1)]) = r 1 := zu_e1 _ _
  have q6 : zq_ev r (0, [(2, 1)]) = r 2 := zu_e1 _ _
  have q7 : zq_ev r (0, [(4, 1)]) = r 4 := zu_e1 _ _
  have q8 : zq_ev r (0, [(5, 1)]) = r 5 := zu_e1 _ _
  have q9 : zq_ev r (0, [(6, 1)]) = r 6 := zu_e1 _ _
  obtain ⟨hT, hC, hF, hS, -, hK⟩ := hM
  have c := hC.1
  have a1 := zq_all_1 c
  rw [q0] at a1
  have c := zq_all_t c
  have a2 := zq_all_1 c
  rw [q1] at a2
  have s1 := zq_okS_1 (hS)
  simp only [q2, q3, q4] at s1
  have k1 := zj_use x_RS1 (hK)
  have k1 : zn_RS 6 (zq_ev r (0, [(0, 1)])) (zq_ev r (0, [(1, 1)])) (zq_ev r (0, [(2, 1)])) (zq_ev r (0, [(3, 1)])) (zq_ev r (0, [(4, 1)])) (zq_ev r (0, [(5, 1)])) (zq_ev r (0, [(6, 1)])) P h := k1
  simp only [q2, q3, q5, q6, q7, q8, q9] at k1
  obtain t1 := zn_R22_1_l (P := P) (h := h) (b := r 0) (n := r 1) (d := r 2) (i := r 3) (c := r 4) (S := r 5) (T := r 6) (x := r 7) a1 a2 s1 k1
  obtain ⟨rq, hr⟩ : ∃ rq : Nat → Int, (∀ i, i < 8 → rq i = r i) := ⟨r, fun i hi => rfl⟩
  have v0 : rq 0 = r 0 := hr 0 (by decide)
  have v1 : rq 1 = r 1 := hr 1 (by decide)
  have v2 : rq 2 = r 2 := hr 2 (by decide)
  have v3 : rq 3 = r 3 := hr 3 (by decide)
  have v4 : rq 4 = r 4 := hr 4 (by decide)
  have v5 : rq 5 = r 5 := hr 5 (by decide)
  have v6 : rq 6 = r 6 := hr 6 (by decide)
  have g0 : zq_ev rq (0, [(0, 1)]) = r 0 := zu_f1 v0
  have g1 : zq_ev rq (0, [(1, 1)]) = r 1 := zu_f1 v1
  have g2 : zq_ev rq (0, [(2, 1)]) = r 2 := zu_f1 v2
  have g3 : zq_ev rq (2, [(3, 1)]) = r 3 + 2 := zu_f2 v3 _
  have g4 : zq_ev rq (0, [(4, 1)]) = r 4 := zu_f1 v4
  have g5 : zq_ev rq (0, [(5, 1)]) = r 5 := zu_f1 v5
  have g6 : zq_ev rq (0, [(6, 1)]) = r 6 := zu_f1 v6
  exact ⟨_, List.mem_cons_self .., rq, hr, zq_MeS_mk rfl hT (zq_all_nil) zq_fan (zq_fan) rfl (zu_fac ((x_RS1 _ _ _).mpr (by show zn_RS 6 (zq_ev rq (0, [(0, 1)])) (zq_ev rq (0, [(1, 1)])) (zq_ev rq (0, [(2, 1)])) (zq_ev rq (2, [(3, 1)])) (zq_ev rq (0, [(4, 1)])) (zq_ev rq (0, [(5, 1)])) (zq_ev rq (0, [(6, 1)])) P h; simp only [g0, g1, g2, g3, g4, g5, g6]; exact t1)) zq_fan)⟩
noncomputable def zn_R23_1 : zq_S × List zq_S := (([], [], [(-1, [(7, -1)]), (128, [(7, 1)])], [], [((0, [(0, 1)]), (0, [(3, 1)]), (0, [(7, 1)]))], [], [(153, [(0, [(0, 1)]), (0, [(1, 1)]), (0, [(2, 1)]), (0, [(3, 1)]), (0, [(4, 1)]), (0, [(5, 1)]), (0, [(6, 1)])])], 8), [([], [], [], [], [], [], [(153, [(0, [(0, 1)]), (0, [(1, 1)]), (0, [(2, 1)]), (2, [(3, 1)]), (0, [(4, 1)]), (0, [(5, 1)]), (0, [(6, 1)])])], 8)])
theorem zn_R23_1_l {P : zq_Ty} {h : zq_H} {b n d i c S T x : Int} (a1 : 0 ≤ -x - 1) (a2 : 0 ≤ x + 128) (s1 : 0 ≤ b ∧ P (b).toNat ≠ none ∧ h (b).toNat i = x) (k1 : zn_RS 6 b n d i c S T P h) : (zn_RS 6 b n d (i + 2) c S T P h) := by
  refine zn_RS_2 k1 (fun q => ?_)
  have z5 := k1.2.2.2.2.1
  have z6 := k1.2.2.2.2.2.1
  unfold zt_ad at q
  by_cases q2 : 2 * (i / 2) + 1 < n ∧ d + c < 6 ∧ h b.toNat (2 * (i / 2)) % 256 ≤ 3 ∧ 1 ≤ h b.toNat (2 * (i / 2) + 1) % 256 ∧ h b.toNat (2 * (i / 2) + 1) % 256 ≤ 9
  · have q3 := q2.2.2.1
    rw [show 2 * (i / 2) = i by omega, s1.2.2] at q3
    omega
  · rw [if_neg q2] at q; omega
theorem zn_R23_1_ok {w : zq_Wd} (x_RS1 : zj_is w 153 (fun q => zn_RS 6 (q 0) (q 1) (q 2) (q 3) (q 4) (q 5) (q 6))) : zq_okG1 w zn_R23_1 := by
  refine ⟨rfl, rfl, zu_fac ⟨rfl, by decide⟩ zq_fan, ?_⟩
  intro r P h H hM
  have q0 : zq_ev r (-1, [(7, -1)]) = -r 7 - 1 := zu_e6 _ _ _
  have q1 : zq_ev r (128, [(7, 1)]) = r 7 + 128 := zu_e2 _ _ _
  have q2 : zq_ev r (0, [(0, 1)]) = r 0 := zu_e1 _ _
  have q3 : zq_ev r (0, [(3, 1)]) = r 3 := zu_e1 _ _
  have q4 : zq_ev r (0, [(7, 1)]) = r 7 := zu_e1 _ _
  have q5 : zq_ev r (0, [(1, 1)]) = r 1 := zu_e1 _ _
  have q6 : zq_ev r (0, [(2, 1)]) = r 2 := zu_e1 _ _
  have q7 : zq_ev r (0, [(4, 1)]) = r 4 := zu_e1 _ _
  have q8 : zq_ev r (0, [(5, 1)]) = r 5 := zu_e1 _ _
  have q9 : zq_ev r (0, [(6, 1)]) = r 6 := zu_e1 _ _
  obtain ⟨hT, hC, hF, hS, -, hK⟩ := hM
  have c := hC.1
  have a1 := zq_all_1 c
  rw [q0] at a1
  have c := zq_all_t c
  have a2 := zq_all_1 c
  rw [q1] at a2
  have s1 := zq_okS_1 (hS)
  simp only [q2, q3, q4] at s1
  have k1 := zj_use x_RS1 (hK)
  have k1 : zn_RS 6 (zq_ev r (0, [(0, 1)])) (zq_ev r (0, [(1, 1)])) (zq_ev r (0, [(2, 1)])) (zq_ev r (0, [(3, 1)])) (zq_ev r (0, [(4, 1)])) (zq_ev r (0, [(5, 1)])) (zq_ev r (0, [(6, 1)])) P h := k1
  simp only [q2, q3, q5, q6, q7, q8, q9] at k1
  obtain t1 := zn_R23_1_l (P := P) (h := h) (b := r 0) (n := r 1) (d := r 2) (i := r 3) (c := r 4) (S := r 5) (T := r 6) (x := r 7) a1 a2 s1 k1
  obtain ⟨rq, hr⟩ : ∃ rq : Nat → Int, (∀ i, i < 8 → rq i = r i) := ⟨r, fun i hi => rfl⟩
  have v0 : rq 0 = r 0 := hr 0 (by decide)
  have v1 : rq 1 = r 1 := hr 1 (by decide)
  have v2 : rq 2 = r 2 := hr 2 (by decide)
  have v3 : rq 3 = r 3 := hr 3 (by decide)
  have v4 : rq 4 = r 4 := hr 4 (by decide)
  have v5 : rq 5 = r 5 := hr 5 (by decide)
  have v6 : rq 6 = r 6 := hr 6 (by decide)
  have g0 : zq_ev rq (0, [(0, 1)]) = r 0 := zu_f1 v0
  have g1 : zq_ev rq (0, [(1, 1)]) = r 1 := zu_f1 v1
  have g2 : zq_ev rq (0, [(2, 1)]) = r 2 := zu_f1 v2
  have g3 : zq_ev rq (2, [(3, 1)]) = r 3 + 2 := zu_f2 v3 _
  have g4 : zq_ev rq (0, [(4, 1)]) = r 4 := zu_f1 v4
  have g5 : zq_ev rq (0, [(5, 1)]) = r 5 := zu_f1 v5
  have g6 : zq_ev rq (0, [(6, 1)]) = r 6 := zu_f1 v6
  exact ⟨_, List.mem_cons_self .., rq, hr, zq_MeS_mk rfl hT (zq_all_nil) zq_fan (zq_fan) rfl (zu_fac ((x_RS1 _ _ _).mpr (by show zn_RS 6 (zq_ev rq (0, [(0, 1)])) (zq_ev rq (0, [(1, 1)])) (zq_ev rq (0, [(2, 1)])) (zq_ev rq (2, [(3, 1)])) (zq_ev rq (0, [(4, 1)])) (zq_ev rq (0, [(5, 1)])) (zq_ev rq (0, [(6, 1)])) P h; simp only [g0, g1, g2, g3, g4, g5, g6]; exact t1)) zq_fan)⟩
noncomputable def zn_R24_1 : zq_S × List zq_S := (([], [], [(0, [(7, -1)]), (128, [(7, 1)])], [], [((0, [(0, 1)]), (1, [(3, 1)]), (0, [(7, 1)]))], [], [(153, [(0, [(0, 1)]), (0, [(1, 1)]), (0, [(2, 1)]), (0, [(3, 1)]), (0, [(4, 1)]), (0, [(5, 1)]), (0, [(6, 1)])])], 8), [([], [], [], [], [], [], [(153, [(0, [(0, 1)]), (0, [(1, 1)]), (0, [(2, 1)]), (2, [(3, 1)]), (0, [(4, 1)]), (0, [(5, 1)]), (0, [(6, 1)])])], 8)])
theorem zn_R24_1_l {P : zq_Ty} {h : zq_H} {b n d i c S T y : Int} (a1 : 0 ≤ -y) (a2 : 0 ≤ y + 128) (s1 : 0 ≤ b ∧ P (b).toNat ≠ none ∧ h (b).toNat (i + 1) = y) (k1 : zn_RS 6 b n d i c S T P h) : (zn_RS 6 b n d (i + 2) c S T P h) := by
  refine zn_RS_2 k1 (fun q => ?_)
  have z5 := k1.2.2.2.2.1
  have z6 := k1.2.2.2.2.2.1
  unfold zt_ad at q
  by_cases q2 : 2 * (i / 2) + 1 < n ∧ d + c < 6 ∧ h b.toNat (2 * (i / 2)) % 256 ≤ 3 ∧ 1 ≤ h b.toNat (2 * (i / 2) + 1) % 256 ∧ h b.toNat (2 * (i / 2) + 1) % 256 ≤ 9
  · have q3 := q2.2.2.2.2
    have q4 := q2.2.2.2.1
    rw [show 2 * (i / 2) + 1 = i + 1 by omega, s1.2.2] at q4
    rw [show 2 * (i / 2) + 1 = i + 1 by omega, s1.2.2] at q3
    omega
  · rw [if_neg q2] at q; omega
theorem zn_R24_1_ok {w : zq_Wd} (x_RS1 : zj_is w 153 (fun q => zn_RS 6 (q 0) (q 1) (q 2) (q 3) (q 4) (q 5) (q 6))) : zq_okG1 w zn_R24_1 := by
  refine ⟨rfl, rfl, zu_fac ⟨rfl, by decide⟩ zq_fan, ?_⟩
  intro r P h H hM
  have q0 : zq_ev r (0, [(7, -1)]) = -r 7 := zu_e4 _ _
  have q1 : zq_ev r (128, [(7, 1)]) = r 7 + 128 := zu_e2 _ _ _
  have q2 : zq_ev r (0, [(0, 1)]) = r 0 := zu_e1 _ _
  have q3 : zq_ev r (1, [(3, 1)]) = r 3 + 1 := zu_e2 _ _ _
  have q4 : zq_ev r (0, [(7, 1)]) = r 7 := zu_e1 _ _
  have q5 : zq_ev r (0, [(1, 1)]) = r 1 := zu_e1 _ _
  have q6 : zq_ev r (0, [(2, 1)]) = r 2 := zu_e1 _ _
  have q7 : zq_ev r (0, [(3, 1)]) = r 3 := zu_e1 _ _
  have q8 : zq_ev r (0, [(4, 1)]) = r 4 := zu_e1 _ _
  have q9 : zq_ev r (0, [(5, 1)]) = r 5 := zu_e1 _ _
  have q10 : zq_ev r (0, [(6, 1)]) = r 6 := zu_e1 _ _
  obtain ⟨hT, hC, hF, hS, -, hK⟩ := hM
  have c := hC.1
  have a1 := zq_all_1 c
  rw [q0] at a1
  have c := zq_all_t c
  have a2 := zq_all_1 c
  rw [q1] at a2
  have s1 := zq_okS_1 (hS)
  simp only [q2, q3, q4] at s1
  have k1 := zj_use x_RS1 (hK)
  have k1 : zn_RS 6 (zq_ev r (0, [(0, 1)])) (zq_ev r (0, [(1, 1)])) (zq_ev r (0, [(2, 1)])) (zq_ev r (0, [(3, 1)])) (zq_ev r (0, [(4, 1)])) (zq_ev r (0, [(5, 1)])) (zq_ev r (0, [(6, 1)])) P h := k1
  simp only [q10, q2, q5, q6, q7, q8, q9] at k1
  obtain t1 := zn_R24_1_l (P := P) (h := h) (b := r 0) (n := r 1) (d := r 2) (i := r 3) (c := r 4) (S := r 5) (T := r 6) (y := r 7) a1 a2 s1 k1
  obtain ⟨rq, hr⟩ : ∃ rq : Nat → Int, (∀ i, i < 8 → rq i = r i) := ⟨r, fun i hi => rfl⟩
  have v0 : rq 0 = r 0 := hr 0 (by decide)
  have v1 : rq 1 = r 1 := hr 1 (by decide)
  have v2 : rq 2 = r 2 := hr 2 (by decide)
  have v3 : rq 3 = r 3 := hr 3 (by decide)
  have v4 : rq 4 = r 4 := hr 4 (by decide)
  have v5 : rq 5 = r 5 := hr 5 (by decide)
  have v6 : rq 6 = r 6 := hr 6 (by decide)
  have g0 : zq_ev rq (0, [(0, 1)]) = r 0 := zu_f1 v0
  have g1 : zq_ev rq (0, [(1, 1)]) = r 1 := zu_f1 v1
  have g2 : zq_ev rq (0, [(2, 1)]) = r 2 := zu_f1 v2
  have g3 : zq_ev rq (2, [(3, 1)]) = r 3 + 2 := zu_f2 v3 _
  have g4 : zq_ev rq (0, [(4, 1)]) = r 4 := zu_f1 v4
  have g5 : zq_ev rq (0, [(5, 1)]) = r 5 := zu_f1 v5
  have g6 : zq_ev rq (0, [(6, 1)]) = r 6 := zu_f1 v6
  exact ⟨_, List.mem_cons_self .., rq, hr, zq_MeS_mk rfl hT (zq_all_nil) zq_fan (zq_fan) rfl (zu_fac ((x_RS1 _ _ _).mpr (by show zn_RS 6 (zq_ev rq (0, [(0, 1)])) (zq_ev rq (0, [(1, 1)])) (zq_ev rq (0, [(2, 1)])) (zq_ev rq (2, [(3, 1)])) (zq_ev rq (0, [(4, 1)])) (zq_ev rq (0, [(5, 1)])) (zq_ev rq (0, [(6, 1)])) P h; simp only [g0, g1, g2, g3, g4, g5, g6]; exact t1)) zq_fan)⟩
noncomputable def zn_R25_1 : zq_S × List zq_S := (([], [], [(-10, [(7, 1)]), (255, [(7, -1)])], [], [((0, [(0, 1)]), (1, [(3, 1)]), (0, [(7, 1)]))], [], [(153, [(0, [(0, 1)]), (0, [(1, 1)]), (0, [(2, 1)]), (0, [(3, 1)]), (0, [(4, 1)]), (0, [(5, 1)]), (0, [(6, 1)])])], 8), [([], [], [], [], [], [], [(153, [(0, [(0, 1)]), (0, [(1, 1)]), (0, [(2, 1)]), (2, [(3, 1)]), (0, [(4, 1)]), (0, [(5, 1)]), (0, [(6, 1)])])], 8)])
theorem zn_R25_1_l {P : zq_Ty} {h : zq_H} {b n d i c S T y : Int} (a1 : 0 ≤ y - 10) (a2 : 0 ≤ -y + 255) (s1 : 0 ≤ b ∧ P (b).toNat ≠ none ∧ h (b).toNat (i + 1) = y) (k1 : zn_RS 6 b n d i c S T P h) : (zn_RS 6 b n d (i + 2) c S T P h) := by
  refine zn_RS_2 k1 (fun q => ?_)
  have z5 := k1.2.2.2.2.1
  have z6 := k1.2.2.2.2.2.1
  unfold zt_ad at q
  by_cases q2 : 2 * (i / 2) + 1 < n ∧ d + c < 6 ∧ h b.toNat (2 * (i / 2)) % 256 ≤ 3 ∧ 1 ≤ h b.toNat (2 * (i / 2) + 1) % 256 ∧ h b.toNat (2 * (i / 2) + 1) % 256 ≤ 9
  · have q3 := q2.2.2.2.2
    rw [show 2 * (i / 2) + 1 = i + 1 by omega, s1.2.2] at q3
    omega
  · rw [if_neg q2] at q; omega
theorem zn_R25_1_ok {w : zq_Wd} (x_RS1 : zj_is w 153 (fun q => zn_RS 6 (q 0) (q 1) (q 2) (q 3) (q 4) (q 5) (q 6))) : zq_okG1 w zn_R25_1 := by
  refine ⟨rfl, rfl, zu_fac ⟨rfl, by decide⟩ zq_fan, ?_⟩
  intro r P h H hM
  have q0 : zq_ev r (-10, [(7, 1)]) = r 7 - 10 := zu_e3 _ _ _
  have q1 : zq_ev r (255, [(7, -1)]) = -r 7 + 255 := zu_e5 _ _ _
  have q2 : zq_ev r (0, [(0, 1)]) = r 0 := zu_e1 _ _
  have q3 : zq_ev r (1, [(3, 1)]) = r 3 + 1 := zu_e2 _ _ _
  have q4 : zq_ev r (0, [(7, 1)]) = r 7 := zu_e1 _ _
  have q5 : zq_ev r (0, [(1, 1)]) = r 1 := zu_e1 _ _
  have q6 : zq_ev r (0, [(2, 1)]) = r 2 := zu_e1 _ _
  have q7 : zq_ev r (0, [(3, 1)]) = r 3 := zu_e1 _ _
  have q8 : zq_ev r (0, [(4, 1)]) = r 4 := zu_e1 _ _
  have q9 : zq_ev r (0, [(5, 1)]) = r 5 := zu_e1 _ _
  have q10 : zq_ev r (0, [(6, 1)]) = r 6 := zu_e1 _ _
  obtain ⟨hT, hC, hF, hS, -, hK⟩ := hM
  have c := hC.1
  have a1 := zq_all_1 c
  rw [q0] at a1
  have c := zq_all_t c
  have a2 := zq_all_1 c
  rw [q1] at a2
  have s1 := zq_okS_1 (hS)
  simp only [q2, q3, q4] at s1
  have k1 := zj_use x_RS1 (hK)
  have k1 : zn_RS 6 (zq_ev r (0, [(0, 1)])) (zq_ev r (0, [(1, 1)])) (zq_ev r (0, [(2, 1)])) (zq_ev r (0, [(3, 1)])) (zq_ev r (0, [(4, 1)])) (zq_ev r (0, [(5, 1)])) (zq_ev r (0, [(6, 1)])) P h := k1
  simp only [q10, q2, q5, q6, q7, q8, q9] at k1
  obtain t1 := zn_R25_1_l (P := P) (h := h) (b := r 0) (n := r 1) (d := r 2) (i := r 3) (c := r 4) (S := r 5) (T := r 6) (y := r 7) a1 a2 s1 k1
  obtain ⟨rq, hr⟩ : ∃ rq : Nat → Int, (∀ i, i < 8 → rq i = r i) := ⟨r, fun i hi => rfl⟩
  have v0 : rq 0 = r 0 := hr 0 (by decide)
  have v1 : rq 1 = r 1 := hr 1 (by decide)
  have v2 : rq 2 = r 2 := hr 2 (by decide)
  have v3 : rq 3 = r 3 := hr 3 (by decide)
  have v4 : rq 4 = r 4 := hr 4 (by decide)
  have v5 : rq 5 = r 5 := hr 5 (by decide)
  have v6 : rq 6 = r 6 := hr 6 (by decide)
  have g0 : zq_ev rq (0, [(0, 1)]) = r 0 := zu_f1 v0
  have g1 : zq_ev rq (0, [(1, 1)]) = r 1 := zu_f1 v1
  have g2 : zq_ev rq (0, [(2, 1)]) = r 2 := zu_f1 v2
  have g3 : zq_ev rq (2, [(3, 1)]) = r 3 + 2 := zu_f2 v3 _
  have g4 : zq_ev rq (0, [(4, 1)]) = r 4 := zu_f1 v4
  have g5 : zq_ev rq (0, [(5, 1)]) = r 5 := zu_f1 v5
  have g6 : zq_ev rq (0, [(6, 1)]) = r 6 := zu_f1 v6
  exact ⟨_, List.mem_cons_self .., rq, hr, zq_MeS_mk rfl hT (zq_all_nil) zq_fan (zq_fan) rfl (zu_fac ((x_RS1 _ _ _).mpr (by show zn_RS 6 (zq_ev rq (0, [(0, 1)])) (zq_ev rq (0, [(1, 1)])) (zq_ev rq (0, [(2, 1)])) (zq_ev rq (2, [(3, 1)])) (zq_ev rq (0, [(4, 1)])) (zq_ev rq (0, [(5, 1)])) (zq_ev rq (0, [(6, 1)])) P h; simp only [g0, g1, g2, g3, g4, g5, g6]; exact t1)) zq_fan)⟩
noncomputable def zn_RZ_1 : zq_S × List zq_S := (([], [], [(1, [(1, -1), (3, 1)])], [], [], [], [(153, [(0, [(0, 1)]), (0, [(1, 1)]), (0, [(2, 1)]), (0, [(3, 1)]), (0, [(4, 1)]), (0, [(5, 1)]), (0, [(6, 1)])])], 7), [([], [], [], [], [], [], [(155, [(0, [(0, 1)]), (0, [(1, 1)]), (0, [(2, 1)]), (0, [(5, 1)]), (0, [(4, 1)]), (0, [(6, 1)])])], 7)])
theorem zn_RZ_1_l {P : zq_Ty} {h : zq_H} {b n d i c S T : Int} (a1 : 0 ≤ -n + i + 1) (k1 : zn_RS 6 b n d i c S T P h) : (zn_RT 6 b n d S c T P h) := by
  obtain ⟨z1, z2, z3, z4, z5, z6, z7, z8⟩ := k1
  refine ⟨z1, z2, z3, z4, ?_, ?_⟩
  · rcases Nat.le_total (i / 2).toNat 200 with q | q
    · obtain ⟨m, hm⟩ := Nat.le.dest q
      rw [← hm, zt_rc_st (by omega) m]; exact z7
    · obtain ⟨m, hm⟩ := Nat.le.dest q
      rw [z7, ← hm, zt_rc_st (by omega) m]
  · rcases Nat.le_total (i / 2).toNat 200 with q | q
    · obtain ⟨m, hm⟩ := Nat.le.dest q
      rw [← hm, zn_rS_st (by omega) m]; exact z8
    · obtain ⟨m, hm⟩ := Nat.le.dest q
      rw [z8, ← hm, zn_rS_st (by omega) m]
theorem zn_RZ_1_ok {w : zq_Wd} (x_RS1 : zj_is w 153 (fun q => zn_RS 6 (q 0) (q 1) (q 2) (q 3) (q 4) (q 5) (q 6))) (x_RT1 : zj_is w 155 (fun q => zn_RT 6 (q 0) (q 1) (q 2) (q 3) (q 4) (q 5))) : zq_okG1 w zn_RZ_1 := by
  refine ⟨rfl, rfl, zu_fac ⟨rfl, by decide⟩ zq_fan, ?_⟩
  intro r P h H hM
  have q0 : zq_ev r (1, [(1, -1), (3, 1)]) = -r 1 + r 3 + 1 := by simp only [zq_ev, zq_ts] <;> omega
  have q1 : zq_ev r (0, [(0, 1)]) = r 0 := zu_e1 _ _
  have q2 : zq_ev r (0, [(1, 1)]) = r 1 := zu_e1 _ _
  have q3 : zq_ev r (0, [(2, 1)]) = r 2 := zu_e1 _ _
  have q4 : zq_ev r (0, [(3, 1)]) = r 3 := zu_e1 _ _
  have q5 : zq_ev r (0, [(4, 1)]) = r 4 := zu_e1 _ _
  have q6 : zq_ev r (0, [(5, 1)]) = r 5 := zu_e1 _ _
  have q7 : zq_ev r (0, [(6, 1)]) = r 6 := zu_e1 _ _
  obtain ⟨hT, hC, hF, hS, -, hK⟩ := hM
  have c := hC.1
  have a1 := zq_all_1 c
  rw [q0] at a1
  have k1 := zj_use x_RS1 (hK)
  have k1 : zn_RS 6 (zq_ev r (0, [(0, 1)])) (zq_ev r (0, [(1, 1)])) (zq_ev r (0, [(2, 1)])) (zq_ev r (0, [(3, 1)])) (zq_ev r (0, [(4, 1)])) (zq_ev r (0, [(5, 1)])) (zq_ev r (0, [(6, 1)])) P h := k1
  simp only [q1, q2, q3, q4, q5, q6, q7] at k1
  obtain t1 := zn_RZ_1_l (P := P) (h := h) (b := r 0) (n := r 1) (d := r 2) (i := r 3) (c := r 4) (S := r 5) (T := r 6) a1 k1
  obtain ⟨rq, hr⟩ : ∃ rq : Nat → Int, (∀ i, i < 7 → rq i = r i) := ⟨r, fun i hi => rfl⟩
  have v0 : rq 0 = r 0 := hr 0 (by decide)
  have v1 : rq 1 = r 1 := hr 1 (by decide)
  have v2 : rq 2 = r 2 := hr 2 (by decide)
  have v4 : rq 4 = r 4 := hr 4 (by decide)
  have v5 : rq 5 = r 5 := hr 5 (by decide)
  have v6 : rq 6 = r 6 := hr 6 (by decide)
  have g0 : zq_ev rq (0, [(0, 1)]) = r 0 := zu_f1 v0
  have g1 : zq_ev rq (0, [(1, 1)]) = r 1 := zu_f1 v1
  have g2 : zq_ev rq (0, [(2, 1)]) = r 2 := zu_f1 v2
  have g3 : zq_ev rq (0, [(5, 1)]) = r 5 := zu_f1 v5
  have g4 : zq_ev rq (0, [(4, 1)]) = r 4 := zu_f1 v4
  have g5 : zq_ev rq (0, [(6, 1)]) = r 6 := zu_f1 v6
  exact ⟨_, List.mem_cons_self .., rq, hr, zq_MeS_mk rfl hT (zq_all_nil) zq_fan (zq_fan) rfl (zu_fac ((x_RT1 _ _ _).mpr (by show zn_RT 6 (zq_ev rq (0, [(0, 1)])) (zq_ev rq (0, [(1, 1)])) (zq_ev rq (0, [(2, 1)])) (zq_ev rq (0, [(5, 1)])) (zq_ev rq (0, [(4, 1)])) (zq_ev rq (0, [(6, 1)])) P h; simp only [g0, g1, g2, g3, g4, g5]; exact t1)) zq_fan)⟩
noncomputable def zn_RQ : zq_S × List zq_S := (([], [], [(0, [(1, 1), (7, -1)]), (0, [(1, -1), (7, 1)]), (0, [(2, 1), (8, -1)]), (0, [(2, -1), (8, 1)]), (0, [(3, 1), (9, -1)]), (0, [(3, -1), (9, 1)]), (0, [(1, 1), (12, -1)]), (0, [(1, -1), (12, 1)]), (0, [(1, 1), (14, -1)]), (0, [(1, -1), (14, 1)]), (0, [(13, 1), (15, -1)]), (0, [(13, -1), (15, 1)])], [], [], [], [(154, [(0, [(0, 1)]), (0, [(1, 1)]), (0, [(2, 1)]), (0, [(3, 1)]), (0, [(4, 1)]), (0, [(5, 1)])]), (155, [(0, [(6, 1)]), (0, [(7, 1)]), (0, [(8, 1)]), (0, [(9, 1)]), (0, [(10, 1)]), (0, [(11, 1)])]), (21, [(0, [(0, 1)]), (0, [(12, 1)]), (0, [(13, 1)])]), (22, [(0, [(6, 1)]), (0, [(14, 1)]), (0, [(15, 1)])])], 16), [([], [], [(0, [(4, 1), (10, -1)]), (0, [(4, -1), (10, 1)]), (0, [(5, 1), (11, -1)]), (0, [(5, -1), (11, 1)])], [], [], [], [], 16)])
theorem zn_RQ_l {P : zq_Ty} {h : zq_H} {b n d S c T a m e R f U n3 g n4 k : Int} (a1 : 0 ≤ n - m) (a2 : 0 ≤ -n + m) (a3 : 0 ≤ d - e) (a4 : 0 ≤ -d + e) (a5 : 0 ≤ S - R) (a6 : 0 ≤ -S + R) (a7 : 0 ≤ n - n3) (a8 : 0 ≤ -n + n3) (a9 : 0 ≤ n - n4) (a10 : 0 ≤ -n + n4) (a11 : 0 ≤ g - k) (a12 : 0 ≤ -g + k) (k1 : zn_RT 95 b n d S c T P h) (k2 : zn_RT 6 a m e R f U P h) (k3 : zn_Tc 95 b n3 g P h) (k4 : zn_Tc 6 a n4 k P h) : (0 ≤ c - f ∧ 0 ≤ -c + f ∧ 0 ≤ T - U ∧ 0 ≤ -T + U) := by
  obtain ⟨x1, x2, x3, x4, x5, x6⟩ := k1
  obtain ⟨y1, y2, y3, y4, y5, y6⟩ := k2
  have u3 : g = zt_cd (h b.toNat) n3.toNat := k3.2.2.2.2
  have u4 : k = zt_cd (h a.toNat) n4.toNat := k4.2.2.2.2
  have e1 : m = n := by omega
  have e2 : e = d := by omega
  have e3 : R = S := by omega
  have e4 : n3 = n := by omega
  have e5 : n4 = n := by omega
  rw [e4] at u3
  rw [e5] at u4
  rw [e1, e2] at y5
  rw [e1, e2, e3] at y6
  have hj := zt_cd_inj (n := n.toNat) (f := h b.toNat) (g := h a.toNat) (by rw [← u3, ← u4]; omega)
  have f1 := zt_rc_cong (f := h a.toNat) (g := h b.toNat) (n := n) (d := d) (fun j p q => hj j p (by omega)) 200
  have f2 := zn_rS_cong (f := h a.toNat) (g := h b.toNat) (n := n) (d := d) (S := S) (fun j p q => hj j p (by omega)) 200
  refine ⟨?_, ?_, ?_, ?_⟩ <;> omega
theorem zn_RQ_ok {w : zq_Wd} (x_RT0 : zj_is w 154 (fun q => zn_RT 95 (q 0) (q 1) (q 2) (q 3) (q 4) (q 5))) (x_RT1 : zj_is w 155 (fun q => zn_RT 6 (q 0) (q 1) (q 2) (q 3) (q 4) (q 5))) (x_Tc : zj_is w 21 (fun q => zn_Tc 95 (q 0) (q 1) (q 2))) (x_Tr : zj_is w 22 (fun q => zn_Tc 6 (q 0) (q 1) (q 2))) : zq_okG1 w zn_RQ := by
  refine ⟨rfl, rfl, zu_fac ⟨rfl, by decide⟩ zq_fan, ?_⟩
  intro r P h H hM
  have q0 : zq_ev r (0, [(1, 1), (7, -1)]) = r 1 - r 7 := by simp only [zq_ev, zq_ts] <;> omega
  have q1 : zq_ev r (0, [(1, -1), (7, 1)]) = -r 1 + r 7 := by simp only [zq_ev, zq_ts] <;> omega
  have q2 : zq_ev r (0, [(2, 1), (8, -1)]) = r 2 - r 8 := by simp only [zq_ev, zq_ts] <;> omega
  have q3 : zq_ev r (0, [(2, -1), (8, 1)]) = -r 2 + r 8 := by simp only [zq_ev, zq_ts] <;> omega
  have q4 : zq_ev r (0, [(3, 1), (9, -1)]) = r 3 - r 9 := by simp only [zq_ev, zq_ts] <;> omega
  have q5 : zq_ev r (0, [(3, -1), (9, 1)]) = -r 3 + r 9 := by simp only [zq_ev, zq_ts] <;> omega
  have q6 : zq_ev r (0, [(1, 1), (12, -1)]) = r 1 - r 12 := by simp only [zq_ev, zq_ts] <;> omega
  have q7 : zq_ev r (0, [(1, -1), (12, 1)]) = -r 1 + r 12 := by simp only [zq_ev, zq_ts] <;> omega
  have q8 : zq_ev r (0, [(1, 1), (14, -1)]) = r 1 - r 14 := by simp only [zq_ev, zq_ts] <;> omega
  have q9 : zq_ev r (0, [(1, -1), (14, 1)]) = -r 1 + r 14 := by simp only [zq_ev, zq_ts] <;> omega
  have q10 : zq_ev r (0, [(13, 1), (15, -1)]) = r 13 - r 15 := by simp only [zq_ev, zq_ts] <;> omega
  have q11 : zq_ev r (0, [(13, -1), (15, 1)]) = -r 13 + r 15 := by simp only [zq_ev, zq_ts] <;> omega
  have q12 : zq_ev r (0, [(0, 1)]) = r 0 := zu_e1 _ _
  have q13 : zq_ev r (0, [(1, 1)]) = r 1 := zu_e1 _ _
  have q14 : zq_ev r (0, [(2, 1)]) = r 2 := zu_e1 _ _
  have q15 : zq_ev r (0, [(3, 1)]) = r 3 := zu_e1 _ _
  have q16 : zq_ev r (0, [(4, 1)]) = r 4 := zu_e1 _ _
  have q17 : zq_ev r (0, [(5, 1)]) = r 5 := zu_e1 _ _
  have q18 : zq_ev r (0, [(6, 1)]) = r 6 := zu_e1 _ _
  have q19 : zq_ev r (0, [(7, 1)]) = r 7 := zu_e1 _ _
  have q20 : zq_ev r (0, [(8, 1)]) = r 8 := zu_e1 _ _
  have q21 : zq_ev r (0, [(9, 1)]) = r 9 := zu_e1 _ _
  have q22 : zq_ev r (0, [(10, 1)]) = r 10 := zu_e1 _ _
  have q23 : zq_ev r (0, [(11, 1)]) = r 11 := zu_e1 _ _
  have q24 : zq_ev r (0, [(12, 1)]) = r 12 := zu_e1 _ _
  have q25 : zq_ev r (0, [(13, 1)]) = r 13 := zu_e1 _ _
  have q26 : zq_ev r (0, [(14, 1)]) = r 14 := zu_e1 _ _
  have q27 : zq_ev r (0, [(15, 1)]) = r 15 := zu_e1 _ _
  obtain ⟨hT, hC, hF, hS, -, hK⟩ := hM
  have c := hC.1
  have a1 := zq_all_1 c
  rw [q0] at a1
  have c := zq_all_t c
  have a2 := zq_all_1 c
  rw [q1] at a2
  have c := zq_all_t c
  have a3 := zq_all_1 c
  rw [q2] at a3
  have c := zq_all_t c
  have a4 := zq_all_1 c
  rw [q3] at a4
  have c := zq_all_t c
  have a5 := zq_all_1 c
  rw [q4] at a5
  have c := zq_all_t c
  have a6 := zq_all_1 c
  rw [q5] at a6
  have c := zq_all_t c
  have a7 := zq_all_1 c
  rw [q6] at a7
  have c := zq_all_t c
  have a8 := zq_all_1 c
  rw [q7] at a8
  have c := zq_all_t c
  have a9 := zq_all_1 c
  rw [q8] at a9
  have c := zq_all_t c
  have a10 := zq_all_1 c
  rw [q9] at a10
  have c := zq_all_t c
  have a11 := zq_all_1 c
  rw [q10] at a11
  have c := zq_all_t c
  have a12 := zq_all_1 c
  rw [q11] at a12
  have k1 := zj_use x_RT0 (hK)
  have k1 : zn_RT 95 (zq_ev r (0, [(0, 1)])) (zq_ev r (0, [(1, 1)])) (zq_ev r (0, [(2, 1)])) (zq_ev r (0, [(3, 1)])) (zq_ev r (0, [(4, 1)])) (zq_ev r (0, [(5, 1)])) P h := k1
  simp only [q12, q13, q14, q15, q16, q17] at k1
  have k2 := zj_use x_RT1 (zq_okX_t (hK))
  have k2 : zn_RT 6 (zq_ev r (0, [(6, 1)])) (zq_ev r (0, [(7, 1)])) (zq_ev r (0, [(8, 1)])) (zq_ev r (0, [(9, 1)])) (zq_ev r (0, [(10, 1)])) (zq_ev r (0, [(11, 1)])) P h := k2
  simp only [q18, q19, q20, q21, q22, q23] at k2
  have k3 := zj_use x_Tc (zq_okX_t (zq_okX_t (hK)))
  have k3 : zn_Tc 95 (zq_ev r (0, [(0, 1)])) (zq_ev r (0, [(12, 1)])) (zq_ev r (0, [(13, 1)])) P h := k3
  simp only [q12, q24, q25] at k3
  have k4 := zj_use x_Tr (zq_okX_t (zq_okX_t (zq_okX_t (hK))))
  have k4 : zn_Tc 6 (zq_ev r (0, [(6, 1)])) (zq_ev r (0, [(14, 1)])) (zq_ev r (0, [(15, 1)])) P h := k4
  simp only [q18, q26, q27] at k4
  obtain ⟨c1, c2, c3, c4⟩ := zn_RQ_l (P := P) (h := h) (b := r 0) (n := r 1) (d := r 2) (S := r 3) (c := r 4) (T := r 5) (a := r 6) (m := r 7) (e := r 8) (R := r 9) (f := r 10) (U := r 11) (n3 := r 12) (g := r 13) (n4 := r 14) (k := r 15) a1 a2 a3 a4 a5 a6 a7 a8 a9 a10 a11 a12 k1 k2 k3 k4
  obtain ⟨rq, hr⟩ : ∃ rq : Nat → Int, (∀ i, i < 16 → rq i = r i) := ⟨r, fun i hi => rfl⟩
  have v4 : rq 4 = r 4 := hr 4 (by decide)
  have v5 : rq 5 = r 5 := hr 5 (by decide)
  have v10 : rq 10 = r 10 := hr 10 (by decide)
  have v11 : rq 11 = r 11 := hr 11 (by decide)
  have g0 : zq_ev rq (0, [(5, -1), (11, 1)]) = -r 5 + r 11 := by simp only [zq_ev, zq_ts, v4, v5, v10, v11] <;> omega
  have g1 : zq_ev rq (0, [(5, 1), (11, -1)]) = r 5 - r 11 := by simp only [zq_ev, zq_ts, v4, v5, v10, v11] <;> omega
  have g2 : zq_ev rq (0, [(4, -1), (10, 1)]) = -r 4 + r 10 := by simp only [zq_ev, zq_ts, v4, v5, v10, v11] <;> omega
  have g3 : zq_ev rq (0, [(4, 1), (10, -1)]) = r 4 - r 10 := by simp only [zq_ev, zq_ts, v4, v5, v10, v11] <;> omega
  exact ⟨_, List.mem_cons_self .., rq, hr, zq_MeS_mk rfl hT (zq_all_cons (by rw [g3]; exact c1) (zq_all_cons (by rw [g2]; exact c2) (zq_all_cons (by rw [g1]; exact c3) (zq_all_cons (by rw [g0]; exact c4) (zq_all_nil))))) zq_fan (zq_fan) rfl zq_fan⟩
