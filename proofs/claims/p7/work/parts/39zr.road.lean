/-! ROADS: facts -/
theorem zn_rd_0 {f : Int → Int} (h0 : f 0 = 0) (h1 : f 1 = 0) (h2 : f 2 = 0) (h3 : f 3 = 0) : zn_rd f 170141183500083312998042844551658340352 := by
  have d : ∀ i, i < 4 → zn_dg 170141183500083312998042844551658340352 ((i : Nat) : Int) = 0 := by decide +kernel
  have e : ∀ i : Int, 0 ≤ i → i < 4 → zn_dg 170141183500083312998042844551658340352 i = 0 := fun i x y => by
    have := d i.toNat (by omega)
    rw [Int.toNat_of_nonneg x] at this; exact this
  refine ⟨fun i x y => by rw [e i x y]; omega, fun i x y => ?_⟩
  rw [e i x y]
  rcases zn_c4 x (by omega) with z | z | z | z
  · rw [z]; exact h0
  · rw [z]; exact h1
  · rw [z]; exact h2
  · rw [z]; exact h3
noncomputable def zn_A0_0 : zq_S × List zq_S := (([], [], [(0, [(0, 1)])], [((0, [(0, 1)]), 40)], [((0, [(0, 1)]), (0, []), (0, [])), ((0, [(0, 1)]), (1, []), (0, [])), ((0, [(0, 1)]), (2, []), (0, [])), ((0, [(0, 1)]), (3, []), (0, []))], [], [], 1), [([], [], [], [], [], [], [(190, [(0, [(0, 1)]), (170141183500083312998042844551658340352, [])]), (198, [(170141183500083312998042844551658340352, [])])], 1)])
theorem zn_A0_0_l {P : zq_Ty} {h : zq_H} {a : Int} (a1 : 0 ≤ a) (b1 : 0 ≤ a → P (a).toNat = some 40) (s1 : 0 ≤ a ∧ P (a).toNat ≠ none ∧ h (a).toNat 0 = 0) (s2 : 0 ≤ a ∧ P (a).toNat ≠ none ∧ h (a).toNat 1 = 0) (s3 : 0 ≤ a ∧ P (a).toNat ≠ none ∧ h (a).toNat 2 = 0) (s4 : 0 ≤ a ∧ P (a).toNat ≠ none ∧ h (a).toNat 3 = 0) : (zn_RA 35 a 170141183500083312998042844551658340352 P h ∧ zn_SY 170141183500083312998042844551658340352 P h) := by
  refine ⟨⟨⟨a1, b1 a1⟩, zn_rd_0 s1.2.2 s2.2.2 s3.2.2 s4.2.2⟩, ?_⟩
  have d : ∀ i, i < 4 → zn_dg 170141183500083312998042844551658340352 ((i : Nat) : Int) = 0 := by decide +kernel
  have e : ∀ i : Int, 0 ≤ i → i < 4 → zn_dg 170141183500083312998042844551658340352 i = 0 := fun i x y => by
    have := d i.toNat (by omega)
    rw [Int.toNat_of_nonneg x] at this; exact this
  exact ⟨fun i x y => by rw [e i x y]; omega, fun i j x y p q => by
    rw [e i x y, e j p q]
    unfold zn_bt
    rw [Int.zero_ediv, Int.zero_ediv]⟩
theorem zn_A0_0_ok {w : zq_Wd} (x_RA0 : zj_is w 190 (fun q => zn_RA 35 (q 0) (q 1))) (x_SY : zj_is w 198 (fun q => zn_SY (q 0))) : zq_okG1 w zn_A0_0 := by
  refine ⟨rfl, rfl, zu_fac ⟨rfl, by decide⟩ zq_fan, ?_⟩
  intro r P h H hM
  have q0 : zq_ev r (0, [(0, 1)]) = r 0 := zu_e1 _ _
  have q1 : zq_ev r (0, []) = 0 := zu_e0 _ _
  have q2 : zq_ev r (1, []) = 1 := zu_e0 _ _
  have q3 : zq_ev r (2, []) = 2 := zu_e0 _ _
  have q4 : zq_ev r (3, []) = 3 := zu_e0 _ _
  obtain ⟨hT, hC, hF, hS, -, hK⟩ := hM
  have c := hC.1
  have a1 := zq_all_1 c
  rw [q0] at a1
  have b1 : 0 ≤ r 0 → P (r 0).toNat = some 40 := fun z => by
    have z1 : 0 ≤ zq_ev r (0, [(0, 1)]) := by rw [q0]; exact z
    have z2 := zq_okF_1 (hF) z1
    simp only [q0] at z2
    exact z2
  have s1 := zq_okS_1 (hS)
  simp only [q0, q1] at s1
  have s2 := zq_okS_1 (zq_okS_t (hS))
  simp only [q0, q1, q2] at s2
  have s3 := zq_okS_1 (zq_okS_t (zq_okS_t (hS)))
  simp only [q0, q1, q3] at s3
  have s4 := zq_okS_1 (zq_okS_t (zq_okS_t (zq_okS_t (hS))))
  simp only [q0, q1, q4] at s4
  obtain ⟨t1, t2⟩ := zn_A0_0_l (P := P) (h := h) (a := r 0) a1 b1 s1 s2 s3 s4
  obtain ⟨r', hr⟩ : ∃ r' : Nat → Int, (∀ i, i < 1 → r' i = r i) := ⟨r, fun i hi => rfl⟩
  have v0 : r' 0 = r 0 := hr 0 (by decide)
  have g0 : zq_ev r' (170141183500083312998042844551658340352, []) = 170141183500083312998042844551658340352 := zu_e0 _ _
  have g1 : zq_ev r' (0, [(0, 1)]) = r 0 := zu_f1 v0
  exact ⟨_, List.mem_cons_self .., r', hr, zq_MeS_mk rfl hT (zq_all_nil) zq_fan (zq_fan) rfl (zu_fac ((x_RA0 _ _ _).mpr (by show zn_RA 35 (zq_ev r' (0, [(0, 1)])) (zq_ev r' (170141183500083312998042844551658340352, [])) P h; simp only [g0, g1]; exact t1)) (zu_fac ((x_SY _ _ _).mpr (by show zn_SY (zq_ev r' (170141183500083312998042844551658340352, [])) P h; simp only [g0]; exact t2)) zq_fan))⟩
noncomputable def zn_A0_2 : zq_S × List zq_S := (([], [], [(0, [(0, 1)])], [((0, [(0, 1)]), 70)], [((0, [(0, 1)]), (0, []), (0, [])), ((0, [(0, 1)]), (1, []), (0, [])), ((0, [(0, 1)]), (2, []), (0, [])), ((0, [(0, 1)]), (3, []), (0, []))], [], [], 1), [([], [], [], [], [], [], [(192, [(0, [(0, 1)]), (170141183500083312998042844551658340352, [])]), (198, [(170141183500083312998042844551658340352, [])])], 1)])
theorem zn_A0_2_l {P : zq_Ty} {h : zq_H} {a : Int} (a1 : 0 ≤ a) (b1 : 0 ≤ a → P (a).toNat = some 70) (s1 : 0 ≤ a ∧ P (a).toNat ≠ none ∧ h (a).toNat 0 = 0) (s2 : 0 ≤ a ∧ P (a).toNat ≠ none ∧ h (a).toNat 1 = 0) (s3 : 0 ≤ a ∧ P (a).toNat ≠ none ∧ h (a).toNat 2 = 0) (s4 : 0 ≤ a ∧ P (a).toNat ≠ none ∧ h (a).toNat 3 = 0) : (zn_RA 65 a 170141183500083312998042844551658340352 P h ∧ zn_SY 170141183500083312998042844551658340352 P h) := by
  refine ⟨⟨⟨a1, b1 a1⟩, zn_rd_0 s1.2.2 s2.2.2 s3.2.2 s4.2.2⟩, ?_⟩
  have d : ∀ i, i < 4 → zn_dg 170141183500083312998042844551658340352 ((i : Nat) : Int) = 0 := by decide +kernel
  have e : ∀ i : Int, 0 ≤ i → i < 4 → zn_dg 170141183500083312998042844551658340352 i = 0 := fun i x y => by
    have := d i.toNat (by omega)
    rw [Int.toNat_of_nonneg x] at this; exact this
  exact ⟨fun i x y => by rw [e i x y]; omega, fun i j x y p q => by
    rw [e i x y, e j p q]
    unfold zn_bt
    rw [Int.zero_ediv, Int.zero_ediv]⟩
theorem zn_A0_2_ok {w : zq_Wd} (x_RA2 : zj_is w 192 (fun q => zn_RA 65 (q 0) (q 1))) (x_SY : zj_is w 198 (fun q => zn_SY (q 0))) : zq_okG1 w zn_A0_2 := by
  refine ⟨rfl, rfl, zu_fac ⟨rfl, by decide⟩ zq_fan, ?_⟩
  intro r P h H hM
  have q0 : zq_ev r (0, [(0, 1)]) = r 0 := zu_e1 _ _
  have q1 : zq_ev r (0, []) = 0 := zu_e0 _ _
  have q2 : zq_ev r (1, []) = 1 := zu_e0 _ _
  have q3 : zq_ev r (2, []) = 2 := zu_e0 _ _
  have q4 : zq_ev r (3, []) = 3 := zu_e0 _ _
  obtain ⟨hT, hC, hF, hS, -, hK⟩ := hM
  have c := hC.1
  have a1 := zq_all_1 c
  rw [q0] at a1
  have b1 : 0 ≤ r 0 → P (r 0).toNat = some 70 := fun z => by
    have z1 : 0 ≤ zq_ev r (0, [(0, 1)]) := by rw [q0]; exact z
    have z2 := zq_okF_1 (hF) z1
    simp only [q0] at z2
    exact z2
  have s1 := zq_okS_1 (hS)
  simp only [q0, q1] at s1
  have s2 := zq_okS_1 (zq_okS_t (hS))
  simp only [q0, q1, q2] at s2
  have s3 := zq_okS_1 (zq_okS_t (zq_okS_t (hS)))
  simp only [q0, q1, q3] at s3
  have s4 := zq_okS_1 (zq_okS_t (zq_okS_t (zq_okS_t (hS))))
  simp only [q0, q1, q4] at s4
  obtain ⟨t1, t2⟩ := zn_A0_2_l (P := P) (h := h) (a := r 0) a1 b1 s1 s2 s3 s4
  obtain ⟨r', hr⟩ : ∃ r' : Nat → Int, (∀ i, i < 1 → r' i = r i) := ⟨r, fun i hi => rfl⟩
  have v0 : r' 0 = r 0 := hr 0 (by decide)
  have g0 : zq_ev r' (170141183500083312998042844551658340352, []) = 170141183500083312998042844551658340352 := zu_e0 _ _
  have g1 : zq_ev r' (0, [(0, 1)]) = r 0 := zu_f1 v0
  exact ⟨_, List.mem_cons_self .., r', hr, zq_MeS_mk rfl hT (zq_all_nil) zq_fan (zq_fan) rfl (zu_fac ((x_RA2 _ _ _).mpr (by show zn_RA 65 (zq_ev r' (0, [(0, 1)])) (zq_ev r' (170141183500083312998042844551658340352, [])) P h; simp only [g0, g1]; exact t1)) (zu_fac ((x_SY _ _ _).mpr (by show zn_SY (zq_ev r' (170141183500083312998042844551658340352, [])) P h; simp only [g0]; exact t2)) zq_fan))⟩
noncomputable def zn_A0_3 : zq_S × List zq_S := (([], [], [(0, [(0, 1)])], [((0, [(0, 1)]), 85)], [((0, [(0, 1)]), (0, []), (0, [])), ((0, [(0, 1)]), (1, []), (0, [])), ((0, [(0, 1)]), (2, []), (0, [])), ((0, [(0, 1)]), (3, []), (0, []))], [], [], 1), [([], [], [], [], [], [], [(193, [(0, [(0, 1)]), (170141183500083312998042844551658340352, [])]), (198, [(170141183500083312998042844551658340352, [])])], 1)])
theorem zn_A0_3_l {P : zq_Ty} {h : zq_H} {a : Int} (a1 : 0 ≤ a) (b1 : 0 ≤ a → P (a).toNat = some 85) (s1 : 0 ≤ a ∧ P (a).toNat ≠ none ∧ h (a).toNat 0 = 0) (s2 : 0 ≤ a ∧ P (a).toNat ≠ none ∧ h (a).toNat 1 = 0) (s3 : 0 ≤ a ∧ P (a).toNat ≠ none ∧ h (a).toNat 2 = 0) (s4 : 0 ≤ a ∧ P (a).toNat ≠ none ∧ h (a).toNat 3 = 0) : (zn_RA 80 a 170141183500083312998042844551658340352 P h ∧ zn_SY 170141183500083312998042844551658340352 P h) := by
  refine ⟨⟨⟨a1, b1 a1⟩, zn_rd_0 s1.2.2 s2.2.2 s3.2.2 s4.2.2⟩, ?_⟩
  have d : ∀ i, i < 4 → zn_dg 170141183500083312998042844551658340352 ((i : Nat) : Int) = 0 := by decide +kernel
  have e : ∀ i : Int, 0 ≤ i → i < 4 → zn_dg 170141183500083312998042844551658340352 i = 0 := fun i x y => by
    have := d i.toNat (by omega)
    rw [Int.toNat_of_nonneg x] at this; exact this
  exact ⟨fun i x y => by rw [e i x y]; omega, fun i j x y p q => by
    rw [e i x y, e j p q]
    unfold zn_bt
    rw [Int.zero_ediv, Int.zero_ediv]⟩
theorem zn_A0_3_ok {w : zq_Wd} (x_RA3 : zj_is w 193 (fun q => zn_RA 80 (q 0) (q 1))) (x_SY : zj_is w 198 (fun q => zn_SY (q 0))) : zq_okG1 w zn_A0_3 := by
  refine ⟨rfl, rfl, zu_fac ⟨rfl, by decide⟩ zq_fan, ?_⟩
  intro r P h H hM
  have q0 : zq_ev r (0, [(0, 1)]) = r 0 := zu_e1 _ _
  have q1 : zq_ev r (0, []) = 0 := zu_e0 _ _
  have q2 : zq_ev r (1, []) = 1 := zu_e0 _ _
  have q3 : zq_ev r (2, []) = 2 := zu_e0 _ _
  have q4 : zq_ev r (3, []) = 3 := zu_e0 _ _
  obtain ⟨hT, hC, hF, hS, -, hK⟩ := hM
  have c := hC.1
  have a1 := zq_all_1 c
  rw [q0] at a1
  have b1 : 0 ≤ r 0 → P (r 0).toNat = some 85 := fun z => by
    have z1 : 0 ≤ zq_ev r (0, [(0, 1)]) := by rw [q0]; exact z
    have z2 := zq_okF_1 (hF) z1
    simp only [q0] at z2
    exact z2
  have s1 := zq_okS_1 (hS)
  simp only [q0, q1] at s1
  have s2 := zq_okS_1 (zq_okS_t (hS))
  simp only [q0, q1, q2] at s2
  have s3 := zq_okS_1 (zq_okS_t (zq_okS_t (hS)))
  simp only [q0, q1, q3] at s3
  have s4 := zq_okS_1 (zq_okS_t (zq_okS_t (zq_okS_t (hS))))
  simp only [q0, q1, q4] at s4
  obtain ⟨t1, t2⟩ := zn_A0_3_l (P := P) (h := h) (a := r 0) a1 b1 s1 s2 s3 s4
  obtain ⟨r', hr⟩ : ∃ r' : Nat → Int, (∀ i, i < 1 → r' i = r i) := ⟨r, fun i hi => rfl⟩
  have v0 : r' 0 = r 0 := hr 0 (by decide)
  have g0 : zq_ev r' (170141183500083312998042844551658340352, []) = 170141183500083312998042844551658340352 := zu_e0 _ _
  have g1 : zq_ev r' (0, [(0, 1)]) = r 0 := zu_f1 v0
  exact ⟨_, List.mem_cons_self .., r', hr, zq_MeS_mk rfl hT (zq_all_nil) zq_fan (zq_fan) rfl (zu_fac ((x_RA3 _ _ _).mpr (by show zn_RA 80 (zq_ev r' (0, [(0, 1)])) (zq_ev r' (170141183500083312998042844551658340352, [])) P h; simp only [g0, g1]; exact t1)) (zu_fac ((x_SY _ _ _).mpr (by show zn_SY (zq_ev r' (170141183500083312998042844551658340352, [])) P h; simp only [g0]; exact t2)) zq_fan))⟩
noncomputable def zn_B0_0 : zq_S × List zq_S := (([], [], [(0, [(0, 1)])], [((0, [(0, 1)]), 1)], [((0, [(0, 1)]), (17, []), (0, [])), ((0, [(0, 1)]), (18, []), (0, [])), ((0, [(0, 1)]), (19, []), (0, [])), ((0, [(0, 1)]), (20, []), (0, []))], [], [], 1), [([], [], [], [], [], [], [(195, [(0, [(0, 1)]), (170141183500083312998042844551658340352, [])])], 1)])
theorem zn_B0_0_l {P : zq_Ty} {h : zq_H} {a : Int} (a1 : 0 ≤ a) (b1 : 0 ≤ a → P (a).toNat = some 1) (s1 : 0 ≤ a ∧ P (a).toNat ≠ none ∧ h (a).toNat 17 = 0) (s2 : 0 ≤ a ∧ P (a).toNat ≠ none ∧ h (a).toNat 18 = 0) (s3 : 0 ≤ a ∧ P (a).toNat ≠ none ∧ h (a).toNat 19 = 0) (s4 : 0 ≤ a ∧ P (a).toNat ≠ none ∧ h (a).toNat 20 = 0) : (zn_KR 1 0 a 170141183500083312998042844551658340352 P h) := by
  exact ⟨⟨a1, b1 a1⟩, zn_rd_0 s1.2.2 s2.2.2 s3.2.2 s4.2.2⟩
theorem zn_B0_0_ok {w : zq_Wd} (x_KR0 : zj_is w 195 (fun q => zn_KR 1 0 (q 0) (q 1))) : zq_okG1 w zn_B0_0 := by
  refine ⟨rfl, rfl, zu_fac ⟨rfl, by decide⟩ zq_fan, ?_⟩
  intro r P h H hM
  have q0 : zq_ev r (0, [(0, 1)]) = r 0 := zu_e1 _ _
  have q1 : zq_ev r (17, []) = 17 := zu_e0 _ _
  have q2 : zq_ev r (0, []) = 0 := zu_e0 _ _
  have q3 : zq_ev r (18, []) = 18 := zu_e0 _ _
  have q4 : zq_ev r (19, []) = 19 := zu_e0 _ _
  have q5 : zq_ev r (20, []) = 20 := zu_e0 _ _
  obtain ⟨hT, hC, hF, hS, -, hK⟩ := hM
  have c := hC.1
  have a1 := zq_all_1 c
  rw [q0] at a1
  have b1 : 0 ≤ r 0 → P (r 0).toNat = some 1 := fun z => by
    have z1 : 0 ≤ zq_ev r (0, [(0, 1)]) := by rw [q0]; exact z
    have z2 := zq_okF_1 (hF) z1
    simp only [q0] at z2
    exact z2
  have s1 := zq_okS_1 (hS)
  simp only [q0, q1, q2] at s1
  have s2 := zq_okS_1 (zq_okS_t (hS))
  simp only [q0, q2, q3] at s2
  have s3 := zq_okS_1 (zq_okS_t (zq_okS_t (hS)))
  simp only [q0, q2, q4] at s3
  have s4 := zq_okS_1 (zq_okS_t (zq_okS_t (zq_okS_t (hS))))
  simp only [q0, q2, q5] at s4
  obtain t1 := zn_B0_0_l (P := P) (h := h) (a := r 0) a1 b1 s1 s2 s3 s4
  obtain ⟨r', hr⟩ : ∃ r' : Nat → Int, (∀ i, i < 1 → r' i = r i) := ⟨r, fun i hi => rfl⟩
  have v0 : r' 0 = r 0 := hr 0 (by decide)
  have g0 : zq_ev r' (0, [(0, 1)]) = r 0 := zu_f1 v0
  have g1 : zq_ev r' (170141183500083312998042844551658340352, []) = 170141183500083312998042844551658340352 := zu_e0 _ _
  exact ⟨_, List.mem_cons_self .., r', hr, zq_MeS_mk rfl hT (zq_all_nil) zq_fan (zq_fan) rfl (zu_fac ((x_KR0 _ _ _).mpr (by show zn_KR 1 0 (zq_ev r' (0, [(0, 1)])) (zq_ev r' (170141183500083312998042844551658340352, [])) P h; simp only [g0, g1]; exact t1)) zq_fan)⟩
noncomputable def zn_B0_1 : zq_S × List zq_S := (([], [], [(0, [(0, 1)])], [((0, [(0, 1)]), 2)], [((0, [(0, 1)]), (17, []), (0, [])), ((0, [(0, 1)]), (18, []), (0, [])), ((0, [(0, 1)]), (19, []), (0, [])), ((0, [(0, 1)]), (20, []), (0, []))], [], [], 1), [([], [], [], [], [], [], [(196, [(0, [(0, 1)]), (170141183500083312998042844551658340352, [])])], 1)])
theorem zn_B0_1_l {P : zq_Ty} {h : zq_H} {a : Int} (a1 : 0 ≤ a) (b1 : 0 ≤ a → P (a).toNat = some 2) (s1 : 0 ≤ a ∧ P (a).toNat ≠ none ∧ h (a).toNat 17 = 0) (s2 : 0 ≤ a ∧ P (a).toNat ≠ none ∧ h (a).toNat 18 = 0) (s3 : 0 ≤ a ∧ P (a).toNat ≠ none ∧ h (a).toNat 19 = 0) (s4 : 0 ≤ a ∧ P (a).toNat ≠ none ∧ h (a).toNat 20 = 0) : (zn_KR 2 0 a 170141183500083312998042844551658340352 P h) := by
  exact ⟨⟨a1, b1 a1⟩, zn_rd_0 s1.2.2 s2.2.2 s3.2.2 s4.2.2⟩
theorem zn_B0_1_ok {w : zq_Wd} (x_KR1 : zj_is w 196 (fun q => zn_KR 2 0 (q 0) (q 1))) : zq_okG1 w zn_B0_1 := by
  refine ⟨rfl, rfl, zu_fac ⟨rfl, by decide⟩ zq_fan, ?_⟩
  intro r P h H hM
  have q0 : zq_ev r (0, [(0, 1)]) = r 0 := zu_e1 _ _
  have q1 : zq_ev r (17, []) = 17 := zu_e0 _ _
  have q2 : zq_ev r (0, []) = 0 := zu_e0 _ _
  have q3 : zq_ev r (18, []) = 18 := zu_e0 _ _
  have q4 : zq_ev r (19, []) = 19 := zu_e0 _ _
  have q5 : zq_ev r (20, []) = 20 := zu_e0 _ _
  obtain ⟨hT, hC, hF, hS, -, hK⟩ := hM
  have c := hC.1
  have a1 := zq_all_1 c
  rw [q0] at a1
  have b1 : 0 ≤ r 0 → P (r 0).toNat = some 2 := fun z => by
    have z1 : 0 ≤ zq_ev r (0, [(0, 1)]) := by rw [q0]; exact z
    have z2 := zq_okF_1 (hF) z1
    simp only [q0] at z2
    exact z2
  have s1 := zq_okS_1 (hS)
  simp only [q0, q1, q2] at s1
  have s2 := zq_okS_1 (zq_okS_t (hS))
  simp only [q0, q2, q3] at s2
  have s3 := zq_okS_1 (zq_okS_t (zq_okS_t (hS)))
  simp only [q0, q2, q4] at s3
  have s4 := zq_okS_1 (zq_okS_t (zq_okS_t (zq_okS_t (hS))))
  simp only [q0, q2, q5] at s4
  obtain t1 := zn_B0_1_l (P := P) (h := h) (a := r 0) a1 b1 s1 s2 s3 s4
  obtain ⟨r', hr⟩ : ∃ r' : Nat → Int, (∀ i, i < 1 → r' i = r i) := ⟨r, fun i hi => rfl⟩
  have v0 : r' 0 = r 0 := hr 0 (by decide)
  have g0 : zq_ev r' (0, [(0, 1)]) = r 0 := zu_f1 v0
  have g1 : zq_ev r' (170141183500083312998042844551658340352, []) = 170141183500083312998042844551658340352 := zu_e0 _ _
  exact ⟨_, List.mem_cons_self .., r', hr, zq_MeS_mk rfl hT (zq_all_nil) zq_fan (zq_fan) rfl (zu_fac ((x_KR1 _ _ _).mpr (by show zn_KR 2 0 (zq_ev r' (0, [(0, 1)])) (zq_ev r' (170141183500083312998042844551658340352, [])) P h; simp only [g0, g1]; exact t1)) zq_fan)⟩
noncomputable def zn_B0_2 : zq_S × List zq_S := (([], [], [(0, [(0, 1)])], [((0, [(0, 1)]), 2)], [((0, [(0, 1)]), (5688, []), (0, [])), ((0, [(0, 1)]), (5689, []), (0, [])), ((0, [(0, 1)]), (5690, []), (0, [])), ((0, [(0, 1)]), (5691, []), (0, []))], [], [], 1), [([], [], [], [], [], [], [(197, [(0, [(0, 1)]), (170141183500083312998042844551658340352, [])])], 1)])
theorem zn_B0_2_l {P : zq_Ty} {h : zq_H} {a : Int} (a1 : 0 ≤ a) (b1 : 0 ≤ a → P (a).toNat = some 2) (s1 : 0 ≤ a ∧ P (a).toNat ≠ none ∧ h (a).toNat 5688 = 0) (s2 : 0 ≤ a ∧ P (a).toNat ≠ none ∧ h (a).toNat 5689 = 0) (s3 : 0 ≤ a ∧ P (a).toNat ≠ none ∧ h (a).toNat 5690 = 0) (s4 : 0 ≤ a ∧ P (a).toNat ≠ none ∧ h (a).toNat 5691 = 0) : (zn_KR 2 5671 a 170141183500083312998042844551658340352 P h) := by
  exact ⟨⟨a1, b1 a1⟩, zn_rd_0 s1.2.2 s2.2.2 s3.2.2 s4.2.2⟩
theorem zn_B0_2_ok {w : zq_Wd} (x_KR2 : zj_is w 197 (fun q => zn_KR 2 5671 (q 0) (q 1))) : zq_okG1 w zn_B0_2 := by
  refine ⟨rfl, rfl, zu_fac ⟨rfl, by decide⟩ zq_fan, ?_⟩
  intro r P h H hM
  have q0 : zq_ev r (0, [(0, 1)]) = r 0 := zu_e1 _ _
  have q1 : zq_ev r (5688, []) = 5688 := zu_e0 _ _
  have q2 : zq_ev r (0, []) = 0 := zu_e0 _ _
  have q3 : zq_ev r (5689, []) = 5689 := zu_e0 _ _
  have q4 : zq_ev r (5690, []) = 5690 := zu_e0 _ _
  have q5 : zq_ev r (5691, []) = 5691 := zu_e0 _ _
  obtain ⟨hT, hC, hF, hS, -, hK⟩ := hM
  have c := hC.1
  have a1 := zq_all_1 c
  rw [q0] at a1
  have b1 : 0 ≤ r 0 → P (r 0).toNat = some 2 := fun z => by
    have z1 : 0 ≤ zq_ev r (0, [(0, 1)]) := by rw [q0]; exact z
    have z2 := zq_okF_1 (hF) z1
    simp only [q0] at z2
    exact z2
  have s1 := zq_okS_1 (hS)
  simp only [q0, q1, q2] at s1
  have s2 := zq_okS_1 (zq_okS_t (hS))
  simp only [q0, q2, q3] at s2
  have s3 := zq_okS_1 (zq_okS_t (zq_okS_t (hS)))
  simp only [q0, q2, q4] at s3
  have s4 := zq_okS_1 (zq_okS_t (zq_okS_t (zq_okS_t (hS))))
  simp only [q0, q2, q5] at s4
  obtain t1 := zn_B0_2_l (P := P) (h := h) (a := r 0) a1 b1 s1 s2 s3 s4
  obtain ⟨r', hr⟩ : ∃ r' : Nat → Int, (∀ i, i < 1 → r' i = r i) := ⟨r, fun i hi => rfl⟩
  have v0 : r' 0 = r 0 := hr 0 (by decide)
  have g0 : zq_ev r' (0, [(0, 1)]) = r 0 := zu_f1 v0
  have g1 : zq_ev r' (170141183500083312998042844551658340352, []) = 170141183500083312998042844551658340352 := zu_e0 _ _
  exact ⟨_, List.mem_cons_self .., r', hr, zq_MeS_mk rfl hT (zq_all_nil) zq_fan (zq_fan) rfl (zu_fac ((x_KR2 _ _ _).mpr (by show zn_KR 2 5671 (zq_ev r' (0, [(0, 1)])) (zq_ev r' (170141183500083312998042844551658340352, [])) P h; simp only [g0, g1]; exact t1)) zq_fan)⟩
noncomputable def zn_rR : zq_S × List zq_S := (([], [], [(0, [(2, 1)]), (3, [(2, -1)])], [], [((0, [(0, 1)]), (0, [(2, 1)]), (0, [(3, 1)]))], [], [(190, [(0, [(0, 1)]), (0, [(1, 1)])])], 4), [([], [], [], [], [], [], [(134, [(0, [(1, 1)]), (0, [(2, 1)]), (0, [(3, 1)])])], 4)])
theorem zn_rR_l {P : zq_Ty} {h : zq_H} {a E i v : Int} (a1 : 0 ≤ i) (a2 : 0 ≤ -i + 3) (s1 : 0 ≤ a ∧ P (a).toNat ≠ none ∧ h (a).toNat i = v) (k1 : zn_RA 35 a E P h) : (zn_DG E i v P h) := by
  have e := k1.2.2 i a1 (by omega)
  show v = zn_dg E i
  rw [← e]; exact s1.2.2.symm
theorem zn_rR_ok {w : zq_Wd} (x_RA0 : zj_is w 190 (fun q => zn_RA 35 (q 0) (q 1))) (x_DG : zj_is w 134 (fun q => zn_DG (q 0) (q 1) (q 2))) : zq_okG1 w zn_rR := by
  refine ⟨rfl, rfl, zu_fac ⟨rfl, by decide⟩ zq_fan, ?_⟩
  intro r P h H hM
  have q0 : zq_ev r (0, [(2, 1)]) = r 2 := zu_e1 _ _
  have q1 : zq_ev r (3, [(2, -1)]) = -r 2 + 3 := zu_e5 _ _ _
  have q2 : zq_ev r (0, [(0, 1)]) = r 0 := zu_e1 _ _
  have q3 : zq_ev r (0, [(3, 1)]) = r 3 := zu_e1 _ _
  have q4 : zq_ev r (0, [(1, 1)]) = r 1 := zu_e1 _ _
  obtain ⟨hT, hC, hF, hS, -, hK⟩ := hM
  have c := hC.1
  have a1 := zq_all_1 c
  rw [q0] at a1
  have c := zq_all_t c
  have a2 := zq_all_1 c
  rw [q1] at a2
  have s1 := zq_okS_1 (hS)
  simp only [q0, q2, q3] at s1
  have k1 : zn_RA 35 (zq_ev r (0, [(0, 1)])) (zq_ev r (0, [(1, 1)])) P h := zj_use x_RA0 (hK)
  simp only [q2, q4] at k1
  obtain t1 := zn_rR_l (P := P) (h := h) (a := r 0) (E := r 1) (i := r 2) (v := r 3) a1 a2 s1 k1
  obtain ⟨r', hr⟩ : ∃ r' : Nat → Int, (∀ i, i < 4 → r' i = r i) := ⟨r, fun i hi => rfl⟩
  have v1 : r' 1 = r 1 := hr 1 (by decide)
  have v2 : r' 2 = r 2 := hr 2 (by decide)
  have v3 : r' 3 = r 3 := hr 3 (by decide)
  have g0 : zq_ev r' (0, [(1, 1)]) = r 1 := zu_f1 v1
  have g1 : zq_ev r' (0, [(2, 1)]) = r 2 := zu_f1 v2
  have g2 : zq_ev r' (0, [(3, 1)]) = r 3 := zu_f1 v3
  exact ⟨_, List.mem_cons_self .., r', hr, zq_MeS_mk rfl hT (zq_all_nil) zq_fan (zq_fan) rfl (zu_fac ((x_DG _ _ _).mpr (by show zn_DG (zq_ev r' (0, [(1, 1)])) (zq_ev r' (0, [(2, 1)])) (zq_ev r' (0, [(3, 1)])) P h; simp only [g0, g1, g2]; exact t1)) zq_fan)⟩
noncomputable def zn_rK : zq_S × List zq_S := (([], [], [(0, [(2, 1)]), (3, [(2, -1)])], [], [((0, [(0, 1)]), (17, [(2, 1)]), (0, [(3, 1)]))], [], [(195, [(0, [(0, 1)]), (0, [(1, 1)])])], 4), [([], [], [], [], [], [], [(134, [(0, [(1, 1)]), (0, [(2, 1)]), (0, [(3, 1)])])], 4)])
theorem zn_rK_l {P : zq_Ty} {h : zq_H} {a E i v : Int} (a1 : 0 ≤ i) (a2 : 0 ≤ -i + 3) (s1 : 0 ≤ a ∧ P (a).toNat ≠ none ∧ h (a).toNat (i + 17) = v) (k1 : zn_KR 1 0 a E P h) : (zn_DG E i v P h) := by
  have e : h a.toNat (0 + 17 + i) = zn_dg E i := k1.2.2 i a1 (by omega)
  show v = zn_dg E i
  rw [← e, show (0 : Int) + 17 + i = i + 17 by omega]; exact s1.2.2.symm
theorem zn_rK_ok {w : zq_Wd} (x_KR0 : zj_is w 195 (fun q => zn_KR 1 0 (q 0) (q 1))) (x_DG : zj_is w 134 (fun q => zn_DG (q 0) (q 1) (q 2))) : zq_okG1 w zn_rK := by
  refine ⟨rfl, rfl, zu_fac ⟨rfl, by decide⟩ zq_fan, ?_⟩
  intro r P h H hM
  have q0 : zq_ev r (0, [(2, 1)]) = r 2 := zu_e1 _ _
  have q1 : zq_ev r (3, [(2, -1)]) = -r 2 + 3 := zu_e5 _ _ _
  have q2 : zq_ev r (0, [(0, 1)]) = r 0 := zu_e1 _ _
  have q3 : zq_ev r (17, [(2, 1)]) = r 2 + 17 := zu_e2 _ _ _
  have q4 : zq_ev r (0, [(3, 1)]) = r 3 := zu_e1 _ _
  have q5 : zq_ev r (0, [(1, 1)]) = r 1 := zu_e1 _ _
  obtain ⟨hT, hC, hF, hS, -, hK⟩ := hM
  have c := hC.1
  have a1 := zq_all_1 c
  rw [q0] at a1
  have c := zq_all_t c
  have a2 := zq_all_1 c
  rw [q1] at a2
  have s1 := zq_okS_1 (hS)
  simp only [q2, q3, q4] at s1
  have k1 : zn_KR 1 0 (zq_ev r (0, [(0, 1)])) (zq_ev r (0, [(1, 1)])) P h := zj_use x_KR0 (hK)
  simp only [q2, q5] at k1
  obtain t1 := zn_rK_l (P := P) (h := h) (a := r 0) (E := r 1) (i := r 2) (v := r 3) a1 a2 s1 k1
  obtain ⟨r', hr⟩ : ∃ r' : Nat → Int, (∀ i, i < 4 → r' i = r i) := ⟨r, fun i hi => rfl⟩
  have v1 : r' 1 = r 1 := hr 1 (by decide)
  have v2 : r' 2 = r 2 := hr 2 (by decide)
  have v3 : r' 3 = r 3 := hr 3 (by decide)
  have g0 : zq_ev r' (0, [(1, 1)]) = r 1 := zu_f1 v1
  have g1 : zq_ev r' (0, [(2, 1)]) = r 2 := zu_f1 v2
  have g2 : zq_ev r' (0, [(3, 1)]) = r 3 := zu_f1 v3
  exact ⟨_, List.mem_cons_self .., r', hr, zq_MeS_mk rfl hT (zq_all_nil) zq_fan (zq_fan) rfl (zu_fac ((x_DG _ _ _).mpr (by show zn_DG (zq_ev r' (0, [(1, 1)])) (zq_ev r' (0, [(2, 1)])) (zq_ev r' (0, [(3, 1)])) P h; simp only [g0, g1, g2]; exact t1)) zq_fan)⟩
noncomputable def zn_fB : zq_S × List zq_S := (([], [], [], [], [], [], [(85, [(9, []), (0, [(0, 1)]), (0, [(1, 1)]), (0, [(2, 1)])]), (85, [(5, []), (0, [(2, 1)]), (1, []), (0, [(3, 1)])])], 4), [([], [], [], [], [], [], [(201, [(0, [(0, 1)]), (0, [(1, 1)]), (0, [(3, 1)])])], 4)])
theorem zn_fB_l {P : zq_Ty} {h : zq_H} {c k q b : Int} (k1 : zo_op 9 c k q P h) (k2 : zo_op 5 q 1 b P h) : (zn_BI c k b P h) := by
  exact zn_shr (show q = zq_fun 0 9 c k from k1) (show b = zq_fun 0 5 q 1 from k2)
theorem zn_fB_ok {w : zq_Wd} (x_OP : zj_is w 85 (fun q => zo_op (q 0) (q 1) (q 2) (q 3))) (x_BI : zj_is w 201 (fun q => zn_BI (q 0) (q 1) (q 2))) : zq_okG1 w zn_fB := by
  refine ⟨rfl, rfl, zu_fac ⟨rfl, by decide⟩ zq_fan, ?_⟩
  intro r P h H hM
  have q0 : zq_ev r (9, []) = 9 := zu_e0 _ _
  have q1 : zq_ev r (0, [(0, 1)]) = r 0 := zu_e1 _ _
  have q2 : zq_ev r (0, [(1, 1)]) = r 1 := zu_e1 _ _
  have q3 : zq_ev r (0, [(2, 1)]) = r 2 := zu_e1 _ _
  have q4 : zq_ev r (5, []) = 5 := zu_e0 _ _
  have q5 : zq_ev r (1, []) = 1 := zu_e0 _ _
  have q6 : zq_ev r (0, [(3, 1)]) = r 3 := zu_e1 _ _
  obtain ⟨hT, hC, hF, hS, -, hK⟩ := hM
  have c := hC.1
  have k1 : zo_op (zq_ev r (9, [])) (zq_ev r (0, [(0, 1)])) (zq_ev r (0, [(1, 1)])) (zq_ev r (0, [(2, 1)])) P h := zj_use x_OP (hK)
  simp only [q0, q1, q2, q3] at k1
  have k2 : zo_op (zq_ev r (5, [])) (zq_ev r (0, [(2, 1)])) (zq_ev r (1, [])) (zq_ev r (0, [(3, 1)])) P h := zj_use x_OP (zq_okX_t (hK))
  simp only [q3, q4, q5, q6] at k2
  obtain t1 := zn_fB_l (P := P) (h := h) (c := r 0) (k := r 1) (q := r 2) (b := r 3) k1 k2
  obtain ⟨r', hr⟩ : ∃ r' : Nat → Int, (∀ i, i < 4 → r' i = r i) := ⟨r, fun i hi => rfl⟩
  have v0 : r' 0 = r 0 := hr 0 (by decide)
  have v1 : r' 1 = r 1 := hr 1 (by decide)
  have v3 : r' 3 = r 3 := hr 3 (by decide)
  have g0 : zq_ev r' (0, [(0, 1)]) = r 0 := zu_f1 v0
  have g1 : zq_ev r' (0, [(1, 1)]) = r 1 := zu_f1 v1
  have g2 : zq_ev r' (0, [(3, 1)]) = r 3 := zu_f1 v3
  exact ⟨_, List.mem_cons_self .., r', hr, zq_MeS_mk rfl hT (zq_all_nil) zq_fan (zq_fan) rfl (zu_fac ((x_BI _ _ _).mpr (by show zn_BI (zq_ev r' (0, [(0, 1)])) (zq_ev r' (0, [(1, 1)])) (zq_ev r' (0, [(3, 1)])) P h; simp only [g0, g1, g2]; exact t1)) zq_fan)⟩
noncomputable def zn_fT : zq_S × List zq_S := (([], [], [], [], [], [], [(134, [(0, [(0, 1)]), (0, [(1, 1)]), (0, [(3, 1)])]), (201, [(0, [(3, 1)]), (0, [(2, 1)]), (0, [(4, 1)])])], 5), [([], [], [], [], [], [], [(202, [(0, [(0, 1)]), (0, [(1, 1)]), (0, [(2, 1)]), (0, [(4, 1)])])], 5)])
theorem zn_fT_l {P : zq_Ty} {h : zq_H} {E a b c v : Int} (k1 : zn_DG E a c P h) (k2 : zn_BI c b v P h) : (zn_BT E a b v P h) := by
  have k1 : c = zn_dg E a := k1
  have k2 : v = zn_bt c b := k2
  show v = zn_bt (zn_dg E a) b
  rw [← k1]; exact k2
theorem zn_fT_ok {w : zq_Wd} (x_DG : zj_is w 134 (fun q => zn_DG (q 0) (q 1) (q 2))) (x_BI : zj_is w 201 (fun q => zn_BI (q 0) (q 1) (q 2))) (x_BT : zj_is w 202 (fun q => zn_BT (q 0) (q 1) (q 2) (q 3))) : zq_okG1 w zn_fT := by
  refine ⟨rfl, rfl, zu_fac ⟨rfl, by decide⟩ zq_fan, ?_⟩
  intro r P h H hM
  have q0 : zq_ev r (0, [(0, 1)]) = r 0 := zu_e1 _ _
  have q1 : zq_ev r (0, [(1, 1)]) = r 1 := zu_e1 _ _
  have q2 : zq_ev r (0, [(3, 1)]) = r 3 := zu_e1 _ _
  have q3 : zq_ev r (0, [(2, 1)]) = r 2 := zu_e1 _ _
  have q4 : zq_ev r (0, [(4, 1)]) = r 4 := zu_e1 _ _
  obtain ⟨hT, hC, hF, hS, -, hK⟩ := hM
  have c := hC.1
  have k1 : zn_DG (zq_ev r (0, [(0, 1)])) (zq_ev r (0, [(1, 1)])) (zq_ev r (0, [(3, 1)])) P h := zj_use x_DG (hK)
  simp only [q0, q1, q2] at k1
  have k2 : zn_BI (zq_ev r (0, [(3, 1)])) (zq_ev r (0, [(2, 1)])) (zq_ev r (0, [(4, 1)])) P h := zj_use x_BI (zq_okX_t (hK))
  simp only [q2, q3, q4] at k2
  obtain t1 := zn_fT_l (P := P) (h := h) (E := r 0) (a := r 1) (b := r 2) (c := r 3) (v := r 4) k1 k2
  obtain ⟨r', hr⟩ : ∃ r' : Nat → Int, (∀ i, i < 5 → r' i = r i) := ⟨r, fun i hi => rfl⟩
  have v0 : r' 0 = r 0 := hr 0 (by decide)
  have v1 : r' 1 = r 1 := hr 1 (by decide)
  have v2 : r' 2 = r 2 := hr 2 (by decide)
  have v4 : r' 4 = r 4 := hr 4 (by decide)
  have g0 : zq_ev r' (0, [(0, 1)]) = r 0 := zu_f1 v0
  have g1 : zq_ev r' (0, [(1, 1)]) = r 1 := zu_f1 v1
  have g2 : zq_ev r' (0, [(2, 1)]) = r 2 := zu_f1 v2
  have g3 : zq_ev r' (0, [(4, 1)]) = r 4 := zu_f1 v4
  exact ⟨_, List.mem_cons_self .., r', hr, zq_MeS_mk rfl hT (zq_all_nil) zq_fan (zq_fan) rfl (zu_fac ((x_BT _ _ _).mpr (by show zn_BT (zq_ev r' (0, [(0, 1)])) (zq_ev r' (0, [(1, 1)])) (zq_ev r' (0, [(2, 1)])) (zq_ev r' (0, [(4, 1)])) P h; simp only [g0, g1, g2, g3]; exact t1)) zq_fan)⟩
noncomputable def zn_fI : zq_S × List zq_S := (([], [], [(0, [(1, 1)]), (3, [(1, -1)]), (0, [(2, 1)]), (3, [(2, -1)]), (0, [(4, 1), (5, -1)]), (0, [(4, -1), (5, 1)])], [], [], [], [(134, [(0, [(0, 1)]), (0, [(1, 1)]), (0, [(3, 1)])]), (201, [(0, [(3, 1)]), (0, [(2, 1)]), (0, [(4, 1)])]), (198, [(0, [(0, 1)])])], 6), [([], [], [], [], [], [], [(199, [(0, [(0, 1)]), (0, [(1, 1)]), (0, [(2, 1)]), (0, [(5, 1)]), (0, [(0, 1)])])], 6)])
theorem zn_fI_l {P : zq_Ty} {h : zq_H} {E a b c v s : Int} (a1 : 0 ≤ a) (a2 : 0 ≤ -a + 3) (a3 : 0 ≤ b) (a4 : 0 ≤ -b + 3) (a5 : 0 ≤ v - s) (a6 : 0 ≤ -v + s) (k1 : zn_DG E a c P h) (k2 : zn_BI c b v P h) (k3 : zn_SY E P h) : (zn_ST E a b s E P h) := by
  have k1 : c = zn_dg E a := k1
  have k2 : v = zn_bt c b := k2
  show E = zn_st E a b s
  exact (zn_st_id k3 a1 (by omega) a3 (by omega) (by rw [← k1, ← k2]; omega)).symm
theorem zn_fI_ok {w : zq_Wd} (x_DG : zj_is w 134 (fun q => zn_DG (q 0) (q 1) (q 2))) (x_BI : zj_is w 201 (fun q => zn_BI (q 0) (q 1) (q 2))) (x_SY : zj_is w 198 (fun q => zn_SY (q 0))) (x_ST : zj_is w 199 (fun q => zn_ST (q 0) (q 1) (q 2) (q 3) (q 4))) : zq_okG1 w zn_fI := by
  refine ⟨rfl, rfl, zu_fac ⟨rfl, by decide⟩ zq_fan, ?_⟩
  intro r P h H hM
  have q0 : zq_ev r (0, [(1, 1)]) = r 1 := zu_e1 _ _
  have q1 : zq_ev r (3, [(1, -1)]) = -r 1 + 3 := zu_e5 _ _ _
  have q2 : zq_ev r (0, [(2, 1)]) = r 2 := zu_e1 _ _
  have q3 : zq_ev r (3, [(2, -1)]) = -r 2 + 3 := zu_e5 _ _ _
  have q4 : zq_ev r (0, [(4, 1), (5, -1)]) = r 4 - r 5 := by simp only [zq_ev, zq_ts] <;> omega
  have q5 : zq_ev r (0, [(4, -1), (5, 1)]) = -r 4 + r 5 := by simp only [zq_ev, zq_ts] <;> omega
  have q6 : zq_ev r (0, [(0, 1)]) = r 0 := zu_e1 _ _
  have q7 : zq_ev r (0, [(3, 1)]) = r 3 := zu_e1 _ _
  have q8 : zq_ev r (0, [(4, 1)]) = r 4 := zu_e1 _ _
  obtain ⟨hT, hC, hF, hS, -, hK⟩ := hM
  have c := hC.1
  have a1 := zq_all_1 c
  rw [q0] at a1
  have c := zq_all_t c
  have a2 := zq_all_1 c
  rw [q1] at a2
  have c := zq_all_t c
  have a3 := zq_all_1 c
  rw [q2] at a3
  have c := zq_all_t c
  have a4 := zq_all_1 c
  rw [q3] at a4
  have c := zq_all_t c
  have a5 := zq_all_1 c
  rw [q4] at a5
  have c := zq_all_t c
  have a6 := zq_all_1 c
  rw [q5] at a6
  have k1 : zn_DG (zq_ev r (0, [(0, 1)])) (zq_ev r (0, [(1, 1)])) (zq_ev r (0, [(3, 1)])) P h := zj_use x_DG (hK)
  simp only [q0, q6, q7] at k1
  have k2 : zn_BI (zq_ev r (0, [(3, 1)])) (zq_ev r (0, [(2, 1)])) (zq_ev r (0, [(4, 1)])) P h := zj_use x_BI (zq_okX_t (hK))
  simp only [q2, q7, q8] at k2
  have k3 : zn_SY (zq_ev r (0, [(0, 1)])) P h := zj_use x_SY (zq_okX_t (zq_okX_t (hK)))
  simp only [q6] at k3
  obtain t1 := zn_fI_l (P := P) (h := h) (E := r 0) (a := r 1) (b := r 2) (c := r 3) (v := r 4) (s := r 5) a1 a2 a3 a4 a5 a6 k1 k2 k3
  obtain ⟨r', hr⟩ : ∃ r' : Nat → Int, (∀ i, i < 6 → r' i = r i) := ⟨r, fun i hi => rfl⟩
  have v0 : r' 0 = r 0 := hr 0 (by decide)
  have v1 : r' 1 = r 1 := hr 1 (by decide)
  have v2 : r' 2 = r 2 := hr 2 (by decide)
  have v5 : r' 5 = r 5 := hr 5 (by decide)
  have g0 : zq_ev r' (0, [(0, 1)]) = r 0 := zu_f1 v0
  have g1 : zq_ev r' (0, [(1, 1)]) = r 1 := zu_f1 v1
  have g2 : zq_ev r' (0, [(2, 1)]) = r 2 := zu_f1 v2
  have g3 : zq_ev r' (0, [(5, 1)]) = r 5 := zu_f1 v5
  exact ⟨_, List.mem_cons_self .., r', hr, zq_MeS_mk rfl hT (zq_all_nil) zq_fan (zq_fan) rfl (zu_fac ((x_ST _ _ _).mpr (by show zn_ST (zq_ev r' (0, [(0, 1)])) (zq_ev r' (0, [(1, 1)])) (zq_ev r' (0, [(2, 1)])) (zq_ev r' (0, [(5, 1)])) (zq_ev r' (0, [(0, 1)])) P h; simp only [g0, g1, g2, g3]; exact t1)) zq_fan)⟩
noncomputable def zn_fH : zq_S × List zq_S := (([], [], [(0, [(2, 1)]), (-1, [(2, -1), (3, 1)]), (3, [(3, -1)])], [], [], [], [(190, [(0, [(0, 1)]), (0, [(1, 1)])])], 4), [([], [], [], [], [], [], [(194, [(0, [(0, 1)]), (0, [(1, 1)]), (0, [(2, 1)]), (0, [(3, 1)])])], 4)])
theorem zn_fH_l {P : zq_Ty} {h : zq_H} {a E x y : Int} (a1 : 0 ≤ x) (a2 : 0 ≤ -x + y - 1) (a3 : 0 ≤ -y + 3) (k1 : zn_RA 35 a E P h) : (zn_RH 35 a E x y P h) := by
  exact ⟨k1.1, k1.2.1, fun i p q _ _ => k1.2.2 i p q⟩
theorem zn_fH_ok {w : zq_Wd} (x_RA0 : zj_is w 190 (fun q => zn_RA 35 (q 0) (q 1))) (x_RH : zj_is w 194 (fun q => zn_RH 35 (q 0) (q 1) (q 2) (q 3))) : zq_okG1 w zn_fH := by
  refine ⟨rfl, rfl, zu_fac ⟨rfl, by decide⟩ zq_fan, ?_⟩
  intro r P h H hM
  have q0 : zq_ev r (0, [(2, 1)]) = r 2 := zu_e1 _ _
  have q1 : zq_ev r (-1, [(2, -1), (3, 1)]) = -r 2 + r 3 - 1 := by simp only [zq_ev, zq_ts] <;> omega
  have q2 : zq_ev r (3, [(3, -1)]) = -r 3 + 3 := zu_e5 _ _ _
  have q3 : zq_ev r (0, [(0, 1)]) = r 0 := zu_e1 _ _
  have q4 : zq_ev r (0, [(1, 1)]) = r 1 := zu_e1 _ _
  obtain ⟨hT, hC, hF, hS, -, hK⟩ := hM
  have c := hC.1
  have a1 := zq_all_1 c
  rw [q0] at a1
  have c := zq_all_t c
  have a2 := zq_all_1 c
  rw [q1] at a2
  have c := zq_all_t c
  have a3 := zq_all_1 c
  rw [q2] at a3
  have k1 : zn_RA 35 (zq_ev r (0, [(0, 1)])) (zq_ev r (0, [(1, 1)])) P h := zj_use x_RA0 (hK)
  simp only [q3, q4] at k1
  obtain t1 := zn_fH_l (P := P) (h := h) (a := r 0) (E := r 1) (x := r 2) (y := r 3) a1 a2 a3 k1
  obtain ⟨r', hr⟩ : ∃ r' : Nat → Int, (∀ i, i < 4 → r' i = r i) := ⟨r, fun i hi => rfl⟩
  have v0 : r' 0 = r 0 := hr 0 (by decide)
  have v1 : r' 1 = r 1 := hr 1 (by decide)
  have v2 : r' 2 = r 2 := hr 2 (by decide)
  have v3 : r' 3 = r 3 := hr 3 (by decide)
  have g0 : zq_ev r' (0, [(0, 1)]) = r 0 := zu_f1 v0
  have g1 : zq_ev r' (0, [(1, 1)]) = r 1 := zu_f1 v1
  have g2 : zq_ev r' (0, [(2, 1)]) = r 2 := zu_f1 v2
  have g3 : zq_ev r' (0, [(3, 1)]) = r 3 := zu_f1 v3
  exact ⟨_, List.mem_cons_self .., r', hr, zq_MeS_mk rfl hT (zq_all_nil) zq_fan (zq_fan) rfl (zu_fac ((x_RH _ _ _).mpr (by show zn_RH 35 (zq_ev r' (0, [(0, 1)])) (zq_ev r' (0, [(1, 1)])) (zq_ev r' (0, [(2, 1)])) (zq_ev r' (0, [(3, 1)])) P h; simp only [g0, g1, g2, g3]; exact t1)) zq_fan)⟩
noncomputable def zn_fSA : zq_S × List zq_S := (([], [], [(0, [(2, 1)]), (3, [(2, -1)]), (0, [(3, 1)]), (3, [(3, -1)]), (-1, [(2, -1), (3, 1)]), (0, [(11, 1)]), (1, [(11, -1)]), (-1, [(10, 1), (11, 1)]), (1, [(10, -1), (11, -1)])], [], [((0, [(0, 1)]), (0, [(2, 1)]), (0, [(7, 1)])), ((0, [(0, 1)]), (0, [(3, 1)]), (0, [(9, 1)]))], [], [(194, [(0, [(0, 1)]), (0, [(1, 1)]), (0, [(2, 1)]), (0, [(3, 1)])]), (134, [(0, [(1, 1)]), (0, [(2, 1)]), (0, [(4, 1)])]), (134, [(0, [(1, 1)]), (0, [(3, 1)]), (0, [(5, 1)])]), (85, [(8, []), (1, []), (0, [(3, 1)]), (0, [(6, 1)])]), (85, [(7, []), (0, [(4, 1)]), (0, [(6, 1)]), (0, [(7, 1)])]), (85, [(8, []), (1, []), (0, [(2, 1)]), (0, [(8, 1)])]), (85, [(7, []), (0, [(5, 1)]), (0, [(8, 1)]), (0, [(9, 1)])]), (201, [(0, [(4, 1)]), (0, [(3, 1)]), (0, [(10, 1)])]), (198, [(0, [(1, 1)])])], 12), [([], [], [], [], [], [], [(199, [(0, [(1, 1)]), (0, [(2, 1)]), (0, [(3, 1)]), (0, [(11, 1)]), (0, [(12, 1)])]), (190, [(0, [(0, 1)]), (0, [(12, 1)])]), (198, [(0, [(12, 1)])])], 13)])
theorem zn_fSA_l {P : zq_Ty} {h : zq_H} {r E a b c d m v n w q s : Int} (a1 : 0 ≤ a) (a2 : 0 ≤ -a + 3) (a3 : 0 ≤ b) (a4 : 0 ≤ -b + 3) (a5 : 0 ≤ -a + b - 1) (a6 : 0 ≤ s) (a7 : 0 ≤ -s + 1) (a8 : 0 ≤ q + s - 1) (a9 : 0 ≤ -q - s + 1) (s1 : 0 ≤ r ∧ P (r).toNat ≠ none ∧ h (r).toNat a = v) (s2 : 0 ≤ r ∧ P (r).toNat ≠ none ∧ h (r).toNat b = w) (k1 : zn_RH 35 r E a b P h) (k2 : zn_DG E a c P h) (k3 : zn_DG E b d P h) (k4 : zo_op 8 1 b m P h) (k5 : zo_op 7 c m v P h) (k6 : zo_op 8 1 a n P h) (k7 : zo_op 7 d n w P h) (k8 : zn_BI c b q P h) (k9 : zn_SY E P h) : (∃ F : Int, zn_ST E a b s F P h ∧ zn_RA 35 r F P h ∧ zn_SY F P h) := by
  obtain ⟨z1, z2, z3⟩ := k1
  have e1 : c = zn_dg E a := k2
  have e2 : d = zn_dg E b := k3
  have e3 : m = zq_fun 0 8 1 b := k4
  have e4 : v = zq_fun 0 7 c m := k5
  have e5 : n = zq_fun 0 8 1 a := k6
  have e6 : w = zq_fun 0 7 d n := k7
  have e7 : q = zn_bt c b := k8
  have sy : zn_sy E := k9
  have ha := z2 a a1 (by omega)
  have hb := z2 b a3 (by omega)
  have q2 : zn_bt d a = zn_bt c b := by rw [e1, e2]; exact sy.2 b a a3 (by omega) a1 (by omega)
  have f1 : v = zn_sb (zn_dg E a) b s := by
    rw [e4, e3, zn_xor (by omega) (by omega) a3 (by omega), e1]
    congr 1
    rw [← e1, ← e7]; omega
  have f2 : w = zn_sb (zn_dg E b) a s := by
    rw [e6, e5, zn_xor (by omega) (by omega) a1 (by omega), q2, e2]
    congr 1
    rw [← e7]; omega
  refine ⟨zn_st E a b s, rfl, ⟨z1, zn_nb_st z2 a1 (by omega) a3 (by omega) (by omega) (by omega), fun i x y => ?_⟩, zn_sy_st sy a1 (by omega) a3 (by omega) (by omega) (by omega) (by omega)⟩
  rw [zn_dg_st z2 a1 (by omega) a3 (by omega) (by omega) (by omega) (by omega) x]
  split
  · rename_i g; rw [g, s1.2.2, f1]
  · rename_i g
    split
    · rename_i g2; rw [g2, s2.2.2, f2]
    · rename_i g2
      exact z3 i x y (by omega) (by omega)
theorem zn_fSA_ok {w : zq_Wd} (x_RH : zj_is w 194 (fun q => zn_RH 35 (q 0) (q 1) (q 2) (q 3))) (x_DG : zj_is w 134 (fun q => zn_DG (q 0) (q 1) (q 2))) (x_OP : zj_is w 85 (fun q => zo_op (q 0) (q 1) (q 2) (q 3))) (x_BI : zj_is w 201 (fun q => zn_BI (q 0) (q 1) (q 2))) (x_SY : zj_is w 198 (fun q => zn_SY (q 0))) (x_ST : zj_is w 199 (fun q => zn_ST (q 0) (q 1) (q 2) (q 3) (q 4))) (x_RA0 : zj_is w 190 (fun q => zn_RA 35 (q 0) (q 1))) : zq_okG1 w zn_fSA := by
  refine ⟨rfl, rfl, zu_fac ⟨rfl, by decide⟩ zq_fan, ?_⟩
  intro r P h H hM
  have q0 : zq_ev r (0, [(2, 1)]) = r 2 := zu_e1 _ _
  have q1 : zq_ev r (3, [(2, -1)]) = -r 2 + 3 := zu_e5 _ _ _
  have q2 : zq_ev r (0, [(3, 1)]) = r 3 := zu_e1 _ _
  have q3 : zq_ev r (3, [(3, -1)]) = -r 3 + 3 := zu_e5 _ _ _
  have q4 : zq_ev r (-1, [(2, -1), (3, 1)]) = -r 2 + r 3 - 1 := by simp only [zq_ev, zq_ts] <;> omega
  have q5 : zq_ev r (0, [(11, 1)]) = r 11 := zu_e1 _ _
  have q6 : zq_ev r (1, [(11, -1)]) = -r 11 + 1 := zu_e5 _ _ _
  have q7 : zq_ev r (-1, [(10, 1), (11, 1)]) = r 10 + r 11 - 1 := by simp only [zq_ev, zq_ts] <;> omega
  have q8 : zq_ev r (1, [(10, -1), (11, -1)]) = -r 10 - r 11 + 1 := by simp only [zq_ev, zq_ts] <;> omega
  have q9 : zq_ev r (0, [(0, 1)]) = r 0 := zu_e1 _ _
  have q10 : zq_ev r (0, [(7, 1)]) = r 7 := zu_e1 _ _
  have q11 : zq_ev r (0, [(9, 1)]) = r 9 := zu_e1 _ _
  have q12 : zq_ev r (0, [(1, 1)]) = r 1 := zu_e1 _ _
  have q13 : zq_ev r (0, [(4, 1)]) = r 4 := zu_e1 _ _
  have q14 : zq_ev r (0, [(5, 1)]) = r 5 := zu_e1 _ _
  have q15 : zq_ev r (8, []) = 8 := zu_e0 _ _
  have q16 : zq_ev r (1, []) = 1 := zu_e0 _ _
  have q17 : zq_ev r (0, [(6, 1)]) = r 6 := zu_e1 _ _
  have q18 : zq_ev r (7, []) = 7 := zu_e0 _ _
  have q19 : zq_ev r (0, [(8, 1)]) = r 8 := zu_e1 _ _
  have q20 : zq_ev r (0, [(10, 1)]) = r 10 := zu_e1 _ _
  obtain ⟨hT, hC, hF, hS, -, hK⟩ := hM
  have c := hC.1
  have a1 := zq_all_1 c
  rw [q0] at a1
  have c := zq_all_t c
  have a2 := zq_all_1 c
  rw [q1] at a2
  have c := zq_all_t c
  have a3 := zq_all_1 c
  rw [q2] at a3
  have c := zq_all_t c
  have a4 := zq_all_1 c
  rw [q3] at a4
  have c := zq_all_t c
  have a5 := zq_all_1 c
  rw [q4] at a5
  have c := zq_all_t c
  have a6 := zq_all_1 c
  rw [q5] at a6
  have c := zq_all_t c
  have a7 := zq_all_1 c
  rw [q6] at a7
  have c := zq_all_t c
  have a8 := zq_all_1 c
  rw [q7] at a8
  have c := zq_all_t c
  have a9 := zq_all_1 c
  rw [q8] at a9
  have s1 := zq_okS_1 (hS)
  simp only [q0, q10, q9] at s1
  have s2 := zq_okS_1 (zq_okS_t (hS))
  simp only [q11, q2, q9] at s2
  have k1 : zn_RH 35 (zq_ev r (0, [(0, 1)])) (zq_ev r (0, [(1, 1)])) (zq_ev r (0, [(2, 1)])) (zq_ev r (0, [(3, 1)])) P h := zj_use x_RH (hK)
  simp only [q0, q12, q2, q9] at k1
  have k2 : zn_DG (zq_ev r (0, [(1, 1)])) (zq_ev r (0, [(2, 1)])) (zq_ev r (0, [(4, 1)])) P h := zj_use x_DG (zq_okX_t (hK))
  simp only [q0, q12, q13] at k2
  have k3 : zn_DG (zq_ev r (0, [(1, 1)])) (zq_ev r (0, [(3, 1)])) (zq_ev r (0, [(5, 1)])) P h := zj_use x_DG (zq_okX_t (zq_okX_t (hK)))
  simp only [q12, q14, q2] at k3
  have k4 : zo_op (zq_ev r (8, [])) (zq_ev r (1, [])) (zq_ev r (0, [(3, 1)])) (zq_ev r (0, [(6, 1)])) P h := zj_use x_OP (zq_okX_t (zq_okX_t (zq_okX_t (hK))))
  simp only [q15, q16, q17, q2] at k4
  have k5 : zo_op (zq_ev r (7, [])) (zq_ev r (0, [(4, 1)])) (zq_ev r (0, [(6, 1)])) (zq_ev r (0, [(7, 1)])) P h := zj_use x_OP (zq_okX_t (zq_okX_t (zq_okX_t (zq_okX_t (hK)))))
  simp only [q10, q13, q17, q18] at k5
  have k6 : zo_op (zq_ev r (8, [])) (zq_ev r (1, [])) (zq_ev r (0, [(2, 1)])) (zq_ev r (0, [(8, 1)])) P h := zj_use x_OP (zq_okX_t (zq_okX_t (zq_okX_t (zq_okX_t (zq_okX_t (hK))))))
  simp only [q0, q15, q16, q19] at k6
  have k7 : zo_op (zq_ev r (7, [])) (zq_ev r (0, [(5, 1)])) (zq_ev r (0, [(8, 1)])) (zq_ev r (0, [(9, 1)])) P h := zj_use x_OP (zq_okX_t (zq_okX_t (zq_okX_t (zq_okX_t (zq_okX_t (zq_okX_t (hK)))))))
  simp only [q11, q14, q18, q19] at k7
  have k8 : zn_BI (zq_ev r (0, [(4, 1)])) (zq_ev r (0, [(3, 1)])) (zq_ev r (0, [(10, 1)])) P h := zj_use x_BI (zq_okX_t (zq_okX_t (zq_okX_t (zq_okX_t (zq_okX_t (zq_okX_t (zq_okX_t (hK))))))))
  simp only [q13, q2, q20] at k8
  have k9 : zn_SY (zq_ev r (0, [(1, 1)])) P h := zj_use x_SY (zq_okX_t (zq_okX_t (zq_okX_t (zq_okX_t (zq_okX_t (zq_okX_t (zq_okX_t (zq_okX_t (hK)))))))))
  simp only [q12] at k9
  obtain ⟨y_0, t1, t2, t3⟩ := zn_fSA_l (P := P) (h := h) (r := r 0) (E := r 1) (a := r 2) (b := r 3) (c := r 4) (d := r 5) (m := r 6) (v := r 7) (n := r 8) (w := r 9) (q := r 10) (s := r 11) a1 a2 a3 a4 a5 a6 a7 a8 a9 s1 s2 k1 k2 k3 k4 k5 k6 k7 k8 k9
  obtain ⟨r', hr, w12⟩ : ∃ r' : Nat → Int, (∀ i, i < 12 → r' i = r i) ∧ r' 12 = y_0 := ⟨zq_up r 12 y_0, fun i hi => by rw [zu_up_ne (by omega)], rfl⟩
  have v0 : r' 0 = r 0 := hr 0 (by decide)
  have v1 : r' 1 = r 1 := hr 1 (by decide)
  have v2 : r' 2 = r 2 := hr 2 (by decide)
  have v3 : r' 3 = r 3 := hr 3 (by decide)
  have v11 : r' 11 = r 11 := hr 11 (by decide)
  have g0 : zq_ev r' (0, [(12, 1)]) = y_0 := zu_f1 w12
  have g1 : zq_ev r' (0, [(0, 1)]) = r 0 := zu_f1 v0
  have g2 : zq_ev r' (0, [(1, 1)]) = r 1 := zu_f1 v1
  have g3 : zq_ev r' (0, [(2, 1)]) = r 2 := zu_f1 v2
  have g4 : zq_ev r' (0, [(3, 1)]) = r 3 := zu_f1 v3
  have g5 : zq_ev r' (0, [(11, 1)]) = r 11 := zu_f1 v11
  exact ⟨_, List.mem_cons_self .., r', hr, zq_MeS_mk rfl hT (zq_all_nil) zq_fan (zq_fan) rfl (zu_fac ((x_ST _ _ _).mpr (by show zn_ST (zq_ev r' (0, [(1, 1)])) (zq_ev r' (0, [(2, 1)])) (zq_ev r' (0, [(3, 1)])) (zq_ev r' (0, [(11, 1)])) (zq_ev r' (0, [(12, 1)])) P h; simp only [g0, g2, g3, g4, g5]; exact t1)) (zu_fac ((x_RA0 _ _ _).mpr (by show zn_RA 35 (zq_ev r' (0, [(0, 1)])) (zq_ev r' (0, [(12, 1)])) P h; simp only [g0, g1]; exact t2)) (zu_fac ((x_SY _ _ _).mpr (by show zn_SY (zq_ev r' (0, [(12, 1)])) P h; simp only [g0]; exact t3)) zq_fan)))⟩
noncomputable def zn_fSC : zq_S × List zq_S := (([], [], [(0, [(2, 1)]), (3, [(2, -1)]), (0, [(3, 1)]), (3, [(3, -1)]), (-1, [(2, 1), (3, -1)]), (0, [(11, 1)]), (1, [(11, -1)]), (-1, [(10, 1), (11, 1)]), (1, [(10, -1), (11, -1)])], [], [((0, [(0, 1)]), (0, [(2, 1)]), (0, [(7, 1)])), ((0, [(0, 1)]), (0, [(3, 1)]), (0, [(9, 1)]))], [], [(194, [(0, [(0, 1)]), (0, [(1, 1)]), (0, [(3, 1)]), (0, [(2, 1)])]), (134, [(0, [(1, 1)]), (0, [(2, 1)]), (0, [(4, 1)])]), (134, [(0, [(1, 1)]), (0, [(3, 1)]), (0, [(5, 1)])]), (85, [(8, []), (1, []), (0, [(3, 1)]), (0, [(6, 1)])]), (85, [(7, []), (0, [(4, 1)]), (0, [(6, 1)]), (0, [(7, 1)])]), (85, [(8, []), (1, []), (0, [(2, 1)]), (0, [(8, 1)])]), (85, [(7, []), (0, [(5, 1)]), (0, [(8, 1)]), (0, [(9, 1)])]), (201, [(0, [(4, 1)]), (0, [(3, 1)]), (0, [(10, 1)])]), (198, [(0, [(1, 1)])])], 12), [([], [], [], [], [], [], [(199, [(0, [(1, 1)]), (0, [(2, 1)]), (0, [(3, 1)]), (0, [(11, 1)]), (0, [(12, 1)])]), (190, [(0, [(0, 1)]), (0, [(12, 1)])]), (198, [(0, [(12, 1)])])], 13)])
theorem zn_fSC_l {P : zq_Ty} {h : zq_H} {r E a b c d m v n w q s : Int} (a1 : 0 ≤ a) (a2 : 0 ≤ -a + 3) (a3 : 0 ≤ b) (a4 : 0 ≤ -b + 3) (a5 : 0 ≤ a - b - 1) (a6 : 0 ≤ s) (a7 : 0 ≤ -s + 1) (a8 : 0 ≤ q + s - 1) (a9 : 0 ≤ -q - s + 1) (s1 : 0 ≤ r ∧ P (r).toNat ≠ none ∧ h (r).toNat a = v) (s2 : 0 ≤ r ∧ P (r).toNat ≠ none ∧ h (r).toNat b = w) (k1 : zn_RH 35 r E b a P h) (k2 : zn_DG E a c P h) (k3 : zn_DG E b d P h) (k4 : zo_op 8 1 b m P h) (k5 : zo_op 7 c m v P h) (k6 : zo_op 8 1 a n P h) (k7 : zo_op 7 d n w P h) (k8 : zn_BI c b q P h) (k9 : zn_SY E P h) : (∃ F : Int, zn_ST E a b s F P h ∧ zn_RA 35 r F P h ∧ zn_SY F P h) := by
  obtain ⟨z1, z2, z3⟩ := k1
  have e1 : c = zn_dg E a := k2
  have e2 : d = zn_dg E b := k3
  have e3 : m = zq_fun 0 8 1 b := k4
  have e4 : v = zq_fun 0 7 c m := k5
  have e5 : n = zq_fun 0 8 1 a := k6
  have e6 : w = zq_fun 0 7 d n := k7
  have e7 : q = zn_bt c b := k8
  have sy : zn_sy E := k9
  have ha := z2 a a1 (by omega)
  have hb := z2 b a3 (by omega)
  have q2 : zn_bt d a = zn_bt c b := by rw [e1, e2]; exact sy.2 b a a3 (by omega) a1 (by omega)
  have f1 : v = zn_sb (zn_dg E a) b s := by
    rw [e4, e3, zn_xor (by omega) (by omega) a3 (by omega), e1]
    congr 1
    rw [← e1, ← e7]; omega
  have f2 : w = zn_sb (zn_dg E b) a s := by
    rw [e6, e5, zn_xor (by omega) (by omega) a1 (by omega), q2, e2]
    congr 1
    rw [← e7]; omega
  refine ⟨zn_st E a b s, rfl, ⟨z1, zn_nb_st z2 a1 (by omega) a3 (by omega) (by omega) (by omega), fun i x y => ?_⟩, zn_sy_st sy a1 (by omega) a3 (by omega) (by omega) (by omega) (by omega)⟩
  rw [zn_dg_st z2 a1 (by omega) a3 (by omega) (by omega) (by omega) (by omega) x]
  split
  · rename_i g; rw [g, s1.2.2, f1]
  · rename_i g
    split
    · rename_i g2; rw [g2, s2.2.2, f2]
    · rename_i g2
      exact z3 i x y (by omega) (by omega)
theorem zn_fSC_ok {w : zq_Wd} (x_RH : zj_is w 194 (fun q => zn_RH 35 (q 0) (q 1) (q 2) (q 3))) (x_DG : zj_is w 134 (fun q => zn_DG (q 0) (q 1) (q 2))) (x_OP : zj_is w 85 (fun q => zo_op (q 0) (q 1) (q 2) (q 3))) (x_BI : zj_is w 201 (fun q => zn_BI (q 0) (q 1) (q 2))) (x_SY : zj_is w 198 (fun q => zn_SY (q 0))) (x_ST : zj_is w 199 (fun q => zn_ST (q 0) (q 1) (q 2) (q 3) (q 4))) (x_RA0 : zj_is w 190 (fun q => zn_RA 35 (q 0) (q 1))) : zq_okG1 w zn_fSC := by
  refine ⟨rfl, rfl, zu_fac ⟨rfl, by decide⟩ zq_fan, ?_⟩
  intro r P h H hM
  have q0 : zq_ev r (0, [(2, 1)]) = r 2 := zu_e1 _ _
  have q1 : zq_ev r (3, [(2, -1)]) = -r 2 + 3 := zu_e5 _ _ _
  have q2 : zq_ev r (0, [(3, 1)]) = r 3 := zu_e1 _ _
  have q3 : zq_ev r (3, [(3, -1)]) = -r 3 + 3 := zu_e5 _ _ _
  have q4 : zq_ev r (-1, [(2, 1), (3, -1)]) = r 2 - r 3 - 1 := by simp only [zq_ev, zq_ts] <;> omega
  have q5 : zq_ev r (0, [(11, 1)]) = r 11 := zu_e1 _ _
  have q6 : zq_ev r (1, [(11, -1)]) = -r 11 + 1 := zu_e5 _ _ _
  have q7 : zq_ev r (-1, [(10, 1), (11, 1)]) = r 10 + r 11 - 1 := by simp only [zq_ev, zq_ts] <;> omega
  have q8 : zq_ev r (1, [(10, -1), (11, -1)]) = -r 10 - r 11 + 1 := by simp only [zq_ev, zq_ts] <;> omega
  have q9 : zq_ev r (0, [(0, 1)]) = r 0 := zu_e1 _ _
  have q10 : zq_ev r (0, [(7, 1)]) = r 7 := zu_e1 _ _
  have q11 : zq_ev r (0, [(9, 1)]) = r 9 := zu_e1 _ _
  have q12 : zq_ev r (0, [(1, 1)]) = r 1 := zu_e1 _ _
  have q13 : zq_ev r (0, [(4, 1)]) = r 4 := zu_e1 _ _
  have q14 : zq_ev r (0, [(5, 1)]) = r 5 := zu_e1 _ _
  have q15 : zq_ev r (8, []) = 8 := zu_e0 _ _
  have q16 : zq_ev r (1, []) = 1 := zu_e0 _ _
  have q17 : zq_ev r (0, [(6, 1)]) = r 6 := zu_e1 _ _
  have q18 : zq_ev r (7, []) = 7 := zu_e0 _ _
  have q19 : zq_ev r (0, [(8, 1)]) = r 8 := zu_e1 _ _
  have q20 : zq_ev r (0, [(10, 1)]) = r 10 := zu_e1 _ _
  obtain ⟨hT, hC, hF, hS, -, hK⟩ := hM
  have c := hC.1
  have a1 := zq_all_1 c
  rw [q0] at a1
  have c := zq_all_t c
  have a2 := zq_all_1 c
  rw [q1] at a2
  have c := zq_all_t c
  have a3 := zq_all_1 c
  rw [q2] at a3
  have c := zq_all_t c
  have a4 := zq_all_1 c
  rw [q3] at a4
  have c := zq_all_t c
  have a5 := zq_all_1 c
  rw [q4] at a5
  have c := zq_all_t c
  have a6 := zq_all_1 c
  rw [q5] at a6
  have c := zq_all_t c
  have a7 := zq_all_1 c
  rw [q6] at a7
  have c := zq_all_t c
  have a8 := zq_all_1 c
  rw [q7] at a8
  have c := zq_all_t c
  have a9 := zq_all_1 c
  rw [q8] at a9
  have s1 := zq_okS_1 (hS)
  simp only [q0, q10, q9] at s1
  have s2 := zq_okS_1 (zq_okS_t (hS))
  simp only [q11, q2, q9] at s2
  have k1 : zn_RH 35 (zq_ev r (0, [(0, 1)])) (zq_ev r (0, [(1, 1)])) (zq_ev r (0, [(3, 1)])) (zq_ev r (0, [(2, 1)])) P h := zj_use x_RH (hK)
  simp only [q0, q12, q2, q9] at k1
  have k2 : zn_DG (zq_ev r (0, [(1, 1)])) (zq_ev r (0, [(2, 1)])) (zq_ev r (0, [(4, 1)])) P h := zj_use x_DG (zq_okX_t (hK))
  simp only [q0, q12, q13] at k2
  have k3 : zn_DG (zq_ev r (0, [(1, 1)])) (zq_ev r (0, [(3, 1)])) (zq_ev r (0, [(5, 1)])) P h := zj_use x_DG (zq_okX_t (zq_okX_t (hK)))
  simp only [q12, q14, q2] at k3
  have k4 : zo_op (zq_ev r (8, [])) (zq_ev r (1, [])) (zq_ev r (0, [(3, 1)])) (zq_ev r (0, [(6, 1)])) P h := zj_use x_OP (zq_okX_t (zq_okX_t (zq_okX_t (hK))))
  simp only [q15, q16, q17, q2] at k4
  have k5 : zo_op (zq_ev r (7, [])) (zq_ev r (0, [(4, 1)])) (zq_ev r (0, [(6, 1)])) (zq_ev r (0, [(7, 1)])) P h := zj_use x_OP (zq_okX_t (zq_okX_t (zq_okX_t (zq_okX_t (hK)))))
  simp only [q10, q13, q17, q18] at k5
  have k6 : zo_op (zq_ev r (8, [])) (zq_ev r (1, [])) (zq_ev r (0, [(2, 1)])) (zq_ev r (0, [(8, 1)])) P h := zj_use x_OP (zq_okX_t (zq_okX_t (zq_okX_t (zq_okX_t (zq_okX_t (hK))))))
  simp only [q0, q15, q16, q19] at k6
  have k7 : zo_op (zq_ev r (7, [])) (zq_ev r (0, [(5, 1)])) (zq_ev r (0, [(8, 1)])) (zq_ev r (0, [(9, 1)])) P h := zj_use x_OP (zq_okX_t (zq_okX_t (zq_okX_t (zq_okX_t (zq_okX_t (zq_okX_t (hK)))))))
  simp only [q11, q14, q18, q19] at k7
  have k8 : zn_BI (zq_ev r (0, [(4, 1)])) (zq_ev r (0, [(3, 1)])) (zq_ev r (0, [(10, 1)])) P h := zj_use x_BI (zq_okX_t (zq_okX_t (zq_okX_t (zq_okX_t (zq_okX_t (zq_okX_t (zq_okX_t (hK))))))))
  simp only [q13, q2, q20] at k8
  have k9 : zn_SY (zq_ev r (0, [(1, 1)])) P h := zj_use x_SY (zq_okX_t (zq_okX_t (zq_okX_t (zq_okX_t (zq_okX_t (zq_okX_t (zq_okX_t (zq_okX_t (hK)))))))))
  simp only [q12] at k9
  obtain ⟨y_0, t1, t2, t3⟩ := zn_fSC_l (P := P) (h := h) (r := r 0) (E := r 1) (a := r 2) (b := r 3) (c := r 4) (d := r 5) (m := r 6) (v := r 7) (n := r 8) (w := r 9) (q := r 10) (s := r 11) a1 a2 a3 a4 a5 a6 a7 a8 a9 s1 s2 k1 k2 k3 k4 k5 k6 k7 k8 k9
  obtain ⟨r', hr, w12⟩ : ∃ r' : Nat → Int, (∀ i, i < 12 → r' i = r i) ∧ r' 12 = y_0 := ⟨zq_up r 12 y_0, fun i hi => by rw [zu_up_ne (by omega)], rfl⟩
  have v0 : r' 0 = r 0 := hr 0 (by decide)
  have v1 : r' 1 = r 1 := hr 1 (by decide)
  have v2 : r' 2 = r 2 := hr 2 (by decide)
  have v3 : r' 3 = r 3 := hr 3 (by decide)
  have v11 : r' 11 = r 11 := hr 11 (by decide)
  have g0 : zq_ev r' (0, [(12, 1)]) = y_0 := zu_f1 w12
  have g1 : zq_ev r' (0, [(0, 1)]) = r 0 := zu_f1 v0
  have g2 : zq_ev r' (0, [(1, 1)]) = r 1 := zu_f1 v1
  have g3 : zq_ev r' (0, [(2, 1)]) = r 2 := zu_f1 v2
  have g4 : zq_ev r' (0, [(3, 1)]) = r 3 := zu_f1 v3
  have g5 : zq_ev r' (0, [(11, 1)]) = r 11 := zu_f1 v11
  exact ⟨_, List.mem_cons_self .., r', hr, zq_MeS_mk rfl hT (zq_all_nil) zq_fan (zq_fan) rfl (zu_fac ((x_ST _ _ _).mpr (by show zn_ST (zq_ev r' (0, [(1, 1)])) (zq_ev r' (0, [(2, 1)])) (zq_ev r' (0, [(3, 1)])) (zq_ev r' (0, [(11, 1)])) (zq_ev r' (0, [(12, 1)])) P h; simp only [g0, g2, g3, g4, g5]; exact t1)) (zu_fac ((x_RA0 _ _ _).mpr (by show zn_RA 35 (zq_ev r' (0, [(0, 1)])) (zq_ev r' (0, [(12, 1)])) P h; simp only [g0, g1]; exact t2)) (zu_fac ((x_SY _ _ _).mpr (by show zn_SY (zq_ev r' (0, [(12, 1)])) P h; simp only [g0]; exact t3)) zq_fan)))⟩
noncomputable def zn_fG : zq_S × List zq_S := (([], [], [(0, [(2, 1)]), (3, [(2, -1)])], [], [], [], [(195, [(0, [(0, 1)]), (0, [(1, 1)])])], 3), [([], [], [], [], [], [], [(209, [(0, [(0, 1)]), (0, [(1, 1)]), (0, [(2, 1)])])], 3)])
theorem zn_fG_l {P : zq_Ty} {h : zq_H} {a E x : Int} (a1 : 0 ≤ x) (a2 : 0 ≤ -x + 3) (k1 : zn_KR 1 0 a E P h) : (zn_KH a E x P h) := by
  refine ⟨k1.1, k1.2.1, fun i p q _ => ?_⟩
  have e : h a.toNat (0 + 17 + i) = zn_dg E i := k1.2.2 i p q
  rw [← e, show (0 : Int) + 17 + i = 17 + i by omega]
theorem zn_fG_ok {w : zq_Wd} (x_KR0 : zj_is w 195 (fun q => zn_KR 1 0 (q 0) (q 1))) (x_KH : zj_is w 209 (fun q => zn_KH (q 0) (q 1) (q 2))) : zq_okG1 w zn_fG := by
  refine ⟨rfl, rfl, zu_fac ⟨rfl, by decide⟩ zq_fan, ?_⟩
  intro r P h H hM
  have q0 : zq_ev r (0, [(2, 1)]) = r 2 := zu_e1 _ _
  have q1 : zq_ev r (3, [(2, -1)]) = -r 2 + 3 := zu_e5 _ _ _
  have q2 : zq_ev r (0, [(0, 1)]) = r 0 := zu_e1 _ _
  have q3 : zq_ev r (0, [(1, 1)]) = r 1 := zu_e1 _ _
  obtain ⟨hT, hC, hF, hS, -, hK⟩ := hM
  have c := hC.1
  have a1 := zq_all_1 c
  rw [q0] at a1
  have c := zq_all_t c
  have a2 := zq_all_1 c
  rw [q1] at a2
  have k1 : zn_KR 1 0 (zq_ev r (0, [(0, 1)])) (zq_ev r (0, [(1, 1)])) P h := zj_use x_KR0 (hK)
  simp only [q2, q3] at k1
  obtain t1 := zn_fG_l (P := P) (h := h) (a := r 0) (E := r 1) (x := r 2) a1 a2 k1
  obtain ⟨r', hr⟩ : ∃ r' : Nat → Int, (∀ i, i < 3 → r' i = r i) := ⟨r, fun i hi => rfl⟩
  have v0 : r' 0 = r 0 := hr 0 (by decide)
  have v1 : r' 1 = r 1 := hr 1 (by decide)
  have v2 : r' 2 = r 2 := hr 2 (by decide)
  have g0 : zq_ev r' (0, [(0, 1)]) = r 0 := zu_f1 v0
  have g1 : zq_ev r' (0, [(1, 1)]) = r 1 := zu_f1 v1
  have g2 : zq_ev r' (0, [(2, 1)]) = r 2 := zu_f1 v2
  exact ⟨_, List.mem_cons_self .., r', hr, zq_MeS_mk rfl hT (zq_all_nil) zq_fan (zq_fan) rfl (zu_fac ((x_KH _ _ _).mpr (by show zn_KH (zq_ev r' (0, [(0, 1)])) (zq_ev r' (0, [(1, 1)])) (zq_ev r' (0, [(2, 1)])) P h; simp only [g0, g1, g2]; exact t1)) zq_fan)⟩
noncomputable def zn_fL : zq_S × List zq_S := (([], [], [(0, [(2, 1)]), (3, [(2, -1)]), (0, [(3, 1)]), (3, [(3, -1)]), (0, [(4, 1)]), (1, [(4, -1)])], [], [((0, [(0, 1)]), (17, [(2, 1)]), (0, [(10, 1)]))], [], [(209, [(0, [(0, 1)]), (0, [(1, 1)]), (0, [(2, 1)])]), (134, [(0, [(1, 1)]), (0, [(2, 1)]), (0, [(5, 1)])]), (85, [(8, []), (1, []), (0, [(3, 1)]), (0, [(6, 1)])]), (85, [(7, []), (0, [(6, 1)]), (-1, []), (0, [(7, 1)])]), (85, [(5, []), (0, [(5, 1)]), (0, [(7, 1)]), (0, [(8, 1)])]), (85, [(8, []), (0, [(4, 1)]), (0, [(3, 1)]), (0, [(9, 1)])]), (85, [(6, []), (0, [(8, 1)]), (0, [(9, 1)]), (0, [(10, 1)])])], 11), [([], [], [], [], [], [], [(200, [(0, [(1, 1)]), (0, [(2, 1)]), (0, [(3, 1)]), (0, [(4, 1)]), (0, [(11, 1)])]), (195, [(0, [(0, 1)]), (0, [(11, 1)])])], 12)])
theorem zn_fL_l {P : zq_Ty} {h : zq_H} {a E x t s c m n u w v : Int} (a1 : 0 ≤ x) (a2 : 0 ≤ -x + 3) (a3 : 0 ≤ t) (a4 : 0 ≤ -t + 3) (a5 : 0 ≤ s) (a6 : 0 ≤ -s + 1) (s1 : 0 ≤ a ∧ P (a).toNat ≠ none ∧ h (a).toNat (x + 17) = v) (k1 : zn_KH a E x P h) (k2 : zn_DG E x c P h) (k3 : zo_op 8 1 t m P h) (k4 : zo_op 7 m (-1) n P h) (k5 : zo_op 5 c n u P h) (k6 : zo_op 8 s t w P h) (k7 : zo_op 6 u w v P h) : (∃ F : Int, zn_LY E x t s F P h ∧ zn_KR 1 0 a F P h) := by
  obtain ⟨z1, z2, z3⟩ := k1
  have e1 : c = zn_dg E x := k2
  have e2 : m = zq_fun 0 8 1 t := k3
  have e3 : n = zq_fun 0 7 m (-1) := k4
  have e4 : u = zq_fun 0 5 c n := k5
  have e5 : w = zq_fun 0 8 s t := k6
  have e6 : v = zq_fun 0 6 u w := k7
  have hx := z2 x a1 (by omega)
  have f1 : v = zn_sb (zn_dg E x) t s := by
    rw [e6, e4, e3, e2, e5, zn_or (by omega) (by omega) a3 (by omega) (by omega) (by omega), e1]
  refine ⟨zn_ly E x t s, rfl, z1, zn_nb_ly z2 a1 (by omega) a3 (by omega) (by omega) (by omega), fun i p q => ?_⟩
  show h a.toNat (0 + 17 + i) = _
  rw [zn_dg_ly z2 a1 (by omega) a3 (by omega) (by omega) (by omega) p, show (0 : Int) + 17 + i = 17 + i by omega]
  split
  · rename_i g; rw [g, show (17 : Int) + x = x + 17 by omega, s1.2.2, f1]
  · rename_i g; exact z3 i p q g
theorem zn_fL_ok {w : zq_Wd} (x_KH : zj_is w 209 (fun q => zn_KH (q 0) (q 1) (q 2))) (x_DG : zj_is w 134 (fun q => zn_DG (q 0) (q 1) (q 2))) (x_OP : zj_is w 85 (fun q => zo_op (q 0) (q 1) (q 2) (q 3))) (x_LY : zj_is w 200 (fun q => zn_LY (q 0) (q 1) (q 2) (q 3) (q 4))) (x_KR0 : zj_is w 195 (fun q => zn_KR 1 0 (q 0) (q 1))) : zq_okG1 w zn_fL := by
  refine ⟨rfl, rfl, zu_fac ⟨rfl, by decide⟩ zq_fan, ?_⟩
  intro r P h H hM
  have q0 : zq_ev r (0, [(2, 1)]) = r 2 := zu_e1 _ _
  have q1 : zq_ev r (3, [(2, -1)]) = -r 2 + 3 := zu_e5 _ _ _
  have q2 : zq_ev r (0, [(3, 1)]) = r 3 := zu_e1 _ _
  have q3 : zq_ev r (3, [(3, -1)]) = -r 3 + 3 := zu_e5 _ _ _
  have q4 : zq_ev r (0, [(4, 1)]) = r 4 := zu_e1 _ _
  have q5 : zq_ev r (1, [(4, -1)]) = -r 4 + 1 := zu_e5 _ _ _
  have q6 : zq_ev r (0, [(0, 1)]) = r 0 := zu_e1 _ _
  have q7 : zq_ev r (17, [(2, 1)]) = r 2 + 17 := zu_e2 _ _ _
  have q8 : zq_ev r (0, [(10, 1)]) = r 10 := zu_e1 _ _
  have q9 : zq_ev r (0, [(1, 1)]) = r 1 := zu_e1 _ _
  have q10 : zq_ev r (0, [(5, 1)]) = r 5 := zu_e1 _ _
  have q11 : zq_ev r (8, []) = 8 := zu_e0 _ _
  have q12 : zq_ev r (1, []) = 1 := zu_e0 _ _
  have q13 : zq_ev r (0, [(6, 1)]) = r 6 := zu_e1 _ _
  have q14 : zq_ev r (7, []) = 7 := zu_e0 _ _
  have q15 : zq_ev r (-1, []) = -1 := zu_e0 _ _
  have q16 : zq_ev r (0, [(7, 1)]) = r 7 := zu_e1 _ _
  have q17 : zq_ev r (5, []) = 5 := zu_e0 _ _
  have q18 : zq_ev r (0, [(8, 1)]) = r 8 := zu_e1 _ _
  have q19 : zq_ev r (0, [(9, 1)]) = r 9 := zu_e1 _ _
  have q20 : zq_ev r (6, []) = 6 := zu_e0 _ _
  obtain ⟨hT, hC, hF, hS, -, hK⟩ := hM
  have c := hC.1
  have a1 := zq_all_1 c
  rw [q0] at a1
  have c := zq_all_t c
  have a2 := zq_all_1 c
  rw [q1] at a2
  have c := zq_all_t c
  have a3 := zq_all_1 c
  rw [q2] at a3
  have c := zq_all_t c
  have a4 := zq_all_1 c
  rw [q3] at a4
  have c := zq_all_t c
  have a5 := zq_all_1 c
  rw [q4] at a5
  have c := zq_all_t c
  have a6 := zq_all_1 c
  rw [q5] at a6
  have s1 := zq_okS_1 (hS)
  simp only [q6, q7, q8] at s1
  have k1 : zn_KH (zq_ev r (0, [(0, 1)])) (zq_ev r (0, [(1, 1)])) (zq_ev r (0, [(2, 1)])) P h := zj_use x_KH (hK)
  simp only [q0, q6, q9] at k1
  have k2 : zn_DG (zq_ev r (0, [(1, 1)])) (zq_ev r (0, [(2, 1)])) (zq_ev r (0, [(5, 1)])) P h := zj_use x_DG (zq_okX_t (hK))
  simp only [q0, q10, q9] at k2
  have k3 : zo_op (zq_ev r (8, [])) (zq_ev r (1, [])) (zq_ev r (0, [(3, 1)])) (zq_ev r (0, [(6, 1)])) P h := zj_use x_OP (zq_okX_t (zq_okX_t (hK)))
  simp only [q11, q12, q13, q2] at k3
  have k4 : zo_op (zq_ev r (7, [])) (zq_ev r (0, [(6, 1)])) (zq_ev r (-1, [])) (zq_ev r (0, [(7, 1)])) P h := zj_use x_OP (zq_okX_t (zq_okX_t (zq_okX_t (hK))))
  simp only [q13, q14, q15, q16] at k4
  have k5 : zo_op (zq_ev r (5, [])) (zq_ev r (0, [(5, 1)])) (zq_ev r (0, [(7, 1)])) (zq_ev r (0, [(8, 1)])) P h := zj_use x_OP (zq_okX_t (zq_okX_t (zq_okX_t (zq_okX_t (hK)))))
  simp only [q10, q16, q17, q18] at k5
  have k6 : zo_op (zq_ev r (8, [])) (zq_ev r (0, [(4, 1)])) (zq_ev r (0, [(3, 1)])) (zq_ev r (0, [(9, 1)])) P h := zj_use x_OP (zq_okX_t (zq_okX_t (zq_okX_t (zq_okX_t (zq_okX_t (hK))))))
  simp only [q11, q19, q2, q4] at k6
  have k7 : zo_op (zq_ev r (6, [])) (zq_ev r (0, [(8, 1)])) (zq_ev r (0, [(9, 1)])) (zq_ev r (0, [(10, 1)])) P h := zj_use x_OP (zq_okX_t (zq_okX_t (zq_okX_t (zq_okX_t (zq_okX_t (zq_okX_t (hK)))))))
  simp only [q18, q19, q20, q8] at k7
  obtain ⟨y_0, t1, t2⟩ := zn_fL_l (P := P) (h := h) (a := r 0) (E := r 1) (x := r 2) (t := r 3) (s := r 4) (c := r 5) (m := r 6) (n := r 7) (u := r 8) (w := r 9) (v := r 10) a1 a2 a3 a4 a5 a6 s1 k1 k2 k3 k4 k5 k6 k7
  obtain ⟨r', hr, w11⟩ : ∃ r' : Nat → Int, (∀ i, i < 11 → r' i = r i) ∧ r' 11 = y_0 := ⟨zq_up r 11 y_0, fun i hi => by rw [zu_up_ne (by omega)], rfl⟩
  have v0 : r' 0 = r 0 := hr 0 (by decide)
  have v1 : r' 1 = r 1 := hr 1 (by decide)
  have v2 : r' 2 = r 2 := hr 2 (by decide)
  have v3 : r' 3 = r 3 := hr 3 (by decide)
  have v4 : r' 4 = r 4 := hr 4 (by decide)
  have g0 : zq_ev r' (0, [(0, 1)]) = r 0 := zu_f1 v0
  have g1 : zq_ev r' (0, [(11, 1)]) = y_0 := zu_f1 w11
  have g2 : zq_ev r' (0, [(1, 1)]) = r 1 := zu_f1 v1
  have g3 : zq_ev r' (0, [(2, 1)]) = r 2 := zu_f1 v2
  have g4 : zq_ev r' (0, [(3, 1)]) = r 3 := zu_f1 v3
  have g5 : zq_ev r' (0, [(4, 1)]) = r 4 := zu_f1 v4
  exact ⟨_, List.mem_cons_self .., r', hr, zq_MeS_mk rfl hT (zq_all_nil) zq_fan (zq_fan) rfl (zu_fac ((x_LY _ _ _).mpr (by show zn_LY (zq_ev r' (0, [(1, 1)])) (zq_ev r' (0, [(2, 1)])) (zq_ev r' (0, [(3, 1)])) (zq_ev r' (0, [(4, 1)])) (zq_ev r' (0, [(11, 1)])) P h; simp only [g1, g2, g3, g4, g5]; exact t1)) (zu_fac ((x_KR0 _ _ _).mpr (by show zn_KR 1 0 (zq_ev r' (0, [(0, 1)])) (zq_ev r' (0, [(11, 1)])) P h; simp only [g0, g1]; exact t2)) zq_fan))⟩
noncomputable def zn_fQ : zq_S × List zq_S := (([], [], [], [], [], [], [(200, [(0, [(0, 1)]), (0, [(1, 1)]), (0, [(2, 1)]), (0, [(3, 1)]), (0, [(4, 1)])]), (200, [(0, [(4, 1)]), (0, [(2, 1)]), (0, [(1, 1)]), (0, [(3, 1)]), (0, [(5, 1)])])], 6), [([], [], [], [], [], [], [(199, [(0, [(0, 1)]), (0, [(1, 1)]), (0, [(2, 1)]), (0, [(3, 1)]), (0, [(5, 1)])])], 6)])
theorem zn_fQ_l {P : zq_Ty} {h : zq_H} {E a b s F G : Int} (k1 : zn_LY E a b s F P h) (k2 : zn_LY F b a s G P h) : (zn_ST E a b s G P h) := by
  have k1 : F = zn_ly E a b s := k1
  have k2 : G = zn_ly F b a s := k2
  show G = zn_st E a b s
  rw [k2, k1]; rfl
theorem zn_fQ_ok {w : zq_Wd} (x_LY : zj_is w 200 (fun q => zn_LY (q 0) (q 1) (q 2) (q 3) (q 4))) (x_ST : zj_is w 199 (fun q => zn_ST (q 0) (q 1) (q 2) (q 3) (q 4))) : zq_okG1 w zn_fQ := by
  refine ⟨rfl, rfl, zu_fac ⟨rfl, by decide⟩ zq_fan, ?_⟩
  intro r P h H hM
  have q0 : zq_ev r (0, [(0, 1)]) = r 0 := zu_e1 _ _
  have q1 : zq_ev r (0, [(1, 1)]) = r 1 := zu_e1 _ _
  have q2 : zq_ev r (0, [(2, 1)]) = r 2 := zu_e1 _ _
  have q3 : zq_ev r (0, [(3, 1)]) = r 3 := zu_e1 _ _
  have q4 : zq_ev r (0, [(4, 1)]) = r 4 := zu_e1 _ _
  have q5 : zq_ev r (0, [(5, 1)]) = r 5 := zu_e1 _ _
  obtain ⟨hT, hC, hF, hS, -, hK⟩ := hM
  have c := hC.1
  have k1 : zn_LY (zq_ev r (0, [(0, 1)])) (zq_ev r (0, [(1, 1)])) (zq_ev r (0, [(2, 1)])) (zq_ev r (0, [(3, 1)])) (zq_ev r (0, [(4, 1)])) P h := zj_use x_LY (hK)
  simp only [q0, q1, q2, q3, q4] at k1
  have k2 : zn_LY (zq_ev r (0, [(4, 1)])) (zq_ev r (0, [(2, 1)])) (zq_ev r (0, [(1, 1)])) (zq_ev r (0, [(3, 1)])) (zq_ev r (0, [(5, 1)])) P h := zj_use x_LY (zq_okX_t (hK))
  simp only [q1, q2, q3, q4, q5] at k2
  obtain t1 := zn_fQ_l (P := P) (h := h) (E := r 0) (a := r 1) (b := r 2) (s := r 3) (F := r 4) (G := r 5) k1 k2
  obtain ⟨r', hr⟩ : ∃ r' : Nat → Int, (∀ i, i < 6 → r' i = r i) := ⟨r, fun i hi => rfl⟩
  have v0 : r' 0 = r 0 := hr 0 (by decide)
  have v1 : r' 1 = r 1 := hr 1 (by decide)
  have v2 : r' 2 = r 2 := hr 2 (by decide)
  have v3 : r' 3 = r 3 := hr 3 (by decide)
  have v5 : r' 5 = r 5 := hr 5 (by decide)
  have g0 : zq_ev r' (0, [(0, 1)]) = r 0 := zu_f1 v0
  have g1 : zq_ev r' (0, [(1, 1)]) = r 1 := zu_f1 v1
  have g2 : zq_ev r' (0, [(2, 1)]) = r 2 := zu_f1 v2
  have g3 : zq_ev r' (0, [(3, 1)]) = r 3 := zu_f1 v3
  have g4 : zq_ev r' (0, [(5, 1)]) = r 5 := zu_f1 v5
  exact ⟨_, List.mem_cons_self .., r', hr, zq_MeS_mk rfl hT (zq_all_nil) zq_fan (zq_fan) rfl (zu_fac ((x_ST _ _ _).mpr (by show zn_ST (zq_ev r' (0, [(0, 1)])) (zq_ev r' (0, [(1, 1)])) (zq_ev r' (0, [(2, 1)])) (zq_ev r' (0, [(3, 1)])) (zq_ev r' (0, [(5, 1)])) P h; simp only [g0, g1, g2, g3, g4]; exact t1)) zq_fan)⟩
noncomputable def zn_RC0 : zq_S × List zq_S := (([], [], [], [], [], [], [(191, [(0, [(1, 1)]), (0, [(2, 1)])]), (203, [(0, [(0, 1)]), (0, [(1, 1)])])], 3), [([], [], [], [], [], [], [(190, [(0, [(0, 1)]), (0, [(2, 1)])])], 3)])
theorem zn_RC0_l {P : zq_Ty} {h : zq_H} {a b E : Int} (k1 : zn_RA 50 b E P h) (k2 : zn_E 4 40 55 a b P h) : (zn_RA 35 a E P h) := by
  obtain ⟨p1, p2, -, -, p5⟩ := k2
  exact ⟨⟨p1, p2⟩, zn_rd_cong (fun i x y => p5 i x (by show i < 4; omega)) k1.2⟩
theorem zn_RC0_ok {w : zq_Wd} (x_RA1 : zj_is w 191 (fun q => zn_RA 50 (q 0) (q 1))) (x_E0 : zj_is w 203 (fun q => zn_E 4 40 55 (q 0) (q 1))) (x_RA0 : zj_is w 190 (fun q => zn_RA 35 (q 0) (q 1))) : zq_okG1 w zn_RC0 := by
  refine ⟨rfl, rfl, zu_fac ⟨rfl, by decide⟩ zq_fan, ?_⟩
  intro r P h H hM
  have q0 : zq_ev r (0, [(1, 1)]) = r 1 := zu_e1 _ _
  have q1 : zq_ev r (0, [(2, 1)]) = r 2 := zu_e1 _ _
  have q2 : zq_ev r (0, [(0, 1)]) = r 0 := zu_e1 _ _
  obtain ⟨hT, hC, hF, hS, -, hK⟩ := hM
  have c := hC.1
  have k1 : zn_RA 50 (zq_ev r (0, [(1, 1)])) (zq_ev r (0, [(2, 1)])) P h := zj_use x_RA1 (hK)
  simp only [q0, q1] at k1
  have k2 : zn_E 4 40 55 (zq_ev r (0, [(0, 1)])) (zq_ev r (0, [(1, 1)])) P h := zj_use x_E0 (zq_okX_t (hK))
  simp only [q0, q2] at k2
  obtain t1 := zn_RC0_l (P := P) (h := h) (a := r 0) (b := r 1) (E := r 2) k1 k2
  obtain ⟨r', hr⟩ : ∃ r' : Nat → Int, (∀ i, i < 3 → r' i = r i) := ⟨r, fun i hi => rfl⟩
  have v0 : r' 0 = r 0 := hr 0 (by decide)
  have v2 : r' 2 = r 2 := hr 2 (by decide)
  have g0 : zq_ev r' (0, [(0, 1)]) = r 0 := zu_f1 v0
  have g1 : zq_ev r' (0, [(2, 1)]) = r 2 := zu_f1 v2
  exact ⟨_, List.mem_cons_self .., r', hr, zq_MeS_mk rfl hT (zq_all_nil) zq_fan (zq_fan) rfl (zu_fac ((x_RA0 _ _ _).mpr (by show zn_RA 35 (zq_ev r' (0, [(0, 1)])) (zq_ev r' (0, [(2, 1)])) P h; simp only [g0, g1]; exact t1)) zq_fan)⟩
noncomputable def zn_RC1 : zq_S × List zq_S := (([], [], [], [], [], [], [(190, [(0, [(1, 1)]), (0, [(2, 1)])]), (204, [(0, [(0, 1)]), (0, [(1, 1)])])], 3), [([], [], [], [], [], [], [(191, [(0, [(0, 1)]), (0, [(2, 1)])])], 3)])
theorem zn_RC1_l {P : zq_Ty} {h : zq_H} {a b E : Int} (k1 : zn_RA 35 b E P h) (k2 : zn_E 4 55 40 a b P h) : (zn_RA 50 a E P h) := by
  obtain ⟨p1, p2, -, -, p5⟩ := k2
  exact ⟨⟨p1, p2⟩, zn_rd_cong (fun i x y => p5 i x (by show i < 4; omega)) k1.2⟩
theorem zn_RC1_ok {w : zq_Wd} (x_RA0 : zj_is w 190 (fun q => zn_RA 35 (q 0) (q 1))) (x_E1 : zj_is w 204 (fun q => zn_E 4 55 40 (q 0) (q 1))) (x_RA1 : zj_is w 191 (fun q => zn_RA 50 (q 0) (q 1))) : zq_okG1 w zn_RC1 := by
  refine ⟨rfl, rfl, zu_fac ⟨rfl, by decide⟩ zq_fan, ?_⟩
  intro r P h H hM
  have q0 : zq_ev r (0, [(1, 1)]) = r 1 := zu_e1 _ _
  have q1 : zq_ev r (0, [(2, 1)]) = r 2 := zu_e1 _ _
  have q2 : zq_ev r (0, [(0, 1)]) = r 0 := zu_e1 _ _
  obtain ⟨hT, hC, hF, hS, -, hK⟩ := hM
  have c := hC.1
  have k1 : zn_RA 35 (zq_ev r (0, [(1, 1)])) (zq_ev r (0, [(2, 1)])) P h := zj_use x_RA0 (hK)
  simp only [q0, q1] at k1
  have k2 : zn_E 4 55 40 (zq_ev r (0, [(0, 1)])) (zq_ev r (0, [(1, 1)])) P h := zj_use x_E1 (zq_okX_t (hK))
  simp only [q0, q2] at k2
  obtain t1 := zn_RC1_l (P := P) (h := h) (a := r 0) (b := r 1) (E := r 2) k1 k2
  obtain ⟨r', hr⟩ : ∃ r' : Nat → Int, (∀ i, i < 3 → r' i = r i) := ⟨r, fun i hi => rfl⟩
  have v0 : r' 0 = r 0 := hr 0 (by decide)
  have v2 : r' 2 = r 2 := hr 2 (by decide)
  have g0 : zq_ev r' (0, [(0, 1)]) = r 0 := zu_f1 v0
  have g1 : zq_ev r' (0, [(2, 1)]) = r 2 := zu_f1 v2
  exact ⟨_, List.mem_cons_self .., r', hr, zq_MeS_mk rfl hT (zq_all_nil) zq_fan (zq_fan) rfl (zu_fac ((x_RA1 _ _ _).mpr (by show zn_RA 50 (zq_ev r' (0, [(0, 1)])) (zq_ev r' (0, [(2, 1)])) P h; simp only [g0, g1]; exact t1)) zq_fan)⟩
noncomputable def zn_RC2 : zq_S × List zq_S := (([], [], [], [], [], [], [(190, [(0, [(1, 1)]), (0, [(2, 1)])]), (205, [(0, [(0, 1)]), (0, [(1, 1)])])], 3), [([], [], [], [], [], [], [(192, [(0, [(0, 1)]), (0, [(2, 1)])])], 3)])
theorem zn_RC2_l {P : zq_Ty} {h : zq_H} {a b E : Int} (k1 : zn_RA 35 b E P h) (k2 : zn_E 4 70 40 a b P h) : (zn_RA 65 a E P h) := by
  obtain ⟨p1, p2, -, -, p5⟩ := k2
  exact ⟨⟨p1, p2⟩, zn_rd_cong (fun i x y => p5 i x (by show i < 4; omega)) k1.2⟩
theorem zn_RC2_ok {w : zq_Wd} (x_RA0 : zj_is w 190 (fun q => zn_RA 35 (q 0) (q 1))) (x_E2 : zj_is w 205 (fun q => zn_E 4 70 40 (q 0) (q 1))) (x_RA2 : zj_is w 192 (fun q => zn_RA 65 (q 0) (q 1))) : zq_okG1 w zn_RC2 := by
  refine ⟨rfl, rfl, zu_fac ⟨rfl, by decide⟩ zq_fan, ?_⟩
  intro r P h H hM
  have q0 : zq_ev r (0, [(1, 1)]) = r 1 := zu_e1 _ _
  have q1 : zq_ev r (0, [(2, 1)]) = r 2 := zu_e1 _ _
  have q2 : zq_ev r (0, [(0, 1)]) = r 0 := zu_e1 _ _
  obtain ⟨hT, hC, hF, hS, -, hK⟩ := hM
  have c := hC.1
  have k1 : zn_RA 35 (zq_ev r (0, [(1, 1)])) (zq_ev r (0, [(2, 1)])) P h := zj_use x_RA0 (hK)
  simp only [q0, q1] at k1
  have k2 : zn_E 4 70 40 (zq_ev r (0, [(0, 1)])) (zq_ev r (0, [(1, 1)])) P h := zj_use x_E2 (zq_okX_t (hK))
  simp only [q0, q2] at k2
  obtain t1 := zn_RC2_l (P := P) (h := h) (a := r 0) (b := r 1) (E := r 2) k1 k2
  obtain ⟨r', hr⟩ : ∃ r' : Nat → Int, (∀ i, i < 3 → r' i = r i) := ⟨r, fun i hi => rfl⟩
  have v0 : r' 0 = r 0 := hr 0 (by decide)
  have v2 : r' 2 = r 2 := hr 2 (by decide)
  have g0 : zq_ev r' (0, [(0, 1)]) = r 0 := zu_f1 v0
  have g1 : zq_ev r' (0, [(2, 1)]) = r 2 := zu_f1 v2
  exact ⟨_, List.mem_cons_self .., r', hr, zq_MeS_mk rfl hT (zq_all_nil) zq_fan (zq_fan) rfl (zu_fac ((x_RA2 _ _ _).mpr (by show zn_RA 65 (zq_ev r' (0, [(0, 1)])) (zq_ev r' (0, [(2, 1)])) P h; simp only [g0, g1]; exact t1)) zq_fan)⟩
noncomputable def zn_RC3 : zq_S × List zq_S := (([], [], [], [], [], [], [(190, [(0, [(1, 1)]), (0, [(2, 1)])]), (206, [(0, [(0, 1)]), (0, [(1, 1)])])], 3), [([], [], [], [], [], [], [(193, [(0, [(0, 1)]), (0, [(2, 1)])])], 3)])
theorem zn_RC3_l {P : zq_Ty} {h : zq_H} {a b E : Int} (k1 : zn_RA 35 b E P h) (k2 : zn_E 4 85 40 a b P h) : (zn_RA 80 a E P h) := by
  obtain ⟨p1, p2, -, -, p5⟩ := k2
  exact ⟨⟨p1, p2⟩, zn_rd_cong (fun i x y => p5 i x (by show i < 4; omega)) k1.2⟩
theorem zn_RC3_ok {w : zq_Wd} (x_RA0 : zj_is w 190 (fun q => zn_RA 35 (q 0) (q 1))) (x_E3 : zj_is w 206 (fun q => zn_E 4 85 40 (q 0) (q 1))) (x_RA3 : zj_is w 193 (fun q => zn_RA 80 (q 0) (q 1))) : zq_okG1 w zn_RC3 := by
  refine ⟨rfl, rfl, zu_fac ⟨rfl, by decide⟩ zq_fan, ?_⟩
  intro r P h H hM
  have q0 : zq_ev r (0, [(1, 1)]) = r 1 := zu_e1 _ _
  have q1 : zq_ev r (0, [(2, 1)]) = r 2 := zu_e1 _ _
  have q2 : zq_ev r (0, [(0, 1)]) = r 0 := zu_e1 _ _
  obtain ⟨hT, hC, hF, hS, -, hK⟩ := hM
  have c := hC.1
  have k1 : zn_RA 35 (zq_ev r (0, [(1, 1)])) (zq_ev r (0, [(2, 1)])) P h := zj_use x_RA0 (hK)
  simp only [q0, q1] at k1
  have k2 : zn_E 4 85 40 (zq_ev r (0, [(0, 1)])) (zq_ev r (0, [(1, 1)])) P h := zj_use x_E3 (zq_okX_t (hK))
  simp only [q0, q2] at k2
  obtain t1 := zn_RC3_l (P := P) (h := h) (a := r 0) (b := r 1) (E := r 2) k1 k2
  obtain ⟨r', hr⟩ : ∃ r' : Nat → Int, (∀ i, i < 3 → r' i = r i) := ⟨r, fun i hi => rfl⟩
  have v0 : r' 0 = r 0 := hr 0 (by decide)
  have v2 : r' 2 = r 2 := hr 2 (by decide)
  have g0 : zq_ev r' (0, [(0, 1)]) = r 0 := zu_f1 v0
  have g1 : zq_ev r' (0, [(2, 1)]) = r 2 := zu_f1 v2
  exact ⟨_, List.mem_cons_self .., r', hr, zq_MeS_mk rfl hT (zq_all_nil) zq_fan (zq_fan) rfl (zu_fac ((x_RA3 _ _ _).mpr (by show zn_RA 80 (zq_ev r' (0, [(0, 1)])) (zq_ev r' (0, [(2, 1)])) P h; simp only [g0, g1]; exact t1)) zq_fan)⟩
noncomputable def zn_RC4 : zq_S × List zq_S := (([], [], [], [], [], [], [(192, [(0, [(1, 1)]), (0, [(2, 1)])]), (207, [(0, [(0, 1)]), (0, [(1, 1)])])], 3), [([], [], [], [], [], [], [(190, [(0, [(0, 1)]), (0, [(2, 1)])])], 3)])
theorem zn_RC4_l {P : zq_Ty} {h : zq_H} {a b E : Int} (k1 : zn_RA 65 b E P h) (k2 : zn_E 4 40 70 a b P h) : (zn_RA 35 a E P h) := by
  obtain ⟨p1, p2, -, -, p5⟩ := k2
  exact ⟨⟨p1, p2⟩, zn_rd_cong (fun i x y => p5 i x (by show i < 4; omega)) k1.2⟩
theorem zn_RC4_ok {w : zq_Wd} (x_RA2 : zj_is w 192 (fun q => zn_RA 65 (q 0) (q 1))) (x_E4 : zj_is w 207 (fun q => zn_E 4 40 70 (q 0) (q 1))) (x_RA0 : zj_is w 190 (fun q => zn_RA 35 (q 0) (q 1))) : zq_okG1 w zn_RC4 := by
  refine ⟨rfl, rfl, zu_fac ⟨rfl, by decide⟩ zq_fan, ?_⟩
  intro r P h H hM
  have q0 : zq_ev r (0, [(1, 1)]) = r 1 := zu_e1 _ _
  have q1 : zq_ev r (0, [(2, 1)]) = r 2 := zu_e1 _ _
  have q2 : zq_ev r (0, [(0, 1)]) = r 0 := zu_e1 _ _
  obtain ⟨hT, hC, hF, hS, -, hK⟩ := hM
  have c := hC.1
  have k1 : zn_RA 65 (zq_ev r (0, [(1, 1)])) (zq_ev r (0, [(2, 1)])) P h := zj_use x_RA2 (hK)
  simp only [q0, q1] at k1
  have k2 : zn_E 4 40 70 (zq_ev r (0, [(0, 1)])) (zq_ev r (0, [(1, 1)])) P h := zj_use x_E4 (zq_okX_t (hK))
  simp only [q0, q2] at k2
  obtain t1 := zn_RC4_l (P := P) (h := h) (a := r 0) (b := r 1) (E := r 2) k1 k2
  obtain ⟨r', hr⟩ : ∃ r' : Nat → Int, (∀ i, i < 3 → r' i = r i) := ⟨r, fun i hi => rfl⟩
  have v0 : r' 0 = r 0 := hr 0 (by decide)
  have v2 : r' 2 = r 2 := hr 2 (by decide)
  have g0 : zq_ev r' (0, [(0, 1)]) = r 0 := zu_f1 v0
  have g1 : zq_ev r' (0, [(2, 1)]) = r 2 := zu_f1 v2
  exact ⟨_, List.mem_cons_self .., r', hr, zq_MeS_mk rfl hT (zq_all_nil) zq_fan (zq_fan) rfl (zu_fac ((x_RA0 _ _ _).mpr (by show zn_RA 35 (zq_ev r' (0, [(0, 1)])) (zq_ev r' (0, [(2, 1)])) P h; simp only [g0, g1]; exact t1)) zq_fan)⟩
noncomputable def zn_RC5 : zq_S × List zq_S := (([], [], [], [], [], [], [(193, [(0, [(1, 1)]), (0, [(2, 1)])]), (208, [(0, [(0, 1)]), (0, [(1, 1)])])], 3), [([], [], [], [], [], [], [(190, [(0, [(0, 1)]), (0, [(2, 1)])])], 3)])
theorem zn_RC5_l {P : zq_Ty} {h : zq_H} {a b E : Int} (k1 : zn_RA 80 b E P h) (k2 : zn_E 4 40 85 a b P h) : (zn_RA 35 a E P h) := by
  obtain ⟨p1, p2, -, -, p5⟩ := k2
  exact ⟨⟨p1, p2⟩, zn_rd_cong (fun i x y => p5 i x (by show i < 4; omega)) k1.2⟩
theorem zn_RC5_ok {w : zq_Wd} (x_RA3 : zj_is w 193 (fun q => zn_RA 80 (q 0) (q 1))) (x_E5 : zj_is w 208 (fun q => zn_E 4 40 85 (q 0) (q 1))) (x_RA0 : zj_is w 190 (fun q => zn_RA 35 (q 0) (q 1))) : zq_okG1 w zn_RC5 := by
  refine ⟨rfl, rfl, zu_fac ⟨rfl, by decide⟩ zq_fan, ?_⟩
  intro r P h H hM
  have q0 : zq_ev r (0, [(1, 1)]) = r 1 := zu_e1 _ _
  have q1 : zq_ev r (0, [(2, 1)]) = r 2 := zu_e1 _ _
  have q2 : zq_ev r (0, [(0, 1)]) = r 0 := zu_e1 _ _
  obtain ⟨hT, hC, hF, hS, -, hK⟩ := hM
  have c := hC.1
  have k1 : zn_RA 80 (zq_ev r (0, [(1, 1)])) (zq_ev r (0, [(2, 1)])) P h := zj_use x_RA3 (hK)
  simp only [q0, q1] at k1
  have k2 : zn_E 4 40 85 (zq_ev r (0, [(0, 1)])) (zq_ev r (0, [(1, 1)])) P h := zj_use x_E5 (zq_okX_t (hK))
  simp only [q0, q2] at k2
  obtain t1 := zn_RC5_l (P := P) (h := h) (a := r 0) (b := r 1) (E := r 2) k1 k2
  obtain ⟨r', hr⟩ : ∃ r' : Nat → Int, (∀ i, i < 3 → r' i = r i) := ⟨r, fun i hi => rfl⟩
  have v0 : r' 0 = r 0 := hr 0 (by decide)
  have v2 : r' 2 = r 2 := hr 2 (by decide)
  have g0 : zq_ev r' (0, [(0, 1)]) = r 0 := zu_f1 v0
  have g1 : zq_ev r' (0, [(2, 1)]) = r 2 := zu_f1 v2
  exact ⟨_, List.mem_cons_self .., r', hr, zq_MeS_mk rfl hT (zq_all_nil) zq_fan (zq_fan) rfl (zu_fac ((x_RA0 _ _ _).mpr (by show zn_RA 35 (zq_ev r' (0, [(0, 1)])) (zq_ev r' (0, [(2, 1)])) P h; simp only [g0, g1]; exact t1)) zq_fan)⟩
noncomputable def zn_RI0 : zq_S × List zq_S := (([], [], [], [], [], [], [(7, [(0, [(0, 1)]), (0, [(1, 1)]), (0, []), (5671, [])]), (195, [(0, [(0, 1)]), (0, [(2, 1)])])], 3), [([], [], [], [], [], [], [(196, [(0, [(1, 1)]), (0, [(2, 1)])])], 3)])
theorem zn_RI0_l {P : zq_Ty} {h : zq_H} {a m E : Int} (k1 : zn_C7 a m 0 5671 P h) (k2 : zn_KR 1 0 a E P h) : (zn_KR 2 0 m E P h) := by
  obtain ⟨c1, c2, c3, c4, -, -, -, -, c5⟩ := k1
  have c5 : ∀ j : Int, 0 ≤ j → j < 5671 → h m.toNat (0 + j) = h a.toNat j := c5
  refine ⟨⟨c3, c4⟩, zn_rd_cong (fun i x y => ?_) k2.2⟩
  show h m.toNat (0 + 17 + i) = h a.toNat (0 + 17 + i)
  rw [← c5 (0 + 17 + i) (by omega) (by omega)]; congr 1; omega
theorem zn_RI0_ok {w : zq_Wd} (x_C7 : zj_is w 7 (fun q => zn_C7 (q 0) (q 1) (q 2) (q 3))) (x_KR0 : zj_is w 195 (fun q => zn_KR 1 0 (q 0) (q 1))) (x_KR1 : zj_is w 196 (fun q => zn_KR 2 0 (q 0) (q 1))) : zq_okG1 w zn_RI0 := by
  refine ⟨rfl, rfl, zu_fac ⟨rfl, by decide⟩ zq_fan, ?_⟩
  intro r P h H hM
  have q0 : zq_ev r (0, [(0, 1)]) = r 0 := zu_e1 _ _
  have q1 : zq_ev r (0, [(1, 1)]) = r 1 := zu_e1 _ _
  have q2 : zq_ev r (0, []) = 0 := zu_e0 _ _
  have q3 : zq_ev r (5671, []) = 5671 := zu_e0 _ _
  have q4 : zq_ev r (0, [(2, 1)]) = r 2 := zu_e1 _ _
  obtain ⟨hT, hC, hF, hS, -, hK⟩ := hM
  have c := hC.1
  have k1 : zn_C7 (zq_ev r (0, [(0, 1)])) (zq_ev r (0, [(1, 1)])) (zq_ev r (0, [])) (zq_ev r (5671, [])) P h := zj_use x_C7 (hK)
  simp only [q0, q1, q2, q3] at k1
  have k2 : zn_KR 1 0 (zq_ev r (0, [(0, 1)])) (zq_ev r (0, [(2, 1)])) P h := zj_use x_KR0 (zq_okX_t (hK))
  simp only [q0, q4] at k2
  obtain t1 := zn_RI0_l (P := P) (h := h) (a := r 0) (m := r 1) (E := r 2) k1 k2
  obtain ⟨r', hr⟩ : ∃ r' : Nat → Int, (∀ i, i < 3 → r' i = r i) := ⟨r, fun i hi => rfl⟩
  have v1 : r' 1 = r 1 := hr 1 (by decide)
  have v2 : r' 2 = r 2 := hr 2 (by decide)
  have g0 : zq_ev r' (0, [(1, 1)]) = r 1 := zu_f1 v1
  have g1 : zq_ev r' (0, [(2, 1)]) = r 2 := zu_f1 v2
  exact ⟨_, List.mem_cons_self .., r', hr, zq_MeS_mk rfl hT (zq_all_nil) zq_fan (zq_fan) rfl (zu_fac ((x_KR1 _ _ _).mpr (by show zn_KR 2 0 (zq_ev r' (0, [(1, 1)])) (zq_ev r' (0, [(2, 1)])) P h; simp only [g0, g1]; exact t1)) zq_fan)⟩
noncomputable def zn_IR0 : zq_S × List zq_S := (([], [], [], [], [], [], [(7, [(0, [(0, 1)]), (0, [(1, 1)]), (0, []), (5671, [])]), (196, [(0, [(1, 1)]), (0, [(2, 1)])])], 3), [([], [], [], [], [], [], [(195, [(0, [(0, 1)]), (0, [(2, 1)])])], 3)])
theorem zn_IR0_l {P : zq_Ty} {h : zq_H} {a m E : Int} (k1 : zn_C7 a m 0 5671 P h) (k2 : zn_KR 2 0 m E P h) : (zn_KR 1 0 a E P h) := by
  obtain ⟨c1, c2, c3, c4, -, -, -, -, c5⟩ := k1
  have c5 : ∀ j : Int, 0 ≤ j → j < 5671 → h m.toNat (0 + j) = h a.toNat j := c5
  refine ⟨⟨c1, c2⟩, zn_rd_cong (fun i x y => ?_) k2.2⟩
  show h a.toNat (0 + 17 + i) = h m.toNat (0 + 17 + i)
  rw [← c5 (0 + 17 + i) (by omega) (by omega)]; congr 1; omega
theorem zn_IR0_ok {w : zq_Wd} (x_C7 : zj_is w 7 (fun q => zn_C7 (q 0) (q 1) (q 2) (q 3))) (x_KR1 : zj_is w 196 (fun q => zn_KR 2 0 (q 0) (q 1))) (x_KR0 : zj_is w 195 (fun q => zn_KR 1 0 (q 0) (q 1))) : zq_okG1 w zn_IR0 := by
  refine ⟨rfl, rfl, zu_fac ⟨rfl, by decide⟩ zq_fan, ?_⟩
  intro r P h H hM
  have q0 : zq_ev r (0, [(0, 1)]) = r 0 := zu_e1 _ _
  have q1 : zq_ev r (0, [(1, 1)]) = r 1 := zu_e1 _ _
  have q2 : zq_ev r (0, []) = 0 := zu_e0 _ _
  have q3 : zq_ev r (5671, []) = 5671 := zu_e0 _ _
  have q4 : zq_ev r (0, [(2, 1)]) = r 2 := zu_e1 _ _
  obtain ⟨hT, hC, hF, hS, -, hK⟩ := hM
  have c := hC.1
  have k1 : zn_C7 (zq_ev r (0, [(0, 1)])) (zq_ev r (0, [(1, 1)])) (zq_ev r (0, [])) (zq_ev r (5671, [])) P h := zj_use x_C7 (hK)
  simp only [q0, q1, q2, q3] at k1
  have k2 : zn_KR 2 0 (zq_ev r (0, [(1, 1)])) (zq_ev r (0, [(2, 1)])) P h := zj_use x_KR1 (zq_okX_t (hK))
  simp only [q1, q4] at k2
  obtain t1 := zn_IR0_l (P := P) (h := h) (a := r 0) (m := r 1) (E := r 2) k1 k2
  obtain ⟨r', hr⟩ : ∃ r' : Nat → Int, (∀ i, i < 3 → r' i = r i) := ⟨r, fun i hi => rfl⟩
  have v0 : r' 0 = r 0 := hr 0 (by decide)
  have v2 : r' 2 = r 2 := hr 2 (by decide)
  have g0 : zq_ev r' (0, [(0, 1)]) = r 0 := zu_f1 v0
  have g1 : zq_ev r' (0, [(2, 1)]) = r 2 := zu_f1 v2
  exact ⟨_, List.mem_cons_self .., r', hr, zq_MeS_mk rfl hT (zq_all_nil) zq_fan (zq_fan) rfl (zu_fac ((x_KR0 _ _ _).mpr (by show zn_KR 1 0 (zq_ev r' (0, [(0, 1)])) (zq_ev r' (0, [(2, 1)])) P h; simp only [g0, g1]; exact t1)) zq_fan)⟩
noncomputable def zn_RI1 : zq_S × List zq_S := (([], [], [], [], [], [], [(7, [(0, [(0, 1)]), (0, [(1, 1)]), (5671, []), (5671, [])]), (195, [(0, [(0, 1)]), (0, [(2, 1)])])], 3), [([], [], [], [], [], [], [(197, [(0, [(1, 1)]), (0, [(2, 1)])])], 3)])
theorem zn_RI1_l {P : zq_Ty} {h : zq_H} {a m E : Int} (k1 : zn_C7 a m 5671 5671 P h) (k2 : zn_KR 1 0 a E P h) : (zn_KR 2 5671 m E P h) := by
  obtain ⟨c1, c2, c3, c4, -, -, -, -, c5⟩ := k1
  have c5 : ∀ j : Int, 0 ≤ j → j < 5671 → h m.toNat (5671 + j) = h a.toNat j := c5
  refine ⟨⟨c3, c4⟩, zn_rd_cong (fun i x y => ?_) k2.2⟩
  show h m.toNat (5671 + 17 + i) = h a.toNat (0 + 17 + i)
  rw [← c5 (0 + 17 + i) (by omega) (by omega)]; congr 1; omega
theorem zn_RI1_ok {w : zq_Wd} (x_C7 : zj_is w 7 (fun q => zn_C7 (q 0) (q 1) (q 2) (q 3))) (x_KR0 : zj_is w 195 (fun q => zn_KR 1 0 (q 0) (q 1))) (x_KR2 : zj_is w 197 (fun q => zn_KR 2 5671 (q 0) (q 1))) : zq_okG1 w zn_RI1 := by
  refine ⟨rfl, rfl, zu_fac ⟨rfl, by decide⟩ zq_fan, ?_⟩
  intro r P h H hM
  have q0 : zq_ev r (0, [(0, 1)]) = r 0 := zu_e1 _ _
  have q1 : zq_ev r (0, [(1, 1)]) = r 1 := zu_e1 _ _
  have q2 : zq_ev r (5671, []) = 5671 := zu_e0 _ _
  have q3 : zq_ev r (0, [(2, 1)]) = r 2 := zu_e1 _ _
  obtain ⟨hT, hC, hF, hS, -, hK⟩ := hM
  have c := hC.1
  have k1 : zn_C7 (zq_ev r (0, [(0, 1)])) (zq_ev r (0, [(1, 1)])) (zq_ev r (5671, [])) (zq_ev r (5671, [])) P h := zj_use x_C7 (hK)
  simp only [q0, q1, q2] at k1
  have k2 : zn_KR 1 0 (zq_ev r (0, [(0, 1)])) (zq_ev r (0, [(2, 1)])) P h := zj_use x_KR0 (zq_okX_t (hK))
  simp only [q0, q3] at k2
  obtain t1 := zn_RI1_l (P := P) (h := h) (a := r 0) (m := r 1) (E := r 2) k1 k2
  obtain ⟨r', hr⟩ : ∃ r' : Nat → Int, (∀ i, i < 3 → r' i = r i) := ⟨r, fun i hi => rfl⟩
  have v1 : r' 1 = r 1 := hr 1 (by decide)
  have v2 : r' 2 = r 2 := hr 2 (by decide)
  have g0 : zq_ev r' (0, [(1, 1)]) = r 1 := zu_f1 v1
  have g1 : zq_ev r' (0, [(2, 1)]) = r 2 := zu_f1 v2
  exact ⟨_, List.mem_cons_self .., r', hr, zq_MeS_mk rfl hT (zq_all_nil) zq_fan (zq_fan) rfl (zu_fac ((x_KR2 _ _ _).mpr (by show zn_KR 2 5671 (zq_ev r' (0, [(1, 1)])) (zq_ev r' (0, [(2, 1)])) P h; simp only [g0, g1]; exact t1)) zq_fan)⟩
noncomputable def zn_IR1 : zq_S × List zq_S := (([], [], [], [], [], [], [(7, [(0, [(0, 1)]), (0, [(1, 1)]), (5671, []), (5671, [])]), (197, [(0, [(1, 1)]), (0, [(2, 1)])])], 3), [([], [], [], [], [], [], [(195, [(0, [(0, 1)]), (0, [(2, 1)])])], 3)])
theorem zn_IR1_l {P : zq_Ty} {h : zq_H} {a m E : Int} (k1 : zn_C7 a m 5671 5671 P h) (k2 : zn_KR 2 5671 m E P h) : (zn_KR 1 0 a E P h) := by
  obtain ⟨c1, c2, c3, c4, -, -, -, -, c5⟩ := k1
  have c5 : ∀ j : Int, 0 ≤ j → j < 5671 → h m.toNat (5671 + j) = h a.toNat j := c5
  refine ⟨⟨c1, c2⟩, zn_rd_cong (fun i x y => ?_) k2.2⟩
  show h a.toNat (0 + 17 + i) = h m.toNat (5671 + 17 + i)
  rw [← c5 (0 + 17 + i) (by omega) (by omega)]; congr 1; omega
theorem zn_IR1_ok {w : zq_Wd} (x_C7 : zj_is w 7 (fun q => zn_C7 (q 0) (q 1) (q 2) (q 3))) (x_KR2 : zj_is w 197 (fun q => zn_KR 2 5671 (q 0) (q 1))) (x_KR0 : zj_is w 195 (fun q => zn_KR 1 0 (q 0) (q 1))) : zq_okG1 w zn_IR1 := by
  refine ⟨rfl, rfl, zu_fac ⟨rfl, by decide⟩ zq_fan, ?_⟩
  intro r P h H hM
  have q0 : zq_ev r (0, [(0, 1)]) = r 0 := zu_e1 _ _
  have q1 : zq_ev r (0, [(1, 1)]) = r 1 := zu_e1 _ _
  have q2 : zq_ev r (5671, []) = 5671 := zu_e0 _ _
  have q3 : zq_ev r (0, [(2, 1)]) = r 2 := zu_e1 _ _
  obtain ⟨hT, hC, hF, hS, -, hK⟩ := hM
  have c := hC.1
  have k1 : zn_C7 (zq_ev r (0, [(0, 1)])) (zq_ev r (0, [(1, 1)])) (zq_ev r (5671, [])) (zq_ev r (5671, [])) P h := zj_use x_C7 (hK)
  simp only [q0, q1, q2] at k1
  have k2 : zn_KR 2 5671 (zq_ev r (0, [(1, 1)])) (zq_ev r (0, [(2, 1)])) P h := zj_use x_KR2 (zq_okX_t (hK))
  simp only [q1, q3] at k2
  obtain t1 := zn_IR1_l (P := P) (h := h) (a := r 0) (m := r 1) (E := r 2) k1 k2
  obtain ⟨r', hr⟩ : ∃ r' : Nat → Int, (∀ i, i < 3 → r' i = r i) := ⟨r, fun i hi => rfl⟩
  have v0 : r' 0 = r 0 := hr 0 (by decide)
  have v2 : r' 2 = r 2 := hr 2 (by decide)
  have g0 : zq_ev r' (0, [(0, 1)]) = r 0 := zu_f1 v0
  have g1 : zq_ev r' (0, [(2, 1)]) = r 2 := zu_f1 v2
  exact ⟨_, List.mem_cons_self .., r', hr, zq_MeS_mk rfl hT (zq_all_nil) zq_fan (zq_fan) rfl (zu_fac ((x_KR0 _ _ _).mpr (by show zn_KR 1 0 (zq_ev r' (0, [(0, 1)])) (zq_ev r' (0, [(2, 1)])) P h; simp only [g0, g1]; exact t1)) zq_fan)⟩
noncomputable def zn_UT : zq_S × List zq_S := (([], [], [(0, [(0, 1), (5, -1)]), (0, [(0, -1), (5, 1)]), (0, [(1, 1), (6, -1)]), (0, [(1, -1), (6, 1)]), (0, [(2, 1), (7, -1)]), (0, [(2, -1), (7, 1)]), (0, [(3, 1), (8, -1)]), (0, [(3, -1), (8, 1)])], [], [], [], [(199, [(0, [(0, 1)]), (0, [(1, 1)]), (0, [(2, 1)]), (0, [(3, 1)]), (0, [(4, 1)])]), (199, [(0, [(5, 1)]), (0, [(6, 1)]), (0, [(7, 1)]), (0, [(8, 1)]), (0, [(9, 1)])])], 10), [([], [], [(0, [(4, 1), (9, -1)]), (0, [(4, -1), (9, 1)])], [], [], [], [], 10)])
theorem zn_UT_l {P : zq_Ty} {h : zq_H} {x0 x1 x2 x3 u y0 y1 y2 y3 v : Int} (a1 : 0 ≤ x0 - y0) (a2 : 0 ≤ -x0 + y0) (a3 : 0 ≤ x1 - y1) (a4 : 0 ≤ -x1 + y1) (a5 : 0 ≤ x2 - y2) (a6 : 0 ≤ -x2 + y2) (a7 : 0 ≤ x3 - y3) (a8 : 0 ≤ -x3 + y3) (k1 : zn_ST x0 x1 x2 x3 u P h) (k2 : zn_ST y0 y1 y2 y3 v P h) : (0 ≤ u - v ∧ 0 ≤ -u + v) := by
  have e0 : x0 = y0 := by omega
  have e1 : x1 = y1 := by omega
  have e2 : x2 = y2 := by omega
  have e3 : x3 = y3 := by omega
  subst e0
  subst e1
  subst e2
  subst e3
  have e : u = v := k1.trans k2.symm
  exact ⟨by omega, by omega⟩
theorem zn_UT_ok {w : zq_Wd} (x_ST : zj_is w 199 (fun q => zn_ST (q 0) (q 1) (q 2) (q 3) (q 4))) : zq_okG1 w zn_UT := by
  refine ⟨rfl, rfl, zu_fac ⟨rfl, by decide⟩ zq_fan, ?_⟩
  intro r P h H hM
  have q0 : zq_ev r (0, [(0, 1), (5, -1)]) = r 0 - r 5 := by simp only [zq_ev, zq_ts] <;> omega
  have q1 : zq_ev r (0, [(0, -1), (5, 1)]) = -r 0 + r 5 := by simp only [zq_ev, zq_ts] <;> omega
  have q2 : zq_ev r (0, [(1, 1), (6, -1)]) = r 1 - r 6 := by simp only [zq_ev, zq_ts] <;> omega
  have q3 : zq_ev r (0, [(1, -1), (6, 1)]) = -r 1 + r 6 := by simp only [zq_ev, zq_ts] <;> omega
  have q4 : zq_ev r (0, [(2, 1), (7, -1)]) = r 2 - r 7 := by simp only [zq_ev, zq_ts] <;> omega
  have q5 : zq_ev r (0, [(2, -1), (7, 1)]) = -r 2 + r 7 := by simp only [zq_ev, zq_ts] <;> omega
  have q6 : zq_ev r (0, [(3, 1), (8, -1)]) = r 3 - r 8 := by simp only [zq_ev, zq_ts] <;> omega
  have q7 : zq_ev r (0, [(3, -1), (8, 1)]) = -r 3 + r 8 := by simp only [zq_ev, zq_ts] <;> omega
  have q8 : zq_ev r (0, [(0, 1)]) = r 0 := zu_e1 _ _
  have q9 : zq_ev r (0, [(1, 1)]) = r 1 := zu_e1 _ _
  have q10 : zq_ev r (0, [(2, 1)]) = r 2 := zu_e1 _ _
  have q11 : zq_ev r (0, [(3, 1)]) = r 3 := zu_e1 _ _
  have q12 : zq_ev r (0, [(4, 1)]) = r 4 := zu_e1 _ _
  have q13 : zq_ev r (0, [(5, 1)]) = r 5 := zu_e1 _ _
  have q14 : zq_ev r (0, [(6, 1)]) = r 6 := zu_e1 _ _
  have q15 : zq_ev r (0, [(7, 1)]) = r 7 := zu_e1 _ _
  have q16 : zq_ev r (0, [(8, 1)]) = r 8 := zu_e1 _ _
  have q17 : zq_ev r (0, [(9, 1)]) = r 9 := zu_e1 _ _
  obtain ⟨hT, hC, hF, hS, -, hK⟩ := hM
  have c := hC.1
  have a1 := zq_all_1 c
  rw [q0] at a1
  have c := zq_all_t c
  have a2 := zq_all_1 c
  rw [q1] at a2
  have c := zq_all_t c
  have a3 := zq_all_1 c
  rw [q2] at a3
  have c := zq_all_t c
  have a4 := zq_all_1 c
  rw [q3] at a4
  have c := zq_all_t c
  have a5 := zq_all_1 c
  rw [q4] at a5
  have c := zq_all_t c
  have a6 := zq_all_1 c
  rw [q5] at a6
  have c := zq_all_t c
  have a7 := zq_all_1 c
  rw [q6] at a7
  have c := zq_all_t c
  have a8 := zq_all_1 c
  rw [q7] at a8
  have k1 : zn_ST (zq_ev r (0, [(0, 1)])) (zq_ev r (0, [(1, 1)])) (zq_ev r (0, [(2, 1)])) (zq_ev r (0, [(3, 1)])) (zq_ev r (0, [(4, 1)])) P h := zj_use x_ST (hK)
  simp only [q10, q11, q12, q8, q9] at k1
  have k2 : zn_ST (zq_ev r (0, [(5, 1)])) (zq_ev r (0, [(6, 1)])) (zq_ev r (0, [(7, 1)])) (zq_ev r (0, [(8, 1)])) (zq_ev r (0, [(9, 1)])) P h := zj_use x_ST (zq_okX_t (hK))
  simp only [q13, q14, q15, q16, q17] at k2
  obtain ⟨c1, c2⟩ := zn_UT_l (P := P) (h := h) (x0 := r 0) (x1 := r 1) (x2 := r 2) (x3 := r 3) (u := r 4) (y0 := r 5) (y1 := r 6) (y2 := r 7) (y3 := r 8) (v := r 9) a1 a2 a3 a4 a5 a6 a7 a8 k1 k2
  obtain ⟨r', hr⟩ : ∃ r' : Nat → Int, (∀ i, i < 10 → r' i = r i) := ⟨r, fun i hi => rfl⟩
  have v4 : r' 4 = r 4 := hr 4 (by decide)
  have v9 : r' 9 = r 9 := hr 9 (by decide)
  have g0 : zq_ev r' (0, [(4, -1), (9, 1)]) = -r 4 + r 9 := by simp only [zq_ev, zq_ts, v4, v9] <;> omega
  have g1 : zq_ev r' (0, [(4, 1), (9, -1)]) = r 4 - r 9 := by simp only [zq_ev, zq_ts, v4, v9] <;> omega
  exact ⟨_, List.mem_cons_self .., r', hr, zq_MeS_mk rfl hT (zq_all_cons (by rw [g1]; exact c1) (zq_all_cons (by rw [g0]; exact c2) (zq_all_nil))) zq_fan (zq_fan) rfl zq_fan⟩
noncomputable def zn_UB : zq_S × List zq_S := (([], [], [(0, [(0, 1), (4, -1)]), (0, [(0, -1), (4, 1)]), (0, [(1, 1), (5, -1)]), (0, [(1, -1), (5, 1)]), (0, [(2, 1), (6, -1)]), (0, [(2, -1), (6, 1)])], [], [], [], [(202, [(0, [(0, 1)]), (0, [(1, 1)]), (0, [(2, 1)]), (0, [(3, 1)])]), (202, [(0, [(4, 1)]), (0, [(5, 1)]), (0, [(6, 1)]), (0, [(7, 1)])])], 8), [([], [], [(0, [(3, 1), (7, -1)]), (0, [(3, -1), (7, 1)])], [], [], [], [], 8)])
theorem zn_UB_l {P : zq_Ty} {h : zq_H} {x0 x1 x2 u y0 y1 y2 v : Int} (a1 : 0 ≤ x0 - y0) (a2 : 0 ≤ -x0 + y0) (a3 : 0 ≤ x1 - y1) (a4 : 0 ≤ -x1 + y1) (a5 : 0 ≤ x2 - y2) (a6 : 0 ≤ -x2 + y2) (k1 : zn_BT x0 x1 x2 u P h) (k2 : zn_BT y0 y1 y2 v P h) : (0 ≤ u - v ∧ 0 ≤ -u + v) := by
  have e0 : x0 = y0 := by omega
  have e1 : x1 = y1 := by omega
  have e2 : x2 = y2 := by omega
  subst e0
  subst e1
  subst e2
  have e : u = v := k1.trans k2.symm
  exact ⟨by omega, by omega⟩
theorem zn_UB_ok {w : zq_Wd} (x_BT : zj_is w 202 (fun q => zn_BT (q 0) (q 1) (q 2) (q 3))) : zq_okG1 w zn_UB := by
  refine ⟨rfl, rfl, zu_fac ⟨rfl, by decide⟩ zq_fan, ?_⟩
  intro r P h H hM
  have q0 : zq_ev r (0, [(0, 1), (4, -1)]) = r 0 - r 4 := by simp only [zq_ev, zq_ts] <;> omega
  have q1 : zq_ev r (0, [(0, -1), (4, 1)]) = -r 0 + r 4 := by simp only [zq_ev, zq_ts] <;> omega
  have q2 : zq_ev r (0, [(1, 1), (5, -1)]) = r 1 - r 5 := by simp only [zq_ev, zq_ts] <;> omega
  have q3 : zq_ev r (0, [(1, -1), (5, 1)]) = -r 1 + r 5 := by simp only [zq_ev, zq_ts] <;> omega
  have q4 : zq_ev r (0, [(2, 1), (6, -1)]) = r 2 - r 6 := by simp only [zq_ev, zq_ts] <;> omega
  have q5 : zq_ev r (0, [(2, -1), (6, 1)]) = -r 2 + r 6 := by simp only [zq_ev, zq_ts] <;> omega
  have q6 : zq_ev r (0, [(0, 1)]) = r 0 := zu_e1 _ _
  have q7 : zq_ev r (0, [(1, 1)]) = r 1 := zu_e1 _ _
  have q8 : zq_ev r (0, [(2, 1)]) = r 2 := zu_e1 _ _
  have q9 : zq_ev r (0, [(3, 1)]) = r 3 := zu_e1 _ _
  have q10 : zq_ev r (0, [(4, 1)]) = r 4 := zu_e1 _ _
  have q11 : zq_ev r (0, [(5, 1)]) = r 5 := zu_e1 _ _
  have q12 : zq_ev r (0, [(6, 1)]) = r 6 := zu_e1 _ _
  have q13 : zq_ev r (0, [(7, 1)]) = r 7 := zu_e1 _ _
  obtain ⟨hT, hC, hF, hS, -, hK⟩ := hM
  have c := hC.1
  have a1 := zq_all_1 c
  rw [q0] at a1
  have c := zq_all_t c
  have a2 := zq_all_1 c
  rw [q1] at a2
  have c := zq_all_t c
  have a3 := zq_all_1 c
  rw [q2] at a3
  have c := zq_all_t c
  have a4 := zq_all_1 c
  rw [q3] at a4
  have c := zq_all_t c
  have a5 := zq_all_1 c
  rw [q4] at a5
  have c := zq_all_t c
  have a6 := zq_all_1 c
  rw [q5] at a6
  have k1 : zn_BT (zq_ev r (0, [(0, 1)])) (zq_ev r (0, [(1, 1)])) (zq_ev r (0, [(2, 1)])) (zq_ev r (0, [(3, 1)])) P h := zj_use x_BT (hK)
  simp only [q6, q7, q8, q9] at k1
  have k2 : zn_BT (zq_ev r (0, [(4, 1)])) (zq_ev r (0, [(5, 1)])) (zq_ev r (0, [(6, 1)])) (zq_ev r (0, [(7, 1)])) P h := zj_use x_BT (zq_okX_t (hK))
  simp only [q10, q11, q12, q13] at k2
  obtain ⟨c1, c2⟩ := zn_UB_l (P := P) (h := h) (x0 := r 0) (x1 := r 1) (x2 := r 2) (u := r 3) (y0 := r 4) (y1 := r 5) (y2 := r 6) (v := r 7) a1 a2 a3 a4 a5 a6 k1 k2
  obtain ⟨r', hr⟩ : ∃ r' : Nat → Int, (∀ i, i < 8 → r' i = r i) := ⟨r, fun i hi => rfl⟩
  have v3 : r' 3 = r 3 := hr 3 (by decide)
  have v7 : r' 7 = r 7 := hr 7 (by decide)
  have g0 : zq_ev r' (0, [(3, -1), (7, 1)]) = -r 3 + r 7 := by simp only [zq_ev, zq_ts, v3, v7] <;> omega
  have g1 : zq_ev r' (0, [(3, 1), (7, -1)]) = r 3 - r 7 := by simp only [zq_ev, zq_ts, v3, v7] <;> omega
  exact ⟨_, List.mem_cons_self .., r', hr, zq_MeS_mk rfl hT (zq_all_cons (by rw [g1]; exact c1) (zq_all_cons (by rw [g0]; exact c2) (zq_all_nil))) zq_fan (zq_fan) rfl zq_fan⟩
