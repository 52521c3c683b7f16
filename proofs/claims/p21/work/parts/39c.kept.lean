/-! laws kept, images -/
noncomputable def zx_K0 : zq_S × List zq_S := (([], [], [zq_v 0], [(zq_v 0, 1)], [], [], [], 1), [([], [], [], [], [], [], [(2, [zq_v 0, zq_k 0])], 1)])
theorem zx_K0_ok {w : zq_Wd} {A0 : Nat → Nat} (hX : w.2.2.2.2 = zX A0) : zq_okG1 w zx_K0 := by
  refine ⟨rfl, rfl, zq_fa1 ⟨rfl, Nat.le_refl _⟩, ?_⟩
  intro r P h H hM
  obtain ⟨hT, hC, hF, -, -, -⟩ := hM
  have a1 := zq_all_1 hC.1
  have b1 := zq_okF_1 hF a1
  simp only [zq_ev_v] at a1 b1
  refine ⟨_, List.mem_singleton.mpr rfl, r, fun _ _ => rfl, zq_MeS_mk rfl hT zq_all_nil zq_fan zq_fan rfl (zq_fa1 ?_)⟩
  rw [hX]
  show zx_2 (zq_en [zq_ev r (zq_v 0), zq_ev r (zq_k 0)]) P h
  rw [zq_ev_v, zq_ev_k]
  exact ⟨a1, b1, by show (0 : Int) ≤ 6; omega, fun t x y => absurd y (by show ¬ t < 0; omega)⟩
/-- a law of those kept, from its start -/
noncomputable def zx_K1 : zq_S × List zq_S := (([], [], [zq_v 2, zq_addk (zq_sub (zq_v 1) (zq_v 2)) (-1)], [], [(zq_v 0, zq_addk (zq_v 2) 64, zq_v 3)], [], [(2, [zq_v 0, zq_v 1])], 4),
  [([], [], [zq_v 3, zq_sub (zq_k 400) (zq_v 3)], [], [], [], [(1, [zq_v 0, (0, [(2, 400)]), (0, [(2, 400), (3, 1)]), zq_k 0, zq_k 0, zq_k 0, zq_k 0, zq_k 0])], 4)])
theorem zx_K1_ok {w : zq_Wd} {A0 : Nat → Nat} (hX : w.2.2.2.2 = zX A0) : zq_okG1 w zx_K1 := by
  refine ⟨rfl, rfl, zq_fa1 ⟨rfl, Nat.le_refl _⟩, ?_⟩
  intro r P h H hM
  obtain ⟨hT, hC, -, hS, -, hK⟩ := hM
  have a1 := zq_all_1 hC.1
  have a2 := zq_all_1 (zq_all_t hC.1)
  obtain ⟨-, -, s3⟩ := zq_okS_1 hS
  have k0 : zx_2 (zq_en [zq_ev r (zq_v 0), zq_ev r (zq_v 1)]) P h := zq_okX_1 hX hK
  rw [zq_ev_v, zq_ev_v] at k0
  simp only [zq_ev_addk, zq_ev_sub, zq_ev_v] at a1 a2 s3
  obtain ⟨k1, k2, k3, k4⟩ := k0
  have k1 : 0 ≤ r 0 := k1
  have k3 : r 1 ≤ 6 := k3
  obtain ⟨t1, t2, t3⟩ := k4 (r 2) a1 (by show r 2 < r 1; omega)
  have s3 : h (r 0).toNat (64 + r 2) = r 3 := by rw [Int.add_comm]; exact s3
  have t1 : 0 ≤ h (r 0).toNat (64 + r 2) := t1
  have t2 : h (r 0).toNat (64 + r 2) ≤ 400 := t2
  refine ⟨_, List.mem_singleton.mpr rfl, r, fun _ _ => rfl, zq_MeS_mk rfl hT (zq_all_cons ?_ (zq_all_cons ?_ zq_all_nil)) zq_fan zq_fan rfl (zq_fa1 ?_)⟩
  · rw [zq_ev_v]; omega
  · rw [zq_ev_sub, zq_ev_k, zq_ev_v]; omega
  rw [hX]
  show zx_1 (zq_en [zq_ev r (zq_v 0), zq_ev r (0, [(2, 400)]), zq_ev r (0, [(2, 400), (3, 1)]), zq_ev r (zq_k 0), zq_ev r (zq_k 0), zq_ev r (zq_k 0), zq_ev r (zq_k 0), zq_ev r (zq_k 0)]) P h
  have e1 : zq_ev r (0, [(2, 400)]) = 400 * r 2 := by simp [zq_ev, zq_ts]
  have e2 : zq_ev r (0, [(2, 400), (3, 1)]) = 400 * r 2 + r 3 := by simp [zq_ev, zq_ts]
  rw [zq_ev_v, zq_ev_k, e1, e2]
  refine ⟨k1, k2, by show 0 ≤ 400 * r 2; omega, by show 400 * r 2 + r 3 ≤ 2800; omega, ?_⟩
  have t3 : zx_suf (fun j => h (r 0).toNat (71 + j)) (fun j => h (r 0).toNat (2871 + j)) (400 * r 2) (400 * r 2 + h (r 0).toNat (64 + r 2)) (0, 0, 0, 0, 0) := t3
  rw [s3] at t3
  exact t3
/-- copying: nothing yet, one more -/
noncomputable def zx_E0 : zq_S × List zq_S := (([], [], [zq_v 0, zq_v 1, zq_sub (zq_k 2800) (zq_v 1), zq_v 2, zq_v 3], [(zq_v 0, 1), (zq_v 2, 8), (zq_v 3, 9)], [], [], [], 4), [([], [], [], [], [], [], [(5, [zq_v 0, zq_v 1, zq_v 2, zq_v 3, zq_k 0])], 4)])
theorem zx_E0_ok {w : zq_Wd} {A0 : Nat → Nat} (hX : w.2.2.2.2 = zX A0) : zq_okG1 w zx_E0 := by
  refine ⟨rfl, rfl, zq_fa1 ⟨rfl, Nat.le_refl _⟩, ?_⟩
  intro r P h H hM
  obtain ⟨hT, hC, hF, -, -, -⟩ := hM
  have c := hC.1
  have a1 := zq_all_1 c
  have c := zq_all_t c
  have a2 := zq_all_1 c
  have c := zq_all_t c
  have a3 := zq_all_1 c
  have c := zq_all_t c
  have a4 := zq_all_1 c
  have c := zq_all_t c
  have a5 := zq_all_1 c
  have b1 := zq_okF_1 hF a1
  have b2 := zq_okF_1 (zq_okF_t hF) a4
  have b3 := zq_okF_1 (zq_okF_t (zq_okF_t hF)) a5
  simp only [zq_ev_v, zq_ev_sub, zq_ev_k] at a1 a2 a3 a4 a5 b1 b2 b3
  refine ⟨_, List.mem_singleton.mpr rfl, r, fun _ _ => rfl, zq_MeS_mk rfl hT zq_all_nil zq_fan zq_fan rfl (zq_fa1 ?_)⟩
  rw [hX]
  show zx_5 (zq_en [zq_ev r (zq_v 0), zq_ev r (zq_v 1), zq_ev r (zq_v 2), zq_ev r (zq_v 3), zq_ev r (zq_k 0)]) P h
  rw [zq_ev_v, zq_ev_v, zq_ev_v, zq_ev_v, zq_ev_k]
  exact ⟨a1, b1, a4, b2, a5, b3, a2, Int.le_refl _, by show (0 : Int) ≤ 401; omega, by show r 1 + 0 ≤ 2800; omega, fun j x y => absurd y (by show ¬ j < 0; omega)⟩
noncomputable def zx_E1 : zq_S × List zq_S := (([], [], [zq_sub (zq_k 400) (zq_v 4), zq_sub (zq_k 2799) (zq_add (zq_v 1) (zq_v 4))], [], [(zq_v 0, (71, [(1, 1), (4, 1)]), zq_v 5), (zq_v 2, zq_v 4, zq_v 5), (zq_v 0, (2871, [(1, 1), (4, 1)]), zq_v 6), (zq_v 3, zq_v 4, zq_v 6)], [], [(5, [zq_v 0, zq_v 1, zq_v 2, zq_v 3, zq_v 4])], 7), [([], [], [], [], [], [], [(5, [zq_v 0, zq_v 1, zq_v 2, zq_v 3, zq_addk (zq_v 4) 1])], 7)])
theorem zx_E1_ok {w : zq_Wd} {A0 : Nat → Nat} (hX : w.2.2.2.2 = zX A0) : zq_okG1 w zx_E1 := by
  refine ⟨rfl, rfl, zq_fa1 ⟨rfl, Nat.le_refl _⟩, ?_⟩
  intro r P h H hM
  obtain ⟨hT, hC, hF, hS, -, hK⟩ := hM
  have a1 := zq_all_1 hC.1
  have a2 := zq_all_1 (zq_all_t hC.1)
  obtain ⟨-, -, s1⟩ := zq_okS_1 hS
  obtain ⟨-, -, s2⟩ := zq_okS_1 (zq_okS_t hS)
  obtain ⟨-, -, s3⟩ := zq_okS_1 (zq_okS_t (zq_okS_t hS))
  obtain ⟨-, -, s4⟩ := zq_okS_1 (zq_okS_t (zq_okS_t (zq_okS_t hS)))
  have e1 : zq_ev r (71, [(1, 1), (4, 1)]) = 71 + r 1 + r 4 := by simp [zq_ev, zq_ts]; omega
  have e2 : zq_ev r (2871, [(1, 1), (4, 1)]) = 2871 + r 1 + r 4 := by simp [zq_ev, zq_ts]; omega
  simp only [zq_ev_v, zq_ev_sub, zq_ev_add, zq_ev_k, e1, e2] at a1 a2 s1 s2 s3 s4
  have k0 : zx_5 (zq_en [zq_ev r (zq_v 0), zq_ev r (zq_v 1), zq_ev r (zq_v 2), zq_ev r (zq_v 3), zq_ev r (zq_v 4)]) P h := zq_okX_1 hX hK
  rw [zq_ev_v, zq_ev_v, zq_ev_v, zq_ev_v, zq_ev_v] at k0
  obtain ⟨k1, k2, k3, k4, k5, k6, k7, k8, k9, k10, k11⟩ := k0
  refine ⟨_, List.mem_singleton.mpr rfl, r, fun _ _ => rfl, zq_MeS_mk rfl hT zq_all_nil zq_fan zq_fan rfl (zq_fa1 ?_)⟩
  rw [hX]
  show zx_5 (zq_en [zq_ev r (zq_v 0), zq_ev r (zq_v 1), zq_ev r (zq_v 2), zq_ev r (zq_v 3), zq_ev r (zq_addk (zq_v 4) 1)]) P h
  rw [zq_ev_v, zq_ev_v, zq_ev_v, zq_ev_v, zq_ev_addk, zq_ev_v]
  have k8 : 0 ≤ r 4 := k8
  refine ⟨k1, k2, k3, k4, k5, k6, k7, by show 0 ≤ r 4 + 1; omega, by show r 4 + 1 ≤ 401; omega, by show r 1 + (r 4 + 1) ≤ 2800; omega, fun j x y => ?_⟩
  have y : j < r 4 + 1 := y
  by_cases hj : j < r 4
  · exact k11 j x hj
  · have : j = r 4 := by omega
    subst this
    exact ⟨s1.trans s2.symm, s3.trans s4.symm⟩
/-- a law more -/
noncomputable def zx_K2 : zq_S × List zq_S := (([], [], [zq_v 1, zq_sub (zq_k 5) (zq_v 1), zq_v 4, zq_sub (zq_k 400) (zq_v 4)], [], [(zq_v 0, zq_addk (zq_v 1) 64, zq_v 4)], [], [(2, [zq_v 0, zq_v 1]), (4, [zq_v 2, zq_v 3, zq_v 4, zq_k 0]), (5, [zq_v 0, (0, [(1, 400)]), zq_v 2, zq_v 3, zq_v 4])], 5), [([], [], [], [], [], [], [(2, [zq_v 0, zq_addk (zq_v 1) 1])], 5)])
theorem zx_K2_ok {w : zq_Wd} {A0 : Nat → Nat} (hX : w.2.2.2.2 = zX A0) : zq_okG1 w zx_K2 := by
  refine ⟨rfl, rfl, zq_fa1 ⟨rfl, Nat.le_refl _⟩, ?_⟩
  intro r P h H hM
  obtain ⟨hT, hC, hF, hS, -, hK⟩ := hM
  have c := hC.1
  have a1 := zq_all_1 c
  have c := zq_all_t c
  have a2 := zq_all_1 c
  have c := zq_all_t c
  have a3 := zq_all_1 c
  have c := zq_all_t c
  have a4 := zq_all_1 c
  obtain ⟨-, -, s1⟩ := zq_okS_1 hS
  have e1 : zq_ev r (0, [(1, 400)]) = 400 * r 1 := by simp [zq_ev, zq_ts]
  simp only [zq_ev_v, zq_ev_sub, zq_ev_addk, zq_ev_k] at a1 a2 a3 a4 s1
  have k0 : zx_2 (zq_en [zq_ev r (zq_v 0), zq_ev r (zq_v 1)]) P h := zq_okX_1 hX hK
  have m0 : zx_4 (zq_en [zq_ev r (zq_v 2), zq_ev r (zq_v 3), zq_ev r (zq_v 4), zq_ev r (zq_k 0)]) P h := zq_okX_1 hX (zq_okX_t hK)
  have n0 : zx_5 (zq_en [zq_ev r (zq_v 0), zq_ev r (0, [(1, 400)]), zq_ev r (zq_v 2), zq_ev r (zq_v 3), zq_ev r (zq_v 4)]) P h := zq_okX_1 hX (zq_okX_t (zq_okX_t hK))
  rw [zq_ev_v, zq_ev_v] at k0
  rw [zq_ev_v, zq_ev_v, zq_ev_v, zq_ev_k] at m0
  rw [zq_ev_v, e1, zq_ev_v, zq_ev_v, zq_ev_v] at n0
  obtain ⟨k1, k2, k3, k4⟩ := k0
  obtain ⟨-, -, -, -, -, -, m7⟩ := m0
  obtain ⟨-, -, -, -, -, -, -, -, -, -, n11⟩ := n0
  refine ⟨_, List.mem_singleton.mpr rfl, r, fun _ _ => rfl, zq_MeS_mk rfl hT zq_all_nil zq_fan zq_fan rfl (zq_fa1 ?_)⟩
  rw [hX]
  show zx_2 (zq_en [zq_ev r (zq_v 0), zq_ev r (zq_addk (zq_v 1) 1)]) P h
  rw [zq_ev_v, zq_ev_addk, zq_ev_v]
  refine ⟨k1, k2, by show r 1 + 1 ≤ 6; omega, fun t x y => ?_⟩
  have y : t < r 1 + 1 := y
  by_cases ht : t < r 1
  · exact k4 t x ht
  · have : t = r 1 := by omega
    subst this
    have s1 : h (r 0).toNat (64 + r 1) = r 4 := by rw [Int.add_comm]; exact s1
    show zx_txt (h (r 0).toNat) (r 1) 0
    unfold zx_txt
    rw [s1]
    refine ⟨a3, by omega, ?_⟩
    have := zx_suf_shift (d := 400 * r 1) m7
    rw [show (0 : Int) + 400 * r 1 = 400 * r 1 by omega, show zq_en [r 2, r 3, r 4, 0] 2 + 400 * r 1 = 400 * r 1 + r 4 by show r 4 + 400 * r 1 = _; omega] at this
    refine zx_suf_cong (fun j p1 p2 => ?_) this
    obtain ⟨q1, q2⟩ := n11 (j - 400 * r 1) (by omega) (by show j - 400 * r 1 < r 4; omega)
    have q1 : h (r 0).toNat (71 + 400 * r 1 + (j - 400 * r 1)) = h (r 2).toNat (j - 400 * r 1) := q1
    have q2 : h (r 0).toNat (2871 + 400 * r 1 + (j - 400 * r 1)) = h (r 3).toNat (j - 400 * r 1) := q2
    rw [show 71 + 400 * r 1 + (j - 400 * r 1) = 71 + j by omega] at q1
    rw [show 2871 + 400 * r 1 + (j - 400 * r 1) = 2871 + j by omega] at q2
    exact ⟨q1, q2⟩
/-- orders, from their start -/
noncomputable def zx_K3 : zq_S × List zq_S := (([], [], [zq_v 3, zq_sub (zq_k 400) (zq_v 3)], [], [], [], [(4, [zq_v 1, zq_v 2, zq_v 3, zq_k 1]), (5, [zq_v 0, zq_k 2400, zq_v 1, zq_v 2, zq_v 3])], 4), [([], [], [], [], [], [], [(1, [zq_v 0, zq_k 2400, zq_addk (zq_v 3) 2400, zq_k 1, zq_k 0, zq_k 0, zq_k 0, zq_k 0])], 4)])
theorem zx_K3_ok {w : zq_Wd} {A0 : Nat → Nat} (hX : w.2.2.2.2 = zX A0) : zq_okG1 w zx_K3 := by
  refine ⟨rfl, rfl, zq_fa1 ⟨rfl, Nat.le_refl _⟩, ?_⟩
  intro r P h H hM
  obtain ⟨hT, hC, hF, hS, -, hK⟩ := hM
  have a1 := zq_all_1 hC.1
  have a2 := zq_all_1 (zq_all_t hC.1)
  simp only [zq_ev_v, zq_ev_sub, zq_ev_addk, zq_ev_k] at a1 a2
  have m0 : zx_4 (zq_en [zq_ev r (zq_v 1), zq_ev r (zq_v 2), zq_ev r (zq_v 3), zq_ev r (zq_k 1)]) P h := zq_okX_1 hX hK
  have n0 : zx_5 (zq_en [zq_ev r (zq_v 0), zq_ev r (zq_k 2400), zq_ev r (zq_v 1), zq_ev r (zq_v 2), zq_ev r (zq_v 3)]) P h := zq_okX_1 hX (zq_okX_t hK)
  rw [zq_ev_v, zq_ev_v, zq_ev_v, zq_ev_k] at m0
  rw [zq_ev_v, zq_ev_k, zq_ev_v, zq_ev_v, zq_ev_v] at n0
  obtain ⟨-, -, -, -, -, -, m7⟩ := m0
  obtain ⟨n1, n2, -, -, -, -, -, -, -, -, n11⟩ := n0
  refine ⟨_, List.mem_singleton.mpr rfl, r, fun _ _ => rfl, zq_MeS_mk rfl hT zq_all_nil zq_fan zq_fan rfl (zq_fa1 ?_)⟩
  rw [hX]
  show zx_1 (zq_en [zq_ev r (zq_v 0), zq_ev r (zq_k 2400), zq_ev r (zq_addk (zq_v 3) 2400), zq_ev r (zq_k 1), zq_ev r (zq_k 0), zq_ev r (zq_k 0), zq_ev r (zq_k 0), zq_ev r (zq_k 0)]) P h
  rw [zq_ev_v, zq_ev_k, zq_ev_addk, zq_ev_v, zq_ev_k, zq_ev_k]
  refine ⟨n1, n2, by show (0 : Int) ≤ 2400; omega, by show r 3 + 2400 ≤ 2800; omega, ?_⟩
  have := zx_suf_shift (d := 2400) m7
  rw [show (0 : Int) + 2400 = 2400 by omega] at this
  show zx_suf (fun j => h (r 0).toNat (71 + j)) (fun j => h (r 0).toNat (2871 + j)) 2400 (r 3 + 2400) (1, 0, 0, 0, 0)
  refine zx_suf_cong (fun j p1 p2 => ?_) this
  have p2 : j < r 3 + 2400 := p2
  obtain ⟨q1, q2⟩ := n11 (j - 2400) (by omega) (by show j - 2400 < r 3; omega)
  have q1 : h (r 0).toNat (71 + 2400 + (j - 2400)) = h (r 1).toNat (j - 2400) := q1
  have q2 : h (r 0).toNat (2871 + 2400 + (j - 2400)) = h (r 2).toNat (j - 2400) := q2
  rw [show 71 + 2400 + (j - 2400) = 71 + j by omega] at q1
  rw [show 2871 + 2400 + (j - 2400) = 2871 + j by omega] at q2
  exact ⟨q1, q2⟩
/-- copying an image -/
noncomputable def zx_Q0 : zq_S × List zq_S := (([], [], [zq_v 0, zq_v 1, zq_v 2, zq_sub (zq_k 11342) (zq_v 2)], [(zq_v 0, 1), (zq_v 1, 2)], [], [], [], 3), [([], [], [], [], [], [], [(7, [zq_v 0, zq_v 1, zq_v 2, zq_k 0])], 3)])
theorem zx_Q0_ok {w : zq_Wd} {A0 : Nat → Nat} (hX : w.2.2.2.2 = zX A0) : zq_okG1 w zx_Q0 := by
  refine ⟨rfl, rfl, zq_fa1 ⟨rfl, Nat.le_refl _⟩, ?_⟩
  intro r P h H hM
  obtain ⟨hT, hC, hF, -, -, -⟩ := hM
  have c := hC.1
  have a1 := zq_all_1 c
  have c := zq_all_t c
  have a2 := zq_all_1 c
  have c := zq_all_t c
  have a3 := zq_all_1 c
  have c := zq_all_t c
  have a4 := zq_all_1 c
  have b1 := zq_okF_1 hF a1
  have b2 := zq_okF_1 (zq_okF_t hF) a2
  simp only [zq_ev_v, zq_ev_sub, zq_ev_k] at a1 a2 a3 a4 b1 b2
  refine ⟨_, List.mem_singleton.mpr rfl, r, fun _ _ => rfl, zq_MeS_mk rfl hT zq_all_nil zq_fan zq_fan rfl (zq_fa1 ?_)⟩
  rw [hX]
  show zx_7 (zq_en [zq_ev r (zq_v 0), zq_ev r (zq_v 1), zq_ev r (zq_v 2), zq_ev r (zq_k 0)]) P h
  rw [zq_ev_v, zq_ev_v, zq_ev_v, zq_ev_k]
  exact ⟨a1, b1, a2, b2, a3, Int.le_refl _, by show (0 : Int) ≤ 5671; omega, by show r 2 + 0 ≤ 11342; omega, fun j x y => absurd y (by show ¬ j < 0; omega)⟩
noncomputable def zx_Q1 : zq_S × List zq_S := (([], [], [zq_sub (zq_k 5670) (zq_v 3), zq_sub (zq_k 11341) (zq_add (zq_v 2) (zq_v 3))], [], [(zq_v 1, zq_add (zq_v 2) (zq_v 3), zq_v 4), (zq_v 0, zq_v 3, zq_v 4)], [], [(7, [zq_v 0, zq_v 1, zq_v 2, zq_v 3])], 5), [([], [], [], [], [], [], [(7, [zq_v 0, zq_v 1, zq_v 2, zq_addk (zq_v 3) 1])], 5)])
theorem zx_Q1_ok {w : zq_Wd} {A0 : Nat → Nat} (hX : w.2.2.2.2 = zX A0) : zq_okG1 w zx_Q1 := by
  refine ⟨rfl, rfl, zq_fa1 ⟨rfl, Nat.le_refl _⟩, ?_⟩
  intro r P h H hM
  obtain ⟨hT, hC, hF, hS, -, hK⟩ := hM
  have a1 := zq_all_1 hC.1
  have a2 := zq_all_1 (zq_all_t hC.1)
  obtain ⟨-, -, s1⟩ := zq_okS_1 hS
  obtain ⟨-, -, s2⟩ := zq_okS_1 (zq_okS_t hS)
  simp only [zq_ev_v, zq_ev_sub, zq_ev_add, zq_ev_k] at a1 a2 s1 s2
  have k0 : zx_7 (zq_en [zq_ev r (zq_v 0), zq_ev r (zq_v 1), zq_ev r (zq_v 2), zq_ev r (zq_v 3)]) P h := zq_okX_1 hX hK
  rw [zq_ev_v, zq_ev_v, zq_ev_v, zq_ev_v] at k0
  obtain ⟨k1, k2, k3, k4, k5, k6, k7, k8, k9⟩ := k0
  have k6 : 0 ≤ r 3 := k6
  refine ⟨_, List.mem_singleton.mpr rfl, r, fun _ _ => rfl, zq_MeS_mk rfl hT zq_all_nil zq_fan zq_fan rfl (zq_fa1 ?_)⟩
  rw [hX]
  show zx_7 (zq_en [zq_ev r (zq_v 0), zq_ev r (zq_v 1), zq_ev r (zq_v 2), zq_ev r (zq_addk (zq_v 3) 1)]) P h
  rw [zq_ev_v, zq_ev_v, zq_ev_v, zq_ev_addk, zq_ev_v]
  refine ⟨k1, k2, k3, k4, k5, by show 0 ≤ r 3 + 1; omega, by show r 3 + 1 ≤ 5671; omega, by show r 2 + (r 3 + 1) ≤ 11342; omega, fun j x y => ?_⟩
  have y : j < r 3 + 1 := y
  by_cases hj : j < r 3
  · exact k9 j x hj
  · have : j = r 3 := by omega
    subst this
    exact s1.trans s2.symm
/-- an image is made -/
noncomputable def zx_I1 : zq_S × List zq_S := (([], [], [zq_v 2, zq_v 3, zq_sub (zq_k 1) (zq_v 3), zq_addk (zq_sub (zq_v 4) (zq_v 5)) (-1), zq_addk (zq_v 5) 1], [(zq_v 2, 3)], [(zq_v 0, zq_k 62, zq_v 4), (zq_v 0, zq_k 63, zq_v 5)], [], [(2, [zq_v 0, zq_v 4]), (7, [zq_v 0, zq_v 1, (0, [(3, 5671)]), zq_k 5671])], 6), [([], [], [], [], [], [], [(6, [zq_v 1, zq_v 2, zq_v 3])], 6)])
theorem zx_I1_ok {w : zq_Wd} {A0 : Nat → Nat} (hX : w.2.2.2.2 = zX A0) : zq_okG1 w zx_I1 := by
  refine ⟨rfl, rfl, zq_fa1 ⟨rfl, Nat.le_refl _⟩, ?_⟩
  intro r P h H hM
  obtain ⟨hT, hC, hF, hS, -, hK⟩ := hM
  have c := hC.1
  have a1 := zq_all_1 c
  have c := zq_all_t c
  have a2 := zq_all_1 c
  have c := zq_all_t c
  have a3 := zq_all_1 c
  have c := zq_all_t c
  have a4 := zq_all_1 c
  have c := zq_all_t c
  have a5 := zq_all_1 c
  have b1 := zq_okF_1 hF a1
  obtain ⟨-, -, s1⟩ := zq_okS_1 hS
  obtain ⟨-, -, s2⟩ := zq_okS_1 (zq_okS_t hS)
  have e1 : zq_ev r (0, [(3, 5671)]) = 5671 * r 3 := by simp [zq_ev, zq_ts]
  simp only [zq_ev_v, zq_ev_sub, zq_ev_addk, zq_ev_k] at a1 a2 a3 a4 a5 b1 s1 s2
  have k0 : zx_2 (zq_en [zq_ev r (zq_v 0), zq_ev r (zq_v 4)]) P h := zq_okX_1 hX hK
  have m0 : zx_7 (zq_en [zq_ev r (zq_v 0), zq_ev r (zq_v 1), zq_ev r (0, [(3, 5671)]), zq_ev r (zq_k 5671)]) P h := zq_okX_1 hX (zq_okX_t hK)
  rw [zq_ev_v, zq_ev_v] at k0
  rw [zq_ev_v, zq_ev_v, e1, zq_ev_k] at m0
  obtain ⟨k1, k2, k3, k4⟩ := k0
  obtain ⟨-, -, m3, m4, -, -, -, -, m9⟩ := m0
  have k3 : r 4 ≤ 6 := k3
  have m9 : ∀ j, 0 ≤ j → j < 5671 → h (r 1).toNat (5671 * r 3 + j) = h (r 0).toNat j := m9
  refine ⟨_, List.mem_singleton.mpr rfl, r, fun _ _ => rfl, zq_MeS_mk rfl hT zq_all_nil zq_fan zq_fan rfl (zq_fa1 ?_)⟩
  rw [hX]
  show zx_6 (zq_en [zq_ev r (zq_v 1), zq_ev r (zq_v 2), zq_ev r (zq_v 3)]) P h
  rw [zq_ev_v, zq_ev_v, zq_ev_v]
  refine ⟨m3, m4, a1, b1, a2, by show r 3 ≤ 1; omega, fun _ => ?_⟩
  show -1 ≤ h (r 1).toNat (5671 * r 3 + 63) ∧ h (r 1).toNat (5671 * r 3 + 63) < h (r 1).toNat (5671 * r 3 + 62) ∧ h (r 1).toNat (5671 * r 3 + 62) ≤ 6 ∧ ∀ t, 0 ≤ t → t < h (r 1).toNat (5671 * r 3 + 62) → zx_txt (fun j => h (r 1).toNat (5671 * r 3 + j)) t 0
  rw [m9 63 (by omega) (by omega), m9 62 (by omega) (by omega), s1, s2]
  refine ⟨by omega, by omega, k3, fun t x y => ?_⟩
  refine zx_txt_cong x (m9 _ (by omega) (by omega)) (fun j p1 p2 => ⟨m9 _ (by omega) (by omega), m9 _ (by omega) (by omega)⟩) (k4 t x y)
/-- an image is gone back to -/
noncomputable def zx_I2 : zq_S × List zq_S := (([], [], [zq_addk (zq_v 4) (-1)], [], [(zq_v 2, zq_v 3, zq_v 4)], [], [(6, [zq_v 1, zq_v 2, zq_v 3]), (7, [zq_v 0, zq_v 1, (0, [(3, 5671)]), zq_k 5671])], 5), [([], [], [zq_addk (zq_sub (zq_v 5) (zq_v 6)) (-1), zq_addk (zq_v 6) 1, zq_sub (zq_k 6) (zq_v 5)], [], [(zq_v 0, zq_k 62, zq_v 5), (zq_v 0, zq_k 63, zq_v 6)], [], [(2, [zq_v 0, zq_v 5])], 7)])
theorem zx_I2_ok {w : zq_Wd} {A0 : Nat → Nat} (hX : w.2.2.2.2 = zX A0) : zq_okG1 w zx_I2 := by
  refine ⟨rfl, rfl, zq_fa1 ⟨rfl, by show 5 ≤ 7; omega⟩, ?_⟩
  intro r P h H hM
  obtain ⟨hT, hC, hF, hS, -, hK⟩ := hM
  have a1 := zq_all_1 hC.1
  obtain ⟨-, -, s1⟩ := zq_okS_1 hS
  have e1 : zq_ev r (0, [(3, 5671)]) = 5671 * r 3 := by simp [zq_ev, zq_ts]
  simp only [zq_ev_v, zq_ev_addk] at a1 s1
  have k0 : zx_6 (zq_en [zq_ev r (zq_v 1), zq_ev r (zq_v 2), zq_ev r (zq_v 3)]) P h := zq_okX_1 hX hK
  have m0 : zx_7 (zq_en [zq_ev r (zq_v 0), zq_ev r (zq_v 1), zq_ev r (0, [(3, 5671)]), zq_ev r (zq_k 5671)]) P h := zq_okX_1 hX (zq_okX_t hK)
  rw [zq_ev_v, zq_ev_v, zq_ev_v] at k0
  rw [zq_ev_v, zq_ev_v, e1, zq_ev_k] at m0
  obtain ⟨-, -, -, -, k5, k6, k7⟩ := k0
  obtain ⟨m1, m2, -, -, -, -, -, -, m9⟩ := m0
  have m9 : ∀ j, 0 ≤ j → j < 5671 → h (r 1).toNat (5671 * r 3 + j) = h (r 0).toNat j := m9
  have k7 := k7 (by show h (r 2).toNat (r 3) ≠ 0; omega)
  have k7 : -1 ≤ h (r 1).toNat (5671 * r 3 + 63) ∧ h (r 1).toNat (5671 * r 3 + 63) < h (r 1).toNat (5671 * r 3 + 62) ∧ h (r 1).toNat (5671 * r 3 + 62) ≤ 6 ∧ ∀ t, 0 ≤ t → t < h (r 1).toNat (5671 * r 3 + 62) → zx_txt (fun j => h (r 1).toNat (5671 * r 3 + j)) t 0 := k7
  rw [m9 63 (by omega) (by omega), m9 62 (by omega) (by omega)] at k7
  obtain ⟨q0, q1, q2, q3⟩ := k7
  have m1 : 0 ≤ r 0 := m1
  have m2 : P (r 0).toNat = some 1 := m2
  let r' := zq_up (zq_up r 5 (h (r 0).toNat 62)) 6 (h (r 0).toNat 63)
  have f0 : ∀ i, i < 5 → r' i = r i := fun i hi => by
    match i, hi with
    | 0, _ => rfl
    | 1, _ => rfl
    | 2, _ => rfl
    | 3, _ => rfl
    | 4, _ => rfl
  have f5 : r' 5 = h (r 0).toNat 62 := rfl
  have f6 : r' 6 = h (r 0).toNat 63 := rfl
  have v0 : r' 0 = r 0 := rfl
  refine ⟨_, List.mem_singleton.mpr rfl, r', fun i hi => f0 i hi, zq_MeS_mk rfl hT ?_ zq_fan ?_ rfl (zq_fa1 ?_)⟩
  · refine zq_all_cons ?_ (zq_all_cons ?_ (zq_all_cons ?_ zq_all_nil))
    · rw [zq_ev_addk, zq_ev_sub, zq_ev_v, zq_ev_v, f5, f6]; omega
    · rw [zq_ev_addk, zq_ev_v, f6]; omega
    · rw [zq_ev_sub, zq_ev_v, zq_ev_k, f5]; omega
  · refine List.forall_mem_cons.mpr ⟨⟨(r 0).toNat, ?_, by rw [m2]; exact Option.some_ne_none _, ?_⟩, zq_fa1 ⟨(r 0).toNat, ?_, by rw [m2]; exact Option.some_ne_none _, ?_⟩⟩
    · show zq_ev r' (zq_v 0) = _; rw [zq_ev_v, v0]; omega
    · show h _ (zq_ev r' (zq_k 62)) = zq_ev r' (zq_v 5); rw [zq_ev_k, zq_ev_v, f5]
    · show zq_ev r' (zq_v 0) = _; rw [zq_ev_v, v0]; omega
    · show h _ (zq_ev r' (zq_k 63)) = zq_ev r' (zq_v 6); rw [zq_ev_k, zq_ev_v, f6]
  · rw [hX]
    show zx_2 (zq_en [zq_ev r' (zq_v 0), zq_ev r' (zq_v 5)]) P h
    rw [zq_ev_v, zq_ev_v, v0, f5]
    refine ⟨m1, m2, q2, fun t x y => ?_⟩
    have y : t < h (r 0).toNat 62 := y
    show zx_txt (h (r 0).toNat) t 0
    exact zx_txt_cong (f := fun j => h (r 1).toNat (5671 * r 3 + j)) x (m9 _ (by omega) (by omega)).symm (fun j p1 p2 => ⟨(m9 _ (by omega) (by omega)).symm, (m9 _ (by omega) (by omega)).symm⟩) (q3 t x y)
/-- no image yet -/
noncomputable def zx_I0 : zq_S × List zq_S := (([], [], [zq_v 0, zq_v 1, zq_v 2, zq_sub (zq_k 1) (zq_v 2)], [(zq_v 0, 2), (zq_v 1, 3)], [(zq_v 1, zq_v 2, zq_k 0)], [], [], 3), [([], [], [], [], [], [], [(6, [zq_v 0, zq_v 1, zq_v 2])], 3)])
theorem zx_I0_ok {w : zq_Wd} {A0 : Nat → Nat} (hX : w.2.2.2.2 = zX A0) : zq_okG1 w zx_I0 := by
  refine ⟨rfl, rfl, zq_fa1 ⟨rfl, Nat.le_refl _⟩, ?_⟩
  intro r P h H hM
  obtain ⟨hT, hC, hF, hS, -, -⟩ := hM
  have c := hC.1
  have a1 := zq_all_1 c
  have c := zq_all_t c
  have a2 := zq_all_1 c
  have c := zq_all_t c
  have a3 := zq_all_1 c
  have c := zq_all_t c
  have a4 := zq_all_1 c
  have b1 := zq_okF_1 hF a1
  have b2 := zq_okF_1 (zq_okF_t hF) a2
  obtain ⟨-, -, s1⟩ := zq_okS_1 hS
  simp only [zq_ev_v, zq_ev_sub, zq_ev_k] at a1 a2 a3 a4 b1 b2 s1
  refine ⟨_, List.mem_singleton.mpr rfl, r, fun _ _ => rfl, zq_MeS_mk rfl hT zq_all_nil zq_fan zq_fan rfl (zq_fa1 ?_)⟩
  rw [hX]
  show zx_6 (zq_en [zq_ev r (zq_v 0), zq_ev r (zq_v 1), zq_ev r (zq_v 2)]) P h
  rw [zq_ev_v, zq_ev_v, zq_ev_v]
  exact ⟨a1, b1, a2, b2, a3, by show r 2 ≤ 1; omega, fun z => absurd s1 z⟩
