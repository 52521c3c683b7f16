/-! a row of deeds: facts -/
theorem zt_step {f : Int → Int} {n d i c : Int} (hi : 0 ≤ i) (he : i % 2 = 0) (hc : c = zt_rc f n d (i / 2).toNat) : c + zt_ad f n d c (i / 2) = zt_rc f n d ((i + 2) / 2).toNat := by
  rw [show ((i + 2) / 2).toNat = (i / 2).toNat + 1 by omega]
  show _ = zt_rc f n d (i / 2).toNat + zt_ad f n d (zt_rc f n d (i / 2).toNat) (((i / 2).toNat : Nat) : Int)
  rw [← hc, show (((i / 2).toNat : Nat) : Int) = i / 2 by omega]
theorem zt_ad0 {f : Int → Int} {n d c i : Int} (he : i % 2 = 0) (hn : ¬ (i + 1 < n ∧ d + c < 6 ∧ f i % 256 ≤ 3 ∧ 1 ≤ f (i + 1) % 256 ∧ f (i + 1) % 256 ≤ 9)) : zt_ad f n d c (i / 2) = 0 := by
  unfold zt_ad
  rw [show 2 * (i / 2) = i by omega, if_neg hn]
theorem zt_ad1 {f : Int → Int} {n d c i : Int} (he : i % 2 = 0) (hn : i + 1 < n ∧ d + c < 6 ∧ f i % 256 ≤ 3 ∧ 1 ≤ f (i + 1) % 256 ∧ f (i + 1) % 256 ≤ 9) : zt_ad f n d c (i / 2) = 1 := by
  unfold zt_ad
  rw [show 2 * (i / 2) = i by omega, if_pos hn]
/-- one more pair: c' = c + 1 or c -/
theorem zt_RW_next {k : Nat} {P : zq_Ty} {h : zq_H} {a n d i c c' : Int} (ht : zt_RW k (zq_en [a, n, d, i, c]) P h) (hc : c' = c + zt_ad (h a.toNat) n d c (i / 2)) : zt_RW k (zq_en [a, n, d, i + 2, c']) P h := by
  obtain ⟨k1, k2, k3, k4, k5, k6, k7⟩ := ht
  have k5 : 0 ≤ i := k5
  have k6 : i % 2 = 0 := k6
  have k7 : c = zt_rc (h a.toNat) n d (i / 2).toNat := k7
  refine ⟨k1, k2, k3, k4, by show 0 ≤ i + 2; omega, by show (i + 2) % 2 = 0; omega, ?_⟩
  show c' = zt_rc (h a.toNat) n d ((i + 2) / 2).toNat
  rw [hc]
  exact zt_step k5 k6 k7
noncomputable def zt_R0 (id k : Nat) : zq_S × List zq_S := (([], [], [zq_v 0, zq_v 1, zq_sub (zq_k 400) (zq_v 1)], [(zq_v 0, k)], [], [], [], 3), [([], [], [], [], [], [], [(id, [zq_v 0, zq_v 1, zq_v 2, zq_k 0, zq_k 0])], 3)])
theorem zt_R0_ok {w : zq_Wd} {id k : Nat} (hX : zj_is w id (zt_RW k)) : zq_okG1 w (zt_R0 id k) := by
  refine ⟨rfl, rfl, zq_fa1 ⟨rfl, Nat.le_refl _⟩, ?_⟩
  intro r P h H hM
  obtain ⟨hT, hC, hF, -, -, -⟩ := hM
  have a1 := zq_all_1 hC.1
  have a2 := zq_all_1 (zq_all_t hC.1)
  have a3 := zq_all_1 (zq_all_t (zq_all_t hC.1))
  have b1 := zq_okF_1 hF a1
  simp only [zq_ev_v, zq_ev_sub, zq_ev_k] at a1 a2 a3 b1
  refine ⟨_, List.mem_singleton.mpr rfl, r, fun _ _ => rfl, zq_MeS_mk rfl hT zq_all_nil zq_fan zq_fan rfl (zq_fa1 ((hX _ _ _).mpr ?_))⟩
  show zt_RW k (zq_en [zq_ev r (zq_v 0), zq_ev r (zq_v 1), zq_ev r (zq_v 2), zq_ev r (zq_k 0), zq_ev r (zq_k 0)]) P h
  rw [zq_ev_v, zq_ev_v, zq_ev_v, zq_ev_k]
  exact ⟨a1, b1, a2, by show r 1 ≤ 400; omega, Int.le_refl _, rfl, rfl⟩
noncomputable def zt_R1 (id : Nat) : zq_S × List zq_S := (([], [], [(-2, [(1, 1), (3, -1)]), (5, [(2, -1), (4, -1)]), zq_v 5, zq_sub (zq_k 3) (zq_v 5), zq_addk (zq_v 6) (-1), zq_sub (zq_k 9) (zq_v 6)], [], [(zq_v 0, zq_v 3, zq_v 5), (zq_v 0, zq_addk (zq_v 3) 1, zq_v 6)], [], [(id, [zq_v 0, zq_v 1, zq_v 2, zq_v 3, zq_v 4])], 7), [([], [], [], [], [], [], [(id, [zq_v 0, zq_v 1, zq_v 2, zq_addk (zq_v 3) 2, zq_addk (zq_v 4) 1])], 7)])
theorem zt_R1_ok {w : zq_Wd} {id k : Nat} (hX : zj_is w id (zt_RW k)) : zq_okG1 w (zt_R1 id) := by
  refine ⟨rfl, rfl, zq_fa1 ⟨rfl, Nat.le_refl _⟩, ?_⟩
  intro r P h H hM
  obtain ⟨hT, hC, -, hS, -, hK⟩ := hM
  have c := hC.1
  have a1 := zq_all_1 c
  have c := zq_all_t c
  have a2 := zq_all_1 c
  have c := zq_all_t c
  have a3 := zq_all_1 c
  have c := zq_all_t c
  have a4 := zq_all_1 c
  have c := zq_all_t c
  have a5 := zq_all_1 c
  have c := zq_all_t c
  have a6 := zq_all_1 c
  obtain ⟨-, -, s1⟩ := zq_okS_1 hS
  obtain ⟨-, -, s2⟩ := zq_okS_1 (zq_okS_t hS)
  have k0 : zt_RW k (zq_en [zq_ev r (zq_v 0), zq_ev r (zq_v 1), zq_ev r (zq_v 2), zq_ev r (zq_v 3), zq_ev r (zq_v 4)]) P h := zj_use hX hK
  simp only [zq_ev_v, zq_ev_sub, zq_ev_addk, zq_ev_k] at a3 a4 a5 a6 s1 s2 k0
  simp only [zq_ev, zq_ts] at a1 a2
  have k6 : r 3 % 2 = 0 := k0.2.2.2.2.2.1
  refine ⟨_, List.mem_singleton.mpr rfl, r, fun _ _ => rfl, zq_MeS_mk rfl hT zq_all_nil zq_fan zq_fan rfl (zq_fa1 ((hX _ _ _).mpr ?_))⟩
  show zt_RW k (zq_en [zq_ev r (zq_v 0), zq_ev r (zq_v 1), zq_ev r (zq_v 2), zq_ev r (zq_addk (zq_v 3) 2), zq_ev r (zq_addk (zq_v 4) 1)]) P h
  rw [zq_ev_v, zq_ev_v, zq_ev_v, zq_ev_addk, zq_ev_v, zq_ev_addk, zq_ev_v]
  refine zt_RW_next k0 ?_
  rw [zt_ad1 k6 ⟨by omega, by omega, by rw [s1]; omega, by rw [s2]; omega, by rw [s2]; omega⟩]
noncomputable def zt_R20 (id : Nat) : zq_S × List zq_S := (([], [], [(-6, [(2, 1), (4, 1)])], [], [], [], [(id, [zq_v 0, zq_v 1, zq_v 2, zq_v 3, zq_v 4])], 7), [([], [], [], [], [], [], [(id, [zq_v 0, zq_v 1, zq_v 2, zq_addk (zq_v 3) 2, zq_v 4])], 7)])
theorem zt_R20_ok {w : zq_Wd} {id k : Nat} (hX : zj_is w id (zt_RW k)) : zq_okG1 w (zt_R20 id) := by
  refine ⟨rfl, rfl, zq_fa1 ⟨rfl, Nat.le_refl _⟩, ?_⟩
  intro r P h H hM
  obtain ⟨hT, hC, -, hS, -, hK⟩ := hM
  have c := hC.1
  have a1 := zq_all_1 c
  have k0 : zt_RW k (zq_en [zq_ev r (zq_v 0), zq_ev r (zq_v 1), zq_ev r (zq_v 2), zq_ev r (zq_v 3), zq_ev r (zq_v 4)]) P h := zj_use hX hK
  simp only [zq_ev_v] at k0
  simp only [zq_ev, zq_ts] at a1
  have k6 : r 3 % 2 = 0 := k0.2.2.2.2.2.1
  refine ⟨_, List.mem_singleton.mpr rfl, r, fun _ _ => rfl, zq_MeS_mk rfl hT zq_all_nil zq_fan zq_fan rfl (zq_fa1 ((hX _ _ _).mpr ?_))⟩
  show zt_RW k (zq_en [zq_ev r (zq_v 0), zq_ev r (zq_v 1), zq_ev r (zq_v 2), zq_ev r (zq_addk (zq_v 3) 2), zq_ev r (zq_v 4)]) P h
  rw [zq_ev_v, zq_ev_v, zq_ev_v, zq_ev_addk, zq_ev_v, zq_ev_v]
  refine zt_RW_next k0 ?_
  rw [zt_ad0 k6 (fun z => by have := z.2.1; omega)]
  omega
noncomputable def zt_R21 (id : Nat) : zq_S × List zq_S := (([], [], [(1, [(1, -1), (3, 1)])], [], [], [], [(id, [zq_v 0, zq_v 1, zq_v 2, zq_v 3, zq_v 4])], 7), [([], [], [], [], [], [], [(id, [zq_v 0, zq_v 1, zq_v 2, zq_addk (zq_v 3) 2, zq_v 4])], 7)])
theorem zt_R21_ok {w : zq_Wd} {id k : Nat} (hX : zj_is w id (zt_RW k)) : zq_okG1 w (zt_R21 id) := by
  refine ⟨rfl, rfl, zq_fa1 ⟨rfl, Nat.le_refl _⟩, ?_⟩
  intro r P h H hM
  obtain ⟨hT, hC, -, hS, -, hK⟩ := hM
  have c := hC.1
  have a1 := zq_all_1 c
  have k0 : zt_RW k (zq_en [zq_ev r (zq_v 0), zq_ev r (zq_v 1), zq_ev r (zq_v 2), zq_ev r (zq_v 3), zq_ev r (zq_v 4)]) P h := zj_use hX hK
  simp only [zq_ev_v] at k0
  simp only [zq_ev, zq_ts] at a1
  have k6 : r 3 % 2 = 0 := k0.2.2.2.2.2.1
  refine ⟨_, List.mem_singleton.mpr rfl, r, fun _ _ => rfl, zq_MeS_mk rfl hT zq_all_nil zq_fan zq_fan rfl (zq_fa1 ((hX _ _ _).mpr ?_))⟩
  show zt_RW k (zq_en [zq_ev r (zq_v 0), zq_ev r (zq_v 1), zq_ev r (zq_v 2), zq_ev r (zq_addk (zq_v 3) 2), zq_ev r (zq_v 4)]) P h
  rw [zq_ev_v, zq_ev_v, zq_ev_v, zq_ev_addk, zq_ev_v, zq_ev_v]
  refine zt_RW_next k0 ?_
  rw [zt_ad0 k6 (fun z => by have := z.1; omega)]
  omega
noncomputable def zt_R22 (id : Nat) : zq_S × List zq_S := (([], [], [zq_addk (zq_v 5) (-4), zq_sub (zq_k 255) (zq_v 5)], [], [(zq_v 0, zq_v 3, zq_v 5)], [], [(id, [zq_v 0, zq_v 1, zq_v 2, zq_v 3, zq_v 4])], 7), [([], [], [], [], [], [], [(id, [zq_v 0, zq_v 1, zq_v 2, zq_addk (zq_v 3) 2, zq_v 4])], 7)])
theorem zt_R22_ok {w : zq_Wd} {id k : Nat} (hX : zj_is w id (zt_RW k)) : zq_okG1 w (zt_R22 id) := by
  refine ⟨rfl, rfl, zq_fa1 ⟨rfl, Nat.le_refl _⟩, ?_⟩
  intro r P h H hM
  obtain ⟨hT, hC, -, hS, -, hK⟩ := hM
  have c := hC.1
  have a1 := zq_all_1 c
  have c := zq_all_t c
  have a2 := zq_all_1 c
  obtain ⟨-, -, s1⟩ := zq_okS_1 hS
  have k0 : zt_RW k (zq_en [zq_ev r (zq_v 0), zq_ev r (zq_v 1), zq_ev r (zq_v 2), zq_ev r (zq_v 3), zq_ev r (zq_v 4)]) P h := zj_use hX hK
  simp only [zq_ev_v, zq_ev_sub, zq_ev_addk, zq_ev_k] at a1 a2 s1 k0
  have k6 : r 3 % 2 = 0 := k0.2.2.2.2.2.1
  refine ⟨_, List.mem_singleton.mpr rfl, r, fun _ _ => rfl, zq_MeS_mk rfl hT zq_all_nil zq_fan zq_fan rfl (zq_fa1 ((hX _ _ _).mpr ?_))⟩
  show zt_RW k (zq_en [zq_ev r (zq_v 0), zq_ev r (zq_v 1), zq_ev r (zq_v 2), zq_ev r (zq_addk (zq_v 3) 2), zq_ev r (zq_v 4)]) P h
  rw [zq_ev_v, zq_ev_v, zq_ev_v, zq_ev_addk, zq_ev_v, zq_ev_v]
  refine zt_RW_next k0 ?_
  rw [zt_ad0 k6 (fun z => by have := z.2.2.1; rw [s1] at this; omega)]
  omega
noncomputable def zt_R23 (id : Nat) : zq_S × List zq_S := (([], [], [(-1, [(5, -1)]), zq_addk (zq_v 5) 128], [], [(zq_v 0, zq_v 3, zq_v 5)], [], [(id, [zq_v 0, zq_v 1, zq_v 2, zq_v 3, zq_v 4])], 7), [([], [], [], [], [], [], [(id, [zq_v 0, zq_v 1, zq_v 2, zq_addk (zq_v 3) 2, zq_v 4])], 7)])
theorem zt_R23_ok {w : zq_Wd} {id k : Nat} (hX : zj_is w id (zt_RW k)) : zq_okG1 w (zt_R23 id) := by
  refine ⟨rfl, rfl, zq_fa1 ⟨rfl, Nat.le_refl _⟩, ?_⟩
  intro r P h H hM
  obtain ⟨hT, hC, -, hS, -, hK⟩ := hM
  have c := hC.1
  have a1 := zq_all_1 c
  have c := zq_all_t c
  have a2 := zq_all_1 c
  obtain ⟨-, -, s1⟩ := zq_okS_1 hS
  have k0 : zt_RW k (zq_en [zq_ev r (zq_v 0), zq_ev r (zq_v 1), zq_ev r (zq_v 2), zq_ev r (zq_v 3), zq_ev r (zq_v 4)]) P h := zj_use hX hK
  simp only [zq_ev_v, zq_ev_sub, zq_ev_addk, zq_ev_k] at a2 s1 k0
  simp only [zq_ev, zq_ts] at a1
  have k6 : r 3 % 2 = 0 := k0.2.2.2.2.2.1
  refine ⟨_, List.mem_singleton.mpr rfl, r, fun _ _ => rfl, zq_MeS_mk rfl hT zq_all_nil zq_fan zq_fan rfl (zq_fa1 ((hX _ _ _).mpr ?_))⟩
  show zt_RW k (zq_en [zq_ev r (zq_v 0), zq_ev r (zq_v 1), zq_ev r (zq_v 2), zq_ev r (zq_addk (zq_v 3) 2), zq_ev r (zq_v 4)]) P h
  rw [zq_ev_v, zq_ev_v, zq_ev_v, zq_ev_addk, zq_ev_v, zq_ev_v]
  refine zt_RW_next k0 ?_
  rw [zt_ad0 k6 (fun z => by have := z.2.2.1; rw [s1] at this; omega)]
  omega
noncomputable def zt_R24 (id : Nat) : zq_S × List zq_S := (([], [], [(0, [(6, -1)]), zq_addk (zq_v 6) 128], [], [(zq_v 0, zq_addk (zq_v 3) 1, zq_v 6)], [], [(id, [zq_v 0, zq_v 1, zq_v 2, zq_v 3, zq_v 4])], 7), [([], [], [], [], [], [], [(id, [zq_v 0, zq_v 1, zq_v 2, zq_addk (zq_v 3) 2, zq_v 4])], 7)])
theorem zt_R24_ok {w : zq_Wd} {id k : Nat} (hX : zj_is w id (zt_RW k)) : zq_okG1 w (zt_R24 id) := by
  refine ⟨rfl, rfl, zq_fa1 ⟨rfl, Nat.le_refl _⟩, ?_⟩
  intro r P h H hM
  obtain ⟨hT, hC, -, hS, -, hK⟩ := hM
  have c := hC.1
  have a1 := zq_all_1 c
  have c := zq_all_t c
  have a2 := zq_all_1 c
  obtain ⟨-, -, s1⟩ := zq_okS_1 hS
  have k0 : zt_RW k (zq_en [zq_ev r (zq_v 0), zq_ev r (zq_v 1), zq_ev r (zq_v 2), zq_ev r (zq_v 3), zq_ev r (zq_v 4)]) P h := zj_use hX hK
  simp only [zq_ev_v, zq_ev_sub, zq_ev_addk, zq_ev_k] at a2 s1 k0
  simp only [zq_ev, zq_ts] at a1
  have k6 : r 3 % 2 = 0 := k0.2.2.2.2.2.1
  refine ⟨_, List.mem_singleton.mpr rfl, r, fun _ _ => rfl, zq_MeS_mk rfl hT zq_all_nil zq_fan zq_fan rfl (zq_fa1 ((hX _ _ _).mpr ?_))⟩
  show zt_RW k (zq_en [zq_ev r (zq_v 0), zq_ev r (zq_v 1), zq_ev r (zq_v 2), zq_ev r (zq_addk (zq_v 3) 2), zq_ev r (zq_v 4)]) P h
  rw [zq_ev_v, zq_ev_v, zq_ev_v, zq_ev_addk, zq_ev_v, zq_ev_v]
  refine zt_RW_next k0 ?_
  rw [zt_ad0 k6 (fun z => by have := z.2.2.2; rw [s1] at this; omega)]
  omega
noncomputable def zt_R25 (id : Nat) : zq_S × List zq_S := (([], [], [zq_addk (zq_v 6) (-10), zq_sub (zq_k 255) (zq_v 6)], [], [(zq_v 0, zq_addk (zq_v 3) 1, zq_v 6)], [], [(id, [zq_v 0, zq_v 1, zq_v 2, zq_v 3, zq_v 4])], 7), [([], [], [], [], [], [], [(id, [zq_v 0, zq_v 1, zq_v 2, zq_addk (zq_v 3) 2, zq_v 4])], 7)])
theorem zt_R25_ok {w : zq_Wd} {id k : Nat} (hX : zj_is w id (zt_RW k)) : zq_okG1 w (zt_R25 id) := by
  refine ⟨rfl, rfl, zq_fa1 ⟨rfl, Nat.le_refl _⟩, ?_⟩
  intro r P h H hM
  obtain ⟨hT, hC, -, hS, -, hK⟩ := hM
  have c := hC.1
  have a1 := zq_all_1 c
  have c := zq_all_t c
  have a2 := zq_all_1 c
  obtain ⟨-, -, s1⟩ := zq_okS_1 hS
  have k0 : zt_RW k (zq_en [zq_ev r (zq_v 0), zq_ev r (zq_v 1), zq_ev r (zq_v 2), zq_ev r (zq_v 3), zq_ev r (zq_v 4)]) P h := zj_use hX hK
  simp only [zq_ev_v, zq_ev_sub, zq_ev_addk, zq_ev_k] at a1 a2 s1 k0
  have k6 : r 3 % 2 = 0 := k0.2.2.2.2.2.1
  refine ⟨_, List.mem_singleton.mpr rfl, r, fun _ _ => rfl, zq_MeS_mk rfl hT zq_all_nil zq_fan zq_fan rfl (zq_fa1 ((hX _ _ _).mpr ?_))⟩
  show zt_RW k (zq_en [zq_ev r (zq_v 0), zq_ev r (zq_v 1), zq_ev r (zq_v 2), zq_ev r (zq_addk (zq_v 3) 2), zq_ev r (zq_v 4)]) P h
  rw [zq_ev_v, zq_ev_v, zq_ev_v, zq_ev_addk, zq_ev_v, zq_ev_v]
  refine zt_RW_next k0 ?_
  rw [zt_ad0 k6 (fun z => by have := z.2.2.2; rw [s1] at this; omega)]
  omega
/-- the end of a row -/
noncomputable def zt_RZ (id id2 : Nat) : zq_S × List zq_S := (([], [], [(1, [(1, -1), (3, 1)])], [], [], [], [(id, [zq_v 0, zq_v 1, zq_v 2, zq_v 3, zq_v 4])], 5), [([], [], [], [], [], [], [(id2, [zq_v 0, zq_v 1, zq_v 2, zq_v 4])], 5)])
theorem zt_RZ_ok {w : zq_Wd} {id id2 k : Nat} (hX : zj_is w id (zt_RW k)) (hY : zj_is w id2 (zt_RE k)) : zq_okG1 w (zt_RZ id id2) := by
  refine ⟨rfl, rfl, zq_fa1 ⟨rfl, Nat.le_refl _⟩, ?_⟩
  intro r P h H hM
  obtain ⟨hT, hC, -, hS, -, hK⟩ := hM
  have a1 := zq_all_1 hC.1
  have k0 : zt_RW k (zq_en [zq_ev r (zq_v 0), zq_ev r (zq_v 1), zq_ev r (zq_v 2), zq_ev r (zq_v 3), zq_ev r (zq_v 4)]) P h := zj_use hX hK
  simp only [zq_ev, zq_ts] at a1
  simp only [zq_ev_v] at k0
  obtain ⟨k1, k2, k3, k4, k5, k6, k7⟩ := k0
  have k4 : r 1 ≤ 400 := k4
  have k5 : 0 ≤ r 3 := k5
  have k6 : r 3 % 2 = 0 := k6
  have k7 : r 4 = zt_rc (h (r 0).toNat) (r 1) (r 2) (r 3 / 2).toNat := k7
  refine ⟨_, List.mem_singleton.mpr rfl, r, fun _ _ => rfl, zq_MeS_mk rfl hT zq_all_nil zq_fan zq_fan rfl (zq_fa1 ((hY _ _ _).mpr ?_))⟩
  show zt_RE k (zq_en [zq_ev r (zq_v 0), zq_ev r (zq_v 1), zq_ev r (zq_v 2), zq_ev r (zq_v 4)]) P h
  rw [zq_ev_v, zq_ev_v, zq_ev_v, zq_ev_v]
  refine ⟨k1, k2, k3, k4, ?_⟩
  show r 4 = zt_rc (h (r 0).toNat) (r 1) (r 2) 200
  rw [k7]
  by_cases hq : (r 3 / 2).toNat ≤ 200
  · have e := zt_rc_st (f := h (r 0).toNat) (n := r 1) (d := r 2) (q := (r 3 / 2).toNat) (by omega) (200 - (r 3 / 2).toNat)
    rw [show (r 3 / 2).toNat + (200 - (r 3 / 2).toNat) = 200 by omega] at e
    exact e.symm
  · have e := zt_rc_st (f := h (r 0).toNat) (n := r 1) (d := r 2) (q := 200) (by show r 1 ≤ 2 * 200 + 1; omega) ((r 3 / 2).toNat - 200)
    rw [show 200 + ((r 3 / 2).toNat - 200) = (r 3 / 2).toNat by omega] at e
    exact e
/-- two rows of the same bytes bring the same -/
noncomputable def zt_RQ (ia ib ic id : Nat) : zq_S × List zq_S := (([], [], [zq_sub (zq_v 1) (zq_v 5), zq_sub (zq_v 5) (zq_v 1), zq_sub (zq_v 2) (zq_v 6), zq_sub (zq_v 6) (zq_v 2), zq_sub (zq_v 1) (zq_v 8), zq_sub (zq_v 8) (zq_v 1), zq_sub (zq_v 1) (zq_v 10), zq_sub (zq_v 10) (zq_v 1), zq_sub (zq_v 9) (zq_v 11), zq_sub (zq_v 11) (zq_v 9)], [], [], [], [(ia, [zq_v 0, zq_v 1, zq_v 2, zq_v 3]), (ib, [zq_v 4, zq_v 5, zq_v 6, zq_v 7]), (ic, [zq_v 0, zq_v 8, zq_v 9]), (id, [zq_v 4, zq_v 10, zq_v 11])], 12), [([], [], [zq_sub (zq_v 3) (zq_v 7), zq_sub (zq_v 7) (zq_v 3)], [], [], [], [], 12)])
theorem zt_RQ_ok {w : zq_Wd} {ia ib ic id ka kb : Nat} (hA : zj_is w ia (zt_RE ka)) (hB : zj_is w ib (zt_RE kb)) (hX : zj_is w ic (zt_TC ka)) (hY : zj_is w id (zt_TC kb)) : zq_okG1 w (zt_RQ ia ib ic id) := by
  refine ⟨rfl, rfl, zq_fa1 ⟨rfl, Nat.le_refl _⟩, ?_⟩
  intro r P h H hM
  obtain ⟨hT, hC, -, hS, -, hK⟩ := hM
  have c := hC.1
  have a1 := zq_all_1 c
  have c := zq_all_t c
  have a2 := zq_all_1 c
  have c := zq_all_t c
  have a3 := zq_all_1 c
  have c := zq_all_t c
  have a4 := zq_all_1 c
  have c := zq_all_t c
  have a5 := zq_all_1 c
  have c := zq_all_t c
  have a6 := zq_all_1 c
  have c := zq_all_t c
  have a7 := zq_all_1 c
  have c := zq_all_t c
  have a8 := zq_all_1 c
  have c := zq_all_t c
  have a9 := zq_all_1 c
  have a10 := zq_all_1 (zq_all_t c)
  have x0 : zt_RE ka (zq_en [zq_ev r (zq_v 0), zq_ev r (zq_v 1), zq_ev r (zq_v 2), zq_ev r (zq_v 3)]) P h := zj_use hA hK
  have y0 : zt_RE kb (zq_en [zq_ev r (zq_v 4), zq_ev r (zq_v 5), zq_ev r (zq_v 6), zq_ev r (zq_v 7)]) P h := zj_use hB (zq_okX_t hK)
  have k0 : zt_TC ka (zq_en [zq_ev r (zq_v 0), zq_ev r (zq_v 8), zq_ev r (zq_v 9)]) P h := zj_use hX (zq_okX_t (zq_okX_t hK))
  have m0 : zt_TC kb (zq_en [zq_ev r (zq_v 4), zq_ev r (zq_v 10), zq_ev r (zq_v 11)]) P h := zj_use hY (zq_okX_t (zq_okX_t (zq_okX_t hK)))
  simp only [zq_ev_v, zq_ev_sub] at a1 a2 a3 a4 a5 a6 a7 a8 a9 a10 x0 y0 k0 m0
  have x5 : r 3 = zt_rc (h (r 0).toNat) (r 1) (r 2) 200 := x0.2.2.2.2
  have x4 : 0 ≤ r 1 := x0.2.2.1
  have y5 : r 7 = zt_rc (h (r 4).toNat) (r 5) (r 6) 200 := y0.2.2.2.2
  have k5 : r 9 = zt_cd (h (r 0).toNat) (r 8).toNat := k0.2.2.2.2
  have m5 : r 11 = zt_cd (h (r 4).toNat) (r 10).toNat := m0.2.2.2.2
  have e8 : r 8 = r 1 := by omega
  have e10 : r 10 = r 1 := by omega
  have e5 : r 5 = r 1 := by omega
  have e6 : r 6 = r 2 := by omega
  rw [e8] at k5
  rw [e10] at m5
  rw [e5, e6] at y5
  have e := zt_cd_inj (f := h (r 4).toNat) (g := h (r 0).toNat) (n := (r 1).toNat) (by omega)
  have q := zt_rc_cong (f := h (r 0).toNat) (g := h (r 4).toNat) (n := r 1) (d := r 2) (fun j a b => e j a (by omega)) 200
  refine ⟨_, List.mem_singleton.mpr rfl, r, fun _ _ => rfl, zq_MeS_mk rfl hT (zq_all_cons ?_ (zq_all_cons ?_ zq_all_nil)) zq_fan zq_fan rfl zq_fan⟩
  · rw [zq_ev_sub, zq_ev_v, zq_ev_v]; omega
  · rw [zq_ev_sub, zq_ev_v, zq_ev_v]; omega
/-- odd or even -/
noncomputable def zt_P0 : zq_S × List zq_S := (([], [], [(0, [(0, 1), (1, -2), (2, -1)]), (0, [(0, -1), (1, 2), (2, 1)]), zq_v 2, zq_sub (zq_k 1) (zq_v 2)], [], [], [], [], 3), [([], [], [], [], [], [], [(27, [zq_v 0, zq_v 2])], 3)])
theorem zt_P0_ok {w : zq_Wd} (hX : ∀ as P h, w.2.2.2.2 27 as P h ↔ zt_PA (zq_en as)) : zq_okG1 w zt_P0 := by
  refine ⟨rfl, rfl, zq_fa1 ⟨rfl, Nat.le_refl _⟩, ?_⟩
  intro r P h H hM
  obtain ⟨hT, hC, -, -, -, -⟩ := hM
  have c := hC.1
  have a1 := zq_all_1 c
  have c := zq_all_t c
  have a2 := zq_all_1 c
  have c := zq_all_t c
  have a3 := zq_all_1 c
  have a4 := zq_all_1 (zq_all_t c)
  simp only [zq_ev, zq_ts] at a1 a2
  simp only [zq_ev_v, zq_ev_sub, zq_ev_k] at a3 a4
  refine ⟨_, List.mem_singleton.mpr rfl, r, fun _ _ => rfl, zq_MeS_mk rfl hT zq_all_nil zq_fan zq_fan rfl (zq_fa1 ((hX _ _ _).mpr ?_))⟩
  show zt_PA (zq_en [zq_ev r (zq_v 0), zq_ev r (zq_v 2)])
  rw [zq_ev_v, zq_ev_v]
  show r 2 = r 0 % 2
  omega
noncomputable def zt_PZ (id : Nat) : zq_S × List zq_S := (([], [], [zq_sub (zq_v 1) (zq_v 3), zq_sub (zq_addk (zq_v 3) 1) (zq_v 1)], [], [], [], [(id, [zq_v 0, zq_v 1, zq_v 2, zq_v 3, zq_v 4]), (27, [zq_v 1, zq_v 5])], 6), [([], [], [(0, [(1, 1), (3, -1), (5, -1)]), (0, [(1, -1), (3, 1), (5, 1)])], [], [], [], [], 6)])
theorem zt_PZ_ok {w : zq_Wd} {id k : Nat} (hX : zj_is w id (zt_RW k)) (hY : ∀ as P h, w.2.2.2.2 27 as P h ↔ zt_PA (zq_en as)) : zq_okG1 w (zt_PZ id) := by
  refine ⟨rfl, rfl, zq_fa1 ⟨rfl, Nat.le_refl _⟩, ?_⟩
  intro r P h H hM
  obtain ⟨hT, hC, -, -, -, hK⟩ := hM
  have a1 := zq_all_1 hC.1
  have a2 := zq_all_1 (zq_all_t hC.1)
  have k0 : zt_RW k (zq_en [zq_ev r (zq_v 0), zq_ev r (zq_v 1), zq_ev r (zq_v 2), zq_ev r (zq_v 3), zq_ev r (zq_v 4)]) P h := zj_use hX hK
  have m0 : zt_PA (zq_en [zq_ev r (zq_v 1), zq_ev r (zq_v 5)]) := (hY _ _ _).mp ((zq_okX_t hK) _ (List.mem_cons_self ..)).2
  simp only [zq_ev_v, zq_ev_sub, zq_ev_addk] at a1 a2 k0 m0
  have k6 : r 3 % 2 = 0 := k0.2.2.2.2.2.1
  have m0 : r 5 = r 1 % 2 := m0
  refine ⟨_, List.mem_singleton.mpr rfl, r, fun _ _ => rfl, zq_MeS_mk rfl hT (zq_all_cons ?_ (zq_all_cons ?_ zq_all_nil)) zq_fan zq_fan rfl zq_fan⟩
  · simp only [zq_ev, zq_ts]; omega
  · simp only [zq_ev, zq_ts]; omega
